/-! what can be stays so, whatever is called; the model's state stays where the class works, and the other way round -/
theorem okS_2 {S S' : pS} (h : S'.2 = S.2) (ok : okS S) : okS S' := by
  simp only [okS, h]
  exact ok
theorem alk_rf (ρ : pRm) : alk ρ ρ := ⟨rfl, rfl⟩
theorem alk.tr {a b c : pRm} (h : alk a b) (h2 : alk b c) : alk a c := ⟨h.1.trans h2.1, h.2.trans h2.2⟩
theorem alk.sy {a b : pRm} (h : alk a b) : alk b a := ⟨h.1.symm, h.2.symm⟩
theorem ok_seen {S : pS} {ρ : pRm} (al : alk ρ S.2.1) {V : pSn} (h : ∀ x ∈ V, ∃ t, x.1 = nI t ∧ t < S.2.1.1.length) : ∀ x ∈ V, ∃ t, x.1 = nI t ∧ t < ρ.1.length := fun x hx => by
  obtain ⟨t, h1, h2⟩ := h x hx
  exact ⟨t, h1, by rw [alk_len al]; exact h2⟩
theorem psh8_in {L : List pRm} {x y : pRm} (h : y ∈ psh8 L x) : y ∈ L ∨ y = x := by
  rcases List.mem_append.mp h with q | q
  · refine Or.inl ?_
    by_cases e : L.length = 8
    · rw [if_pos e] at q
      exact List.mem_of_mem_tail q
    · rw [if_neg e] at q
      exact q
  · exact Or.inr (List.mem_singleton.mp q)
theorem okS_act {S : pS} {ρ : pRm} (ok : okS S) (okr : okR ρ) (al : alk ρ S.2.1) : okS (act S ρ) := by
  obtain ⟨o1, o2, o3, o4, o5, o6⟩ := ok
  refine ⟨okr, by show 1 ≤ ρ.1.length; rw [alk_len al]; exact o2, by show 1 ≤ ρ.2.1; rw [al.2]; exact o3, ok_seen al o4, fun ρ' h => ?_, fun ρ' h => ⟨(o6 ρ' h).1, (o6 ρ' h).2.tr al.sy⟩⟩
  rcases psh8_in h with q | q
  · exact ⟨(o5 ρ' q).1, (o5 ρ' q).2.tr al.sy⟩
  · rw [q]
    exact ⟨o1, al.sy⟩
theorem ok_write {S : pS} {x : Int32} (ok : okS S) : okS (sp_write S x).1 := by
  simp only [sp_write]
  split
  · split
    · exact okS_2 rfl ok
    · exact ok
  · exact ok
theorem ok_wipe {S : pS} (ok : okS S) : okS (sp_wipe S).1 := okS_2 rfl ok
theorem ok_lay {S : pS} (ok : okS S) : okS (sp_lay S).1 := by
  simp only [sp_lay]
  split
  · rename_i h
    exact ⟨rdT_okR okR_0, h.2.1, h.2.2, fun x hx => (by cases hx), fun x hx => (by cases hx), fun x hx => (by cases hx)⟩
  · exact ok
theorem ok_turn {S : pS} {f : Int32} (ok : okS S) : okS (sp_turn S f).1 := by
  have l2 := ok.1.2.1
  simp only [sp_turn]
  cases e : ix f S.2.1.2.1 with
  | none => exact ok
  | some k =>
    obtain ⟨k1, k2⟩ := ix_spec (by omega) e
    subst k2
    exact okS_act ok (okR_tr ok.1 k1) ⟨rfl, rfl⟩
theorem ok_add {S : pS} {t f v w : Int32} (ok : okS S) : okS (sp_add S t f v w).1 := by
  simp only [sp_add]
  split
  · rename_i h
    split
    · rename_i h2
      exact okS_act ok (okR_addC ok.1 h2 h) ⟨rfl, rfl⟩
    · exact ok
  · exact ok
theorem ok_strike {S : pS} {c : Int32} (ok : okS S) : okS (sp_strike S c).1 := by
  have l3 := ok.1.2.2.1
  simp only [sp_strike]
  cases e : ix c S.2.1.2.2.2.length with
  | none => exact ok
  | some k => exact okS_act ok (okR_rm ok.1 (ix_spec (by omega) e).1) ⟨rfl, rfl⟩
theorem ok_shift {S : pS} {c k : Int32} (ok : okS S) : okS (sp_shift S c k).1 := by
  have l3 := ok.1.2.2.1
  simp only [sp_shift]
  cases e : ix c S.2.1.2.2.2.length with
  | none => exact ok
  | some a =>
    cases e2 : ix k S.2.1.2.2.2.length with
    | none => exact ok
    | some b =>
      show okS (if c = k then (S, -2) else (act S (mvR S.2.1 a b), c - k + 10)).1
      split
      · exact ok
      · exact okS_act ok (okR_mv ok.1 (ix_spec (by omega) e).1 (ix_spec (by omega) e2).1) ⟨rfl, rfl⟩
theorem ok_grip {S : pS} {t g : Int32} (ok : okS S) : okS (sp_grip S t g).1 := by
  have l1 := ok.1.1
  simp only [sp_grip]
  cases e : ix t S.2.1.1.length with
  | none => exact ok
  | some k =>
    have hk := (ix_spec (by omega) e).1
    have hy : S.2.1.1[k]? = some S.2.1.1[k] := List.getElem?_eq_getElem hk
    show okS (if 1 ≤ g ∧ g ≤ 40 then (match S.2.1.1[k]? with
      | none => (S, -1)
      | some y => if y.2 = g then (S, -2) else (act S (grR S.2.1 k g), y.2)) else (S, -1)).1
    split
    · rw [hy]
      show okS (if S.2.1.1[k].2 = g then (S, -2) else (act S (grR S.2.1 k g), S.2.1.1[k].2)).1
      split
      · exact ok
      · refine okS_act ok (okR_tl ok.1 (by rw [List.length_set])) ⟨?_, rfl⟩
        show (S.2.1.1.set k ((S.2.1.1.getD k (0, 0)).1, g)).map Prod.fst = S.2.1.1.map Prod.fst
        rw [List.map_set]
        refine List.ext_getElem? (fun i => ?_)
        rw [List.getElem?_set]
        by_cases ei : k = i
        · subst ei
          rw [if_pos rfl, List.length_map, if_pos hk, List.getElem?_map, hy, List.getD_eq_getElem?_getD, hy]
          rfl
        · rw [if_neg ei]
    · exact ok
theorem ok_undo {S : pS} (ok : okS S) : okS (sp_undo S).1 := by
  simp only [sp_undo]
  cases er : S.2.2.2.1.reverse with
  | nil => exact ok
  | cons ρ r =>
    have es := rv_split er
    obtain ⟨o1, o2, o3, o4, o5, o6⟩ := ok
    obtain ⟨okr, al⟩ := o5 ρ (by rw [es]; simp)
    exact ⟨okr, by show 1 ≤ ρ.1.length; rw [alk_len al]; exact o2, by show 1 ≤ ρ.2.1; rw [al.2]; exact o3, ok_seen al o4, fun ρ' h => by
      have hm : ρ' ∈ S.2.2.2.1 := by rw [es]; exact List.mem_append_left _ h
      exact ⟨(o5 ρ' hm).1, (o5 ρ' hm).2.tr al.sy⟩, fun ρ' h => ⟨(o6 ρ' h).1, (o6 ρ' h).2.tr al.sy⟩⟩
theorem ok_back {S : pS} (ok : okS S) : okS (sp_back S).1 := by
  simp only [sp_back]
  cases er : S.2.2.2.2.reverse with
  | nil => exact ok
  | cons ρ r =>
    have es := rv_split er
    obtain ⟨o1, o2, o3, o4, o5, o6⟩ := ok
    obtain ⟨okr, al⟩ := o6 ρ (by rw [es]; simp)
    exact ⟨okr, by show 1 ≤ ρ.1.length; rw [alk_len al]; exact o2, by show 1 ≤ ρ.2.1; rw [al.2]; exact o3, ok_seen al o4, fun ρ' h => (by cases h), fun ρ' h => by
      have hm : ρ' ∈ S.2.2.2.2 := by rw [es]; exact List.mem_append_left _ h
      exact ⟨(o6 ρ' hm).1, (o6 ρ' hm).2.tr al.sy⟩⟩
theorem ok_keep {S : pS} (ok : okS S) : okS (sp_keep S).1 := by
  simp only [sp_keep]
  split
  · obtain ⟨o1, o2, o3, o4, o5, o6⟩ := ok
    refine ⟨o1, o2, o3, o4, o5, fun ρ' h => ?_⟩
    rcases List.mem_append.mp h with q | q
    · exact o6 ρ' q
    · rw [List.mem_singleton.mp q]
      exact ⟨o1, alk_rf _⟩
  · exact ok
theorem ok_forget {S : pS} (ok : okS S) : okS (sp_forget S).1 := by
  obtain ⟨o1, o2, o3, o4, o5, o6⟩ := ok
  exact ⟨o1, o2, o3, fun x hx => (by cases hx), o5, o6⟩
theorem ok_seen2 {S : pS} {t k : Int32} (ok : okS S) : okS (sp_seen S t k).1 := by
  have l1 := ok.1.1
  simp only [sp_seen]
  cases e : ix t S.2.1.1.length with
  | none => exact ok
  | some j =>
    obtain ⟨j1, j2⟩ := ix_spec (by omega) e
    show okS (if 0 ≤ k ∧ k ≤ 7 then (if S.2.2.1.length < 6 then ((S.1, S.2.1, S.2.2.1 ++ [(t, k)], S.2.2.2), nI (S.2.2.1.length + 1)) else (S, -3)) else (S, -1)).1
    split
    · split
      · obtain ⟨o1, o2, o3, o4, o5, o6⟩ := ok
        refine ⟨o1, o2, o3, fun x hx => ?_, o5, o6⟩
        rcases List.mem_append.mp hx with q | q
        · exact o4 x q
        · rw [List.mem_singleton.mp q]
          exact ⟨j, j2, j1⟩
      · exact ok
    · exact ok
theorem okS_0 : okS S0 := by
  have h := rdT_okR (T := k_ch) (m := 200) (p := 0) okR_0
  rw [rd_first] at h
  exact ⟨h, by decide, by decide, fun x hx => (by cases hx), fun x hx => (by cases hx), fun x hx => (by cases hx)⟩
theorem mS_cl {M M' : pM} {S : pS} (h : p_cl M M') (hS : mS M S) : mS M' S := by
  obtain ⟨a1, a2, a3, a4, a5⟩ := hS
  have e : ∀ s, 18 ≤ s → M'.1 (aS s) = M.1 (aS s) := h
  exact ⟨mT_cg a1 (by rw [e 18 (by omega)]) (e 27 (by omega)), mR_cg a2 (fun k hk => by rw [e 18 (by omega)]) (fun s h1 h2 => e s (by omega)), mV_cg a3 (by rw [e 18 (by omega)]) (e 25 (by omega)) (e 26 (by omega)), mL_cg a4 (by rw [e 18 (by omega)]) (e 35 (by omega)), mL_cg a5 (by rw [e 18 (by omega)]) (e 38 (by omega))⟩
theorem cS_A {M M' : pM} {S : pS} (h : mfA M M') (hS : cS M S) : cS M' S := cS_m h (by decide) hS
theorem cS_Q {M M' : pM} {S : pS} (h : mfr chQ slQ M M') (hS : cS M S) : cS M' S := cS_m h chQ_lo hS
