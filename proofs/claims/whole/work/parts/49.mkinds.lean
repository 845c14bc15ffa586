/-! the model: kinds, grips -/
theorem mfr_back {M M' : pM} {s0 : Nat} (h : mfr (fun z => Nat.beq z s0 || chW z) slE M M') (h1 : M'.1 (aS s0) = M.1 (aS s0)) : mfr chW slE M M' := by
  refine ⟨fun s a b => ?_, h.2.1, h.2.2.1, h.2.2.2⟩
  by_cases e : s = s0
  · rw [e]; exact h1
  · exact h.1 s a (by simp only [b, p_beq_f e]; rfl)
theorem chW_b {s0 : Nat} : ∀ s, (Nat.beq s s0 || chW s) = false → chW s = false := fun s h => by
  simp only [Bool.or_eq_false_iff] at h
  exact h.2
theorem mR_kd {M M2 : pM} {ρ : pRm} {k : Nat} {x : Int32} (hR : mR M ρ) (hk : k < ρ.1.length) (F : mfr (fun z => Nat.beq z 19 || chW z) slE M M2) (e1 : ∀ j, j ≠ k → M2.1 (aS 19) j = M.1 (aS 19) j) (e2 : M2.1 (aS 19) k = x) : mR M2 (kdR ρ k x) := by
  obtain ⟨a1, a2, a3, a4, a5, a6⟩ := hR
  refine ⟨?_, (F.2.1 1 rfl).trans a2, (F.2.1 2 rfl).trans a3, (F.2.1 3 rfl).trans a4, fun i y hy => ?_, fun c y hy => ?_⟩
  · rw [F.2.1 0 rfl, a1]
    show _ = nI (ρ.1.set k _).length
    rw [List.length_set]
  · have hy : (ρ.1.set k (x, (ρ.1.getD k (0, 0)).2))[i]? = some y := hy
    rw [List.getElem?_set] at hy
    rw [F.1 20 (by decide) rfl]
    by_cases e : k = i
    · subst e
      simp only [if_true, if_pos hk, Option.some.injEq] at hy
      subst hy
      have hz : ρ.1[k]? = some ρ.1[k] := List.getElem?_eq_getElem hk
      refine ⟨e2, ?_⟩
      show M.1 (aS 20) k = (ρ.1.getD k (0, 0)).2
      rw [List.getD_eq_getElem?_getD, hz]
      exact (a5 k _ hz).2
    · rw [if_neg e] at hy
      rw [e1 i (fun q => e q.symm)]
      exact a5 i y hy
  · rw [F.1 21 (by decide) rfl, F.1 22 (by decide) rfl, F.1 23 (by decide) rfl, F.1 24 (by decide) rfl]
    exact a6 c y hy
theorem mR_gr {M M2 : pM} {ρ : pRm} {k : Nat} {x : Int32} (hR : mR M ρ) (hk : k < ρ.1.length) (F : mfr (fun z => Nat.beq z 20 || chW z) slE M M2) (e1 : ∀ j, j ≠ k → M2.1 (aS 20) j = M.1 (aS 20) j) (e2 : M2.1 (aS 20) k = x) : mR M2 (grR ρ k x) := by
  obtain ⟨a1, a2, a3, a4, a5, a6⟩ := hR
  refine ⟨?_, (F.2.1 1 rfl).trans a2, (F.2.1 2 rfl).trans a3, (F.2.1 3 rfl).trans a4, fun i y hy => ?_, fun c y hy => ?_⟩
  · rw [F.2.1 0 rfl, a1]
    show _ = nI (ρ.1.set k _).length
    rw [List.length_set]
  · have hy : (ρ.1.set k ((ρ.1.getD k (0, 0)).1, x))[i]? = some y := hy
    rw [List.getElem?_set] at hy
    rw [F.1 19 (by decide) rfl]
    by_cases e : k = i
    · subst e
      simp only [if_true, if_pos hk, Option.some.injEq] at hy
      subst hy
      have hz : ρ.1[k]? = some ρ.1[k] := List.getElem?_eq_getElem hk
      refine ⟨?_, e2⟩
      show M.1 (aS 19) k = (ρ.1.getD k (0, 0)).1
      rw [List.getD_eq_getElem?_getD, hz]
      exact (a5 k _ hz).1
    · rw [if_neg e] at hy
      rw [e1 i (fun q => e q.symm)]
      exact a5 i y hy
  · rw [F.1 21 (by decide) rfl, F.1 22 (by decide) rfl, F.1 23 (by decide) rfl, F.1 24 (by decide) rfl]
    exact a6 c y hy
theorem n_kinds {C : pC} (hC : p_Lg true C) {d : Nat} {M : pM} {Q : pQ} {S : pS} {t : Int32} (hd : 4 ≤ d) (hS : mS M S) (ok : okS S) (h : ∀ M', mfr chQ slQ M M' → Q M' (some (vI (sp_kinds S t).2))) : C d k_X8_kinds M [vR (aS 18), vI t] Q := by
  have l1 := ok.1.1
  refine p_ent hC tb_X8_kinds _ rfl rfl rfl (fun Z hZ => ?_)
  refine hZ _ _ _ _ (hZ _ _ _ _ ?_)
  show Z 2 _ _ _
  refine hZ _ _ _ _ ⟨d - 1, by omega, n_isTeller hC (by omega) hS.2.1 ok.1 (fun k b1 b2 b3 => ?_) (fun b1 => ?_)⟩
  · skip
    subst b3
    simp only [sp_kinds, b1] at h
    have ec : (nI k).toNatClampNeg = k := nI_clamp (by omega)
    refine hZ _ _ _ _ (p_tn (by decide) ?_)
    refine hZ _ _ _ _ (hZ _ _ _ _ (hZ _ _ _ _ ?_))
    show Z 15 _ _ _
    refine hZ _ _ _ _ ⟨vp_in_nI (N := 5) (by omega) (by omega), ?_⟩
    rw [ec]
    refine hZ _ _ _ _ (hZ _ _ _ _ (hZ _ _ _ _ (hZ _ _ _ _ (hZ _ _ _ _ ?_))))
    show Z 22 _ _ _
    have loop : ∀ (n i : Nat) (M2 : pM), i + n = 4 → mfr (fun z => Nat.beq z 19 || chW z) slE M M2 → (∀ j, j ≠ k → M2.1 (aS 19) j = M.1 (aS 19) j) → Z 22 [some (vR (aS 18)), some (vI (nI k)), some (vI (M.1 (aS 19) k)), some (vI (kiN S.2.1 S.2.2.1 k i)), some (vI (nI i))] [] M2 := by
      intro n
      induction n with
      | zero =>
        intro i M2 e1 f1 f2
        have : i = 4 := by omega
        subst this
        refine hZ _ _ _ _ (hZ _ _ _ _ ?_)
        show Z 25 _ _ _
        refine hZ _ _ _ _ (br_t (by decide) ?_)
        refine hZ _ _ _ _ (hZ _ _ _ _ (hZ _ _ _ _ (hZ _ _ _ _ ?_)))
        show Z 66 _ _ _
        refine hZ _ _ _ _ ⟨vp_in_nI (N := 5) (by omega) (by omega), ?_⟩
        rw [ec]
        refine hZ _ _ _ _ ?_
        show Z 68 _ _ _
        refine hZ _ _ _ _ ?_
        refine h _ (mfr_back (mfr_wr (s := 19) (k := k) (x := M.1 (aS 19) k) f1 (by decide) rfl) ?_).WQ
        funext j
        rw [p_wr_eq]
        by_cases q : j = k
        · rw [q, us]
        · rw [un q, f2 j q]
      | succ n ih =>
        intro i M2 e1 f1 f2
        refine hZ _ _ _ _ (hZ _ _ _ _ ?_)
        show Z 25 _ _ _
        refine hZ _ _ _ _ (br_f (by rcases (show i = 0 ∨ i = 1 ∨ i = 2 ∨ i = 3 by omega) with rfl | rfl | rfl | rfl <;> decide) ?_)
        refine hZ _ _ _ _ (hZ _ _ _ _ (hZ _ _ _ _ (hZ _ _ _ _ ?_)))
        show Z 35 _ _ _
        refine hZ _ _ _ _ ⟨vp_in_nI (N := 5) (by omega) (by omega), ?_⟩
        rw [ec]
        have F1 : mfr (fun z => Nat.beq z 19 || chW z) slE M (p_wr M2 (aS 19) k (nI i)) := mfr_wr f1 (by decide) rfl
        have G1 : (p_wr M2 (aS 19) k (nI i)).1 (aS 19) k = nI i := by rw [p_wr_eq, us]
        have G2 : ∀ j, j ≠ k → (p_wr M2 (aS 19) k (nI i)).1 (aS 19) j = M.1 (aS 19) j := fun j hj => by rw [p_wr_eq, un hj, f2 j hj]
        generalize p_wr M2 (aS 19) k (nI i) = M3 at F1 G1 G2 ⊢
        have R3 : mR M3 (kdR S.2.1 k (nI i)) := mR_kd hS.2.1 b2 F1 G2 G1
        have V3 : mV M3 S.2.2.1 := mV_cg hS.2.2.1 (F1.2.1 10 rfl) (F1.1 25 (by decide) rfl) (F1.1 26 (by decide) rfl)
        have okV : ∀ x ∈ S.2.2.1, ∃ t, x.1 = nI t ∧ t < (kdR S.2.1 k (nI i)).1.length := fun x hx => by
          obtain ⟨t, t1, t2⟩ := ok.2.2.2.1 x hx
          exact ⟨t, t1, by show t < (List.set _ _ _).length; rw [List.length_set]; exact t2⟩
        have step : ∀ (v : Int32) (M4 : pM), v = kiN S.2.1 S.2.2.1 k (i + 1) → mfr chW slE M3 M4 → Z 22 [some (vR (aS 18)), some (vI (nI k)), some (vI (M.1 (aS 19) k)), some (vI v), some (vI (nI i + 1))] [] M4 := by
          intro v M4 ev g1
          rw [ev, nI_1]
          exact ih (i + 1) M4 (by omega) (F1.tr (g1.mono chW_b (fun _ z => z))) (fun j hj => by rw [g1.1 19 (by decide) rfl]; exact G2 j hj)
        refine hZ _ _ _ _ (hZ _ _ _ _ ?_)
        show Z 38 _ _ _
        refine hZ _ _ _ _ ⟨d - 1, by omega, n_isSo hC (by omega) V3 R3 (okR_tl ok.1 (List.length_set ..)) okV (fun q M4 g1 => ?_) (fun q M4 g1 => ?_)⟩
        · skip
          refine hZ _ _ _ _ (br_f (by decide) ?_)
          refine hZ _ _ _ _ (hZ _ _ _ _ (hZ _ _ _ _ (hZ _ _ _ _ (hZ _ _ _ _ (hZ _ _ _ _ (hZ _ _ _ _ (hZ _ _ _ _ ?_)))))))
          show Z 22 _ _ _
          refine step _ M4 ?_ g1
          have e2 : kiN S.2.1 S.2.2.1 k (i + 1) = kiN S.2.1 S.2.2.1 k i ||| ((1 : Int32) <<< (nI i &&& 31)) := if_pos q
          rw [e2]
        · skip
          refine hZ _ _ _ _ (br_t (rfl) ?_)
          refine hZ _ _ _ _ (hZ _ _ _ _ (hZ _ _ _ _ (hZ _ _ _ _ (hZ _ _ _ _ ?_))))
          show Z 22 _ _ _
          refine step _ M4 ?_ g1
          have e2 : kiN S.2.1 S.2.2.1 k (i + 1) = kiN S.2.1 S.2.2.1 k i := if_neg (by rw [q]; decide)
          rw [e2]
          exact Int32.or_zero
    exact loop 4 0 M rfl mfr_rf (fun _ _ => rfl)
  · skip
    refine hZ _ _ _ _ (p_fn (rfl) ?_)
    refine hZ _ _ _ _ ?_
    show Z 9 _ _ _
    refine hZ _ _ _ _ ?_
    have := h M mfr_rf
    simp only [sp_kinds, b1] at this
    exact this
/-- upward: how many, the lowest -/
def guN (f : Nat → Bool) : Nat → Int32 × Int32
  | 0 => (0, -4)
  | n + 1 => if f (n + 1) = true then ((guN f n).1 + 1, if (guN f n).1 = 0 then nI (n + 1) else (guN f n).2) else guN f n
def gdN (f : Nat → Bool) : Nat → Int32 × Int32
  | 0 => (0, -4)
  | n + 1 => if f (40 - n) = true then ((gdN f n).1 + 1, nI (40 - n)) else gdN f n
def hd4 (l : List Nat) : Int32 := match l with
  | [] => -4
  | a :: _ => nI a
theorem gu_l (f : Nat → Bool) : ∀ n, n ≤ 40 → guN f n = (nI ((List.range' 1 n).filter f).length, hd4 ((List.range' 1 n).filter f)) := by
  intro n
  induction n with
  | zero => intro _; rfl
  | succ n ih =>
    intro h
    have ih := ih (by omega)
    rw [List.range'_concat, List.filter_append]
    have hl : ((List.range' 1 n).filter f).length ≤ n := by
      have := List.length_filter_le f (List.range' 1 n)
      rwa [List.length_range'] at this
    have e1 : 1 + 1 * n = n + 1 := by omega
    rw [e1]
    simp only [guN, ih]
    cases q : f (n + 1) with
    | false => simp [q]
    | true =>
      rw [if_pos rfl]
      simp only [List.filter_cons, q, if_true, List.filter_nil, List.length_append, List.length_cons, List.length_nil]
      generalize (List.range' 1 n).filter f = L at hl
      cases L with
      | nil => rfl
      | cons a L =>
        rw [if_neg (nI_ne0 (by simp) (by omega)), nI_1]
        rfl
theorem gd_l (f : Nat → Bool) : ∀ n, n ≤ 40 → gdN f n = (nI ((List.range' (41 - n) n).filter f).length, hd4 ((List.range' (41 - n) n).filter f)) := by
  intro n
  induction n with
  | zero => intro _; rfl
  | succ n ih =>
    intro h
    have ih := ih (by omega)
    have e1 : 41 - (n + 1) = 40 - n := by omega
    have e2 : 40 - n + 1 = 41 - n := by omega
    rw [e1, List.range'_succ, e2]
    simp only [gdN, ih, List.filter_cons]
    cases q : f (40 - n) with
    | false => simp
    | true =>
      rw [if_pos rfl, if_pos rfl, nI_1]
      rfl
theorem gu_gd (f : Nat → Bool) : guN f 40 = gdN f 40 := by rw [gu_l f 40 (by decide), gd_l f 40 (by decide)]
theorem gp_gd (ρ : pRm) (V : pSn) (k : Nat) : ∀ n, gpN ρ V k n = gdN (fun i => fit (grR ρ k (nI i)) V) n := by
  intro n
  induction n with
  | zero => rfl
  | succ n ih => simp only [gpN, gdN, ih]
theorem n_grips {C : pC} (hC : p_Lg true C) {d : Nat} {M : pM} {Q : pQ} {S : pS} {t x : Int32} (hd : 4 ≤ d) (hS : mS M S) (ok : okS S) (h : ∀ M', mfr chQ slQ M M' → Q M' (some (vI (sp_grips S t x).2))) : C d k_X8_grips M [vR (aS 18), vI t, vI x] Q := by
  have l1 := ok.1.1
  refine p_ent hC tb_X8_grips _ rfl rfl rfl (fun Z hZ => ?_)
  refine hZ _ _ _ _ (hZ _ _ _ _ ?_)
  show Z 2 _ _ _
  refine hZ _ _ _ _ ⟨d - 1, by omega, n_isTeller hC (by omega) hS.2.1 ok.1 (fun k b1 b2 b3 => ?_) (fun b1 => ?_)⟩
  · skip
    subst b3
    have ec : (nI k).toNatClampNeg = k := nI_clamp (by omega)
    refine hZ _ _ _ _ (br_f (by decide) ?_)
    refine hZ _ _ _ _ (hZ _ _ _ _ (hZ _ _ _ _ ?_))
    show Z 11 _ _ _
    refine hZ _ _ _ _ ⟨d - 1, by omega, n_in hC (fun c1 c2 => ?_) (fun c1 => ?_)⟩
    · skip
      simp only [sp_grips, b1, if_pos (And.intro c1 c2), gp_gd, ← gu_gd] at h
      generalize hf : (fun i => fit (grR S.2.1 k (nI i)) S.2.2.1) = f at h
      refine hZ _ _ _ _ (p_tn (by decide) ?_)
      refine hZ _ _ _ _ (hZ _ _ _ _ (hZ _ _ _ _ ?_))
      show Z 24 _ _ _
      refine hZ _ _ _ _ ⟨vp_in_nI (N := 5) (by omega) (by omega), ?_⟩
      rw [ec]
      refine hZ _ _ _ _ (hZ _ _ _ _ (hZ _ _ _ _ (hZ _ _ _ _ (hZ _ _ _ _ (hZ _ _ _ _ (hZ _ _ _ _ ?_))))))
      show Z 36 _ _ _
      have loop : ∀ (n i : Nat) (x7 : Option pV) (M2 : pM), i + n = 40 → mfr (fun z => Nat.beq z 20 || chW z) slE M M2 → (∀ j, j ≠ k → M2.1 (aS 20) j = M.1 (aS 20) j) → Z 36 [some (vR (aS 18)), some (vI (nI k)), some (vI x), some (vI (M.1 (aS 20) k)), some (vI (guN f i).1), some (vI (guN f i).2), some (vI (nI (i + 1))), x7] [] M2 := by
        intro n
        induction n with
        | zero =>
          intro i x7 M2 e1 f1 f2
          have : i = 40 := by omega
          subst this
          refine hZ _ _ _ _ (hZ _ _ _ _ ?_)
          show Z 40 _ _ _
          refine hZ _ _ _ _ (br_t (by decide) ?_)
          refine hZ _ _ _ _ (hZ _ _ _ _ (hZ _ _ _ _ (hZ _ _ _ _ ?_)))
          show Z 103 _ _ _
          refine hZ _ _ _ _ ⟨vp_in_nI (N := 5) (by omega) (by omega), ?_⟩
          rw [ec]
          refine hZ _ _ _ _ ?_
          show Z 105 _ _ _
          have hh := h _ (mfr_back (mfr_wr (s := 20) (k := k) (x := M.1 (aS 20) k) f1 (by decide) rfl) (by
            funext j
            rw [p_wr_eq]
            by_cases q : j = k
            · rw [q, us]
            · rw [un q, f2 j q])).WQ
          by_cases q : x = 0
          · refine hZ _ _ _ _ (p_fn (q) ?_)
            refine hZ _ _ _ _ (hZ _ _ _ _ ?_)
            show Z 115 _ _ _
            refine hZ _ _ _ _ ?_
            rw [if_pos q] at hh
            exact hh
          · skip
            refine hZ _ _ _ _ (p_tn (q) ?_)
            refine hZ _ _ _ _ ?_
            show Z 115 _ _ _
            refine hZ _ _ _ _ ?_
            rw [if_neg q] at hh
            exact hh
        | succ n ih =>
          intro i x7 M2 e1 f1 f2
          refine hZ _ _ _ _ (hZ _ _ _ _ ?_)
          show Z 40 _ _ _
          refine hZ _ _ _ _ (br_f (nI_nlt (a := 40) (b := i + 1) (by omega) (by omega)) ?_)
          refine hZ _ _ _ _ (hZ _ _ _ _ (hZ _ _ _ _ (hZ _ _ _ _ ?_)))
          show Z 50 _ _ _
          refine hZ _ _ _ _ ⟨vp_in_nI (N := 5) (by omega) (by omega), ?_⟩
          rw [ec]
          have F1 : mfr (fun z => Nat.beq z 20 || chW z) slE M (p_wr M2 (aS 20) k (nI (i + 1))) := mfr_wr f1 (by decide) rfl
          have G1 : (p_wr M2 (aS 20) k (nI (i + 1))).1 (aS 20) k = nI (i + 1) := by rw [p_wr_eq, us]
          have G2 : ∀ j, j ≠ k → (p_wr M2 (aS 20) k (nI (i + 1))).1 (aS 20) j = M.1 (aS 20) j := fun j hj => by rw [p_wr_eq, un hj, f2 j hj]
          generalize p_wr M2 (aS 20) k (nI (i + 1)) = M3 at F1 G1 G2 ⊢
          have R3 : mR M3 (grR S.2.1 k (nI (i + 1))) := mR_gr hS.2.1 b2 F1 G2 G1
          have V3 : mV M3 S.2.2.1 := mV_cg hS.2.2.1 (F1.2.1 10 rfl) (F1.1 25 (by decide) rfl) (F1.1 26 (by decide) rfl)
          have okV : ∀ x ∈ S.2.2.1, ∃ t, x.1 = nI t ∧ t < (grR S.2.1 k (nI (i + 1))).1.length := fun x hx => by
            obtain ⟨t, t1, t2⟩ := ok.2.2.2.1 x hx
            exact ⟨t, t1, by show t < (List.set _ _ _).length; rw [List.length_set]; exact t2⟩
          have step : ∀ (v w : Int32) (x7 : Option pV) (M4 : pM), v = (guN f (i + 1)).1 → w = (guN f (i + 1)).2 → mfr chW slE M3 M4 → Z 36 [some (vR (aS 18)), some (vI (nI k)), some (vI x), some (vI (M.1 (aS 20) k)), some (vI v), some (vI w), some (vI (nI (i + 1) + 1)), x7] [] M4 := by
            intro v w x7 M4 ev ew g1
            rw [ev, ew, nI_1]
            exact ih (i + 1) x7 M4 (by omega) (F1.tr (g1.mono chW_b (fun _ z => z))) (fun j hj => by rw [g1.1 20 (by decide) rfl]; exact G2 j hj)
          refine hZ _ _ _ _ ?_
          show Z 52 _ _ _
          refine hZ _ _ _ _ ⟨d - 1, by omega, n_isSo hC (by omega) V3 R3 (okR_tl ok.1 (List.length_set ..)) okV (fun q M4 g1 => ?_) (fun q M4 g1 => ?_)⟩
          · skip
            have qf : f (i + 1) = true := by rw [← hf]; exact q
            have e2 : guN f (i + 1) = ((guN f i).1 + 1, if (guN f i).1 = 0 then nI (i + 1) else (guN f i).2) := if_pos qf
            rw [e2] at step
            refine hZ _ _ _ _ (hZ _ _ _ _ ?_)
            show Z 59 _ _ _
            refine hZ _ _ _ _ (br_f (by decide) ?_)
            refine hZ _ _ _ _ ?_
            show Z 64 _ _ _
            by_cases z : (guN f i).1 = 0
            · refine hZ _ _ _ _ (p_fn (z) ?_)
              refine hZ _ _ _ _ (hZ _ _ _ _ (hZ _ _ _ _ (hZ _ _ _ _ (hZ _ _ _ _ ?_))))
              show Z 80 _ _ _
              refine hZ _ _ _ _ (br_f (by decide) ?_)
              refine hZ _ _ _ _ (hZ _ _ _ _ (hZ _ _ _ _ (hZ _ _ _ _ (hZ _ _ _ _ (hZ _ _ _ _ ?_)))))
              show Z 36 _ _ _
              exact step _ _ _ M4 rfl (if_pos z).symm g1
            · skip
              refine hZ _ _ _ _ (p_tn (z) ?_)
              refine hZ _ _ _ _ (hZ _ _ _ _ (hZ _ _ _ _ (hZ _ _ _ _ ?_)))
              show Z 80 _ _ _
              refine hZ _ _ _ _ (br_f (by decide) ?_)
              refine hZ _ _ _ _ (hZ _ _ _ _ (hZ _ _ _ _ (hZ _ _ _ _ (hZ _ _ _ _ (hZ _ _ _ _ ?_)))))
              show Z 36 _ _ _
              exact step _ _ _ M4 rfl (if_neg z).symm g1
          · skip
            have qf : ¬ f (i + 1) = true := by rw [← hf]; show ¬ fit _ _ = true; rw [q]; decide
            have e2 : guN f (i + 1) = guN f i := if_neg qf
            rw [e2] at step
            refine hZ _ _ _ _ (hZ _ _ _ _ ?_)
            show Z 59 _ _ _
            refine hZ _ _ _ _ (br_t (rfl) ?_)
            refine hZ _ _ _ _ (hZ _ _ _ _ (hZ _ _ _ _ (hZ _ _ _ _ ?_)))
            show Z 80 _ _ _
            refine hZ _ _ _ _ (br_t (rfl) ?_)
            refine hZ _ _ _ _ (hZ _ _ _ _ (hZ _ _ _ _ (hZ _ _ _ _ (hZ _ _ _ _ ?_))))
            show Z 36 _ _ _
            exact step _ _ _ M4 (Int32.add_zero _) rfl g1
      exact loop 40 0 none M rfl mfr_rf (fun _ _ => rfl)
    · skip
      refine hZ _ _ _ _ (p_fn (rfl) ?_)
      refine hZ _ _ _ _ ?_
      show Z 18 _ _ _
      refine hZ _ _ _ _ ?_
      have := h M mfr_rf
      simp only [sp_grips, b1, if_neg c1] at this
      exact this
  · skip
    refine hZ _ _ _ _ (br_t (rfl) ?_)
    refine hZ _ _ _ _ ?_
    show Z 18 _ _ _
    refine hZ _ _ _ _ ?_
    have := h M mfr_rf
    simp only [sp_grips, b1] at this
    exact this
