/-! the model: items, fault, lay -/
theorem n_readsItem {C : pC} (hC : p_Lg true C) {d : Nat} {M : pM} {Q : pQ} {T : List Int32} {p : Nat} {ρ : pRm} (hd : 4 ≤ d) (hT : mT M T) (hp : M.1 (aS 18) 15 = nI p) (hp9 : p ≤ 800) (hX : xR M ρ) (ok : okR ρ) (h1 : ∀ r, item T p ρ = some r → ∀ M', mfr chR slR M M' → M'.1 (aS 18) 15 = nI r.2 → xR M' r.1 → Q M' (some (vI 1))) (h0 : item T p ρ = none → ∀ M', mfr chR slR M M' → Q M' (some (vI 0))) : C d k_X8_readsItem M [vR (aS 18)] Q := by
  rw [item_eq] at h0
  simp only [item_eq] at h1
  refine p_ent hC tb_X8_readsItem _ rfl rfl rfl (fun Z hZ => ?_)
  refine hZ _ _ _ _ ?_
  show Z 1 _ _ _
  refine hZ _ _ _ _ ⟨d - 1, by omega, n_here hC hT hp (by omega) ?_⟩
  refine hZ _ _ _ _ (hZ _ _ _ _ (hZ _ _ _ _ (hZ _ _ _ _ (hZ _ _ _ _ (hZ _ _ _ _ (hZ _ _ _ _ (hZ _ _ _ _ (hZ _ _ _ _ ?_))))))))
  show Z 18 _ _ _
  have hp3 : (p_wr M (aS 18) 15 (M.1 (aS 18) 15 + 1)).1 (aS 18) 15 = nI (p + 1) := by
    rw [p_wr_eq]
    show M.1 (aS 18) 15 + 1 = _
    rw [hp, nI_1]
  have F3 : mfr chR slR M (p_wr M (aS 18) 15 (M.1 (aS 18) 15 + 1)) := mfr_fd mfr_rf rfl
  have T3 : mT (p_wr M (aS 18) 15 (M.1 (aS 18) 15 + 1)) T := mT_cg hT rfl rfl
  have X3 : xR (p_wr M (aS 18) 15 (M.1 (aS 18) 15 + 1)) ρ := hX
  by_cases s1 : pk T p = 116
  · simp only [if_pos s1] at h0 h1
    refine hZ _ _ _ _ (p_fn (s1) ?_)
    refine hZ _ _ _ _ ?_
    show Z 22 _ _ _
    refine hZ _ _ _ _ ⟨d - 1, by omega, n_readsTeller hC (by omega) T3 hp3 (by omega) X3 ok (fun r g1 M1 g2 g3 g4 => ?_) (fun g1 M1 g2 => ?_)⟩
    · skip
      refine hZ _ _ _ _ ?_
      show Z 59 _ _ _
      refine hZ _ _ _ _ ⟨Or.inr rfl, ?_⟩
      exact h1 r g1 M1 (F3.tr g2) g3 g4
    · skip
      refine hZ _ _ _ _ ?_
      show Z 59 _ _ _
      refine hZ _ _ _ _ ⟨Or.inl rfl, ?_⟩
      exact h0 g1 M1 (F3.tr g2)
  · skip
    simp only [if_neg s1] at h0 h1
    refine hZ _ _ _ _ (p_tn (s1) ?_)
    refine hZ _ _ _ _ (hZ _ _ _ _ ?_)
    show Z 31 _ _ _
    by_cases s2 : pk T p = 102
    · simp only [if_pos s2] at h0 h1
      refine hZ _ _ _ _ (p_fn (s2) ?_)
      refine hZ _ _ _ _ ?_
      show Z 35 _ _ _
      refine hZ _ _ _ _ ⟨d - 1, by omega, n_readsFact hC (by omega) T3 hp3 (by omega) X3 ok (fun r g1 M1 g2 g3 g4 => ?_) (fun g1 M1 g2 => ?_)⟩
      · skip
        refine hZ _ _ _ _ ?_
        show Z 59 _ _ _
        refine hZ _ _ _ _ ⟨Or.inr rfl, ?_⟩
        exact h1 r g1 M1 (F3.tr g2) g3 g4
      · skip
        refine hZ _ _ _ _ ?_
        show Z 59 _ _ _
        refine hZ _ _ _ _ ⟨Or.inl rfl, ?_⟩
        exact h0 g1 M1 (F3.tr g2)
    · skip
      simp only [if_neg s2] at h0 h1
      refine hZ _ _ _ _ (p_tn (s2) ?_)
      refine hZ _ _ _ _ (hZ _ _ _ _ ?_)
      show Z 44 _ _ _
      by_cases s3 : pk T p = 99
      · simp only [if_pos s3] at h0 h1
        refine hZ _ _ _ _ (p_fn (s3) ?_)
        refine hZ _ _ _ _ ?_
        show Z 48 _ _ _
        refine hZ _ _ _ _ ⟨d - 1, by omega, n_readsClaim hC (by omega) T3 hp3 (by omega) X3 ok (fun r g1 M1 g2 g3 g4 => ?_) (fun g1 M1 g2 => ?_)⟩
        · skip
          refine hZ _ _ _ _ (br_f (by decide) ?_)
          refine hZ _ _ _ _ (hZ _ _ _ _ ?_)
          show Z 59 _ _ _
          refine hZ _ _ _ _ ⟨Or.inr rfl, ?_⟩
          exact h1 r g1 M1 (F3.tr g2) g3 g4
        · skip
          refine hZ _ _ _ _ (br_t (rfl) ?_)
          refine hZ _ _ _ _ ?_
          show Z 59 _ _ _
          refine hZ _ _ _ _ ⟨Or.inl rfl, ?_⟩
          exact h0 g1 M1 (F3.tr g2)
      · skip
        simp only [if_neg s3] at h0
        refine hZ _ _ _ _ (p_tn (s3) ?_)
        refine hZ _ _ _ _ ?_
        show Z 59 _ _ _
        refine hZ _ _ _ _ ⟨Or.inl rfl, ?_⟩
        exact h0 trivial _ F3
theorem rdT_end {T : List Int32} {m p : Nat} {ρ : pRm} (h : T.length ≤ p) : rdT T m p ρ = (none, ρ) := by
  cases m with
  | zero => rfl
  | succ m => simp only [rdT, if_neg (show ¬ p < T.length by omega)]
theorem rdT_okR {T : List Int32} : ∀ {m p : Nat} {ρ : pRm}, okR ρ → okR (rdT T m p ρ).2 := by
  intro m
  induction m with
  | zero => intro p ρ ok; exact ok
  | succ m ih =>
    intro p ρ ok
    simp only [rdT]
    split
    · cases e : item T p ρ with
      | none => exact ok
      | some r =>
        obtain ⟨ρ', q⟩ := r
        exact ih (item_ok ok e)
    · exact ok
theorem okR_0 : okR ρ0 := ⟨by simp [ρ0], by simp [ρ0], by simp [ρ0], fun x hx => by simp [ρ0] at hx, 0, rfl, by simp [ρ0]⟩
theorem mT_r {M M' : pM} {T : List Int32} (h : mfr chR slR M M') (hT : mT M T) : mT M' T := mT_cg hT (h.2.1 14 rfl) (h.1 27 (by decide) rfl)
theorem n_fault0 {C : pC} (hC : p_Lg true C) {d : Nat} {M : pM} {Q : pQ} {T : List Int32} (hd : 5 ≤ d) (hT : mT M T) (h : ∀ M', mfr chR slR M M' → ((rdT T 200 0 ρ0).1 = none → xR M' (rdT T 200 0 ρ0).2) → Q M' (some (vI (fltV (rdT T 200 0 ρ0).1)))) : C d k_X8_fault M [vR (aS 18)] Q := by
  have l1 := hT.1
  refine p_ent hC tb_X8_fault _ rfl rfl rfl (fun Z hZ => ?_)
  refine hZ _ _ _ _ (hZ _ _ _ _ (hZ _ _ _ _ (hZ _ _ _ _ (hZ _ _ _ _ (hZ _ _ _ _ (hZ _ _ _ _ (hZ _ _ _ _ (hZ _ _ _ _ (hZ _ _ _ _ (hZ _ _ _ _ (hZ _ _ _ _ ?_)))))))))))
  show Z 20 _ _ _
  have loop : ∀ (m p : Nat) (ρ : pRm) (M2 : pM) (y : Option pV), T.length ≤ p + m → p ≤ 600 → mfr chR slR M M2 → M2.1 (aS 18) 15 = nI p → xR M2 ρ → okR ρ → rdT T 200 0 ρ0 = rdT T m p ρ → Z 20 [some (vR (aS 18)), y] [] M2 := by
    intro m
    induction m with
    | zero =>
      intro p ρ M2 y e1 e2 f1 f2 f3 f4 f5
      refine hZ _ _ _ _ (hZ _ _ _ _ (hZ _ _ _ _ (hZ _ _ _ _ ?_)))
      show Z 28 _ _ _
      rw [f2, (mT_r f1 hT).2.1]
      refine hZ _ _ _ _ (br_t (nI_le (by omega) (by omega)) ?_)
      refine hZ _ _ _ _ ?_
      show Z 50 _ _ _
      refine hZ _ _ _ _ ?_
      have := h M2 f1
      rw [f5] at this
      exact this (fun _ => f3)
    | succ m ih =>
      intro p ρ M2 y e1 e2 f1 f2 f3 f4 f5
      refine hZ _ _ _ _ (hZ _ _ _ _ (hZ _ _ _ _ (hZ _ _ _ _ ?_)))
      show Z 28 _ _ _
      rw [f2, (mT_r f1 hT).2.1]
      by_cases hlt : p < T.length
      · refine hZ _ _ _ _ (br_f (nI_ge hlt (by omega)) ?_)
        refine hZ _ _ _ _ (hZ _ _ _ _ (hZ _ _ _ _ (hZ _ _ _ _ ?_)))
        show Z 37 _ _ _
        rw [f2]
        refine hZ _ _ _ _ ⟨d - 1, by omega, n_readsItem hC (by omega) (mT_r f1 hT) f2 (by omega) f3 f4 (fun r g1 M3 g2 g3 g4 => ?_) (fun g1 M3 g2 => ?_)⟩
        · skip
          obtain ⟨ρ', q⟩ := r
          have b1 := item_lt g1
          have b2 := item_le g1
          refine hZ _ _ _ _ (p_tn (by decide) ?_)
          refine hZ _ _ _ _ ?_
          show Z 20 _ _ _
          refine ih q ρ' M3 _ (by omega) (by omega) (f1.tr g2) g3 g4 (item_ok f4 g1) ?_
          rw [f5]
          simp only [rdT, if_pos hlt, g1]
        · skip
          refine hZ _ _ _ _ (p_fn (rfl) ?_)
          refine hZ _ _ _ _ ?_
          show Z 44 _ _ _
          refine hZ _ _ _ _ ?_
          have := h M3 (f1.tr g2)
          rw [f5] at this
          simp only [rdT, if_pos hlt, g1] at this
          exact this (fun q => by cases q)
      · skip
        refine hZ _ _ _ _ (br_t (nI_le (by omega) (by omega)) ?_)
        refine hZ _ _ _ _ ?_
        show Z 50 _ _ _
        refine hZ _ _ _ _ ?_
        have := h M2 f1
        rw [f5, rdT_end (by omega)] at this
        exact this (fun _ => f3)
  refine loop 200 0 ρ0 _ none (by omega) (by omega) (mfr_fd (mfr_fd (mfr_fd (mfr_fd mfr_rf rfl) rfl) rfl) rfl) rfl ⟨rfl, rfl, rfl, rfl, fun i x hx => by simp [ρ0] at hx, fun i x hx => by simp [ρ0] at hx⟩ okR_0 rfl
theorem chQ_r (s : Nat) (h : chQ s = false) : chR s = false := by
  simp only [chQ, Bool.or_eq_false_iff] at h
  simp only [chR, Bool.and_eq_false_iff] at h ⊢
  rcases h.1 with q | q
  · exact Or.inl q
  · refine Or.inr ?_
    cases e : Nat.ble s 31 with
    | false => rfl
    | true =>
      have := Nat.le_of_ble_eq_true e
      rw [Nat.ble_eq_true_of_le (show s ≤ 34 by omega)] at q
      cases q
theorem slQ_r (k : Nat) (h : slQ k = false) : slR k = false := by
  simp only [slQ, Bool.or_eq_false_iff] at h
  simp only [slR, Bool.or_eq_false_iff]
  exact ⟨h.1, h.2.1⟩
theorem mfr_q {M M' : pM} (h : mfr chR slR M M') : mfr chQ slQ M M' := h.mono chQ_r slQ_r
theorem n_fault {C : pC} (hC : p_Lg true C) {d : Nat} {M : pM} {Q : pQ} {S : pS} (hd : 5 ≤ d) (hS : mS M S) (h : ∀ M', mfr chQ slQ M M' → Q M' (some (vI (sp_fault S).2))) : C d k_X8_fault M [vR (aS 18)] Q :=
  n_fault0 hC hd hS.1 (fun M1 g1 _ => h M1 (mfr_q g1))
theorem n_sets {C : pC} (hC : p_Lg true C) {d : Nat} {M : pM} {Q : pQ} {i t f v w : Int32} (c : Nat) (ei : i = nI c) (hc : c < 8) (h : Q (p_wr (p_wr (p_wr (p_wr M (aS 21) c t) (aS 22) c f) (aS 23) c v) (aS 24) c w) none) : C d k_X8_sets M [vR (aS 18), vI i, vI t, vI f, vI v, vI w] Q := by
  subst ei
  have ec : (nI c).toNatClampNeg = c := nI_clamp (by omega)
  refine p_ent hC tb_X8_sets _ rfl rfl rfl (fun Z hZ => ?_)
  refine hZ _ _ _ _ (hZ _ _ _ _ (hZ _ _ _ _ (hZ _ _ _ _ ?_)))
  show Z 6 _ _ _
  refine hZ _ _ _ _ ⟨vp_in_nI (N := 8) hc (by omega), ?_⟩
  refine hZ _ _ _ _ (hZ _ _ _ _ (hZ _ _ _ _ (hZ _ _ _ _ ?_)))
  show Z 13 _ _ _
  refine hZ _ _ _ _ ⟨vp_in_nI (N := 8) hc (by omega), ?_⟩
  refine hZ _ _ _ _ (hZ _ _ _ _ (hZ _ _ _ _ (hZ _ _ _ _ ?_)))
  show Z 21 _ _ _
  refine hZ _ _ _ _ ⟨vp_in_nI (N := 8) hc (by omega), ?_⟩
  refine hZ _ _ _ _ (hZ _ _ _ _ (hZ _ _ _ _ (hZ _ _ _ _ ?_)))
  show Z 29 _ _ _
  refine hZ _ _ _ _ ⟨vp_in_nI (N := 8) hc (by omega), ?_⟩
  refine hZ _ _ _ _ ?_
  rw [ec]
  exact h
/-- anything of the model may have changed -/
def mfA (M M' : pM) : Prop := mfr (Nat.ble 18) (fun _ => true) M M'
theorem mfA_of {ch sl : Nat → Bool} {M M' : pM} (h : mfr ch sl M M') (hc : ∀ s, Nat.ble 18 s = false → ch s = false) : mfA M M' := ⟨fun s a b => h.1 s a (hc s b), (fun k a => by cases a), h.2.2.1, h.2.2.2⟩
theorem lo18 {ch : Nat → Bool} (hc : ∀ s, s < 18 → ch s = false) : ∀ s, Nat.ble 18 s = false → ch s = false := fun s hs => hc s (by
  rcases Nat.lt_or_ge s 18 with q | q
  · exact q
  · rw [Nat.ble_eq_true_of_le q] at hs; cases hs)
theorem n_lay {C : pC} (hC : p_Lg true C) {d : Nat} {M : pM} {Q : pQ} {S : pS} (hd : 6 ≤ d) (hS : mS M S) (h : ∀ M', mfA M M' → mS M' (sp_lay S).1 → Q M' (some (vI (sp_lay S).2))) : C d k_X8_lay M [vR (aS 18)] Q := by
  refine p_ent hC tb_X8_lay _ rfl rfl rfl (fun Z hZ => ?_)
  refine hZ _ _ _ _ ?_
  show Z 1 _ _ _
  refine hZ _ _ _ _ ⟨d - 1, by omega, n_fault0 hC (by omega) hS.1 (fun M1 g1 g3 => ?_)⟩
  have A1 : mfA M M1 := mfA_of g1 (lo18 (by decide))
  have S1 : mS M1 S := mS_q (mfr_q g1) hS
  have okr : okR (rdT S.1 200 0 ρ0).2 := rdT_okR okR_0
  have l1 := okr.1
  have l2 := okr.2.1
  have l3 := okr.2.2.1
  refine hZ _ _ _ _ ?_
  show Z 6 _ _ _
  have bad : ¬ ((rdT S.1 200 0 ρ0).1 = none ∧ 1 ≤ (rdT S.1 200 0 ρ0).2.1.length ∧ 1 ≤ (rdT S.1 200 0 ρ0).2.2.1) → Z 23 [some (vR (aS 18)), none] [] M1 := by
    intro hb
    refine hZ _ _ _ _ ?_
    show Z 25 _ _ _
    refine hZ _ _ _ _ ?_
    have := h M1 A1
    rw [sp_lay, if_neg hb] at this
    exact this S1
  cases e : (rdT S.1 200 0 ρ0).1 with
  | some p =>
    refine hZ _ _ _ _ (p_tn (by rw [show fltV (some p) = nI p from rfl]; intro q; exact absurd (show nI p < 0 by rw [q]; decide) (nI_pos (by have := rdT_lt e; have := hS.1.1; omega))) ?_)
    exact bad (fun q => by rw [e] at q; cases q.1)
  | none =>
    have hX := g3 e
    obtain ⟨ρ, er⟩ : ∃ ρ, (rdT S.1 200 0 ρ0).2 = ρ := ⟨_, rfl⟩
    simp only [er] at hX okr l1 l2 l3 bad
    obtain ⟨x1, x2, x3, x4, x5, x6⟩ := hX
    refine hZ _ _ _ _ (p_fn (rfl) ?_)
    refine hZ _ _ _ _ (hZ _ _ _ _ ?_)
    show Z 13 _ _ _
    rw [x1]
    by_cases z1 : ρ.1.length = 0
    · refine hZ _ _ _ _ (br_t (by rw [z1]; rfl) ?_)
      exact bad (fun q => by omega)
    · skip
      refine hZ _ _ _ _ (br_f (nI_ne0 (by omega) (by omega)) ?_)
      refine hZ _ _ _ _ (hZ _ _ _ _ ?_)
      show Z 20 _ _ _
      rw [x2]
      by_cases z2 : ρ.2.1 = 0
      · refine hZ _ _ _ _ (p_fn (by rw [z2]; rfl) ?_)
        exact bad (fun q => by omega)
      · skip
        refine hZ _ _ _ _ (p_tn (nI_ne0 (by omega) (by omega)) ?_)
        refine hZ _ _ _ _ (hZ _ _ _ _ (hZ _ _ _ _ (hZ _ _ _ _ (hZ _ _ _ _ (hZ _ _ _ _ (hZ _ _ _ _ (hZ _ _ _ _ (hZ _ _ _ _ (hZ _ _ _ _ (hZ _ _ _ _ (hZ _ _ _ _ (hZ _ _ _ _ (hZ _ _ _ _ ?_)))))))))))))
        show Z 52 _ _ _
        have fin : ∀ M5 : pM, mfA M M5 → mT M5 S.1 → mR M5 ρ → Z 184 [some (vR (aS 18)), some (vI (nI ρ.2.2.2.length))] [] M5 := by
          intro M5 f1 f2 f3
          refine hZ _ _ _ _ (hZ _ _ _ _ (hZ _ _ _ _ (hZ _ _ _ _ (hZ _ _ _ _ (hZ _ _ _ _ (hZ _ _ _ _ (hZ _ _ _ _ (hZ _ _ _ _ (hZ _ _ _ _ (hZ _ _ _ _ ?_))))))))))
          show Z 203 _ _ _
          refine hZ _ _ _ _ ?_
          have hm : mS (p_wr (p_wr (p_wr M5 (aS 18) 10 0) (aS 18) 30 0) (aS 18) 34 0) (S.1, ρ, [], [], []) := ⟨f2, f3, ⟨by simp, rfl, fun i x hx => by simp at hx⟩, ⟨by simp, rfl, fun i x hx => by simp at hx⟩, ⟨by simp, rfl, fun i x hx => by simp at hx⟩⟩
          have := h (p_wr (p_wr (p_wr M5 (aS 18) 10 0) (aS 18) 30 0) (aS 18) 34 0) (mfr_fd (mfr_fd (mfr_fd f1 rfl) rfl) rfl)
          rw [sp_lay, er] at this
          rw [if_pos ⟨e, by omega, by omega⟩] at this
          have e0 : (p_wr (p_wr (p_wr M5 (aS 18) 10 0) (aS 18) 30 0) (aS 18) 34 0).1 (aS 18) 0 = nI ρ.1.length := f3.1
          rw [e0]
          exact this hm
        have loop3 : ∀ (n i : Nat) (M5 : pM), i + n = ρ.2.2.2.length → mfA M M5 → mT M5 S.1 → M5.1 (aS 31) = M1.1 (aS 31) → M5.1 (aS 18) 0 = nI ρ.1.length → M5.1 (aS 18) 1 = nI ρ.2.1 → M5.1 (aS 18) 2 = nI ρ.2.2.2.length → M5.1 (aS 18) 3 = ρ.2.2.1 → (∀ i x, ρ.1[i]? = some x → M5.1 (aS 19) i = x.1 ∧ M5.1 (aS 20) i = x.2) → (∀ j x, j < i → ρ.2.2.2[j]? = some x → M5.1 (aS 21) j = x.1 ∧ M5.1 (aS 22) j = x.2.1 ∧ M5.1 (aS 23) j = x.2.2.1 ∧ M5.1 (aS 24) j = x.2.2.2) → Z 127 [some (vR (aS 18)), some (vI (nI i))] [] M5 := by
          intro n
          induction n with
          | zero =>
            intro i M5 e1 f1 f2 f3 f4 f5 f6 f7 f8 f9
            have : i = ρ.2.2.2.length := by omega
            subst this
            refine hZ _ _ _ _ (hZ _ _ _ _ (hZ _ _ _ _ ?_))
            show Z 132 _ _ _
            refine hZ _ _ _ _ (br_t (by rw [f6]; exact Int32.le_refl _) ?_)
            exact fin M5 f1 f2 ⟨f4, f5, f6, f7, f8, fun i x hx => f9 i x (List.getElem?_eq_some_iff.mp hx).1 hx⟩
          | succ n ih =>
            intro i M5 e1 f1 f2 f3 f4 f5 f6 f7 f8 f9
            have hi : i < ρ.2.2.2.length := by omega
            have hx : ρ.2.2.2[i]? = some ρ.2.2.2[i] := List.getElem?_eq_getElem hi
            obtain ⟨y1, y2, y3, y4⟩ := x6 i _ hx
            have e4 : (4 : Int32) * nI i = nI (4 * i) := pk_mul 4 i
            have a1 : nI (4 * i) + 1 = nI (4 * i + 1) := nI_add _ 1
            have a2 : nI (4 * i) + 2 = nI (4 * i + 2) := nI_add _ 2
            have a3 : nI (4 * i) + 3 = nI (4 * i + 3) := nI_add _ 3
            refine hZ _ _ _ _ (hZ _ _ _ _ (hZ _ _ _ _ ?_))
            show Z 132 _ _ _
            refine hZ _ _ _ _ (br_f (by rw [f6]; exact nI_ge hi (by omega)) ?_)
            refine hZ _ _ _ _ (hZ _ _ _ _ (hZ _ _ _ _ (hZ _ _ _ _ (hZ _ _ _ _ (hZ _ _ _ _ (hZ _ _ _ _ ?_))))))
            show Z 144 _ _ _
            rw [e4]
            refine hZ _ _ _ _ ⟨vp_in_nI (N := 28) (by omega) (by omega), ?_⟩
            rw [nI_clamp (by omega), f3, y1]
            refine hZ _ _ _ _ (hZ _ _ _ _ (hZ _ _ _ _ (hZ _ _ _ _ (hZ _ _ _ _ (hZ _ _ _ _ (hZ _ _ _ _ ?_))))))
            show Z 154 _ _ _
            rw [e4, a1]
            refine hZ _ _ _ _ ⟨vp_in_nI (N := 28) (by omega) (by omega), ?_⟩
            rw [nI_clamp (by omega), f3, y2]
            refine hZ _ _ _ _ (hZ _ _ _ _ (hZ _ _ _ _ (hZ _ _ _ _ (hZ _ _ _ _ (hZ _ _ _ _ (hZ _ _ _ _ ?_))))))
            show Z 164 _ _ _
            rw [e4, a2]
            refine hZ _ _ _ _ ⟨vp_in_nI (N := 28) (by omega) (by omega), ?_⟩
            rw [nI_clamp (by omega), f3, y3]
            refine hZ _ _ _ _ (hZ _ _ _ _ (hZ _ _ _ _ (hZ _ _ _ _ (hZ _ _ _ _ (hZ _ _ _ _ (hZ _ _ _ _ ?_))))))
            show Z 174 _ _ _
            rw [e4, a3]
            refine hZ _ _ _ _ ⟨vp_in_nI (N := 28) (by omega) (by omega), ?_⟩
            rw [nI_clamp (by omega), f3, y4]
            refine hZ _ _ _ _ ⟨d - 1, by omega, n_sets hC i rfl (by omega) ?_⟩
            refine hZ _ _ _ _ (hZ _ _ _ _ ?_)
            show Z 127 _ _ _
            rw [show nI i + 1 = nI (i + 1) from nI_1 i]
            refine ih (i + 1) _ (by omega) (mfr_wr (mfr_wr (mfr_wr (mfr_wr f1 (by decide) rfl) (by decide) rfl) (by decide) rfl) (by decide) rfl) f2 f3 f4 f5 f6 f7 f8 (fun j x hj hjx => ?_)
            show (p_wr M5 (aS 21) i _).1 (aS 21) j = _ ∧ (p_wr M5 (aS 22) i _).1 (aS 22) j = _ ∧ (p_wr M5 (aS 23) i _).1 (aS 23) j = _ ∧ (p_wr M5 (aS 24) i _).1 (aS 24) j = _
            rw [p_wr_eq, p_wr_eq, p_wr_eq, p_wr_eq]
            by_cases ej : j = i
            · subst ej
              rw [hx] at hjx
              cases hjx
              simp [upd]
            · simp only [upd, if_neg ej]
              exact f9 j x (by omega) hjx
        have loop2 : ∀ (n i : Nat) (M5 : pM), i + n = ρ.2.1 → mfA M M5 → mT M5 S.1 → M5.1 (aS 31) = M1.1 (aS 31) → M5.1 (aS 30) = M1.1 (aS 30) → M5.1 (aS 18) 0 = nI ρ.1.length → M5.1 (aS 18) 1 = nI ρ.2.1 → M5.1 (aS 18) 2 = nI ρ.2.2.2.length → M5.1 (aS 18) 3 = orN (M1.1 (aS 30)) i → (∀ i x, ρ.1[i]? = some x → M5.1 (aS 19) i = x.1 ∧ M5.1 (aS 20) i = x.2) → Z 94 [some (vR (aS 18)), some (vI (nI i))] [] M5 := by
          intro n
          induction n with
          | zero =>
            intro i M5 e1 f1 f2 f3 f3' f4 f5 f6 f7 f8
            have : i = ρ.2.1 := by omega
            subst this
            refine hZ _ _ _ _ (hZ _ _ _ _ (hZ _ _ _ _ ?_))
            show Z 99 _ _ _
            refine hZ _ _ _ _ (br_t (by rw [f5]; exact Int32.le_refl _) ?_)
            refine hZ _ _ _ _ (hZ _ _ _ _ ?_)
            show Z 127 _ _ _
            exact loop3 ρ.2.2.2.length 0 M5 (Nat.zero_add _) f1 f2 f3 f4 f5 f6 (f7.trans x4) f8 (fun j x hj => absurd hj (Nat.not_lt_zero j))
          | succ n ih =>
            intro i M5 e1 f1 f2 f3 f3' f4 f5 f6 f7 f8
            refine hZ _ _ _ _ (hZ _ _ _ _ (hZ _ _ _ _ ?_))
            show Z 99 _ _ _
            refine hZ _ _ _ _ (br_f (by rw [f5]; exact nI_ge (by omega) (by omega)) ?_)
            refine hZ _ _ _ _ (hZ _ _ _ _ (hZ _ _ _ _ (hZ _ _ _ _ (hZ _ _ _ _ (hZ _ _ _ _ ?_)))))
            show Z 112 _ _ _
            refine hZ _ _ _ _ ⟨vp_in_nI (N := 6) (by omega) (by omega), ?_⟩
            rw [nI_clamp (by omega), f3', f7]
            refine hZ _ _ _ _ (hZ _ _ _ _ (hZ _ _ _ _ (hZ _ _ _ _ (hZ _ _ _ _ (hZ _ _ _ _ ?_)))))
            show Z 94 _ _ _
            rw [show nI i + 1 = nI (i + 1) from nI_1 i]
            exact ih (i + 1) _ (by omega) (mfr_fd f1 rfl) f2 f3 f3' f4 f5 f6 rfl f8
        have loop1 : ∀ (n i : Nat) (M5 : pM), i + n = 5 → mfA M M5 → mT M5 S.1 → M5.1 (aS 31) = M1.1 (aS 31) → M5.1 (aS 30) = M1.1 (aS 30) → M5.1 (aS 28) = M1.1 (aS 28) → M5.1 (aS 29) = M1.1 (aS 29) → M5.1 (aS 18) 0 = nI ρ.1.length → M5.1 (aS 18) 1 = nI ρ.2.1 → M5.1 (aS 18) 2 = nI ρ.2.2.2.length → (∀ j, j < i → M5.1 (aS 19) j = M1.1 (aS 28) j ∧ M5.1 (aS 20) j = M1.1 (aS 29) j) → Z 52 [some (vR (aS 18)), some (vI (nI i))] [] M5 := by
          intro n
          induction n with
          | zero =>
            intro i M5 e1 f1 f2 f3 f3' g8 g9 f4 f5 f6 f8
            have : i = 5 := by omega
            subst this
            refine hZ _ _ _ _ (hZ _ _ _ _ ?_)
            show Z 54 _ _ _
            refine hZ _ _ _ _ (br_t (Int32.le_refl _) ?_)
            refine hZ _ _ _ _ (hZ _ _ _ _ (hZ _ _ _ _ (hZ _ _ _ _ (hZ _ _ _ _ ?_))))
            show Z 94 _ _ _
            refine loop2 ρ.2.1 0 _ (Nat.zero_add _) (mfr_fd f1 rfl) f2 f3 f3' f4 f5 f6 rfl (fun j x hx => ?_)
            have hj : j < 5 := Nat.lt_of_lt_of_le (List.getElem?_eq_some_iff.mp hx).1 l1
            obtain ⟨k1, k2⟩ := f8 j hj
            obtain ⟨k3, k4⟩ := x5 j x hx
            exact ⟨k1.trans k3, k2.trans k4⟩
          | succ n ih =>
            intro i M5 e1 f1 f2 f3 f3' g8 g9 f4 f5 f6 f8
            have ec : (nI i).toNatClampNeg = i := nI_clamp (by omega)
            refine hZ _ _ _ _ (hZ _ _ _ _ ?_)
            show Z 54 _ _ _
            refine hZ _ _ _ _ (br_f (nI_ge (a := i) (b := 5) (by omega) (by omega)) ?_)
            refine hZ _ _ _ _ (hZ _ _ _ _ (hZ _ _ _ _ (hZ _ _ _ _ (hZ _ _ _ _ (hZ _ _ _ _ ?_)))))
            show Z 67 _ _ _
            refine hZ _ _ _ _ ⟨vp_in_nI (N := 5) (by omega) (by omega), ?_⟩
            refine hZ _ _ _ _ ⟨vp_in_nI (N := 5) (by omega) (by omega), ?_⟩
            refine hZ _ _ _ _ (hZ _ _ _ _ (hZ _ _ _ _ (hZ _ _ _ _ (hZ _ _ _ _ (hZ _ _ _ _ ?_)))))
            show Z 79 _ _ _
            refine hZ _ _ _ _ ⟨vp_in_nI (N := 5) (by omega) (by omega), ?_⟩
            refine hZ _ _ _ _ ⟨vp_in_nI (N := 5) (by omega) (by omega), ?_⟩
            rw [ec, g8]
            refine hZ _ _ _ _ (hZ _ _ _ _ ?_)
            show Z 52 _ _ _
            rw [show nI i + 1 = nI (i + 1) from nI_1 i]
            refine ih (i + 1) _ (by omega) (mfr_wr (mfr_wr f1 (by decide) rfl) (by decide) rfl) f2 f3 f3' g8 g9 f4 f5 f6 (fun j hj => ?_)
            have e9 : (p_wr M5 (aS 19) i (M1.1 (aS 28) i)).1 (aS 29) = M1.1 (aS 29) := g9
            show (p_wr M5 (aS 19) i (M1.1 (aS 28) i)).1 (aS 19) j = _ ∧ (p_wr (p_wr M5 (aS 19) i (M1.1 (aS 28) i)) (aS 20) i ((p_wr M5 (aS 19) i (M1.1 (aS 28) i)).1 (aS 29) i)).1 (aS 20) j = _
            rw [e9, p_wr_eq, p_wr_eq]
            by_cases ej : j = i
            · simp [upd, ej]
            · simp only [upd, if_neg ej]
              exact f8 j (by omega)
        refine loop1 5 0 _ rfl (mfr_fd (mfr_fd (mfr_fd A1 rfl) rfl) rfl) S1.1 rfl rfl rfl rfl x1 x2 x3 (fun j hj => absurd hj (Nat.not_lt_zero j))
