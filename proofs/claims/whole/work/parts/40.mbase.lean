/-! THE MODEL: its frame, its state, its small methods. Cells aS 18 (the object) to aS 38 -/
def mfr (ch sl : Nat → Bool) (M M' : pM) : Prop := (∀ s, s ≠ 18 → ch s = false → M'.1 (aS s) = M.1 (aS s)) ∧ (∀ k, sl k = false → M'.1 (aS 18) k = M.1 (aS 18) k) ∧ (∀ r, M'.1 (Sum.inr r) = M.1 (Sum.inr r)) ∧ M'.2 = M.2
theorem mfr_rf {ch sl : Nat → Bool} {M : pM} : mfr ch sl M M := ⟨fun _ _ _ => rfl, fun _ _ => rfl, fun _ => rfl, rfl⟩
theorem mfr.tr {ch sl : Nat → Bool} {M M' M'' : pM} (h : mfr ch sl M M') (h2 : mfr ch sl M' M'') : mfr ch sl M M'' := ⟨fun s a b => (h2.1 s a b).trans (h.1 s a b), fun k a => (h2.2.1 k a).trans (h.2.1 k a), fun r => (h2.2.2.1 r).trans (h.2.2.1 r), h2.2.2.2.trans h.2.2.2⟩
theorem mfr.mono {ch sl ch' sl' : Nat → Bool} {M M' : pM} (h : mfr ch sl M M') (h1 : ∀ s, ch' s = false → ch s = false) (h2 : ∀ k, sl' k = false → sl k = false) : mfr ch' sl' M M' := ⟨fun s a b => h.1 s a (h1 s b), fun k a => h.2.1 k (h2 k a), h.2.2.1, h.2.2.2⟩
theorem mfr_row {ch sl : Nat → Bool} {M M' : pM} {s : Nat} {r : Nat → Int32} (h : mfr ch sl M M') (hs : s ≠ 18) (hc : ch s = true) : mfr ch sl M (p_row M' (aS s) r) := by
  refine ⟨fun q a b => ?_, fun k a => ?_, fun q => ?_, h.2.2.2⟩
  · rw [p_row_ne (fun e => by rw [Sum.inl.inj e, hc] at b; cases b)]
    exact h.1 q a b
  · rw [p_row_ne (fun e => hs (Sum.inl.inj e).symm)]
    exact h.2.1 k a
  · rw [p_row_ne (fun e => by cases e)]
    exact h.2.2.1 q
theorem mfr_wr {ch sl : Nat → Bool} {M M' : pM} {s k : Nat} {x : Int32} (h : mfr ch sl M M') (hs : s ≠ 18) (hc : ch s = true) : mfr ch sl M (p_wr M' (aS s) k x) := mfr_row h hs hc
theorem mfr_fd {ch sl : Nat → Bool} {M M' : pM} {k : Nat} {x : Int32} (h : mfr ch sl M M') (hk : sl k = true) : mfr ch sl M (p_wr M' (aS 18) k x) := by
  refine ⟨fun q a b => ?_, fun j a => ?_, fun q => ?_, h.2.2.2⟩
  · rw [p_wr, p_row_ne (fun e => a (Sum.inl.inj e))]
    exact h.1 q a b
  · rw [p_wr_eq]
    have : ¬ j = k := fun e => by rw [e, hk] at a; cases a
    simp only [upd, if_neg this]
    exact h.2.1 j a
  · rw [p_wr, p_row_ne (fun e => by cases e)]
    exact h.2.2.1 q
def no : Nat → Bool := fun _ => false
theorem no_le {ch : Nat → Bool} : ∀ s, ch s = false → no s = false := fun _ _ => rfl
/-- the class's state stays -/
theorem cS_m {ch sl : Nat → Bool} {M M' : pM} {S : pS} (h : mfr ch sl M M') (hc : ∀ s, s < 18 → ch s = false) (hS : cS M S) : cS M' S := by
  have e : ∀ s, s < 18 → M'.1 (aS s) = M.1 (aS s) := fun s hs => h.1 s (by omega) (hc s hs)
  have r : ∀ j c, M'.1 (aR j c) = M.1 (aR j c) := fun j c => h.2.2.1 _
  obtain ⟨a1, a2, a3, a4, a5, a6⟩ := hS
  exact ⟨tR_cg a1 (by rw [e 1 (by omega)]) (e 2 (by omega)), cR_cg (r 0) a2, sR_cg a3 (e 11 (by omega)) (e 12 (by omega)) (e 13 (by omega)), shR_cg a4 (e 14 (by omega)) (by rw [h.2.2.2]) (fun j c _ _ => r j c), shR_cg a5 (e 16 (by omega)) (by rw [h.2.2.2]) (fun j c _ _ => r j c), fun i hi => by rw [h.2.2.2]; exact a6 i hi⟩
/-- the model's room -/
def mR (M : pM) (ρ : pRm) : Prop :=
  M.1 (aS 18) 0 = nI ρ.1.length ∧ M.1 (aS 18) 1 = nI ρ.2.1 ∧ M.1 (aS 18) 2 = nI ρ.2.2.2.length ∧ M.1 (aS 18) 3 = ρ.2.2.1 ∧ (∀ i x, ρ.1[i]? = some x → M.1 (aS 19) i = x.1 ∧ M.1 (aS 20) i = x.2) ∧ (∀ i x, ρ.2.2.2[i]? = some x → M.1 (aS 21) i = x.1 ∧ M.1 (aS 22) i = x.2.1 ∧ M.1 (aS 23) i = x.2.2.1 ∧ M.1 (aS 24) i = x.2.2.2)
def mT (M : pM) (T : List Int32) : Prop := T.length ≤ 200 ∧ M.1 (aS 18) 14 = nI T.length ∧ ∀ i x, T[i]? = some x → M.1 (aS 27) i = x
def mV (M : pM) (V : pSn) : Prop := V.length ≤ 6 ∧ M.1 (aS 18) 10 = nI V.length ∧ ∀ i x, V[i]? = some x → M.1 (aS 25) i = x.1 ∧ M.1 (aS 26) i = x.2
/-- a room put by, in a row of numbers from o on -/
def nR (f : Nat → Int32) (o : Nat) (ρ : pRm) : Prop := f o = ρ.2.2.1 ∧ f (o + 1) = nI ρ.2.2.2.length ∧ (∀ c x, ρ.2.2.2[c]? = some x → f (o + 2 + c) = x.1 ∧ f (o + 9 + c) = x.2.1 ∧ f (o + 16 + c) = x.2.2.1 ∧ f (o + 23 + c) = x.2.2.2) ∧ ∀ t y, ρ.1[t]? = some y → f (o + 30 + t) = y.2
def mL (M : pM) (a k cap : Nat) (L : List pRm) : Prop := L.length ≤ cap ∧ M.1 (aS 18) k = nI L.length ∧ ∀ i ρ, L[i]? = some ρ → nR (M.1 (aS a)) (35 * i) ρ
def mS (M : pM) (S : pS) : Prop := mT M S.1 ∧ mR M S.2.1 ∧ mV M S.2.2.1 ∧ mL M 35 30 8 S.2.2.2.1 ∧ mL M 38 34 2 S.2.2.2.2
theorem mT_cg {M M' : pM} {T : List Int32} (h : mT M T) (h1 : M'.1 (aS 18) 14 = M.1 (aS 18) 14) (h2 : M'.1 (aS 27) = M.1 (aS 27)) : mT M' T := ⟨h.1, h1.trans h.2.1, fun i x hx => by rw [h2]; exact h.2.2 i x hx⟩
theorem mR_cg {M M' : pM} {ρ : pRm} (h : mR M ρ) (h0 : ∀ k, k < 4 → M'.1 (aS 18) k = M.1 (aS 18) k) (h1 : ∀ s, 19 ≤ s → s ≤ 24 → M'.1 (aS s) = M.1 (aS s)) : mR M' ρ := by
  simp only [mR, h0 0 (by omega), h0 1 (by omega), h0 2 (by omega), h0 3 (by omega), h1 19 (by omega) (by omega), h1 20 (by omega) (by omega), h1 21 (by omega) (by omega), h1 22 (by omega) (by omega), h1 23 (by omega) (by omega), h1 24 (by omega) (by omega)]
  exact h
theorem mV_cg {M M' : pM} {V : pSn} (h : mV M V) (h1 : M'.1 (aS 18) 10 = M.1 (aS 18) 10) (h2 : M'.1 (aS 25) = M.1 (aS 25)) (h3 : M'.1 (aS 26) = M.1 (aS 26)) : mV M' V := by
  simp only [mV, h1, h2, h3]
  exact h
theorem mL_cg {M M' : pM} {a k cap : Nat} {L : List pRm} (h : mL M a k cap L) (h1 : M'.1 (aS 18) k = M.1 (aS 18) k) (h2 : M'.1 (aS a) = M.1 (aS a)) : mL M' a k cap L := by
  simp only [mL, h1, h2]
  exact h
/-- cells and slots that questions may change: the reading's, the evening's, the best row, the room aside -/
def chQ (s : Nat) : Bool := (Nat.ble 28 s && Nat.ble s 34) || (Nat.beq s 36 || Nat.beq s 37)
def slQ (k : Nat) : Bool := (Nat.ble 15 k && Nat.ble k 18) || (Nat.beq k 23 || (Nat.beq k 27 || Nat.beq k 28))
theorem mS_q {M M' : pM} {S : pS} (h : mfr chQ slQ M M') (hS : mS M S) : mS M' S := by
  obtain ⟨a1, a2, a3, a4, a5⟩ := hS
  refine ⟨mT_cg a1 (h.2.1 14 rfl) (h.1 27 (by decide) rfl), mR_cg a2 (fun k hk => h.2.1 k ?_) (fun s h1 h2 => h.1 s (by omega) ?_), mV_cg a3 (h.2.1 10 rfl) (h.1 25 (by decide) rfl) (h.1 26 (by decide) rfl), mL_cg a4 (h.2.1 30 rfl) (h.1 35 (by decide) rfl), mL_cg a5 (h.2.1 34 rfl) (h.1 38 (by decide) rfl)⟩
  · rcases (show k = 0 ∨ k = 1 ∨ k = 2 ∨ k = 3 by omega) with rfl | rfl | rfl | rfl <;> rfl
  · rcases (show s = 19 ∨ s = 20 ∨ s = 21 ∨ s = 22 ∨ s = 23 ∨ s = 24 by omega) with rfl | rfl | rfl | rfl | rfl | rfl <;> rfl
theorem chQ_lo : ∀ s, s < 18 → chQ s = false := by decide
theorem n_in {C : pC} (hC : p_Lg true C) {d : Nat} {M : pM} {Q : pQ} {x lo hi : Int32} (h1 : lo ≤ x → x ≤ hi → Q M (some (vI 1))) (h0 : ¬ (lo ≤ x ∧ x ≤ hi) → Q M (some (vI 0))) : C d k_X8_in M [vI x, vI lo, vI hi] Q := by
  refine p_ent hC tb_X8_in _ rfl rfl rfl (fun Z hZ => ?_)
  refine hZ _ _ _ _ (hZ _ _ _ _ ?_)
  show Z 2 _ _ _
  refine hZ _ _ _ _ ⟨fun c1 => ?_, fun c1 => ?_⟩
  · skip
    refine hZ _ _ _ _ ?_
    show Z 15 _ _ _
    refine hZ _ _ _ _ ⟨Or.inl rfl, ?_⟩
    exact h0 (fun q => Int32.not_le.mpr c1 q.1)
  · skip
    refine hZ _ _ _ _ (hZ _ _ _ _ ?_)
    show Z 7 _ _ _
    refine hZ _ _ _ _ ⟨fun c2 => ?_, fun c2 => ?_⟩
    · skip
      refine hZ _ _ _ _ ?_
      show Z 15 _ _ _
      refine hZ _ _ _ _ ⟨Or.inl rfl, ?_⟩
      exact h0 (fun q => Int32.not_le.mpr c2 q.2)
    · skip
      refine hZ _ _ _ _ (hZ _ _ _ _ ?_)
      show Z 15 _ _ _
      refine hZ _ _ _ _ ⟨Or.inr rfl, ?_⟩
      exact h1 (Int32.not_lt.mp c1) (Int32.not_lt.mp c2)
theorem n_has {C : pC} (hC : p_Lg true C) {d : Nat} {M : pM} {Q : pQ} {x i : Int32} (h1 : bt1 x i = 1 → Q M (some (vI 1))) (h0 : ¬ bt1 x i = 1 → Q M (some (vI 0))) : C d k_X8_has M [vI x, vI i] Q := by
  refine p_ent hC tb_X8_has _ rfl rfl rfl (fun Z hZ => ?_)
  refine hZ _ _ _ _ (hZ _ _ _ _ (hZ _ _ _ _ (hZ _ _ _ _ (hZ _ _ _ _ (hZ _ _ _ _ ?_)))))
  show Z 6 _ _ _
  refine hZ _ _ _ _ ⟨fun c1 => ?_, fun c1 => ?_⟩
  · skip
    refine hZ _ _ _ _ ?_
    show Z 14 _ _ _
    refine hZ _ _ _ _ ⟨Or.inl rfl, ?_⟩
    exact h0 c1
  · skip
    refine hZ _ _ _ _ (hZ _ _ _ _ ?_)
    show Z 14 _ _ _
    refine hZ _ _ _ _ ⟨Or.inr rfl, ?_⟩
    exact h1 c1
def mb (x : Int32) : Nat → Int32
  | 0 => 0
  | n + 1 => mb x n + bt1 x (nI n)
theorem n_bits {C : pC} (hC : p_Lg true C) {d : Nat} {M : pM} {Q : pQ} {x : Int32} (h : Q M (some (vI (mb x 7)))) : C d k_X8_bits M [vI x] Q := by
  refine p_ent hC tb_X8_bits _ rfl rfl rfl (fun Z hZ => ?_)
  refine hZ _ _ _ _ (hZ _ _ _ _ (hZ _ _ _ _ (hZ _ _ _ _ ?_)))
  show Z 4 _ _ _
  have loop : ∀ (n i : Nat), i + n = 7 → Z 4 [some (vI x), some (vI (mb x i)), some (vI (nI i))] [] M := by
    intro n
    induction n with
    | zero =>
      intro i e
      have : i = 7 := by omega
      subst this
      refine hZ _ _ _ _ (hZ _ _ _ _ ?_)
      show Z 7 _ _ _
      refine hZ _ _ _ _ (br_t (Int32.le_refl _) ?_)
      refine hZ _ _ _ _ ?_
      show Z 25 _ _ _
      refine hZ _ _ _ _ ?_
      exact h
    | succ n ih =>
      intro i e
      have step := ih (i + 1) (by omega)
      rw [← nI_1] at step
      refine hZ _ _ _ _ (hZ _ _ _ _ ?_)
      show Z 7 _ _ _
      refine hZ _ _ _ _ (br_f (nI_ge (a := i) (b := 7) (by omega) (by omega)) ?_)
      refine hZ _ _ _ _ (hZ _ _ _ _ (hZ _ _ _ _ (hZ _ _ _ _ (hZ _ _ _ _ (hZ _ _ _ _ (hZ _ _ _ _ (hZ _ _ _ _ (hZ _ _ _ _ (hZ _ _ _ _ ?_)))))))))
      show Z 4 _ _ _
      exact step
  exact loop 7 0 rfl
theorem bc_mb : ∀ n : Fin 128, bc (nI n.val) = mb (nI n.val) 7 := by decide +kernel
theorem i_one {n : Nat} {x : Int32} (hn : n < 2 ^ 31) : (0 ≤ x ∧ x ≤ nI n - 1) → ∃ k, ix x n = some k ∧ k < n ∧ x = nI k := by
  intro h
  refine ix_some hn (Int32.not_lt.mpr h.1) (fun q => ?_)
  rcases n with _ | n
  · have := h.2
    have h1 := h.1
    rw [show nI 0 - 1 = -1 from rfl] at this
    grind
  · rw [nI_pred] at h
    have := Int32.le_trans q h.2
    exact absurd this (nI_ge (by omega) hn)
theorem i_non {n : Nat} {x : Int32} (hn : n < 2 ^ 31) (h : ¬ (0 ≤ x ∧ x ≤ nI n - 1)) : ix x n = none := by
  by_cases h1 : x < 0
  · exact ix_none1 h1
  · refine ix_none2 ?_
    rcases n with _ | n
    · exact Int32.not_lt.mp h1
    · rw [nI_pred] at h
      obtain ⟨k, hk, e⟩ := nI_of h1
      subst e
      refine nI_le ?_ hk
      rcases Nat.lt_or_ge n k with q | q
      · exact q
      · exact absurd ⟨nI_pos' hk, nI_le q (by omega)⟩ h
theorem n_isTeller {C : pC} (hC : p_Lg true C) {d : Nat} {M : pM} {Q : pQ} {ρ : pRm} {x : Int32} (hd : 1 ≤ d) (hR : mR M ρ) (ok : okR ρ) (h1 : ∀ k, ix x ρ.1.length = some k → k < ρ.1.length → x = nI k → Q M (some (vI 1))) (h0 : ix x ρ.1.length = none → Q M (some (vI 0))) : C d k_X8_isTeller M [vR (aS 18), vI x] Q := by
  have l1 := ok.1
  have l2 := ok.2.1
  have l3 := ok.2.2.1
  refine p_ent hC tb_X8_isTeller _ rfl rfl rfl (fun Z hZ => ?_)
  refine hZ _ _ _ _ (hZ _ _ _ _ (hZ _ _ _ _ (hZ _ _ _ _ (hZ _ _ _ _ (hZ _ _ _ _ ?_)))))
  show Z 8 _ _ _
  rw [hR.1]
  refine hZ _ _ _ _ ⟨d - 1, by omega, n_in hC (fun c1 c2 => ?_) (fun c1 => ?_)⟩
  · skip
    refine hZ _ _ _ _ ⟨Or.inr rfl, ?_⟩
    obtain ⟨k, e1, e2, e3⟩ := i_one (n := ρ.1.length) (by omega) ⟨c1, c2⟩
    exact h1 k e1 e2 e3
  · skip
    refine hZ _ _ _ _ ⟨Or.inl rfl, ?_⟩
    exact h0 (i_non (by omega) c1)
theorem n_isFact {C : pC} (hC : p_Lg true C) {d : Nat} {M : pM} {Q : pQ} {ρ : pRm} {x : Int32} (hd : 1 ≤ d) (hR : mR M ρ) (ok : okR ρ) (h1 : ∀ k, ix x ρ.2.1 = some k → k < ρ.2.1 → x = nI k → Q M (some (vI 1))) (h0 : ix x ρ.2.1 = none → Q M (some (vI 0))) : C d k_X8_isFact M [vR (aS 18), vI x] Q := by
  have l1 := ok.1
  have l2 := ok.2.1
  have l3 := ok.2.2.1
  refine p_ent hC tb_X8_isFact _ rfl rfl rfl (fun Z hZ => ?_)
  refine hZ _ _ _ _ (hZ _ _ _ _ (hZ _ _ _ _ (hZ _ _ _ _ (hZ _ _ _ _ (hZ _ _ _ _ ?_)))))
  show Z 8 _ _ _
  rw [hR.2.1]
  refine hZ _ _ _ _ ⟨d - 1, by omega, n_in hC (fun c1 c2 => ?_) (fun c1 => ?_)⟩
  · skip
    refine hZ _ _ _ _ ⟨Or.inr rfl, ?_⟩
    obtain ⟨k, e1, e2, e3⟩ := i_one (n := ρ.2.1) (by omega) ⟨c1, c2⟩
    exact h1 k e1 e2 e3
  · skip
    refine hZ _ _ _ _ ⟨Or.inl rfl, ?_⟩
    exact h0 (i_non (by omega) c1)
theorem n_isClaim {C : pC} (hC : p_Lg true C) {d : Nat} {M : pM} {Q : pQ} {ρ : pRm} {x : Int32} (hd : 1 ≤ d) (hR : mR M ρ) (ok : okR ρ) (h1 : ∀ k, ix x ρ.2.2.2.length = some k → k < ρ.2.2.2.length → x = nI k → Q M (some (vI 1))) (h0 : ix x ρ.2.2.2.length = none → Q M (some (vI 0))) : C d k_X8_isClaim M [vR (aS 18), vI x] Q := by
  have l1 := ok.1
  have l2 := ok.2.1
  have l3 := ok.2.2.1
  refine p_ent hC tb_X8_isClaim _ rfl rfl rfl (fun Z hZ => ?_)
  refine hZ _ _ _ _ (hZ _ _ _ _ (hZ _ _ _ _ (hZ _ _ _ _ (hZ _ _ _ _ (hZ _ _ _ _ ?_)))))
  show Z 8 _ _ _
  rw [hR.2.2.1]
  refine hZ _ _ _ _ ⟨d - 1, by omega, n_in hC (fun c1 c2 => ?_) (fun c1 => ?_)⟩
  · skip
    refine hZ _ _ _ _ ⟨Or.inr rfl, ?_⟩
    obtain ⟨k, e1, e2, e3⟩ := i_one (n := ρ.2.2.2.length) (by omega) ⟨c1, c2⟩
    exact h1 k e1 e2 e3
  · skip
    refine hZ _ _ _ _ ⟨Or.inl rfl, ?_⟩
    exact h0 (i_non (by omega) c1)
theorem n_write {C : pC} (hC : p_Lg true C) {d : Nat} {M : pM} {Q : pQ} {S : pS} {x : Int32} (hd : 1 ≤ d) (hS : mS M S) (h : ∀ M', mfr (Nat.beq 27) (Nat.beq 14) M M' → mS M' (sp_write S x).1 → Q M' (some (vI (sp_write S x).2))) : C d k_X8_write M [vR (aS 18), vI x] Q := by
  obtain ⟨⟨l1, a1, a2⟩, a3, a4, a5, a6⟩ := hS
  refine p_ent hC tb_X8_write _ rfl rfl rfl (fun Z hZ => ?_)
  refine hZ _ _ _ _ (hZ _ _ _ _ (hZ _ _ _ _ ?_))
  show Z 5 _ _ _
  refine hZ _ _ _ _ ⟨d - 1, by omega, n_in hC (fun b1 b2 => ?_) (fun b1 => ?_)⟩
  · skip
    refine hZ _ _ _ _ (p_tn (by decide) ?_)
    refine hZ _ _ _ _ (hZ _ _ _ _ (hZ _ _ _ _ ?_))
    show Z 20 _ _ _
    rw [a1]
    by_cases hlt : S.1.length < 200
    · refine hZ _ _ _ _ (p_tn (by intro q; have := (nI_eq (a := S.1.length) (b := 200) (by omega) (by omega)).mp q; omega) ?_)
      refine hZ _ _ _ _ (hZ _ _ _ _ (hZ _ _ _ _ (hZ _ _ _ _ (hZ _ _ _ _ ?_))))
      show Z 35 _ _ _
      rw [a1]
      refine hZ _ _ _ _ ⟨vp_in_nI (N := 200) hlt (by omega), ?_⟩
      refine hZ _ _ _ _ (hZ _ _ _ _ (hZ _ _ _ _ (hZ _ _ _ _ (hZ _ _ _ _ (hZ _ _ _ _ (hZ _ _ _ _ (hZ _ _ _ _ ?_)))))))
      show Z 50 _ _ _
      refine hZ _ _ _ _ ?_
      rw [nI_clamp (by omega)]
      have := h _ (mfr_fd (k := 14) (x := M.1 (aS 18) 14 + 1) (mfr_wr (s := 27) (k := S.1.length) (x := x) mfr_rf (by decide) rfl) rfl)
      simp only [sp_write, if_pos (And.intro b1 b2), if_pos hlt] at this
      have e9 : (p_wr (p_wr M (aS 27) S.1.length x) (aS 18) 14 (M.1 (aS 18) 14 + 1)).1 (aS 18) 14 = nI (S.1.length + 1) := by
        rw [p_wr_eq]
        show M.1 (aS 18) 14 + 1 = _
        rw [a1, nI_1]
      show Q _ (some (vI ((p_wr (p_wr M (aS 27) S.1.length x) (aS 18) 14 (M.1 (aS 18) 14 + 1)).1 (aS 18) 14)))
      rw [e9]
      refine this ⟨⟨by simp; omega, by rw [e9]; simp, fun i y hy => ?_⟩, mR_cg a3 (fun k hk => ?_) (fun s h1 h2 => ?_), mV_cg a4 rfl rfl rfl, mL_cg a5 rfl rfl, mL_cg a6 rfl rfl⟩
      · show (p_wr M (aS 27) S.1.length x).1 (aS 27) i = y
        rw [p_wr_eq]
        by_cases e : i < S.1.length
        · rw [List.getElem?_append_left e] at hy
          simp only [upd, if_neg (show ¬ i = S.1.length by omega)]
          exact a2 i y hy
        · rw [List.getElem?_append_right (by omega)] at hy
          have := (List.getElem?_eq_some_iff.mp hy).1
          simp at this
          have e2 : i = S.1.length := by omega
          subst e2
          simp at hy
          simp [upd, hy]
      · rcases (show k = 0 ∨ k = 1 ∨ k = 2 ∨ k = 3 by omega) with rfl | rfl | rfl | rfl <;> rfl
      · rcases (show s = 19 ∨ s = 20 ∨ s = 21 ∨ s = 22 ∨ s = 23 ∨ s = 24 by omega) with rfl | rfl | rfl | rfl | rfl | rfl <;> rfl
    · skip
      have e200 : S.1.length = 200 := by omega
      refine hZ _ _ _ _ (p_fn (by rw [e200]; rfl) ?_)
      refine hZ _ _ _ _ ?_
      show Z 25 _ _ _
      refine hZ _ _ _ _ ?_
      have := h M mfr_rf
      simp only [sp_write, if_pos (And.intro b1 b2), if_neg hlt] at this
      exact this ⟨⟨l1, a1, a2⟩, a3, a4, a5, a6⟩
  · skip
    refine hZ _ _ _ _ (p_fn (rfl) ?_)
    refine hZ _ _ _ _ ?_
    show Z 12 _ _ _
    refine hZ _ _ _ _ ?_
    have := h M mfr_rf
    simp only [sp_write, if_neg b1] at this
    exact this ⟨⟨l1, a1, a2⟩, a3, a4, a5, a6⟩
theorem n_wipe {C : pC} (hC : p_Lg true C) {d : Nat} {M : pM} {Q : pQ} {S : pS} (hS : mS M S) (h : ∀ M', mfr (Nat.beq 27) (Nat.beq 14) M M' → mS M' (sp_wipe S).1 → Q M' (some (vI (sp_wipe S).2))) : C d k_X8_wipe M [vR (aS 18)] Q := by
  obtain ⟨⟨l1, a1, a2⟩, a3, a4, a5, a6⟩ := hS
  refine p_ent hC tb_X8_wipe _ rfl rfl rfl (fun Z hZ => ?_)
  refine hZ _ _ _ _ (hZ _ _ _ _ (hZ _ _ _ _ (hZ _ _ _ _ (hZ _ _ _ _ (hZ _ _ _ _ (hZ _ _ _ _ ?_))))))
  show Z 11 _ _ _
  refine hZ _ _ _ _ ?_
  rw [a1]
  refine h _ (mfr_fd mfr_rf rfl) ⟨⟨by simp [sp_wipe], rfl, fun i x hx => by simp [sp_wipe] at hx⟩, mR_cg a3 (fun k hk => ?_) (fun s h1 h2 => ?_), mV_cg a4 rfl rfl rfl, mL_cg a5 rfl rfl, mL_cg a6 rfl rfl⟩
  · rcases (show k = 0 ∨ k = 1 ∨ k = 2 ∨ k = 3 by omega) with rfl | rfl | rfl | rfl <;> rfl
  · rcases (show s = 19 ∨ s = 20 ∨ s = 21 ∨ s = 22 ∨ s = 23 ∨ s = 24 by omega) with rfl | rfl | rfl | rfl | rfl | rfl <;> rfl
theorem n_here {C : pC} (hC : p_Lg true C) {d : Nat} {M : pM} {Q : pQ} {T : List Int32} {p : Nat} (hT : mT M T) (hp : M.1 (aS 18) 15 = nI p) (hp9 : p < 2 ^ 31) (h : Q M (some (vI (pk T p)))) : C d k_X8_here M [vR (aS 18)] Q := by
  obtain ⟨l1, a1, a2⟩ := hT
  refine p_ent hC tb_X8_here _ rfl rfl rfl (fun Z hZ => ?_)
  refine hZ _ _ _ _ (hZ _ _ _ _ (hZ _ _ _ _ (hZ _ _ _ _ ?_)))
  show Z 8 _ _ _
  rw [a1, hp]
  refine hZ _ _ _ _ ⟨fun c1 => ?_, fun c1 => ?_⟩
  · skip
    have hge := (nI_leI (a := T.length) (b := p) (by omega) hp9).mp c1
    refine hZ _ _ _ _ ?_
    show Z 24 _ _ _
    refine hZ _ _ _ _ ?_
    rw [pk, List.getElem?_eq_none hge] at h
    exact h
  · skip
    have hlt : p < T.length := by
      have := mt (nI_leI (a := T.length) (b := p) (by omega) hp9).mpr c1
      omega
    refine hZ _ _ _ _ (hZ _ _ _ _ (hZ _ _ _ _ (hZ _ _ _ _ ?_)))
    show Z 19 _ _ _
    rw [hp]
    refine hZ _ _ _ _ ⟨vp_in_nI (N := 200) (by omega) (by omega), ?_⟩
    refine hZ _ _ _ _ ?_
    show Z 24 _ _ _
    refine hZ _ _ _ _ ?_
    rw [nI_clamp (by omega)]
    rw [pk, List.getElem?_eq_getElem hlt] at h
    rw [a2 p _ (List.getElem?_eq_getElem hlt)]
    exact h
theorem n_isFigure {C : pC} (hC : p_Lg true C) {d : Nat} {M : pM} {Q : pQ} {T : List Int32} {p : Nat} (hd : 1 ≤ d) (hT : mT M T) (hp : M.1 (aS 18) 15 = nI p) (hp9 : p < 2 ^ 31) (h1 : fig (pk T p) = true → Q M (some (vI 1))) (h0 : fig (pk T p) = false → Q M (some (vI 0))) : C d k_X8_isFigure M [vR (aS 18)] Q := by
  refine p_ent hC tb_X8_isFigure _ rfl rfl rfl (fun Z hZ => ?_)
  refine hZ _ _ _ _ ?_
  show Z 1 _ _ _
  refine hZ _ _ _ _ ⟨d - 1, by omega, n_here hC hT hp hp9 ?_⟩
  refine hZ _ _ _ _ (hZ _ _ _ _ ?_)
  show Z 8 _ _ _
  refine hZ _ _ _ _ ⟨d - 1, by omega, n_in hC (fun c1 c2 => ?_) (fun c1 => ?_)⟩
  · skip
    refine hZ _ _ _ _ ⟨Or.inr rfl, ?_⟩
    exact h1 (decide_eq_true ⟨c1, c2⟩)
  · skip
    refine hZ _ _ _ _ ⟨Or.inl rfl, ?_⟩
    exact h0 (decide_eq_false c1)
def slN (k : Nat) : Bool := Nat.beq k 15 || Nat.beq k 23
theorem n_number {C : pC} (hC : p_Lg true C) {d : Nat} {M : pM} {Q : pQ} {T : List Int32} {p : Nat} {lo hi e : Int32} (hd : 2 ≤ d) (hT : mT M T) (hp : M.1 (aS 18) 15 = nI p) (hp9 : p ≤ 1000) (h1 : ∀ v q, rd1 T p e = some (v, q) → lo ≤ v → v ≤ hi → ∀ M', mfr no slN M M' → M'.1 (aS 18) 15 = nI q → M'.1 (aS 18) 23 = v → Q M' (some (vI 1))) (h0 : (∀ v q, rd1 T p e = some (v, q) → ¬ (lo ≤ v ∧ v ≤ hi)) → ∀ M', mfr no slN M M' → Q M' (some (vI 0))) : C d k_X8_number M [vR (aS 18), vI lo, vI hi, vI e] Q := by
  refine p_ent hC tb_X8_number _ rfl rfl rfl (fun Z hZ => ?_)
  refine hZ _ _ _ _ ?_
  show Z 1 _ _ _
  refine hZ _ _ _ _ ⟨d - 1, by omega, n_isFigure hC (by omega) hT hp (by omega) (fun g1 => ?_) (fun g1 => ?_)⟩
  · skip
    refine hZ _ _ _ _ (p_tn (by decide) ?_)
    refine hZ _ _ _ _ ?_
    show Z 10 _ _ _
    refine hZ _ _ _ _ ⟨d - 1, by omega, n_here hC hT hp (by omega) ?_⟩
    refine hZ _ _ _ _ (hZ _ _ _ _ (hZ _ _ _ _ (hZ _ _ _ _ (hZ _ _ _ _ (hZ _ _ _ _ (hZ _ _ _ _ (hZ _ _ _ _ (hZ _ _ _ _ (hZ _ _ _ _ ?_)))))))))
    show Z 29 _ _ _
    have tail : ∀ (v : Int32) (q : Nat) (M4 : pM), q ≤ p + 2 → (rd1 T p e = if pk T q = e then some (v, q + 1) else none) → mfr no slN M M4 → mT M4 T → M4.1 (aS 18) 15 = nI q → Z 60 [some (vR (aS 18)), some (vI lo), some (vI hi), some (vI e), some (vI v)] [] M4 := by
      intro v q M4 hq hrd j1 j2 j3
      refine hZ _ _ _ _ (hZ _ _ _ _ (hZ _ _ _ _ (hZ _ _ _ _ ?_)))
      show Z 67 _ _ _
      refine hZ _ _ _ _ ⟨d - 1, by omega, n_here hC (mT_cg j2 rfl rfl) j3 (by omega) ?_⟩
      refine hZ _ _ _ _ ?_
      show Z 71 _ _ _
      by_cases c1 : pk T q = e
      · rw [if_pos c1] at hrd
        refine hZ _ _ _ _ (p_fn (c1) ?_)
        refine hZ _ _ _ _ (hZ _ _ _ _ (hZ _ _ _ _ ?_))
        show Z 78 _ _ _
        refine hZ _ _ _ _ ⟨d - 1, by omega, n_in hC (fun u1 u2 => ?_) (fun u1 => ?_)⟩
        · skip
          refine hZ _ _ _ _ (p_tn (by decide) ?_)
          refine hZ _ _ _ _ (hZ _ _ _ _ (hZ _ _ _ _ (hZ _ _ _ _ (hZ _ _ _ _ (hZ _ _ _ _ (hZ _ _ _ _ ?_))))))
          show Z 97 _ _ _
          refine hZ _ _ _ _ ⟨Or.inr rfl, ?_⟩
          refine h1 v (q + 1) hrd u1 u2 _ (mfr_fd (mfr_fd j1 rfl) rfl) ?_ rfl
          rw [p_wr_eq]
          show M4.1 (aS 18) 15 + 1 = _
          rw [j3, nI_1]
        · skip
          refine hZ _ _ _ _ (p_fn (rfl) ?_)
          refine hZ _ _ _ _ ?_
          show Z 85 _ _ _
          refine hZ _ _ _ _ ⟨Or.inl rfl, ?_⟩
          exact h0 (fun v' q' hv => by rw [hrd] at hv; cases hv; exact u1) _ (mfr_fd j1 rfl)
      · skip
        rw [if_neg c1] at hrd
        refine hZ _ _ _ _ (p_tn (c1) ?_)
        refine hZ _ _ _ _ ?_
        show Z 85 _ _ _
        refine hZ _ _ _ _ ⟨Or.inl rfl, ?_⟩
        exact h0 (fun v' q' hv => by rw [hrd] at hv; cases hv) _ (mfr_fd j1 rfl)
    have hp3 : (p_wr M (aS 18) 15 (M.1 (aS 18) 15 + 1)).1 (aS 18) 15 = nI (p + 1) := by
      rw [p_wr_eq]
      show M.1 (aS 18) 15 + 1 = _
      rw [hp, nI_1]
    have hT3 : mT (p_wr M (aS 18) 15 (M.1 (aS 18) 15 + 1)) T := mT_cg hT rfl rfl
    refine hZ _ _ _ _ ⟨d - 1, by omega, n_isFigure hC (by omega) hT3 hp3 (by omega) (fun g2 => ?_) (fun g2 => ?_)⟩
    · skip
      refine hZ _ _ _ _ (br_f (by decide) ?_)
      refine hZ _ _ _ _ (hZ _ _ _ _ (hZ _ _ _ _ (hZ _ _ _ _ ?_)))
      show Z 41 _ _ _
      refine hZ _ _ _ _ ⟨d - 1, by omega, n_here hC hT3 hp3 (by omega) ?_⟩
      refine hZ _ _ _ _ (hZ _ _ _ _ (hZ _ _ _ _ (hZ _ _ _ _ (hZ _ _ _ _ (hZ _ _ _ _ (hZ _ _ _ _ (hZ _ _ _ _ (hZ _ _ _ _ (hZ _ _ _ _ ?_)))))))))
      show Z 60 _ _ _
      refine tail _ (p + 2) _ (Nat.le_refl _) (by simp only [rd1, g1, g2, if_true]) (mfr_fd (mfr_fd mfr_rf rfl) rfl) (mT_cg hT3 rfl rfl) ?_
      rw [p_wr_eq]
      show (p_wr M (aS 18) 15 (M.1 (aS 18) 15 + 1)).1 (aS 18) 15 + 1 = _
      rw [hp3, nI_1]
    · skip
      refine hZ _ _ _ _ (br_t (rfl) ?_)
      exact tail _ (p + 1) _ (by omega) (by simp only [rd1, g1, g2, if_true]; rfl) (mfr_fd mfr_rf rfl) hT3 hp3
  · skip
    refine hZ _ _ _ _ (p_fn (rfl) ?_)
    refine hZ _ _ _ _ ?_
    show Z 8 _ _ _
    refine hZ _ _ _ _ ⟨Or.inl rfl, ?_⟩
    exact h0 (fun v q hv => by simp [rd1, g1] at hv) M mfr_rf
