/-! the model: next, the call -/
theorem mE_dr {M : pM} {ρ : pRm} {E : pE} (hE : mE M ρ E) (hI : evI ρ E) (ok : okR ρ) {t n : Nat} (ht : t < ρ.1.length) (hn : n < 7) : M.1 (aS 33) t = nI n ↔ E.2.2.2 t = nI n := by
  have l1 := ok.1
  rw [hE.2.2.2 t ht]
  rcases hI.2.2.2.1 t (by omega) with ⟨a, b, c, c1, c2⟩ | ⟨a, b⟩
  · rw [if_pos a]
  · rw [if_neg (by rw [a]; decide), b]
    exact ⟨fun q => absurd q.symm (nI_n4 (by omega)), fun q => absurd ((nI_eq (a := 7) (b := n) (by omega) (by omega)).mp q) (by omega)⟩
theorem n_wdrop {C : pC} (hC : p_Lg true C) {d : Nat} {M : pM} {Q : pQ} {S : pS} {t f w : Int32} {k : Nat} {g : Nat → Bool} (hS : mS M S) (ok : okS S) (ek : t = nI k) (hk : k < S.2.1.1.length) (hlt : S.2.1.2.2.2.length < 7) (ha : alw S.2.1 t f 1 w = true) (hg : g = fun i => fit (wR S.2.1 i) S.2.2.1) {Z : pX} (hd : 4 ≤ d) (hZ : p_Cl true C tb_X8_next d Q Z) (x3 b4 b5 : Int32) (x10 : Option pV) (fin : ∀ M3, nxF S.2.1.2.2.2.length M M3 → Z 160 [some (vR (aS 18)), some (vI t), some (vI w), some (vI x3), some (vI b4), some (vI b5), some (vI f), some (vI (nI (hN S.2.1 g k t f w (2 ^ S.2.1.2.1)))), some (vI (nI (cn g (2 ^ S.2.1.2.1)))), some (vI (nI (2 ^ S.2.1.2.1))), x10] [] M3) : ∀ (n i : Nat) (M2 : pM), i + n = 2 ^ S.2.1.2.1 → nxF S.2.1.2.2.2.length M M2 → Z 66 [some (vR (aS 18)), some (vI t), some (vI w), some (vI x3), some (vI b4), some (vI b5), some (vI f), some (vI (nI (hN S.2.1 g k t f w i))), some (vI (nI (cn g i))), some (vI (nI i)), x10] [] M2 := by
  have l1 := ok.1.1
  have l2 := ok.1.2.1
  obtain ⟨p1, p2, p3⟩ := pw8 ⟨S.2.1.2.1, by omega⟩
  simp only at p1 p2 p3
  have R := hS.2.1
  intro n
  induction n with
  | zero =>
    intro i M2 e1 f1
    have : i = 2 ^ S.2.1.2.1 := by omega
    subst this
    refine hZ _ _ _ _ (hZ _ _ _ _ (hZ _ _ _ _ (hZ _ _ _ _ (hZ _ _ _ _ ?_))))
    show Z 74 _ _ _
    rw [f1.1.2.1 1 rfl, R.2.1, p1]
    refine hZ _ _ _ _ (br_t (Int32.le_refl _) ?_)
    exact fin M2 f1
  | succ n ih =>
    intro i M2 e1 f1
    refine hZ _ _ _ _ (hZ _ _ _ _ (hZ _ _ _ _ (hZ _ _ _ _ (hZ _ _ _ _ ?_))))
    show Z 74 _ _ _
    rw [f1.1.2.1 1 rfl, R.2.1, p1]
    refine hZ _ _ _ _ (br_f (nI_ge (by omega) (by omega)) ?_)
    refine hZ _ _ _ _ (hZ _ _ _ _ (hZ _ _ _ _ (hZ _ _ _ _ ?_)))
    show Z 84 _ _ _
    have F3 := nxF_t (x := nI i) f1
    have G3 : (p_wr M2 (aS 18) 3 (nI i)).1 (aS 18) 3 = nI i := by rw [p_wr_eq, us]
    generalize p_wr M2 (aS 18) 3 (nI i) = M3 at F3 G3 ⊢
    have R3 : mR M3 (wR S.2.1 i) := mR_x R F3 G3
    have V3 : mV M3 S.2.2.1 := mV_cg hS.2.2.1 (F3.1.2.1 10 rfl) (F3.1.1 25 (by decide) rfl) (F3.1.1 26 (by decide) rfl)
    refine hZ _ _ _ _ ⟨d - 1, by omega, n_isSo hC (by omega) V3 R3 (okR_w ok.1 (by omega)) ok.2.2.2.1 (fun q M4 g1 => ?_) (fun q M4 g1 => ?_)⟩
    · skip
      have qf : g i = true := by rw [hg]; exact q
      have F4 : nxF S.2.1.2.2.2.length M M4 := F3.tr (nxF_W g1)
      have R4 : mR M4 (wR S.2.1 i) := mR_W g1 R3
      have s4 : M4.1 (aS 18) 2 = nI S.2.1.2.2.2.length := R4.2.2.1
      refine hZ _ _ _ _ (br_f (by decide) ?_)
      refine hZ _ _ _ _ (hZ _ _ _ _ (hZ _ _ _ _ (hZ _ _ _ _ (hZ _ _ _ _ (hZ _ _ _ _ (hZ _ _ _ _ (hZ _ _ _ _ ?_)))))))
      show Z 103 _ _ _
      rw [s4]
      refine hZ _ _ _ _ ⟨d - 1, by omega, n_sets2 hC S.2.1.2.2.2.length rfl (by omega) (fun M5 j1 j2 j3 j4 j5 => ?_)⟩
      refine hZ _ _ _ _ (hZ _ _ _ _ (hZ _ _ _ _ (hZ _ _ _ _ (hZ _ _ _ _ (hZ _ _ _ _ (hZ _ _ _ _ (hZ _ _ _ _ ?_)))))))
      show Z 118 _ _ _
      rw [j1.2.1 2 rfl, s4, show nI S.2.1.2.2.2.length + 1 = nI (S.2.1.2.2.2.length + 1) from nI_1 _]
      have R6 := mR_put (ρ := wR S.2.1 i) (M3 := p_wr M5 (aS 18) 2 (nI (S.2.1.2.2.2.length + 1))) R4 j1 j2 j3 j4 j5 rfl
      have F5 : mfr chX slX M M5 := F4.1.tr (j1.mono ch4_X (fun _ _ => rfl))
      have F6 : mfr chX slX M (p_wr M5 (aS 18) 2 (nI (S.2.1.2.2.2.length + 1))) := mfr_fd F5 rfl
      have G6 : ∀ s, s ≠ 18 → (p_wr M5 (aS 18) 2 (nI (S.2.1.2.2.2.length + 1))).1 (aS s) = M5.1 (aS s) := fun s hs => p_wr_ne (fun z => hs (Sum.inl.inj z))
      have G6' : (p_wr M5 (aS 18) 2 (nI (S.2.1.2.2.2.length + 1))).1 (aS 18) 2 = nI (S.2.1.2.2.2.length + 1) := by rw [p_wr_eq, us]
      generalize p_wr M5 (aS 18) 2 (nI (S.2.1.2.2.2.length + 1)) = M6 at R6 F6 G6 G6' ⊢
      have ok6 : okR (adR (wR S.2.1 i) t f 1 w) := okR_w (ρ := adR S.2.1 t f 1 w) (okR_addC ok.1 hlt ha) (by show i < 2 ^ S.2.1.2.1; omega)
      refine hZ _ _ _ _ ⟨d - 1, by omega, n_plain hC (by omega) R6 ok6 (fun M7 h1 h2 => ?_)⟩
      refine hZ _ _ _ _ (hZ _ _ _ _ (hZ _ _ _ _ (hZ _ _ _ _ (hZ _ _ _ _ (hZ _ _ _ _ (hZ _ _ _ _ (hZ _ _ _ _ (hZ _ _ _ _ (hZ _ _ _ _ ?_)))))))))
      show Z 138 _ _ _
      rw [h1.2.1 2 rfl, G6', show nI (S.2.1.2.2.2.length + 1) - 1 = nI S.2.1.2.2.2.length from nI_pred _]
      have F8 : mfr chX slX M (p_wr M7 (aS 18) 2 (nI S.2.1.2.2.2.length)) := mfr_fd (F6.tr (h1.mono chW_X (fun k z => slE_T k (slT_X k z)))) rfl
      have G8 : (p_wr M7 (aS 18) 2 (nI S.2.1.2.2.2.length)).1 (aS 18) 2 = nI S.2.1.2.2.2.length := by rw [p_wr_eq, us]
      have G8' : ∀ s, s ≠ 18 → (p_wr M7 (aS 18) 2 (nI S.2.1.2.2.2.length)).1 (aS s) = M7.1 (aS s) := fun s hs => p_wr_ne (fun z => hs (Sum.inl.inj z))
      have N8 : nxF S.2.1.2.2.2.length M (p_wr M7 (aS 18) 2 (nI S.2.1.2.2.2.length)) := by
        refine ⟨F8, G8.trans R.2.2.1.symm, in4' (fun j hj => ?_) (fun j hj => ?_) (fun j hj => ?_) (fun j hj => ?_)⟩
        · rw [G8' 21 (by decide), h1.1 21 (by decide) rfl, G6 21 (by decide), j2, un (by omega)]; exact F4.2.2 21 (by omega) (by omega) j hj
        · rw [G8' 22 (by decide), h1.1 22 (by decide) rfl, G6 22 (by decide), j3, un (by omega)]; exact F4.2.2 22 (by omega) (by omega) j hj
        · rw [G8' 23 (by decide), h1.1 23 (by decide) rfl, G6 23 (by decide), j4, un (by omega)]; exact F4.2.2 23 (by omega) (by omega) j hj
        · rw [G8' 24 (by decide), h1.1 24 (by decide) rfl, G6 24 (by decide), j5, un (by omega)]; exact F4.2.2 24 (by omega) (by omega) j hj
      have dr := mE_dr h2 (ev_I ok6) ok6 (t := k) (n := S.2.1.2.2.2.length) hk hlt
      rw [← G8' 33 (by decide)] at dr
      generalize p_wr M7 (aS 18) 2 (nI S.2.1.2.2.2.length) = M8 at F8 G8 N8 dr ⊢
      have step := ih (i + 1) M8 (by omega) N8
      have u1 : cn g (i + 1) = cn g i + 1 := if_pos qf
      rw [u1, ← nI_1, ← nI_1] at step
      subst ek
      refine hZ _ _ _ _ ⟨vp_in_nI (N := 5) (by omega) (by omega), ?_⟩
      rw [nI_clamp (by omega)]
      refine hZ _ _ _ _ (hZ _ _ _ _ ?_)
      show Z 143 _ _ _
      rw [G8]
      by_cases z : M8.1 (aS 33) k = nI S.2.1.2.2.2.length
      · refine hZ _ _ _ _ (p_fn (z) ?_)
        refine hZ _ _ _ _ (hZ _ _ _ _ (hZ _ _ _ _ (hZ _ _ _ _ (hZ _ _ _ _ (hZ _ _ _ _ ?_)))))
        show Z 66 _ _ _
        have u2 : hN S.2.1 g k (nI k) f w (i + 1) = hN S.2.1 g k (nI k) f w i + 1 := if_pos ⟨qf, dr.mp z⟩
        rw [u2, ← nI_1] at step
        exact step
      · skip
        refine hZ _ _ _ _ (p_tn (z) ?_)
        refine hZ _ _ _ _ (hZ _ _ _ _ (hZ _ _ _ _ (hZ _ _ _ _ (hZ _ _ _ _ ?_))))
        show Z 66 _ _ _
        have u2 : hN S.2.1 g k (nI k) f w (i + 1) = hN S.2.1 g k (nI k) f w i := if_neg (fun y => z (dr.mpr y.2))
        rw [u2] at step
        rw [Int32.add_zero]
        exact step
    · skip
      have qf : ¬ g i = true := by rw [hg]; show ¬ fit _ _ = true; rw [q]; decide
      have step := ih (i + 1) M4 (by omega) (F3.tr (nxF_W g1))
      have u1 : cn g (i + 1) = cn g i := if_neg qf
      have u2 : hN S.2.1 g k t f w (i + 1) = hN S.2.1 g k t f w i := if_neg (fun y => qf y.1)
      rw [u1, u2, ← nI_1] at step
      refine hZ _ _ _ _ (br_t (rfl) ?_)
      refine hZ _ _ _ _ (hZ _ _ _ _ ?_)
      show Z 66 _ _ _
      exact step
