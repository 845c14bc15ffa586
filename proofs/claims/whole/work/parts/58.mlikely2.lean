/-! the model: likely, the call -/
theorem mR_tr {M M2 : pM} {ρ : pRm} (hR : mR M ρ) (F : mfr chW slT M M2) : M2.1 (aS 18) 1 = nI ρ.2.1 ∧ M2.1 (aS 18) 0 = nI ρ.1.length := ⟨(F.2.1 1 rfl).trans hR.2.1, (F.2.1 0 rfl).trans hR.1⟩
theorem n_likely {C : pC} (hC : p_Lg true C) {d : Nat} {M : pM} {Q : pQ} {S : pS} {t x p : Int32} (hd : 3 ≤ d) (hS : mS M S) (ok : okS S) (h : ∀ M', mfr chQ slQ M M' → Q M' (some (vI (sp_likely S t x p).2))) : C d k_X8_likely M [vR (aS 18), vI t, vI x, vI p] Q := by
  have l1 := ok.1.1
  have l2 := ok.1.2.1
  have p6 := pw6 ok.1
  have R := hS.2.1
  obtain ⟨p1, p2, p3⟩ := pw8 ⟨S.2.1.2.1, by omega⟩
  simp only at p1 p2 p3
  refine p_ent hC tb_X8_likely _ rfl rfl rfl (fun Z hZ => ?_)
  refine hZ _ _ _ _ (hZ _ _ _ _ ?_)
  show Z 2 _ _ _
  refine hZ _ _ _ _ ⟨d - 1, by omega, n_isTeller hC (by omega) R ok.1 (fun k b1 b2 b3 => ?_) (fun b1 => ?_)⟩
  · skip
    subst b3
    refine hZ _ _ _ _ (br_f (by decide) ?_)
    refine hZ _ _ _ _ (hZ _ _ _ _ (hZ _ _ _ _ ?_))
    show Z 12 _ _ _
    refine hZ _ _ _ _ ⟨d - 1, by omega, n_in hC (fun c1 c2 => ?_) (fun c1 => ?_)⟩
    · skip
      refine hZ _ _ _ _ (br_f (by decide) ?_)
      refine hZ _ _ _ _ (hZ _ _ _ _ (hZ _ _ _ _ ?_))
      show Z 21 _ _ _
      refine hZ _ _ _ _ ⟨d - 1, by omega, n_in hC (fun c3 c4 => ?_) (fun c3 => ?_)⟩
      · skip
        refine hZ _ _ _ _ (p_tn (by decide) ?_)
        obtain ⟨X, hX, ex⟩ := i_in (n := 10) (by omega) c1 c2
        subst ex
        have hT : tM X S.2.1.2.1 (2 ^ S.2.1.2.1) = 10 ^ S.2.1.2.1 := tM_all ⟨X, by omega⟩ ⟨S.2.1.2.1, by omega⟩
        have hA : aM S.2.1 (nI k) X (2 ^ S.2.1.2.1) ≤ tM X S.2.1.2.1 (2 ^ S.2.1.2.1) := aM_le _ _ _ _
        rw [hT] at hA
        have h10 : 10 ^ S.2.1.2.1 ≤ 1000000 := Nat.le_trans (Nat.pow_le_pow_right (by decide) l2) (Nat.le_of_ble_eq_true rfl)
        have h1p : 0 < 10 ^ S.2.1.2.1 := Nat.pow_pos (by decide)
        simp only [sp_likely, b1] at h
        rw [if_pos ⟨⟨c1, c2⟩, ⟨c3, c4⟩⟩] at h
        simp only [lk_M hX, hT] at h
        have w0 : (lN 1 : Int64) = 1 := rfl
        have w10 : (lN 10 : Int64) = 10 := rfl
        refine hZ _ _ _ _ (hZ _ _ _ _ (hZ _ _ _ _ (hZ _ _ _ _ (hZ _ _ _ _ (hZ _ _ _ _ (hZ _ _ _ _ (hZ _ _ _ _ (hZ _ _ _ _ ?_))))))))
        show Z 44 _ _ _
        have one : ∀ (n i : Nat), i + n = S.2.1.2.1 → Z 44 [some (vR (aS 18)), some (vI (nI k)), some (vI (nI X)), some (vI p), some (vI (M.1 (aS 18) 3)), some (vL 0), none, some (vL (lN (10 ^ i))), none, some (vI (nI i)), none, none, none] [] M := by
          intro n
          induction n with
          | succ n ih =>
            intro i e
            have step := ih (i + 1) (by omega)
            rw [← nI_1, Nat.pow_succ, ← lN_mul, w10] at step
            refine hZ _ _ _ _ (hZ _ _ _ _ (hZ _ _ _ _ ?_))
            show Z 50 _ _ _
            refine hZ _ _ _ _ (br_f (by rw [R.2.1]; exact nI_ge (by omega) (by omega)) ?_)
            refine hZ _ _ _ _ (hZ _ _ _ _ (hZ _ _ _ _ (hZ _ _ _ _ (hZ _ _ _ _ (hZ _ _ _ _ ?_)))))
            show Z 44 _ _ _
            exact step
          | zero =>
            intro i e
            have : i = S.2.1.2.1 := by omega
            subst this
            refine hZ _ _ _ _ (hZ _ _ _ _ (hZ _ _ _ _ ?_))
            show Z 50 _ _ _
            refine hZ _ _ _ _ (br_t (by rw [R.2.1]; exact Int32.le_refl _) ?_)
            refine hZ _ _ _ _ (hZ _ _ _ _ ?_)
            show Z 70 _ _ _
            generalize 10 ^ S.2.1.2.1 = B at h hA h10 h1p ⊢
            have loop : ∀ (n i : Nat) (M2 : pM) (y0 y1 y2 : Option pV), i + n = 2 ^ S.2.1.2.1 → mfr chW slT M M2 → Z 70 [some (vR (aS 18)), some (vI (nI k)), some (vI (nI X)), some (vI p), some (vI (M.1 (aS 18) 3)), some (vL (lN (aM S.2.1 (nI k) X i))), none, some (vL (lN B)), none, some (vI (nI i)), y0, y1, y2] [] M2 := by
              intro n
              induction n with
              | zero =>
                intro i M2 y0 y1 y2 e1 f1
                have : i = 2 ^ S.2.1.2.1 := by omega
                subst this
                have hh := h _ (mfr_t (mfr_fd (k := 3) (x := M.1 (aS 18) 3) f1 rfl) (by rw [p_wr_eq, us])).WQ
                generalize aM S.2.1 (nI k) X (2 ^ S.2.1.2.1) = A at hh hA ⊢
                have b20 : B < 2 ^ 20 := Nat.lt_of_le_of_lt h10 (Nat.le_of_ble_eq_true rfl)
                rw [gd_gcd 20 100 A B b20 (by omega) (by omega) (by omega)] at hh
                have gp : 0 < Nat.gcd A B := Nat.gcd_pos_of_pos_right _ h1p
                have gl : Nat.gcd A B ≤ B := Nat.gcd_le_right _ h1p
                refine hZ _ _ _ _ (hZ _ _ _ _ (hZ _ _ _ _ (hZ _ _ _ _ (hZ _ _ _ _ ?_))))
                show Z 78 _ _ _
                have R2 := mR_tr R f1
                refine hZ _ _ _ _ (br_t (by rw [R2.1, p1]; exact Int32.le_refl _) ?_)
                refine hZ _ _ _ _ (hZ _ _ _ _ (hZ _ _ _ _ (hZ _ _ _ _ (hZ _ _ _ _ ?_))))
                show Z 176 _ _ _
                refine hZ _ _ _ _ ⟨d - 1, by omega, n_common hC (a := A) (b := B) (by omega) (by omega) ?_⟩
                have gz : ¬ lN (Nat.gcd A B) = 0 := fun e => by have := (lN_eq (a := Nat.gcd A B) (b := 0) (by omega) (by omega)).mp e; omega
                rw [if_neg (nI_ne0 gp (by omega)), pk_div (by omega) gp (by omega), pk_div (by omega) gp (by omega)] at hh
                refine hZ _ _ _ _ (hZ _ _ _ _ ?_)
                show Z 182 _ _ _
                by_cases q : p = 0
                · rw [if_pos q] at hh
                  refine hZ _ _ _ _ (p_fn (q) ?_)
                  refine hZ _ _ _ _ (hZ _ _ _ _ ?_)
                  show Z 189 _ _ _
                  refine hZ _ _ _ _ ⟨gz, ?_⟩
                  refine hZ _ _ _ _ (hZ _ _ _ _ ?_)
                  show Z 199 _ _ _
                  refine hZ _ _ _ _ ?_
                  rw [pk_lDiv (by omega) gp (by omega), lN_i]
                  exact hh
                · skip
                  rw [if_neg q] at hh
                  refine hZ _ _ _ _ (p_tn (q) ?_)
                  refine hZ _ _ _ _ (hZ _ _ _ _ ?_)
                  show Z 197 _ _ _
                  refine hZ _ _ _ _ ⟨gz, ?_⟩
                  refine hZ _ _ _ _ ?_
                  show Z 199 _ _ _
                  refine hZ _ _ _ _ ?_
                  rw [pk_lDiv (by omega) gp (by omega), lN_i]
                  exact hh
              | succ n ih =>
                intro i M2 y0 y1 y2 e1 f1
                have R2 := mR_tr R f1
                refine hZ _ _ _ _ (hZ _ _ _ _ (hZ _ _ _ _ (hZ _ _ _ _ (hZ _ _ _ _ ?_))))
                show Z 78 _ _ _
                refine hZ _ _ _ _ (br_f (by rw [R2.1, p1]; exact nI_ge (by omega) (by omega)) ?_)
                refine hZ _ _ _ _ (hZ _ _ _ _ (hZ _ _ _ _ (hZ _ _ _ _ (hZ _ _ _ _ ?_))))
                show Z 89 _ _ _
                have F1 : mfr chW slT M (p_wr M2 (aS 18) 3 (nI i)) := mfr_fd f1 rfl
                have G1 : (p_wr M2 (aS 18) 3 (nI i)).1 (aS 18) 3 = nI i := by rw [p_wr_eq, us]
                generalize p_wr M2 (aS 18) 3 (nI i) = M3 at F1 G1 ⊢
                have R3 : mR M3 (wR S.2.1 i) := mR_t R F1 G1
                have okw : okR (wR S.2.1 i) := okR_w ok.1 (by omega)
                refine hZ _ _ _ _ ⟨d - 1, by omega, n_plain hC (by omega) R3 okw (fun M4 g1 g2 => ?_)⟩
                have F4 : mfr chW slT M M4 := F1.tr (g1.mono (fun _ z => z) slE_T)
                have R4 := mR_tr R F4
                have step := fun y0 y1 y2 => ih (i + 1) M4 y0 y1 y2 (by omega) F4
                rw [← nI_1] at step
                have lg := mE_lg g2 (ev_I okw) okw (t := k) b2
                refine hZ _ _ _ _ (hZ _ _ _ _ (hZ _ _ _ _ (hZ _ _ _ _ ?_)))
                show Z 98 _ _ _
                have inn : ∀ (n j : Nat), j + n = S.2.1.2.1 → Z 98 [some (vR (aS 18)), some (vI (nI k)), some (vI (nI X)), some (vI p), some (vI (M.1 (aS 18) 3)), some (vL (lN (aM S.2.1 (nI k) X i))), none, some (vL (lN B)), none, some (vI (nI i)), some (vL (lN (cM X i j))), none, some (vI (nI j))] [] M4 := by
                  intro n
                  induction n with
                  | zero =>
                    intro j e
                    have : j = S.2.1.2.1 := by omega
                    subst this
                    refine hZ _ _ _ _ (hZ _ _ _ _ (hZ _ _ _ _ ?_))
                    show Z 104 _ _ _
                    refine hZ _ _ _ _ (br_t (by rw [R4.1]; exact Int32.le_refl _) ?_)
                    refine hZ _ _ _ _ (hZ _ _ _ _ (hZ _ _ _ _ (hZ _ _ _ _ ?_)))
                    show Z 145 _ _ _
                    refine hZ _ _ _ _ ⟨vp_in_nI (N := 5) (by omega) (by omega), ?_⟩
                    rw [nI_clamp (by omega)]
                    refine hZ _ _ _ _ ?_
                    show Z 148 _ _ _
                    by_cases q : bt1 (ev (wR S.2.1 i)).1.2.2.2 (nI k) = 1
                    · have e2 : aM S.2.1 (nI k) X (i + 1) = aM S.2.1 (nI k) X i + cM X i S.2.1.2.1 := if_pos q
                      rw [e2, ← lN_add] at step
                      refine hZ _ _ _ _ (p_tn ((fun z => lg.mp z q)) ?_)
                      refine hZ _ _ _ _ (hZ _ _ _ _ (hZ _ _ _ _ (hZ _ _ _ _ (hZ _ _ _ _ ?_))))
                      show Z 70 _ _ _
                      exact step _ _ _
                    · skip
                      have e2 : aM S.2.1 (nI k) X (i + 1) = aM S.2.1 (nI k) X i + 0 := if_neg q
                      rw [e2, ← lN_add] at step
                      refine hZ _ _ _ _ (p_fn (lg.mpr q) ?_)
                      refine hZ _ _ _ _ (hZ _ _ _ _ (hZ _ _ _ _ (hZ _ _ _ _ (hZ _ _ _ _ (hZ _ _ _ _ ?_)))))
                      show Z 70 _ _ _
                      exact step _ _ _
                  | succ n ih2 =>
                    intro j e
                    have step2 := ih2 (j + 1) (by omega)
                    rw [← nI_1] at step2
                    refine hZ _ _ _ _ (hZ _ _ _ _ (hZ _ _ _ _ ?_))
                    show Z 104 _ _ _
                    refine hZ _ _ _ _ (br_f (by rw [R4.1]; exact nI_ge (by omega) (by omega)) ?_)
                    refine hZ _ _ _ _ (hZ _ _ _ _ (hZ _ _ _ _ ?_))
                    show Z 113 _ _ _
                    refine hZ _ _ _ _ ⟨d - 1, by omega, n_has hC (fun q => ?_) (fun q => ?_)⟩
                    · skip
                      have e2 : cM X i (j + 1) = cM X i j * X := by simp only [cM]; rw [if_pos q]
                      rw [e2, ← lN_mul, ← nI_l (n := X) (by omega)] at step2
                      refine hZ _ _ _ _ (br_f (by decide) ?_)
                      refine hZ _ _ _ _ (hZ _ _ _ _ (hZ _ _ _ _ (hZ _ _ _ _ (hZ _ _ _ _ (hZ _ _ _ _ (hZ _ _ _ _ ?_))))))
                      show Z 98 _ _ _
                      exact step2
                    · skip
                      have e2 : cM X i (j + 1) = cM X i j * (10 - X) := by simp only [cM]; rw [if_neg q]
                      rw [e2, ← lN_mul, ← nI_l (n := 10 - X) (by omega), ← pk_sub (a := 10) hX] at step2
                      refine hZ _ _ _ _ (br_t (rfl) ?_)
                      refine hZ _ _ _ _ (hZ _ _ _ _ (hZ _ _ _ _ (hZ _ _ _ _ (hZ _ _ _ _ (hZ _ _ _ _ (hZ _ _ _ _ (hZ _ _ _ _ ?_)))))))
                      show Z 98 _ _ _
                      exact step2
                exact inn S.2.1.2.1 0 (Nat.zero_add _)
            exact loop (2 ^ S.2.1.2.1) 0 M none none none (Nat.zero_add _) mfr_rf
        exact one S.2.1.2.1 0 (Nat.zero_add _)
      · skip
        refine hZ _ _ _ _ (p_fn (rfl) ?_)
        refine hZ _ _ _ _ ?_
        show Z 28 _ _ _
        refine hZ _ _ _ _ ?_
        have := h M mfr_rf
        simp only [sp_likely, b1] at this
        rw [if_neg (fun q => c3 q.2)] at this
        exact this
    · skip
      refine hZ _ _ _ _ (br_t (rfl) ?_)
      refine hZ _ _ _ _ ?_
      show Z 28 _ _ _
      refine hZ _ _ _ _ ?_
      have := h M mfr_rf
      simp only [sp_likely, b1] at this
      rw [if_neg (fun q => c1 q.1)] at this
      exact this
  · skip
    refine hZ _ _ _ _ (br_t (rfl) ?_)
    refine hZ _ _ _ _ ?_
    show Z 28 _ _ _
    refine hZ _ _ _ _ ?_
    have := h M mfr_rf
    simp only [sp_likely, b1] at this
    exact this
