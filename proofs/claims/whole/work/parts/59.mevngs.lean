/-! the model: evenings by draws -/
def chV (s : Nat) : Bool := ch4 s || chW s
theorem chV_4 : ∀ s, chV s = false → ch4 s = false := fun s h => by
  simp only [chV, Bool.or_eq_false_iff] at h
  exact h.1
theorem chV_W : ∀ s, chV s = false → chW s = false := fun s h => by
  simp only [chV, Bool.or_eq_false_iff] at h
  exact h.2
theorem mb_told {ρ : pRm} {E : pE} (hI : evI ρ E) : mb E.1.2.2.1 7 = bc E.1.2.2.1 := by
  obtain ⟨n, n1, n2⟩ := hI.2.1
  rw [n2]
  exact (bc_mb ⟨n, n1⟩).symm
theorem mR_ft {M : pM} {ρ : pRm} {τ : Int32} (hR : mR M ρ) : mR (p_wr M (aS 18) 3 τ) (ρ.1, ρ.2.1, τ, ρ.2.2.2) := by
  obtain ⟨a1, a2, a3, a4, a5, a6⟩ := hR
  have B : ∀ s, s ≠ 18 → (p_wr M (aS 18) 3 τ).1 (aS s) = M.1 (aS s) := fun s hs => p_wr_ne (fun e => hs (Sum.inl.inj e))
  refine ⟨?_, ?_, ?_, ?_, fun i x hx => ?_, fun i x hx => ?_⟩
  · rw [p_wr_eq, un (by decide)]; exact a1
  · rw [p_wr_eq, un (by decide)]; exact a2
  · rw [p_wr_eq, un (by decide)]; exact a3
  · rw [p_wr_eq, us]
  · rw [B 19 (by decide), B 20 (by decide)]; exact a5 i x hx
  · rw [B 21 (by decide), B 22 (by decide), B 23 (by decide), B 24 (by decide)]; exact a6 i x hx
theorem n_evenings {C : pC} (hC : p_Lg true C) {d : Nat} {M : pM} {Q : pQ} {S : pS} {z n w : Int32} (hd : 4 ≤ d) (hS : mS M S) (ok : okS S) (h : ∀ M', mfA M M' → mS M' S → Q M' (some (vI (sp_evenings S z n w).2))) : C d k_X8_evenings M [vR (aS 18), vI z, vI n, vI w] Q := by
  have e65 : ¬ (65521 : Int64) = 0 := by decide
  have el2 : ¬ (2 : Int64) = 0 := by decide
  have e8 : ¬ (8 : Int32) = 0 := by decide
  have e2 : ¬ (2 : Int32) = 0 := by decide
  have e16 : ¬ (16 : Int32) = 0 := by decide
  have e4 : ¬ (4 : Int32) = 0 := by decide
  refine p_ent hC tb_X8_evenings _ rfl rfl rfl (fun Z hZ => ?_)
  refine hZ _ _ _ _ (hZ _ _ _ _ (hZ _ _ _ _ ?_))
  show Z 5 _ _ _
  refine hZ _ _ _ _ ⟨d - 1, by omega, n_in hC (fun a1 a2 => ?_) (fun a1 => ?_)⟩
  · skip
    refine hZ _ _ _ _ (br_f (by decide) ?_)
    refine hZ _ _ _ _ (hZ _ _ _ _ (hZ _ _ _ _ ?_))
    show Z 15 _ _ _
    refine hZ _ _ _ _ ⟨d - 1, by omega, n_in hC (fun b1 b2 => ?_) (fun b1 => ?_)⟩
    · skip
      refine hZ _ _ _ _ (br_f (by decide) ?_)
      refine hZ _ _ _ _ (hZ _ _ _ _ (hZ _ _ _ _ ?_))
      show Z 24 _ _ _
      refine hZ _ _ _ _ ⟨d - 1, by omega, n_in hC (fun c1 c2 => ?_) (fun c1 => ?_)⟩
      · skip
        obtain ⟨z', hz, ez⟩ := i_in (n := 9999) (by omega) a1 a2
        obtain ⟨n', hn, en⟩ := i_in (n := 60) (by omega) (show (0 : Int32) ≤ n by grind) b2
        have ecl : n.toNatClampNeg = n' := by rw [en]; exact nI_clamp (by omega)
        simp only [sp_evenings] at h
        rw [if_pos ⟨⟨a1, a2⟩, ⟨b1, b2⟩, ⟨c1, c2⟩⟩, ecl] at h
        refine hZ _ _ _ _ (p_tn (by decide) ?_)
        refine hZ _ _ _ _ (hZ _ _ _ _ (hZ _ _ _ _ (hZ _ _ _ _ ?_)))
        show Z 38 _ _ _
        refine hZ _ _ _ _ ⟨d - 1, by omega, n_lays37 hC 0 rfl (by omega) hS.2.1 ok.1 (fun M1 g1 g2 _ => ?_)⟩
        have R1 : mR M1 S.2.1 := mR_cg hS.2.1 (fun k _ => g1.2.1 k rfl) (fun s h1 h2 => g1.1 s (by omega) (p_beq_f (by omega)))
        refine hZ _ _ _ _ (hZ _ _ _ _ (hZ _ _ _ _ (hZ _ _ _ _ (hZ _ _ _ _ (hZ _ _ _ _ (hZ _ _ _ _ (hZ _ _ _ _ ?_)))))))
        show Z 53 _ _ _
        have loop : ∀ (m i : Nat) (M2 : pM) (y0 y1 y2 : Option pV), i + m = n' → mfr chV slT M1 M2 → mR M2 (evs S.2.1 z i).1 → Z 53 [some (vR (aS 18)), some (vI z), some (vI n), some (vI w), some (vI (evs S.2.1 z i).2.1), some (vI (evs S.2.1 z i).2.2.1), some (vI (evs S.2.1 z i).2.2.2), some (vI (nI i)), y0, y1, y2] [] M2 := by
          intro m
          induction m with
          | zero =>
            intro i M2 y0 y1 y2 e1 f1 f2
            have : i = n' := by omega
            subst this
            obtain ⟨o1, o2, o3⟩ := evs_ok (ρ := S.2.1) hz ok.1 ok.2.2.1 i hn
            rw [← ez] at o1 o2 o3
            have al : alk S.2.1 (evs S.2.1 z i).1 := ⟨by rw [o3], o2.symm⟩
            refine hZ _ _ _ _ (hZ _ _ _ _ ?_)
            show Z 56 _ _ _
            refine hZ _ _ _ _ (br_t (by rw [en]; exact Int32.le_refl _) ?_)
            refine hZ _ _ _ _ (hZ _ _ _ _ (hZ _ _ _ _ (hZ _ _ _ _ ?_)))
            show Z 211 _ _ _
            refine hZ _ _ _ _ ⟨d - 1, by omega, n_takes37 hC 0 rfl (by omega) (by omega) (fun M3 j1 j2 j3 j4 j5 => ?_)⟩
            rw [f1.1 37 (by decide) rfl] at j2 j3 j4 j5
            have A3 : mfA M M3 := ((mfA_of g1 (lo18 (by decide))).tr (mfA_of f1 (lo18 (by decide)))).tr (mfA_of j1 (lo18 ch5_lo))
            obtain ⟨t1, t2, t3, t4, t5⟩ := hS
            have S3 : mS M3 S := ⟨mT_cg (mT_cg (mT_cg t1 (g1.2.1 14 rfl) (g1.1 27 (by decide) rfl)) (f1.2.1 14 rfl) (f1.1 27 (by decide) rfl)) (j1.2.1 14 rfl) (j1.1 27 (by decide) rfl), mR_tk f2 al ok.1 g2 j1 j2 j3 j4 j5, mV_cg (mV_cg (mV_cg t3 (g1.2.1 10 rfl) (g1.1 25 (by decide) rfl) (g1.1 26 (by decide) rfl)) (f1.2.1 10 rfl) (f1.1 25 (by decide) rfl) (f1.1 26 (by decide) rfl)) (j1.2.1 10 rfl) (j1.1 25 (by decide) rfl) (j1.1 26 (by decide) rfl), mL_cg (mL_cg (mL_cg t4 (g1.2.1 30 rfl) (g1.1 35 (by decide) rfl)) (f1.2.1 30 rfl) (f1.1 35 (by decide) rfl)) (j1.2.1 30 rfl) (j1.1 35 (by decide) rfl), mL_cg (mL_cg (mL_cg t5 (g1.2.1 34 rfl) (g1.1 38 (by decide) rfl)) (f1.2.1 34 rfl) (f1.1 38 (by decide) rfl)) (j1.2.1 34 rfl) (j1.1 38 (by decide) rfl)⟩
            have hh := h M3 A3 S3
            refine hZ _ _ _ _ ?_
            show Z 215 _ _ _
            by_cases q0 : w = 0
            · rw [if_pos q0] at hh
              refine hZ _ _ _ _ (p_fn (q0) ?_)
              refine hZ _ _ _ _ (hZ _ _ _ _ ?_)
              show Z 235 _ _ _
              refine hZ _ _ _ _ ?_
              exact hh
            · skip
              rw [if_neg q0] at hh
              refine hZ _ _ _ _ (p_tn (q0) ?_)
              refine hZ _ _ _ _ (hZ _ _ _ _ ?_)
              show Z 225 _ _ _
              by_cases q1 : w = 1
              · rw [if_pos q1] at hh
                refine hZ _ _ _ _ (p_fn (q1) ?_)
                refine hZ _ _ _ _ (hZ _ _ _ _ ?_)
                show Z 235 _ _ _
                refine hZ _ _ _ _ ?_
                exact hh
              · skip
                rw [if_neg q1] at hh
                refine hZ _ _ _ _ (p_tn (q1) ?_)
                refine hZ _ _ _ _ ?_
                show Z 235 _ _ _
                refine hZ _ _ _ _ ?_
                exact hh
          | succ m ih =>
            intro i M2 y0 y1 y2 e1 f1 f2
            have hi : i ≤ 60 := by omega
            obtain ⟨o1, o2, o3⟩ := evs_ok (ρ := S.2.1) hz ok.1 ok.2.2.1 i hi
            have ed : drw z (nI i) = nI ((7919 * z' + 6151 * i + 1) * (7919 * z' + 6151 * i + 1) % 65521 / 2) := by rw [ez]; exact drw_nI hz hi
            rw [← ez] at o1 o2 o3
            have hb : (7919 * z' + 6151 * i + 1) * (7919 * z' + 6151 * i + 1) % 65521 / 2 < 2 ^ 31 := by
              have := Nat.mod_lt ((7919 * z' + 6151 * i + 1) * (7919 * z' + 6151 * i + 1)) (show 65521 > 0 by omega)
              omega
            have hf : 1 ≤ (evs S.2.1 z i).1.2.1 := by rw [o2]; exact ok.2.2.1
            have step := fun M3 y0 y1 y2 => ih (i + 1) M3 y0 y1 y2 (by omega)
            rw [← nI_1] at step
            have u1 : (evs S.2.1 z (i + 1)).1 = stR (evs S.2.1 z i).1 (drw z (nI i)) := rfl
            have u2 : (evs S.2.1 z (i + 1)).2.1 = (evs S.2.1 z i).2.1 + bc (ev (stR (evs S.2.1 z i).1 (drw z (nI i)))).1.2.2.2 := rfl
            have u3 : (evs S.2.1 z (i + 1)).2.2.1 = (evs S.2.1 z i).2.2.1 + bc (ev (stR (evs S.2.1 z i).1 (drw z (nI i)))).1.2.2.1 := rfl
            have u4 : (evs S.2.1 z (i + 1)).2.2.2 = p_max (evs S.2.1 z i).2.2.2 (ev (stR (evs S.2.1 z i).1 (drw z (nI i)))).2.1 := rfl
            rw [u1, u2, u3, u4] at step
            refine hZ _ _ _ _ (hZ _ _ _ _ ?_)
            show Z 56 _ _ _
            refine hZ _ _ _ _ (br_f (by rw [en]; exact nI_ge (by omega) (by omega)) ?_)
            refine hZ _ _ _ _ (hZ _ _ _ _ (hZ _ _ _ _ (hZ _ _ _ _ (hZ _ _ _ _ (hZ _ _ _ _ (hZ _ _ _ _ (hZ _ _ _ _ (hZ _ _ _ _ (hZ _ _ _ _ (hZ _ _ _ _ (hZ _ _ _ _ (hZ _ _ _ _ (hZ _ _ _ _ (hZ _ _ _ _ (hZ _ _ _ _ ?_)))))))))))))))
            show Z 85 _ _ _
            refine hZ _ _ _ _ ⟨e65, ?_⟩
            refine hZ _ _ _ _ ?_
            show Z 89 _ _ _
            refine hZ _ _ _ _ ⟨el2, ?_⟩
            refine hZ _ _ _ _ (hZ _ _ _ _ ?_)
            show Z 93 _ _ _
            show Z 93 [some (vR (aS 18)), some (vI z), some (vI n), some (vI w), some (vI (evs S.2.1 z i).2.1), some (vI (evs S.2.1 z i).2.2.1), some (vI (evs S.2.1 z i).2.2.2), some (vI (nI i)), some (vL (dX z (nI i))), none, some (vI (drw z (nI i)))] [] M2
            generalize drw z (nI i) = W at ed step
            generalize (7919 * z' + 6151 * i + 1) * (7919 * z' + 6151 * i + 1) % 65521 / 2 = wn at ed hb
            generalize (evs S.2.1 z i).1 = ρ at o1 o2 o3 hf f2 step
            generalize (evs S.2.1 z i).2.1 = v1 at step ⊢
            generalize (evs S.2.1 z i).2.2.1 = v2 at step ⊢
            generalize (evs S.2.1 z i).2.2.2 = v3 at step ⊢
            generalize some (vL (dX z (nI i))) = y8
            have l2 := o1.2.1
            have l3 := o1.2.2.1
            have hf0 : ¬ nI ρ.2.1 = 0 := nI_ne0 (by omega) (by omega)
            have okst : okR (stR ρ W) := by rw [ed]; exact okR_st o1 hf hb
            have ok1 : okR (st1 ρ W) := by rw [ed]; exact okR_st1 o1 hf hb
            have three : ∀ M4 : pM, mfr chV slT M1 M4 → mR M4 (stR ρ W) → Z 153 [some (vR (aS 18)), some (vI z), some (vI n), some (vI w), some (vI v1), some (vI v2), some (vI v3), some (vI (nI i)), y8, none, some (vI W)] [] M4 := by
              intro M4 k1 k2
              refine hZ _ _ _ _ (hZ _ _ _ _ ?_)
              show Z 155 _ _ _
              refine hZ _ _ _ _ ⟨d - 1, by omega, n_plain hC (by omega) k2 okst (fun M5 j1 j2 => ?_)⟩
              have F5 : mfr chV slT M1 M5 := k1.tr (j1.mono chV_W slE_T)
              have R5 : mR M5 (stR ρ W) := mR_W j1 k2
              have I5 := ev_I okst
              have st5 := fun y0 y1 y2 => step M5 y0 y1 y2 F5 R5
              refine hZ _ _ _ _ (hZ _ _ _ _ ?_)
              show Z 161 _ _ _
              refine hZ _ _ _ _ ⟨d - 1, by omega, n_gone hC R5.1 okst j2 I5 ?_⟩
              refine hZ _ _ _ _ (hZ _ _ _ _ (hZ _ _ _ _ (hZ _ _ _ _ (hZ _ _ _ _ ?_))))
              show Z 173 _ _ _
              rw [j2.1]
              refine hZ _ _ _ _ ⟨d - 1, by omega, n_bits hC ?_⟩
              rw [mb_told I5]
              refine hZ _ _ _ _ (hZ _ _ _ _ (hZ _ _ _ _ (hZ _ _ _ _ (hZ _ _ _ _ ?_))))
              show Z 185 _ _ _
              rw [j2.2.1]
              by_cases q : v3 < (ev (stR ρ W)).2.1
              · rw [show p_max v3 (ev (stR ρ W)).2.1 = (ev (stR ρ W)).2.1 from if_pos q] at st5
                refine hZ _ _ _ _ (br_f (Int32.not_le.mpr q) ?_)
                refine hZ _ _ _ _ (hZ _ _ _ _ (hZ _ _ _ _ (hZ _ _ _ _ (hZ _ _ _ _ (hZ _ _ _ _ ?_)))))
                show Z 53 _ _ _
                rw [j2.2.1]
                exact st5 _ _ _
              · skip
                rw [show p_max v3 (ev (stR ρ W)).2.1 = v3 from if_neg q] at st5
                refine hZ _ _ _ _ (br_t (Int32.not_lt.mp q) ?_)
                refine hZ _ _ _ _ (hZ _ _ _ _ (hZ _ _ _ _ (hZ _ _ _ _ ?_)))
                show Z 53 _ _ _
                exact st5 _ _ _
            have two : ∀ M4 : pM, mfr chV slT M1 M4 → mR M4 (st1 ρ W) → Z 125 [some (vR (aS 18)), some (vI z), some (vI n), some (vI w), some (vI v1), some (vI v2), some (vI v3), some (vI (nI i)), y8, none, some (vI W)] [] M4 := by
              intro M4 k1 k2
              have l4 := ok1.2.2.1
              refine hZ _ _ _ _ (hZ _ _ _ _ ?_)
              show Z 129 _ _ _
              refine hZ _ _ _ _ ⟨e16, ?_⟩
              refine hZ _ _ _ _ ?_
              show Z 131 _ _ _
              refine hZ _ _ _ _ ⟨e4, ?_⟩
              by_cases q1 : W / 16 - W / 16 / 4 * 4 = 0
              · refine hZ _ _ _ _ (p_fn (q1) ?_)
                refine hZ _ _ _ _ (hZ _ _ _ _ ?_)
                show Z 139 _ _ _
                rw [k2.2.2.1]
                by_cases q2 : 0 < (st1 ρ W).2.2.2.length
                · refine hZ _ _ _ _ (br_f (nI_nle q2 (by omega)) ?_)
                  refine hZ _ _ _ _ (hZ _ _ _ _ (hZ _ _ _ _ (hZ _ _ _ _ (hZ _ _ _ _ (hZ _ _ _ _ ?_)))))
                  show Z 150 _ _ _
                  rw [k2.2.2.1, show nI (st1 ρ W).2.2.2.length - 1 = nI ((st1 ρ W).2.2.2.length - 1) from by rw [show (st1 ρ W).2.2.2.length = ((st1 ρ W).2.2.2.length - 1) + 1 by omega]; exact nI_pred _]
                  refine hZ _ _ _ _ ⟨d - 1, by omega, n_shifts hC 0 ((st1 ρ W).2.2.2.length - 1) rfl rfl (by omega) (by omega) (by omega) (fun M5 j1 j2 j3 j4 j5 => ?_)⟩
                  refine three M5 (k1.tr (j1.mono chV_4 no_le)) ?_
                  rw [stR, st2, if_pos ⟨q1, q2⟩]
                  exact mR_sh k2 q2 (by omega) j1 j2 j3 j4 j5
                · skip
                  refine hZ _ _ _ _ (br_t (by rw [show (st1 ρ W).2.2.2.length = 0 by omega]; decide) ?_)
                  refine three M4 k1 ?_
                  rw [stR, st2, if_neg (fun q => q2 q.2)]
                  exact k2
              · skip
                refine hZ _ _ _ _ (p_tn (q1) ?_)
                refine three M4 k1 ?_
                rw [stR, st2, if_neg (fun q => q1 q.1)]
                exact k2
            refine hZ _ _ _ _ (hZ _ _ _ _ (hZ _ _ _ _ (hZ _ _ _ _ (hZ _ _ _ _ ?_))))
            show Z 102 _ _ _
            refine hZ _ _ _ _ ⟨e8, ?_⟩
            refine hZ _ _ _ _ ?_
            show Z 104 _ _ _
            refine hZ _ _ _ _ ⟨e2, ?_⟩
            by_cases q1 : W / 8 - W / 8 / 2 * 2 = 0
            · refine hZ _ _ _ _ (p_fn (q1) ?_)
              refine hZ _ _ _ _ (hZ _ _ _ _ (hZ _ _ _ _ (hZ _ _ _ _ ?_)))
              show Z 115 _ _ _
              rw [f2.2.1]
              refine hZ _ _ _ _ ⟨hf0, ?_⟩
              refine hZ _ _ _ _ (hZ _ _ _ _ (hZ _ _ _ _ (hZ _ _ _ _ ?_)))
              show Z 125 _ _ _
              refine two _ (mfr_fd f1 rfl) ?_
              rw [st1, if_pos q1, f2.2.2.2.1]
              exact mR_ft f2
            · skip
              refine hZ _ _ _ _ (p_tn (q1) ?_)
              refine hZ _ _ _ _ (hZ _ _ _ _ (hZ _ _ _ _ ?_))
              show Z 125 _ _ _
              refine two _ (mfr_fd f1 rfl) ?_
              rw [st1, if_neg q1, f2.2.2.2.1, show ρ.2.2.1 ^^^ 0 = ρ.2.2.1 from Int32.xor_zero]
              exact mR_ft f2
        exact loop n' 0 M1 none none none (Nat.zero_add _) mfr_rf R1
      · skip
        refine hZ _ _ _ _ (p_fn (rfl) ?_)
        refine hZ _ _ _ _ ?_
        show Z 31 _ _ _
        refine hZ _ _ _ _ ?_
        have := h M mfr_rf hS
        simp only [sp_evenings] at this
        rw [if_neg (fun q => c1 q.2.2)] at this
        exact this
    · skip
      refine hZ _ _ _ _ (br_t (rfl) ?_)
      refine hZ _ _ _ _ ?_
      show Z 31 _ _ _
      refine hZ _ _ _ _ ?_
      have := h M mfr_rf hS
      simp only [sp_evenings] at this
      rw [if_neg (fun q => b1 q.2.1)] at this
      exact this
  · skip
    refine hZ _ _ _ _ (br_t (rfl) ?_)
    refine hZ _ _ _ _ ?_
    show Z 31 _ _ _
    refine hZ _ _ _ _ ?_
    have := h M mfr_rf hS
    simp only [sp_evenings] at this
    rw [if_neg (fun q => a1 q.1)] at this
    exact this
