/-! the model: worlds, the call -/
def slT (k : Nat) : Bool := Nat.beq k 3 || slE k
theorem slE_T : ∀ k, slT k = false → slE k = false := fun k h => by
  simp only [slT, Bool.or_eq_false_iff] at h
  exact h.2
theorem mfr_t {M M' : pM} (h : mfr chW slT M M') (h1 : M'.1 (aS 18) 3 = M.1 (aS 18) 3) : mfr chW slE M M' := by
  refine ⟨h.1, fun k b => ?_, h.2.2.1, h.2.2.2⟩
  by_cases e : k = 3
  · rw [e]; exact h1
  · exact h.2.1 k (by simp only [slT, b, p_beq_f e]; rfl)
theorem mR_t {M M2 : pM} {ρ : pRm} {i : Nat} (hR : mR M ρ) (F : mfr chW slT M M2) (e : M2.1 (aS 18) 3 = nI i) : mR M2 (wR ρ i) := by
  obtain ⟨a1, a2, a3, a4, a5, a6⟩ := hR
  refine ⟨(F.2.1 0 rfl).trans a1, (F.2.1 1 rfl).trans a2, (F.2.1 2 rfl).trans a3, e, fun j y hy => ?_, fun c y hy => ?_⟩
  · rw [F.1 19 (by decide) rfl, F.1 20 (by decide) rfl]
    exact a5 j y hy
  · rw [F.1 21 (by decide) rfl, F.1 22 (by decide) rfl, F.1 23 (by decide) rfl, F.1 24 (by decide) rfl]
    exact a6 c y hy
theorem n_worlds {C : pC} (hC : p_Lg true C) {d : Nat} {M : pM} {Q : pQ} {S : pS} {x : Int32} (hd : 4 ≤ d) (hS : mS M S) (ok : okS S) (h : ∀ M', mfr chQ slQ M M' → Q M' (some (vI (sp_worlds S x).2))) : C d k_X8_worlds M [vR (aS 18), vI x] Q := by
  have l2 := ok.1.2.1
  have p6 := pw6 ok.1
  refine p_ent hC tb_X8_worlds _ rfl rfl rfl (fun Z hZ => ?_)
  refine hZ _ _ _ _ (hZ _ _ _ _ (hZ _ _ _ _ ?_))
  show Z 3 _ _ _
  refine hZ _ _ _ _ ⟨d - 1, by omega, n_in hC (fun c1 c2 => ?_) (fun c1 => ?_)⟩
  · skip
    obtain ⟨p1, p2, p3⟩ := pw8 ⟨S.2.1.2.1, by omega⟩
    simp only at p1 p2 p3
    have R := hS.2.1
    have ef : nI (2 ^ S.2.1.2.1) - 1 = nI (2 ^ S.2.1.2.1 - 1) := by
      have : 2 ^ S.2.1.2.1 = (2 ^ S.2.1.2.1 - 1) + 1 := by omega
      rw [this]
      exact nI_pred _
    refine hZ _ _ _ _ (p_tn (by decide) ?_)
    refine hZ _ _ _ _ (hZ _ _ _ _ (hZ _ _ _ _ (hZ _ _ _ _ (hZ _ _ _ _ (hZ _ _ _ _ (hZ _ _ _ _ (hZ _ _ _ _ (hZ _ _ _ _ (hZ _ _ _ _ (hZ _ _ _ _ (hZ _ _ _ _ (hZ _ _ _ _ (hZ _ _ _ _ (hZ _ _ _ _ (hZ _ _ _ _ (hZ _ _ _ _ (hZ _ _ _ _ (hZ _ _ _ _ (hZ _ _ _ _ ?_)))))))))))))))))))
    show Z 41 _ _ _
    rw [R.2.1, p1]
    generalize hf : (fun i => fit (wR S.2.1 i) S.2.2.1) = f
    have hin : ∀ j, j < 2 ^ S.2.1.2.1 → inB (fwW S.2.1 S.2.2.1 (2 ^ S.2.1.2.1)) j = f j := fun j hj => by rw [in_fw _ _ (by omega) hj, ← hf]
    have w0 : bcL (fwW S.2.1 S.2.2.1 (2 ^ S.2.1.2.1)) = nI (cn f (2 ^ S.2.1.2.1)) := by rw [bc_fw _ _ (by omega), ← hf]
    have wz : fwW S.2.1 S.2.2.1 (2 ^ S.2.1.2.1) = 0 ↔ cn f (2 ^ S.2.1.2.1) = 0 := by rw [← hf]; exact ⟨fw_n0 _ _ (by omega), fw_0 _ _ _⟩
    have w1 := lw_wf (fwW S.2.1 S.2.2.1 (2 ^ S.2.1.2.1)) f (2 ^ S.2.1.2.1) 0 (fun j hj => hin j (by omega)) rfl rfl
    rw [Nat.zero_add] at w1
    have w2 := sr_wa S.2.1.2.1 (fwW S.2.1 S.2.2.1 (2 ^ S.2.1.2.1)) f (2 ^ S.2.1.2.1) hin
    have w3 := sr_wo S.2.1.2.1 (fwW S.2.1 S.2.2.1 (2 ^ S.2.1.2.1)) f (2 ^ S.2.1.2.1) hin
    simp only [sp_worlds, if_pos (And.intro c1 c2), w0, w1, w2, w3, wz] at h
    have cl := cn_le f
    have loop : ∀ (n i : Nat) (M2 : pM), i + n = 2 ^ S.2.1.2.1 → mfr chW slT M M2 → Z 41 [some (vR (aS 18)), some (vI x), some (vI (M.1 (aS 18) 3)), some (vI (nI (2 ^ S.2.1.2.1) - 1)), some (vI (nI (cn f i))), some (vI (wfN f i)), some (vI (waN (nI (2 ^ S.2.1.2.1) - 1) f i)), some (vI (woN f i)), some (vI (nI i))] [] M2 := by
      intro n
      induction n with
      | zero =>
        intro i M2 e1 f1
        have : i = 2 ^ S.2.1.2.1 := by omega
        subst this
        have hh := h _ (mfr_t (mfr_fd (k := 3) (x := M.1 (aS 18) 3) f1 rfl) (by rw [p_wr_eq, us])).WQ
        have cz := cl (2 ^ S.2.1.2.1)
        have nz : nI (cn f (2 ^ S.2.1.2.1)) = 0 ↔ cn f (2 ^ S.2.1.2.1) = 0 := nI_eq (b := 0) (by omega) (by omega)
        refine hZ _ _ _ _ (hZ _ _ _ _ ?_)
        show Z 44 _ _ _
        refine hZ _ _ _ _ (br_t (by rw [ef]; exact nI_lt (by omega) (by omega)) ?_)
        refine hZ _ _ _ _ (hZ _ _ _ _ (hZ _ _ _ _ (hZ _ _ _ _ ?_)))
        show Z 103 _ _ _
        by_cases q0 : x = 0
        · rw [if_pos q0] at hh
          refine hZ _ _ _ _ (br_t (q0) ?_)
          refine hZ _ _ _ _ ?_
          show Z 112 _ _ _
          refine hZ _ _ _ _ (p_fn (q0) ?_)
          refine hZ _ _ _ _ (hZ _ _ _ _ ?_)
          show Z 122 _ _ _
          refine hZ _ _ _ _ ?_
          exact hh
        · skip
          rw [if_neg q0] at hh
          refine hZ _ _ _ _ (br_f (q0) ?_)
          refine hZ _ _ _ _ ?_
          show Z 108 _ _ _
          by_cases q1 : cn f (2 ^ S.2.1.2.1) = 0
          · rw [if_pos q1] at hh
            refine hZ _ _ _ _ (p_fn (nz.mpr q1) ?_)
            refine hZ _ _ _ _ ?_
            show Z 112 _ _ _
            refine hZ _ _ _ _ (p_tn (q0) ?_)
            refine hZ _ _ _ _ ?_
            show Z 122 _ _ _
            refine hZ _ _ _ _ ?_
            exact hh
          · skip
            rw [if_neg q1] at hh
            refine hZ _ _ _ _ (p_tn ((fun z => q1 (nz.mp z))) ?_)
            refine hZ _ _ _ _ (hZ _ _ _ _ ?_)
            show Z 125 _ _ _
            by_cases q2 : x = 1
            · rw [if_pos q2] at hh
              refine hZ _ _ _ _ (p_fn (q2) ?_)
              refine hZ _ _ _ _ (hZ _ _ _ _ ?_)
              show Z 149 _ _ _
              refine hZ _ _ _ _ ?_
              exact hh
            · skip
              rw [if_neg q2] at hh
              refine hZ _ _ _ _ (p_tn (q2) ?_)
              refine hZ _ _ _ _ (hZ _ _ _ _ ?_)
              show Z 135 _ _ _
              by_cases q3 : x = 2
              · rw [if_pos q3] at hh
                refine hZ _ _ _ _ (p_fn (q3) ?_)
                refine hZ _ _ _ _ (hZ _ _ _ _ ?_)
                show Z 149 _ _ _
                refine hZ _ _ _ _ ?_
                exact hh
              · skip
                rw [if_neg q3] at hh
                refine hZ _ _ _ _ (p_tn (q3) ?_)
                refine hZ _ _ _ _ (hZ _ _ _ _ (hZ _ _ _ _ (hZ _ _ _ _ (hZ _ _ _ _ ?_))))
                show Z 149 _ _ _
                refine hZ _ _ _ _ ?_
                exact hh
      | succ n ih =>
        intro i M2 e1 f1
        have ci := cl i
        have nz : nI (cn f i) = 0 ↔ cn f i = 0 := nI_eq (b := 0) (by omega) (by omega)
        refine hZ _ _ _ _ (hZ _ _ _ _ ?_)
        show Z 44 _ _ _
        refine hZ _ _ _ _ (br_f (by rw [ef]; exact nI_nlt (by omega) (by omega)) ?_)
        refine hZ _ _ _ _ (hZ _ _ _ _ (hZ _ _ _ _ (hZ _ _ _ _ ?_)))
        show Z 54 _ _ _
        have F1 : mfr chW slT M (p_wr M2 (aS 18) 3 (nI i)) := mfr_fd f1 rfl
        have G1 : (p_wr M2 (aS 18) 3 (nI i)).1 (aS 18) 3 = nI i := by rw [p_wr_eq, us]
        generalize p_wr M2 (aS 18) 3 (nI i) = M3 at F1 G1 ⊢
        have R3 : mR M3 (wR S.2.1 i) := mR_t R F1 G1
        have V3 : mV M3 S.2.2.1 := mV_cg hS.2.2.1 (F1.2.1 10 rfl) (F1.1 25 (by decide) rfl) (F1.1 26 (by decide) rfl)
        refine hZ _ _ _ _ ⟨d - 1, by omega, n_isSo hC (by omega) V3 R3 (okR_w ok.1 (by omega)) ok.2.2.2.1 (fun q M4 g1 => ?_) (fun q M4 g1 => ?_)⟩
        · skip
          have qf : f i = true := by rw [← hf]; exact q
          have step := ih (i + 1) M4 (by omega) (F1.tr (g1.mono (fun _ z => z) slE_T))
          have u1 : cn f (i + 1) = cn f i + 1 := if_pos qf
          have u2 : wfN f (i + 1) = if cn f i = 0 then nI i else wfN f i := if_pos qf
          have u3 : waN (nI (2 ^ S.2.1.2.1) - 1) f (i + 1) = waN (nI (2 ^ S.2.1.2.1) - 1) f i &&& nI i := if_pos qf
          have u4 : woN f (i + 1) = woN f i ||| nI i := if_pos qf
          rw [u1, u2, u3, u4, ← nI_1, ← nI_1] at step
          refine hZ _ _ _ _ (br_f (by decide) ?_)
          refine hZ _ _ _ _ ?_
          show Z 62 _ _ _
          by_cases z : cn f i = 0
          · rw [if_pos z] at step
            refine hZ _ _ _ _ (p_fn (nz.mpr z) ?_)
            refine hZ _ _ _ _ (hZ _ _ _ _ (hZ _ _ _ _ (hZ _ _ _ _ (hZ _ _ _ _ (hZ _ _ _ _ (hZ _ _ _ _ (hZ _ _ _ _ (hZ _ _ _ _ (hZ _ _ _ _ (hZ _ _ _ _ (hZ _ _ _ _ (hZ _ _ _ _ (hZ _ _ _ _ ?_)))))))))))))
            show Z 41 _ _ _
            exact step
          · skip
            rw [if_neg z] at step
            refine hZ _ _ _ _ (p_tn ((fun w => z (nz.mp w))) ?_)
            refine hZ _ _ _ _ (hZ _ _ _ _ (hZ _ _ _ _ (hZ _ _ _ _ (hZ _ _ _ _ (hZ _ _ _ _ (hZ _ _ _ _ (hZ _ _ _ _ (hZ _ _ _ _ (hZ _ _ _ _ (hZ _ _ _ _ (hZ _ _ _ _ (hZ _ _ _ _ ?_))))))))))))
            show Z 41 _ _ _
            exact step
        · skip
          have qf : ¬ f i = true := by rw [← hf]; show ¬ fit _ _ = true; rw [q]; decide
          have step := ih (i + 1) M4 (by omega) (F1.tr (g1.mono (fun _ z => z) slE_T))
          have u1 : cn f (i + 1) = cn f i := if_neg qf
          have u2 : wfN f (i + 1) = wfN f i := if_neg qf
          have u3 : waN (nI (2 ^ S.2.1.2.1) - 1) f (i + 1) = waN (nI (2 ^ S.2.1.2.1) - 1) f i := if_neg qf
          have u4 : woN f (i + 1) = woN f i := if_neg qf
          rw [u1, u2, u3, u4, ← nI_1] at step
          refine hZ _ _ _ _ (br_t (rfl) ?_)
          refine hZ _ _ _ _ (hZ _ _ _ _ ?_)
          show Z 41 _ _ _
          exact step
    exact loop (2 ^ S.2.1.2.1) 0 M (Nat.zero_add _) mfr_rf
  · skip
    refine hZ _ _ _ _ (p_fn (rfl) ?_)
    refine hZ _ _ _ _ ?_
    show Z 10 _ _ _
    refine hZ _ _ _ _ ?_
    have := h M mfr_rf
    simp only [sp_worlds, if_neg c1] at this
    exact this
