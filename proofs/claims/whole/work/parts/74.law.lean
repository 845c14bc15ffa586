/-! THE LAW: its loop, in the logic; script at aS 39 -/
def qL : pQ := fun _ v => v = some (vI 1)
set_option maxRecDepth 100000 in
set_option maxHeartbeats 40000000 in
theorem law_loop {C : pC} (hC : p_Lg true C) {d : Nat} {Z : pX} (hd : 15 ≤ d) {xs : Nat → Int32} {L : Nat} (hL : L ≤ 320) (hZ : p_Cl true C (tb_law xs L) d qL Z) : ∀ (n i : Nat) (M : pM) (S : pS), L < i + 5 * n → i ≤ 1000 → cS M S → mS M S → okS S → Z 18 [some (vR (aS 39)), some (vR (aS 0)), some (vR (aS 18)), some (vI (nI i))] [] M := by
  have stop : ∀ (i : Nat) (M : pM), L < i + 5 → i ≤ 1000 → Z 18 [some (vR (aS 39)), some (vR (aS 0)), some (vR (aS 18)), some (vI (nI i))] [] M := by
    intro i M h1 h2
    have hlt : Int32.ofNat L - 5 < nI i := by
      by_cases h5 : 5 ≤ L
      · rw [show Int32.ofNat L - 5 = nI (L - 5) from pk_sub (a := L) (b := 5) h5]
        exact nI_lt (by omega) (by omega)
      · exact Int32.lt_of_lt_of_le (pk_sneg (a := L) (b := 5) (by omega) (by omega)) (nI_pos' (by omega))
    refine hZ _ _ _ _ (hZ _ _ _ _ ?_)
    show Z 20 _ _ _
    refine hZ _ _ _ _ ?_
    refine hZ _ _ _ _ (hZ _ _ _ _ ?_)
    show Z 23 _ _ _
    refine hZ _ _ _ _ (br_t (hlt) ?_)
    refine hZ _ _ _ _ ?_
    show Z 962 _ _ _
    refine hZ _ _ _ _ ⟨Or.inr rfl, ?_⟩
    exact rfl
  intro n
  induction n with
  | zero =>
    intro i M S h1 h2 hc hm ok
    exact stop i M (by omega) h2
  | succ n ih =>
    intro i M S h1 h2 hc hm ok
    by_cases h5 : L < i + 5
    · exact stop i M h5 h2
    · have nxt : ∀ (M' : pM) (S' : pS), cS M' S' → mS M' S' → okS S' → Z 955 [some (vR (aS 39)), some (vR (aS 0)), some (vR (aS 18)), some (vI (nI i))] [] M' := by
        intro M' S' a1 a2 a3
        refine hZ _ _ _ _ (hZ _ _ _ _ ?_)
        show Z 18 _ _ _
        rw [show nI i + 5 = nI (i + 5) from nI_add i 5]
        exact ih (i + 5) M' S' (by omega) (by omega) a1 a2 a3
      have hge : ¬ Int32.ofNat L - 5 < nI i := by
        rw [show Int32.ofNat L - 5 = nI (L - 5) from pk_sub (a := L) (b := 5) (by omega)]
        exact nI_nlt (by omega) (by omega)
      refine hZ _ _ _ _ (hZ _ _ _ _ ?_)
      show Z 20 _ _ _
      refine hZ _ _ _ _ ?_
      refine hZ _ _ _ _ (hZ _ _ _ _ ?_)
      show Z 23 _ _ _
      refine hZ _ _ _ _ (br_f (hge) ?_)
      refine hZ _ _ _ _ (hZ _ _ _ _ ?_)
      show Z 28 _ _ _
      refine hZ _ _ _ _ ⟨vp_in_nI (N := L) (by omega) (by omega), ?_⟩
      refine hZ _ _ _ _ (hZ _ _ _ _ ?_)
      show Z 32 _ _ _
      generalize xs (nI i).toNatClampNeg &&& 31 = op
      refine hZ _ _ _ _ ?_
      refine ⟨fun _ => ?_, fun _ => ⟨fun _ => ?_, fun _ => ⟨fun _ => ?_, fun _ => ⟨fun _ => ?_, fun _ => ⟨fun _ => ?_, fun _ => ⟨fun _ => ?_, fun _ => ⟨fun _ => ?_, fun _ => ⟨fun _ => ?_, fun _ => ⟨fun _ => ?_, fun _ => ⟨fun _ => ?_, fun _ => ⟨fun _ => ?_, fun _ => ⟨fun _ => ?_, fun _ => ⟨fun _ => ?_, fun _ => ⟨fun _ => ?_, fun _ => ⟨fun _ => ?_, fun _ => ⟨fun _ => ?_, fun _ => ⟨fun _ => ?_, fun _ => ⟨fun _ => ?_, fun _ => ⟨fun _ => ?_, fun _ => ⟨fun _ => ?_, fun _ => ⟨fun _ => ?_, fun _ => ⟨fun _ => ?_, fun _ => ⟨fun _ => ?_, fun _ => ⟨fun _ => ?_, fun _ => ⟨fun _ => ?_, fun _ => ⟨fun _ => ?_, fun _ => ⟨fun _ => ?_, fun _ => ⟨fun _ => ?_, fun _ => ⟨fun _ => ?_, fun _ => ⟨fun _ => ?_, fun _ => ⟨fun _ => ?_, fun _ => ?_⟩⟩⟩⟩⟩⟩⟩⟩⟩⟩⟩⟩⟩⟩⟩⟩⟩⟩⟩⟩⟩⟩⟩⟩⟩⟩⟩⟩⟩⟩⟩
      · skip
        refine hZ _ _ _ _ (hZ _ _ _ _ (hZ _ _ _ _ (hZ _ _ _ _ (hZ _ _ _ _ ?_))))
        show Z 177 _ _ _
        rw [show nI i + 1 = nI (i + 1) from nI_add i 1]
        refine hZ _ _ _ _ ⟨vp_in_nI (N := L) (by omega) (by omega), ?_⟩
        refine hZ _ _ _ _ ⟨d - 1, by omega, c_write hC (by omega) hc (fun M1 g1 g2 => ?_)⟩
        refine hZ _ _ _ _ (hZ _ _ _ _ (hZ _ _ _ _ (hZ _ _ _ _ (hZ _ _ _ _ ?_))))
        show Z 186 _ _ _
        rw [show nI i + 1 = nI (i + 1) from nI_add i 1]
        refine hZ _ _ _ _ ⟨vp_in_nI (N := L) (by omega) (by omega), ?_⟩
        refine hZ _ _ _ _ ⟨d - 1, by omega, n_write hC (by omega) (mS_cl g1 hm) (fun M2 j1 j2 => ?_)⟩
        refine hZ _ _ _ _ (br_t (rfl) ?_)
        exact nxt M2 _ (cS_m j1 (by decide) g2) j2 (ok_write ok)
      · skip
        refine hZ _ _ _ _ ?_
        show Z 196 _ _ _
        refine hZ _ _ _ _ ⟨d - 1, by omega, c_wipe hC (by omega) hc (fun M1 g1 g2 => ?_)⟩
        refine hZ _ _ _ _ ?_
        show Z 200 _ _ _
        refine hZ _ _ _ _ ⟨d - 1, by omega, n_wipe hC (mS_cl g1 hm) (fun M2 j1 j2 => ?_)⟩
        refine hZ _ _ _ _ (br_t (rfl) ?_)
        exact nxt M2 _ (cS_m j1 (by decide) g2) j2 (ok_wipe ok)
      · skip
        refine hZ _ _ _ _ ?_
        show Z 209 _ _ _
        refine hZ _ _ _ _ ⟨d - 1, by omega, c_fault hC (by omega) hc (fun M1 g1 g2 => ?_)⟩
        refine hZ _ _ _ _ ?_
        show Z 213 _ _ _
        refine hZ _ _ _ _ ⟨d - 1, by omega, n_fault hC (by omega) (mS_cl g1 hm) (fun M2 j1 => ?_)⟩
        refine hZ _ _ _ _ (br_t (rfl) ?_)
        exact nxt M2 S (cS_Q j1 g2) (mS_q j1 (mS_cl g1 hm)) ok
      · skip
        refine hZ _ _ _ _ ?_
        show Z 222 _ _ _
        refine hZ _ _ _ _ ⟨d - 1, by omega, c_lay hC (by omega) hc (fun M1 g1 g2 => ?_)⟩
        refine hZ _ _ _ _ ?_
        show Z 226 _ _ _
        refine hZ _ _ _ _ ⟨d - 1, by omega, n_lay hC (by omega) (mS_cl g1 hm) (fun M2 j1 j2 => ?_)⟩
        refine hZ _ _ _ _ (br_t (rfl) ?_)
        exact nxt M2 _ (cS_A j1 g2) j2 (ok_lay ok)
      · skip
        refine hZ _ _ _ _ (hZ _ _ _ _ (hZ _ _ _ _ (hZ _ _ _ _ (hZ _ _ _ _ ?_))))
        show Z 239 _ _ _
        rw [show nI i + 1 = nI (i + 1) from nI_add i 1]
        refine hZ _ _ _ _ ⟨vp_in_nI (N := L) (by omega) (by omega), ?_⟩
        refine hZ _ _ _ _ (hZ _ _ _ _ (hZ _ _ _ _ (hZ _ _ _ _ ?_)))
        show Z 244 _ _ _
        rw [show nI i + 2 = nI (i + 2) from nI_add i 2]
        refine hZ _ _ _ _ ⟨vp_in_nI (N := L) (by omega) (by omega), ?_⟩
        refine hZ _ _ _ _ ⟨d - 1, by omega, c_teller hC (by omega) hc ok ?_⟩
        refine hZ _ _ _ _ (hZ _ _ _ _ (hZ _ _ _ _ (hZ _ _ _ _ (hZ _ _ _ _ ?_))))
        show Z 253 _ _ _
        rw [show nI i + 1 = nI (i + 1) from nI_add i 1]
        refine hZ _ _ _ _ ⟨vp_in_nI (N := L) (by omega) (by omega), ?_⟩
        refine hZ _ _ _ _ (hZ _ _ _ _ (hZ _ _ _ _ (hZ _ _ _ _ ?_)))
        show Z 258 _ _ _
        rw [show nI i + 2 = nI (i + 2) from nI_add i 2]
        refine hZ _ _ _ _ ⟨vp_in_nI (N := L) (by omega) (by omega), ?_⟩
        refine hZ _ _ _ _ ⟨d - 1, by omega, n_teller hC (by omega) hm ok ?_⟩
        refine hZ _ _ _ _ (br_t (rfl) ?_)
        exact nxt M S hc hm ok
      · skip
        refine hZ _ _ _ _ (hZ _ _ _ _ (hZ _ _ _ _ (hZ _ _ _ _ (hZ _ _ _ _ ?_))))
        show Z 272 _ _ _
        rw [show nI i + 1 = nI (i + 1) from nI_add i 1]
        refine hZ _ _ _ _ ⟨vp_in_nI (N := L) (by omega) (by omega), ?_⟩
        refine hZ _ _ _ _ ⟨d - 1, by omega, c_fact hC (by omega) hc ok ?_⟩
        refine hZ _ _ _ _ (hZ _ _ _ _ (hZ _ _ _ _ (hZ _ _ _ _ (hZ _ _ _ _ ?_))))
        show Z 281 _ _ _
        rw [show nI i + 1 = nI (i + 1) from nI_add i 1]
        refine hZ _ _ _ _ ⟨vp_in_nI (N := L) (by omega) (by omega), ?_⟩
        refine hZ _ _ _ _ ⟨d - 1, by omega, n_fact hC (by omega) hm ok ?_⟩
        refine hZ _ _ _ _ (br_t (rfl) ?_)
        exact nxt M S hc hm ok
      · skip
        refine hZ _ _ _ _ (hZ _ _ _ _ (hZ _ _ _ _ (hZ _ _ _ _ (hZ _ _ _ _ ?_))))
        show Z 295 _ _ _
        rw [show nI i + 1 = nI (i + 1) from nI_add i 1]
        refine hZ _ _ _ _ ⟨vp_in_nI (N := L) (by omega) (by omega), ?_⟩
        refine hZ _ _ _ _ (hZ _ _ _ _ (hZ _ _ _ _ (hZ _ _ _ _ ?_)))
        show Z 300 _ _ _
        rw [show nI i + 2 = nI (i + 2) from nI_add i 2]
        refine hZ _ _ _ _ ⟨vp_in_nI (N := L) (by omega) (by omega), ?_⟩
        refine hZ _ _ _ _ ⟨d - 1, by omega, c_claim hC (by omega) hc ok ?_⟩
        refine hZ _ _ _ _ (hZ _ _ _ _ (hZ _ _ _ _ (hZ _ _ _ _ (hZ _ _ _ _ ?_))))
        show Z 309 _ _ _
        rw [show nI i + 1 = nI (i + 1) from nI_add i 1]
        refine hZ _ _ _ _ ⟨vp_in_nI (N := L) (by omega) (by omega), ?_⟩
        refine hZ _ _ _ _ (hZ _ _ _ _ (hZ _ _ _ _ (hZ _ _ _ _ ?_)))
        show Z 314 _ _ _
        rw [show nI i + 2 = nI (i + 2) from nI_add i 2]
        refine hZ _ _ _ _ ⟨vp_in_nI (N := L) (by omega) (by omega), ?_⟩
        refine hZ _ _ _ _ ⟨d - 1, by omega, n_claim hC (by omega) hm ok ?_⟩
        refine hZ _ _ _ _ (br_t (rfl) ?_)
        exact nxt M S hc hm ok
      · skip
        refine hZ _ _ _ _ (hZ _ _ _ _ (hZ _ _ _ _ (hZ _ _ _ _ (hZ _ _ _ _ ?_))))
        show Z 328 _ _ _
        rw [show nI i + 1 = nI (i + 1) from nI_add i 1]
        refine hZ _ _ _ _ ⟨vp_in_nI (N := L) (by omega) (by omega), ?_⟩
        refine hZ _ _ _ _ ⟨d - 1, by omega, c_turn hC (by omega) hc ok (fun M1 g1 g2 => ?_)⟩
        refine hZ _ _ _ _ (hZ _ _ _ _ (hZ _ _ _ _ (hZ _ _ _ _ (hZ _ _ _ _ ?_))))
        show Z 337 _ _ _
        rw [show nI i + 1 = nI (i + 1) from nI_add i 1]
        refine hZ _ _ _ _ ⟨vp_in_nI (N := L) (by omega) (by omega), ?_⟩
        refine hZ _ _ _ _ ⟨d - 1, by omega, n_turn hC (by omega) (mS_cl g1 hm) ok (fun M2 j1 j2 => ?_)⟩
        refine hZ _ _ _ _ (br_t (rfl) ?_)
        exact nxt M2 _ (cS_A j1 g2) j2 (ok_turn ok)
      · skip
        refine hZ _ _ _ _ (hZ _ _ _ _ (hZ _ _ _ _ (hZ _ _ _ _ (hZ _ _ _ _ ?_))))
        show Z 351 _ _ _
        rw [show nI i + 1 = nI (i + 1) from nI_add i 1]
        refine hZ _ _ _ _ ⟨vp_in_nI (N := L) (by omega) (by omega), ?_⟩
        refine hZ _ _ _ _ (hZ _ _ _ _ (hZ _ _ _ _ (hZ _ _ _ _ ?_)))
        show Z 356 _ _ _
        rw [show nI i + 2 = nI (i + 2) from nI_add i 2]
        refine hZ _ _ _ _ ⟨vp_in_nI (N := L) (by omega) (by omega), ?_⟩
        refine hZ _ _ _ _ (hZ _ _ _ _ (hZ _ _ _ _ (hZ _ _ _ _ ?_)))
        show Z 361 _ _ _
        rw [show nI i + 3 = nI (i + 3) from nI_add i 3]
        refine hZ _ _ _ _ ⟨vp_in_nI (N := L) (by omega) (by omega), ?_⟩
        refine hZ _ _ _ _ (hZ _ _ _ _ (hZ _ _ _ _ (hZ _ _ _ _ ?_)))
        show Z 366 _ _ _
        rw [show nI i + 4 = nI (i + 4) from nI_add i 4]
        refine hZ _ _ _ _ ⟨vp_in_nI (N := L) (by omega) (by omega), ?_⟩
        refine hZ _ _ _ _ ⟨d - 1, by omega, c_add hC (by omega) hc ok (fun M1 g1 g2 => ?_)⟩
        refine hZ _ _ _ _ (hZ _ _ _ _ (hZ _ _ _ _ (hZ _ _ _ _ (hZ _ _ _ _ ?_))))
        show Z 375 _ _ _
        rw [show nI i + 1 = nI (i + 1) from nI_add i 1]
        refine hZ _ _ _ _ ⟨vp_in_nI (N := L) (by omega) (by omega), ?_⟩
        refine hZ _ _ _ _ (hZ _ _ _ _ (hZ _ _ _ _ (hZ _ _ _ _ ?_)))
        show Z 380 _ _ _
        rw [show nI i + 2 = nI (i + 2) from nI_add i 2]
        refine hZ _ _ _ _ ⟨vp_in_nI (N := L) (by omega) (by omega), ?_⟩
        refine hZ _ _ _ _ (hZ _ _ _ _ (hZ _ _ _ _ (hZ _ _ _ _ ?_)))
        show Z 385 _ _ _
        rw [show nI i + 3 = nI (i + 3) from nI_add i 3]
        refine hZ _ _ _ _ ⟨vp_in_nI (N := L) (by omega) (by omega), ?_⟩
        refine hZ _ _ _ _ (hZ _ _ _ _ (hZ _ _ _ _ (hZ _ _ _ _ ?_)))
        show Z 390 _ _ _
        rw [show nI i + 4 = nI (i + 4) from nI_add i 4]
        refine hZ _ _ _ _ ⟨vp_in_nI (N := L) (by omega) (by omega), ?_⟩
        refine hZ _ _ _ _ ⟨d - 1, by omega, n_add hC (by omega) (mS_cl g1 hm) ok (fun M2 j1 j2 => ?_)⟩
        refine hZ _ _ _ _ (br_t (rfl) ?_)
        exact nxt M2 _ (cS_A j1 g2) j2 (ok_add ok)
      · skip
        refine hZ _ _ _ _ (hZ _ _ _ _ (hZ _ _ _ _ (hZ _ _ _ _ (hZ _ _ _ _ ?_))))
        show Z 404 _ _ _
        rw [show nI i + 1 = nI (i + 1) from nI_add i 1]
        refine hZ _ _ _ _ ⟨vp_in_nI (N := L) (by omega) (by omega), ?_⟩
        refine hZ _ _ _ _ ⟨d - 1, by omega, c_strike hC (by omega) hc ok (fun M1 g1 g2 => ?_)⟩
        refine hZ _ _ _ _ (hZ _ _ _ _ (hZ _ _ _ _ (hZ _ _ _ _ (hZ _ _ _ _ ?_))))
        show Z 413 _ _ _
        rw [show nI i + 1 = nI (i + 1) from nI_add i 1]
        refine hZ _ _ _ _ ⟨vp_in_nI (N := L) (by omega) (by omega), ?_⟩
        refine hZ _ _ _ _ ⟨d - 1, by omega, n_strike hC (by omega) (mS_cl g1 hm) ok (fun M2 j1 j2 => ?_)⟩
        refine hZ _ _ _ _ (br_t (rfl) ?_)
        exact nxt M2 _ (cS_A j1 g2) j2 (ok_strike ok)
      · skip
        refine hZ _ _ _ _ (hZ _ _ _ _ (hZ _ _ _ _ (hZ _ _ _ _ (hZ _ _ _ _ ?_))))
        show Z 427 _ _ _
        rw [show nI i + 1 = nI (i + 1) from nI_add i 1]
        refine hZ _ _ _ _ ⟨vp_in_nI (N := L) (by omega) (by omega), ?_⟩
        refine hZ _ _ _ _ (hZ _ _ _ _ (hZ _ _ _ _ (hZ _ _ _ _ ?_)))
        show Z 432 _ _ _
        rw [show nI i + 2 = nI (i + 2) from nI_add i 2]
        refine hZ _ _ _ _ ⟨vp_in_nI (N := L) (by omega) (by omega), ?_⟩
        refine hZ _ _ _ _ ⟨d - 1, by omega, c_shift hC (by omega) hc ok (fun M1 g1 g2 => ?_)⟩
        refine hZ _ _ _ _ (hZ _ _ _ _ (hZ _ _ _ _ (hZ _ _ _ _ (hZ _ _ _ _ ?_))))
        show Z 441 _ _ _
        rw [show nI i + 1 = nI (i + 1) from nI_add i 1]
        refine hZ _ _ _ _ ⟨vp_in_nI (N := L) (by omega) (by omega), ?_⟩
        refine hZ _ _ _ _ (hZ _ _ _ _ (hZ _ _ _ _ (hZ _ _ _ _ ?_)))
        show Z 446 _ _ _
        rw [show nI i + 2 = nI (i + 2) from nI_add i 2]
        refine hZ _ _ _ _ ⟨vp_in_nI (N := L) (by omega) (by omega), ?_⟩
        refine hZ _ _ _ _ ⟨d - 1, by omega, n_shift hC (by omega) (mS_cl g1 hm) ok (fun M2 j1 j2 => ?_)⟩
        refine hZ _ _ _ _ (br_t (rfl) ?_)
        exact nxt M2 _ (cS_A j1 g2) j2 (ok_shift ok)
      · skip
        refine hZ _ _ _ _ (hZ _ _ _ _ (hZ _ _ _ _ (hZ _ _ _ _ (hZ _ _ _ _ ?_))))
        show Z 460 _ _ _
        rw [show nI i + 1 = nI (i + 1) from nI_add i 1]
        refine hZ _ _ _ _ ⟨vp_in_nI (N := L) (by omega) (by omega), ?_⟩
        refine hZ _ _ _ _ (hZ _ _ _ _ (hZ _ _ _ _ (hZ _ _ _ _ ?_)))
        show Z 465 _ _ _
        rw [show nI i + 2 = nI (i + 2) from nI_add i 2]
        refine hZ _ _ _ _ ⟨vp_in_nI (N := L) (by omega) (by omega), ?_⟩
        refine hZ _ _ _ _ ⟨d - 1, by omega, c_grip hC (by omega) hc ok (fun M1 g1 g2 => ?_)⟩
        refine hZ _ _ _ _ (hZ _ _ _ _ (hZ _ _ _ _ (hZ _ _ _ _ (hZ _ _ _ _ ?_))))
        show Z 474 _ _ _
        rw [show nI i + 1 = nI (i + 1) from nI_add i 1]
        refine hZ _ _ _ _ ⟨vp_in_nI (N := L) (by omega) (by omega), ?_⟩
        refine hZ _ _ _ _ (hZ _ _ _ _ (hZ _ _ _ _ (hZ _ _ _ _ ?_)))
        show Z 479 _ _ _
        rw [show nI i + 2 = nI (i + 2) from nI_add i 2]
        refine hZ _ _ _ _ ⟨vp_in_nI (N := L) (by omega) (by omega), ?_⟩
        refine hZ _ _ _ _ ⟨d - 1, by omega, n_grip hC (by omega) (mS_cl g1 hm) ok (fun M2 j1 j2 => ?_)⟩
        refine hZ _ _ _ _ (br_t (rfl) ?_)
        exact nxt M2 _ (cS_A j1 g2) j2 (ok_grip ok)
      · skip
        refine hZ _ _ _ _ ?_
        show Z 489 _ _ _
        refine hZ _ _ _ _ ⟨d - 1, by omega, c_undo hC (by omega) hc (fun M1 g1 g2 => ?_)⟩
        refine hZ _ _ _ _ ?_
        show Z 493 _ _ _
        refine hZ _ _ _ _ ⟨d - 1, by omega, n_undo hC (by omega) (mS_cl g1 hm) ok (fun M2 j1 j2 => ?_)⟩
        refine hZ _ _ _ _ (br_t (rfl) ?_)
        exact nxt M2 _ (cS_A j1 g2) j2 (ok_undo ok)
      · skip
        refine hZ _ _ _ _ (hZ _ _ _ _ (hZ _ _ _ _ (hZ _ _ _ _ (hZ _ _ _ _ ?_))))
        show Z 506 _ _ _
        rw [show nI i + 1 = nI (i + 1) from nI_add i 1]
        refine hZ _ _ _ _ ⟨vp_in_nI (N := L) (by omega) (by omega), ?_⟩
        refine hZ _ _ _ _ ⟨d - 1, by omega, c_drops hC (by omega) hc ok (fun M1 g1 g2 => ?_)⟩
        refine hZ _ _ _ _ (hZ _ _ _ _ (hZ _ _ _ _ (hZ _ _ _ _ (hZ _ _ _ _ ?_))))
        show Z 515 _ _ _
        rw [show nI i + 1 = nI (i + 1) from nI_add i 1]
        refine hZ _ _ _ _ ⟨vp_in_nI (N := L) (by omega) (by omega), ?_⟩
        refine hZ _ _ _ _ ⟨d - 1, by omega, n_drops hC (by omega) (mS_cl g1 hm) ok (fun M2 j1 => ?_)⟩
        refine hZ _ _ _ _ (br_t (rfl) ?_)
        exact nxt M2 S (cS_Q j1 g2) (mS_q j1 (mS_cl g1 hm)) ok
      · skip
        refine hZ _ _ _ _ ?_
        show Z 525 _ _ _
        refine hZ _ _ _ _ ⟨d - 1, by omega, c_told hC (by omega) hc ok (fun M1 g1 g2 => ?_)⟩
        refine hZ _ _ _ _ ?_
        show Z 529 _ _ _
        refine hZ _ _ _ _ ⟨d - 1, by omega, n_told hC (by omega) (mS_cl g1 hm) ok (fun M2 j1 => ?_)⟩
        refine hZ _ _ _ _ (br_t (rfl) ?_)
        exact nxt M2 S (cS_Q j1 g2) (mS_q j1 (mS_cl g1 hm)) ok
      · skip
        refine hZ _ _ _ _ (hZ _ _ _ _ (hZ _ _ _ _ (hZ _ _ _ _ (hZ _ _ _ _ ?_))))
        show Z 542 _ _ _
        rw [show nI i + 1 = nI (i + 1) from nI_add i 1]
        refine hZ _ _ _ _ ⟨vp_in_nI (N := L) (by omega) (by omega), ?_⟩
        refine hZ _ _ _ _ ⟨d - 1, by omega, c_hot hC (by omega) hc ok (fun M1 g1 g2 => ?_)⟩
        refine hZ _ _ _ _ (hZ _ _ _ _ (hZ _ _ _ _ (hZ _ _ _ _ (hZ _ _ _ _ ?_))))
        show Z 551 _ _ _
        rw [show nI i + 1 = nI (i + 1) from nI_add i 1]
        refine hZ _ _ _ _ ⟨vp_in_nI (N := L) (by omega) (by omega), ?_⟩
        refine hZ _ _ _ _ ⟨d - 1, by omega, n_hot hC (by omega) (mS_cl g1 hm) ok (fun M2 j1 => ?_)⟩
        refine hZ _ _ _ _ (br_t (rfl) ?_)
        exact nxt M2 S (cS_Q j1 g2) (mS_q j1 (mS_cl g1 hm)) ok
      · skip
        refine hZ _ _ _ _ ?_
        show Z 561 _ _ _
        refine hZ _ _ _ _ ⟨d - 1, by omega, c_hottest hC (by omega) hc ok (fun M1 g1 g2 => ?_)⟩
        refine hZ _ _ _ _ ?_
        show Z 565 _ _ _
        refine hZ _ _ _ _ ⟨d - 1, by omega, n_hottest hC (by omega) (mS_cl g1 hm) ok (fun M2 j1 => ?_)⟩
        refine hZ _ _ _ _ (br_t (rfl) ?_)
        exact nxt M2 S (cS_Q j1 g2) (mS_q j1 (mS_cl g1 hm)) ok
      · skip
        refine hZ _ _ _ _ (hZ _ _ _ _ (hZ _ _ _ _ (hZ _ _ _ _ (hZ _ _ _ _ ?_))))
        show Z 578 _ _ _
        rw [show nI i + 1 = nI (i + 1) from nI_add i 1]
        refine hZ _ _ _ _ ⟨vp_in_nI (N := L) (by omega) (by omega), ?_⟩
        refine hZ _ _ _ _ ⟨d - 1, by omega, c_order hC (by omega) hc ok (ord_len ok.1) (fun M1 g1 g2 => ?_)⟩
        refine hZ _ _ _ _ (hZ _ _ _ _ (hZ _ _ _ _ (hZ _ _ _ _ (hZ _ _ _ _ ?_))))
        show Z 587 _ _ _
        rw [show nI i + 1 = nI (i + 1) from nI_add i 1]
        refine hZ _ _ _ _ ⟨vp_in_nI (N := L) (by omega) (by omega), ?_⟩
        refine hZ _ _ _ _ ⟨d - 1, by omega, n_order hC (by omega) (mS_cl g1 hm) ok (fun M2 j1 => ?_)⟩
        refine hZ _ _ _ _ (br_t (rfl) ?_)
        exact nxt M2 S (cS_Q j1 g2) (mS_q j1 (mS_cl g1 hm)) ok
      · skip
        refine hZ _ _ _ _ (hZ _ _ _ _ (hZ _ _ _ _ (hZ _ _ _ _ (hZ _ _ _ _ ?_))))
        show Z 601 _ _ _
        rw [show nI i + 1 = nI (i + 1) from nI_add i 1]
        refine hZ _ _ _ _ ⟨vp_in_nI (N := L) (by omega) (by omega), ?_⟩
        refine hZ _ _ _ _ (hZ _ _ _ _ (hZ _ _ _ _ (hZ _ _ _ _ ?_)))
        show Z 606 _ _ _
        rw [show nI i + 2 = nI (i + 2) from nI_add i 2]
        refine hZ _ _ _ _ ⟨vp_in_nI (N := L) (by omega) (by omega), ?_⟩
        refine hZ _ _ _ _ ⟨d - 1, by omega, c_leave hC (by omega) hc ok (fun M1 g1 g2 => ?_)⟩
        refine hZ _ _ _ _ (hZ _ _ _ _ (hZ _ _ _ _ (hZ _ _ _ _ (hZ _ _ _ _ ?_))))
        show Z 615 _ _ _
        rw [show nI i + 1 = nI (i + 1) from nI_add i 1]
        refine hZ _ _ _ _ ⟨vp_in_nI (N := L) (by omega) (by omega), ?_⟩
        refine hZ _ _ _ _ (hZ _ _ _ _ (hZ _ _ _ _ (hZ _ _ _ _ ?_)))
        show Z 620 _ _ _
        rw [show nI i + 2 = nI (i + 2) from nI_add i 2]
        refine hZ _ _ _ _ ⟨vp_in_nI (N := L) (by omega) (by omega), ?_⟩
        refine hZ _ _ _ _ ⟨d - 1, by omega, n_leave hC (by omega) (mS_cl g1 hm) ok (fun M2 j1 => ?_)⟩
        refine hZ _ _ _ _ (br_t (rfl) ?_)
        exact nxt M2 S (cS_Q j1 g2) (mS_q j1 (mS_cl g1 hm)) ok
      · skip
        refine hZ _ _ _ _ (hZ _ _ _ _ (hZ _ _ _ _ (hZ _ _ _ _ (hZ _ _ _ _ ?_))))
        show Z 634 _ _ _
        rw [show nI i + 1 = nI (i + 1) from nI_add i 1]
        refine hZ _ _ _ _ ⟨vp_in_nI (N := L) (by omega) (by omega), ?_⟩
        refine hZ _ _ _ _ (hZ _ _ _ _ (hZ _ _ _ _ (hZ _ _ _ _ ?_)))
        show Z 639 _ _ _
        rw [show nI i + 2 = nI (i + 2) from nI_add i 2]
        refine hZ _ _ _ _ ⟨vp_in_nI (N := L) (by omega) (by omega), ?_⟩
        refine hZ _ _ _ _ ⟨d - 1, by omega, c_holds hC (by omega) hc ok (fun M1 g1 g2 => ?_)⟩
        refine hZ _ _ _ _ (hZ _ _ _ _ (hZ _ _ _ _ (hZ _ _ _ _ (hZ _ _ _ _ ?_))))
        show Z 648 _ _ _
        rw [show nI i + 1 = nI (i + 1) from nI_add i 1]
        refine hZ _ _ _ _ ⟨vp_in_nI (N := L) (by omega) (by omega), ?_⟩
        refine hZ _ _ _ _ (hZ _ _ _ _ (hZ _ _ _ _ (hZ _ _ _ _ ?_)))
        show Z 653 _ _ _
        rw [show nI i + 2 = nI (i + 2) from nI_add i 2]
        refine hZ _ _ _ _ ⟨vp_in_nI (N := L) (by omega) (by omega), ?_⟩
        refine hZ _ _ _ _ ⟨d - 1, by omega, n_holds hC (by omega) (mS_cl g1 hm) ok (fun M2 j1 => ?_)⟩
        refine hZ _ _ _ _ (br_t (rfl) ?_)
        exact nxt M2 S (cS_Q j1 g2) (mS_q j1 (mS_cl g1 hm)) ok
      · skip
        refine hZ _ _ _ _ (hZ _ _ _ _ (hZ _ _ _ _ (hZ _ _ _ _ (hZ _ _ _ _ ?_))))
        show Z 667 _ _ _
        rw [show nI i + 1 = nI (i + 1) from nI_add i 1]
        refine hZ _ _ _ _ ⟨vp_in_nI (N := L) (by omega) (by omega), ?_⟩
        refine hZ _ _ _ _ (hZ _ _ _ _ (hZ _ _ _ _ (hZ _ _ _ _ ?_)))
        show Z 672 _ _ _
        rw [show nI i + 2 = nI (i + 2) from nI_add i 2]
        refine hZ _ _ _ _ ⟨vp_in_nI (N := L) (by omega) (by omega), ?_⟩
        refine hZ _ _ _ _ ⟨d - 1, by omega, c_seen hC (by omega) hc ok (fun M1 g1 g2 => ?_)⟩
        refine hZ _ _ _ _ (hZ _ _ _ _ (hZ _ _ _ _ (hZ _ _ _ _ (hZ _ _ _ _ ?_))))
        show Z 681 _ _ _
        rw [show nI i + 1 = nI (i + 1) from nI_add i 1]
        refine hZ _ _ _ _ ⟨vp_in_nI (N := L) (by omega) (by omega), ?_⟩
        refine hZ _ _ _ _ (hZ _ _ _ _ (hZ _ _ _ _ (hZ _ _ _ _ ?_)))
        show Z 686 _ _ _
        rw [show nI i + 2 = nI (i + 2) from nI_add i 2]
        refine hZ _ _ _ _ ⟨vp_in_nI (N := L) (by omega) (by omega), ?_⟩
        refine hZ _ _ _ _ ⟨d - 1, by omega, n_seen hC (by omega) (mS_cl g1 hm) ok (fun M2 j1 j2 => ?_)⟩
        refine hZ _ _ _ _ (br_t (rfl) ?_)
        exact nxt M2 _ (cS_A j1 g2) j2 (ok_seen2 ok)
      · skip
        refine hZ _ _ _ _ ?_
        show Z 696 _ _ _
        refine hZ _ _ _ _ ⟨d - 1, by omega, c_forget hC (by omega) hc (fun M1 g1 g2 => ?_)⟩
        refine hZ _ _ _ _ ?_
        show Z 700 _ _ _
        refine hZ _ _ _ _ ⟨d - 1, by omega, n_forget hC (mS_cl g1 hm) (fun M2 j1 j2 => ?_)⟩
        refine hZ _ _ _ _ (br_t (rfl) ?_)
        exact nxt M2 _ (cS_A j1 g2) j2 (ok_forget ok)
      · skip
        refine hZ _ _ _ _ (hZ _ _ _ _ (hZ _ _ _ _ (hZ _ _ _ _ (hZ _ _ _ _ ?_))))
        show Z 713 _ _ _
        rw [show nI i + 1 = nI (i + 1) from nI_add i 1]
        refine hZ _ _ _ _ ⟨vp_in_nI (N := L) (by omega) (by omega), ?_⟩
        refine hZ _ _ _ _ ⟨d - 1, by omega, c_worlds hC (by omega) hc ok (fun M1 g1 g2 => ?_)⟩
        refine hZ _ _ _ _ (hZ _ _ _ _ (hZ _ _ _ _ (hZ _ _ _ _ (hZ _ _ _ _ ?_))))
        show Z 722 _ _ _
        rw [show nI i + 1 = nI (i + 1) from nI_add i 1]
        refine hZ _ _ _ _ ⟨vp_in_nI (N := L) (by omega) (by omega), ?_⟩
        refine hZ _ _ _ _ ⟨d - 1, by omega, n_worlds hC (by omega) (mS_cl g1 hm) ok (fun M2 j1 => ?_)⟩
        refine hZ _ _ _ _ (br_t (rfl) ?_)
        exact nxt M2 S (cS_Q j1 g2) (mS_q j1 (mS_cl g1 hm)) ok
      · skip
        refine hZ _ _ _ _ (hZ _ _ _ _ (hZ _ _ _ _ (hZ _ _ _ _ (hZ _ _ _ _ ?_))))
        show Z 736 _ _ _
        rw [show nI i + 1 = nI (i + 1) from nI_add i 1]
        refine hZ _ _ _ _ ⟨vp_in_nI (N := L) (by omega) (by omega), ?_⟩
        refine hZ _ _ _ _ (hZ _ _ _ _ (hZ _ _ _ _ (hZ _ _ _ _ ?_)))
        show Z 741 _ _ _
        rw [show nI i + 2 = nI (i + 2) from nI_add i 2]
        refine hZ _ _ _ _ ⟨vp_in_nI (N := L) (by omega) (by omega), ?_⟩
        refine hZ _ _ _ _ ⟨d - 1, by omega, c_next hC (by omega) hc ok (fun M1 g1 g2 => ?_)⟩
        refine hZ _ _ _ _ (hZ _ _ _ _ (hZ _ _ _ _ (hZ _ _ _ _ (hZ _ _ _ _ ?_))))
        show Z 750 _ _ _
        rw [show nI i + 1 = nI (i + 1) from nI_add i 1]
        refine hZ _ _ _ _ ⟨vp_in_nI (N := L) (by omega) (by omega), ?_⟩
        refine hZ _ _ _ _ (hZ _ _ _ _ (hZ _ _ _ _ (hZ _ _ _ _ ?_)))
        show Z 755 _ _ _
        rw [show nI i + 2 = nI (i + 2) from nI_add i 2]
        refine hZ _ _ _ _ ⟨vp_in_nI (N := L) (by omega) (by omega), ?_⟩
        refine hZ _ _ _ _ ⟨d - 1, by omega, n_next hC (by omega) (mS_cl g1 hm) ok (fun M2 j1 j2 => ?_)⟩
        refine hZ _ _ _ _ (br_t (rfl) ?_)
        exact nxt M2 _ (cS_A j1 g2) j2 ok
      · skip
        refine hZ _ _ _ _ (hZ _ _ _ _ (hZ _ _ _ _ (hZ _ _ _ _ (hZ _ _ _ _ ?_))))
        show Z 769 _ _ _
        rw [show nI i + 1 = nI (i + 1) from nI_add i 1]
        refine hZ _ _ _ _ ⟨vp_in_nI (N := L) (by omega) (by omega), ?_⟩
        refine hZ _ _ _ _ ⟨d - 1, by omega, c_kinds hC (by omega) hc ok (fun M1 g1 g2 => ?_)⟩
        refine hZ _ _ _ _ (hZ _ _ _ _ (hZ _ _ _ _ (hZ _ _ _ _ (hZ _ _ _ _ ?_))))
        show Z 778 _ _ _
        rw [show nI i + 1 = nI (i + 1) from nI_add i 1]
        refine hZ _ _ _ _ ⟨vp_in_nI (N := L) (by omega) (by omega), ?_⟩
        refine hZ _ _ _ _ ⟨d - 1, by omega, n_kinds hC (by omega) (mS_cl g1 hm) ok (fun M2 j1 => ?_)⟩
        refine hZ _ _ _ _ (br_t (rfl) ?_)
        exact nxt M2 S (cS_Q j1 g2) (mS_q j1 (mS_cl g1 hm)) ok
      · skip
        refine hZ _ _ _ _ (hZ _ _ _ _ (hZ _ _ _ _ (hZ _ _ _ _ (hZ _ _ _ _ ?_))))
        show Z 792 _ _ _
        rw [show nI i + 1 = nI (i + 1) from nI_add i 1]
        refine hZ _ _ _ _ ⟨vp_in_nI (N := L) (by omega) (by omega), ?_⟩
        refine hZ _ _ _ _ (hZ _ _ _ _ (hZ _ _ _ _ (hZ _ _ _ _ ?_)))
        show Z 797 _ _ _
        rw [show nI i + 2 = nI (i + 2) from nI_add i 2]
        refine hZ _ _ _ _ ⟨vp_in_nI (N := L) (by omega) (by omega), ?_⟩
        refine hZ _ _ _ _ ⟨d - 1, by omega, c_grips hC (by omega) hc ok (fun M1 g1 g2 => ?_)⟩
        refine hZ _ _ _ _ (hZ _ _ _ _ (hZ _ _ _ _ (hZ _ _ _ _ (hZ _ _ _ _ ?_))))
        show Z 806 _ _ _
        rw [show nI i + 1 = nI (i + 1) from nI_add i 1]
        refine hZ _ _ _ _ ⟨vp_in_nI (N := L) (by omega) (by omega), ?_⟩
        refine hZ _ _ _ _ (hZ _ _ _ _ (hZ _ _ _ _ (hZ _ _ _ _ ?_)))
        show Z 811 _ _ _
        rw [show nI i + 2 = nI (i + 2) from nI_add i 2]
        refine hZ _ _ _ _ ⟨vp_in_nI (N := L) (by omega) (by omega), ?_⟩
        refine hZ _ _ _ _ ⟨d - 1, by omega, n_grips hC (by omega) (mS_cl g1 hm) ok (fun M2 j1 => ?_)⟩
        refine hZ _ _ _ _ (br_t (rfl) ?_)
        exact nxt M2 S (cS_Q j1 g2) (mS_q j1 (mS_cl g1 hm)) ok
      · skip
        refine hZ _ _ _ _ (hZ _ _ _ _ (hZ _ _ _ _ (hZ _ _ _ _ (hZ _ _ _ _ ?_))))
        show Z 825 _ _ _
        rw [show nI i + 1 = nI (i + 1) from nI_add i 1]
        refine hZ _ _ _ _ ⟨vp_in_nI (N := L) (by omega) (by omega), ?_⟩
        refine hZ _ _ _ _ (hZ _ _ _ _ (hZ _ _ _ _ (hZ _ _ _ _ ?_)))
        show Z 830 _ _ _
        rw [show nI i + 2 = nI (i + 2) from nI_add i 2]
        refine hZ _ _ _ _ ⟨vp_in_nI (N := L) (by omega) (by omega), ?_⟩
        refine hZ _ _ _ _ (hZ _ _ _ _ (hZ _ _ _ _ (hZ _ _ _ _ ?_)))
        show Z 835 _ _ _
        rw [show nI i + 3 = nI (i + 3) from nI_add i 3]
        refine hZ _ _ _ _ ⟨vp_in_nI (N := L) (by omega) (by omega), ?_⟩
        refine hZ _ _ _ _ ⟨d - 1, by omega, c_likely hC (by omega) hc ok (fun M1 g1 g2 => ?_)⟩
        refine hZ _ _ _ _ (hZ _ _ _ _ (hZ _ _ _ _ (hZ _ _ _ _ (hZ _ _ _ _ ?_))))
        show Z 844 _ _ _
        rw [show nI i + 1 = nI (i + 1) from nI_add i 1]
        refine hZ _ _ _ _ ⟨vp_in_nI (N := L) (by omega) (by omega), ?_⟩
        refine hZ _ _ _ _ (hZ _ _ _ _ (hZ _ _ _ _ (hZ _ _ _ _ ?_)))
        show Z 849 _ _ _
        rw [show nI i + 2 = nI (i + 2) from nI_add i 2]
        refine hZ _ _ _ _ ⟨vp_in_nI (N := L) (by omega) (by omega), ?_⟩
        refine hZ _ _ _ _ (hZ _ _ _ _ (hZ _ _ _ _ (hZ _ _ _ _ ?_)))
        show Z 854 _ _ _
        rw [show nI i + 3 = nI (i + 3) from nI_add i 3]
        refine hZ _ _ _ _ ⟨vp_in_nI (N := L) (by omega) (by omega), ?_⟩
        refine hZ _ _ _ _ ⟨d - 1, by omega, n_likely hC (by omega) (mS_cl g1 hm) ok (fun M2 j1 => ?_)⟩
        refine hZ _ _ _ _ (br_t (rfl) ?_)
        exact nxt M2 S (cS_Q j1 g2) (mS_q j1 (mS_cl g1 hm)) ok
      · skip
        refine hZ _ _ _ _ (hZ _ _ _ _ (hZ _ _ _ _ (hZ _ _ _ _ (hZ _ _ _ _ ?_))))
        show Z 868 _ _ _
        rw [show nI i + 1 = nI (i + 1) from nI_add i 1]
        refine hZ _ _ _ _ ⟨vp_in_nI (N := L) (by omega) (by omega), ?_⟩
        refine hZ _ _ _ _ (hZ _ _ _ _ (hZ _ _ _ _ (hZ _ _ _ _ ?_)))
        show Z 873 _ _ _
        rw [show nI i + 2 = nI (i + 2) from nI_add i 2]
        refine hZ _ _ _ _ ⟨vp_in_nI (N := L) (by omega) (by omega), ?_⟩
        refine hZ _ _ _ _ (hZ _ _ _ _ (hZ _ _ _ _ (hZ _ _ _ _ ?_)))
        show Z 878 _ _ _
        rw [show nI i + 3 = nI (i + 3) from nI_add i 3]
        refine hZ _ _ _ _ ⟨vp_in_nI (N := L) (by omega) (by omega), ?_⟩
        refine hZ _ _ _ _ ⟨d - 1, by omega, c_evenings hC (by omega) hc ok (fun M1 g1 g2 => ?_)⟩
        refine hZ _ _ _ _ (hZ _ _ _ _ (hZ _ _ _ _ (hZ _ _ _ _ (hZ _ _ _ _ ?_))))
        show Z 887 _ _ _
        rw [show nI i + 1 = nI (i + 1) from nI_add i 1]
        refine hZ _ _ _ _ ⟨vp_in_nI (N := L) (by omega) (by omega), ?_⟩
        refine hZ _ _ _ _ (hZ _ _ _ _ (hZ _ _ _ _ (hZ _ _ _ _ ?_)))
        show Z 892 _ _ _
        rw [show nI i + 2 = nI (i + 2) from nI_add i 2]
        refine hZ _ _ _ _ ⟨vp_in_nI (N := L) (by omega) (by omega), ?_⟩
        refine hZ _ _ _ _ (hZ _ _ _ _ (hZ _ _ _ _ (hZ _ _ _ _ ?_)))
        show Z 897 _ _ _
        rw [show nI i + 3 = nI (i + 3) from nI_add i 3]
        refine hZ _ _ _ _ ⟨vp_in_nI (N := L) (by omega) (by omega), ?_⟩
        refine hZ _ _ _ _ ⟨d - 1, by omega, n_evenings hC (by omega) (mS_cl g1 hm) ok (fun M2 j1 j2 => ?_)⟩
        refine hZ _ _ _ _ (br_t (rfl) ?_)
        exact nxt M2 _ (cS_A j1 g2) j2 ok
      · skip
        refine hZ _ _ _ _ ?_
        show Z 907 _ _ _
        refine hZ _ _ _ _ ⟨d - 1, by omega, c_keep hC (by omega) hc ok (fun M1 g1 g2 => ?_)⟩
        refine hZ _ _ _ _ ?_
        show Z 911 _ _ _
        refine hZ _ _ _ _ ⟨d - 1, by omega, n_keep hC (by omega) (mS_cl g1 hm) ok (fun M2 j1 j2 => ?_)⟩
        refine hZ _ _ _ _ (br_t (rfl) ?_)
        exact nxt M2 _ (cS_A j1 g2) j2 (ok_keep ok)
      · skip
        refine hZ _ _ _ _ ?_
        show Z 920 _ _ _
        refine hZ _ _ _ _ ⟨d - 1, by omega, c_back hC (by omega) hc (fun M1 g1 g2 => ?_)⟩
        refine hZ _ _ _ _ ?_
        show Z 924 _ _ _
        refine hZ _ _ _ _ ⟨d - 1, by omega, n_back hC (by omega) (mS_cl g1 hm) ok (fun M2 j1 j2 => ?_)⟩
        refine hZ _ _ _ _ (br_t (rfl) ?_)
        exact nxt M2 _ (cS_A j1 g2) j2 (ok_back ok)
      · skip
        refine hZ _ _ _ _ (hZ _ _ _ _ (hZ _ _ _ _ (hZ _ _ _ _ (hZ _ _ _ _ ?_))))
        show Z 937 _ _ _
        rw [show nI i + 1 = nI (i + 1) from nI_add i 1]
        refine hZ _ _ _ _ ⟨vp_in_nI (N := L) (by omega) (by omega), ?_⟩
        refine hZ _ _ _ _ ⟨d - 1, by omega, c_count hC (by omega) hc ok (fun M1 g1 g2 => ?_)⟩
        refine hZ _ _ _ _ (hZ _ _ _ _ (hZ _ _ _ _ (hZ _ _ _ _ (hZ _ _ _ _ ?_))))
        show Z 946 _ _ _
        rw [show nI i + 1 = nI (i + 1) from nI_add i 1]
        refine hZ _ _ _ _ ⟨vp_in_nI (N := L) (by omega) (by omega), ?_⟩
        refine hZ _ _ _ _ ⟨d - 1, by omega, n_count hC (by omega) (mS_cl g1 hm) ok (fun M2 j1 => ?_)⟩
        refine hZ _ _ _ _ (br_t (rfl) ?_)
        exact nxt M2 S (cS_Q j1 g2) (mS_q j1 (mS_cl g1 hm)) ok
      · exact nxt M S hc hm ok
