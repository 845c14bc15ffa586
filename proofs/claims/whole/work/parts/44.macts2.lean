/-! the model: notes, acts -/
theorem nR_cg {f g : Nat → Int32} {o p : Nat} {ρ : pRm} (h : nR f o ρ) (ok : okR ρ) (e : ∀ k, k < 35 → g (p + k) = f (o + k)) : nR g p ρ := by
  have l1 := ok.1
  have l3 := ok.2.2.1
  obtain ⟨h1, h2, h3, h4⟩ := h
  refine ⟨(e 0 (by omega)).trans h1, (e 1 (by omega)).trans h2, fun c x hx => ?_, fun t y hy => ?_⟩
  · have hc : c < 7 := Nat.lt_of_lt_of_le (List.getElem?_eq_some_iff.mp hx).1 l3
    obtain ⟨k1, k2, k3, k4⟩ := h3 c x hx
    refine ⟨?_, ?_, ?_, ?_⟩
    · rw [Nat.add_assoc, e (2 + c) (by omega), ← Nat.add_assoc]; exact k1
    · rw [Nat.add_assoc, e (9 + c) (by omega), ← Nat.add_assoc]; exact k2
    · rw [Nat.add_assoc, e (16 + c) (by omega), ← Nat.add_assoc]; exact k3
    · rw [Nat.add_assoc, e (23 + c) (by omega), ← Nat.add_assoc]; exact k4
  · have ht : t < 5 := Nat.lt_of_lt_of_le (List.getElem?_eq_some_iff.mp hy).1 l1
    rw [Nat.add_assoc, e (30 + t) (by omega), ← Nat.add_assoc]
    exact h4 t y hy
theorem n_notes {C : pC} (hC : p_Lg true C) {d : Nat} {M : pM} {Q : pQ} {P : List pRm} {ρ : pRm} (hd : 1 ≤ d) (hL : mL M 35 30 8 P) (okP : ∀ ρ' ∈ P, okR ρ') (hR : mR M ρ) (ok : okR ρ) (h : ∀ M', mfr (Nat.beq 35) (Nat.beq 30) M M' → mL M' 35 30 8 (psh8 P ρ) → Q M' none) : C d k_X8_notes M [vR (aS 18)] Q := by
  obtain ⟨l8, a1, a2⟩ := hL
  refine p_ent hC tb_X8_notes _ rfl rfl rfl (fun Z hZ => ?_)
  refine hZ _ _ _ _ (hZ _ _ _ _ (hZ _ _ _ _ ?_))
  show Z 6 _ _ _
  rw [a1]
  have fin : ∀ (P' : List pRm) (M1 : pM), P'.length < 8 → mfr (Nat.beq 35) (Nat.beq 30) M M1 → mL M1 35 30 8 P' → ∀ y, Z 49 [some (vR (aS 18)), y] [] M1 → True := fun _ _ _ _ _ _ _ => trivial
  have tail : ∀ (P' : List pRm) (M1 : pM) (y : Option pV), P'.length < 8 → (∀ ρ' ∈ P', okR ρ') → psh8 P ρ = P' ++ [ρ] → mfr (Nat.beq 35) (Nat.beq 30) M M1 → mL M1 35 30 8 P' → Z 49 [some (vR (aS 18)), y] [] M1 := by
    intro P' M1 y hlt okP' hps f1 ⟨_, b1, b2⟩
    have R1 : mR M1 ρ := mR_cg hR (fun k hk => f1.2.1 k (p_beq_f (by omega))) (fun s h1 h2 => f1.1 s (by omega) (p_beq_f (by omega)))
    refine hZ _ _ _ _ (hZ _ _ _ _ (hZ _ _ _ _ (hZ _ _ _ _ (hZ _ _ _ _ (hZ _ _ _ _ (hZ _ _ _ _ ?_))))))
    show Z 61 _ _ _
    rw [b1, show (35 : Int32) * nI P'.length = nI (35 * P'.length) from pk_mul 35 _]
    refine hZ _ _ _ _ ⟨d - 1, by omega, n_lays35 hC (35 * P'.length) rfl (by omega) R1 ok (fun M2 g1 g2 g3 => ?_)⟩
    refine hZ _ _ _ _ (hZ _ _ _ _ (hZ _ _ _ _ (hZ _ _ _ _ (hZ _ _ _ _ (hZ _ _ _ _ ?_)))))
    show Z 74 _ _ _
    refine hZ _ _ _ _ ?_
    refine h _ (mfr_fd (f1.tr (g1.mono (fun _ h => h) no_le)) rfl) ?_
    rw [hps]
    refine ⟨by simp; omega, ?_, fun i ρ' hi => ?_⟩
    · rw [p_wr_eq, us, g1.2.1 30 rfl, b1, nI_1]
      simp
    · show nR (M2.1 (aS 35)) (35 * i) ρ'
      rcases get_snoc hi with ⟨e1, e2⟩ | ⟨e1, e2⟩
      · exact nR_cg (b2 i ρ' e2) (okP' ρ' (List.mem_of_getElem? e2)) (fun k hk => g3 _ (by omega))
      · rw [e1, e2]
        exact g2
  by_cases hlt : P.length < 8
  · skip
    refine hZ _ _ _ _ (p_tn (by intro q; have := (nI_eq (a := P.length) (b := 8) (by omega) (by omega)).mp q; omega) ?_)
    exact tail P M none hlt okP (by rw [psh8, if_neg (by omega)]) mfr_rf ⟨l8, a1, a2⟩
  · have e8 : P.length = 8 := by omega
    refine hZ _ _ _ _ (p_fn (by rw [e8]; rfl) ?_)
    refine hZ _ _ _ _ (hZ _ _ _ _ ?_)
    show Z 11 _ _ _
    have loop : ∀ (n i : Nat) (M2 : pM), i + n = 245 → mfr (Nat.beq 35) (Nat.beq 30) M M2 → M2.1 (aS 18) 30 = nI 8 → (∀ j, M2.1 (aS 35) j = if j < i then M.1 (aS 35) (j + 35) else M.1 (aS 35) j) → Z 11 [some (vR (aS 18)), some (vI (nI i))] [] M2 := by
      intro n
      induction n with
      | zero =>
        intro i M2 e1 f1 f2 f3
        have : i = 245 := by omega
        subst this
        refine hZ _ _ _ _ (hZ _ _ _ _ ?_)
        show Z 15 _ _ _
        refine hZ _ _ _ _ (br_t (Int32.le_refl _) ?_)
        refine hZ _ _ _ _ (hZ _ _ _ _ (hZ _ _ _ _ (hZ _ _ _ _ (hZ _ _ _ _ (hZ _ _ _ _ ?_)))))
        show Z 49 _ _ _
        refine tail P.tail _ _ (by rw [List.length_tail]; omega) (fun ρ' h9 => okP ρ' (List.mem_of_mem_tail h9)) (by rw [psh8, if_pos e8]) (mfr_fd f1 rfl) ⟨by rw [List.length_tail]; omega, ?_, fun j ρ' hj => ?_⟩
        · rw [p_wr_eq, us, f2, List.length_tail, e8]
          rfl
        · show nR (M2.1 (aS 35)) (35 * j) ρ'
          rw [List.getElem?_tail] at hj
          have hj7 : j < 7 := by
            have := (List.getElem?_eq_some_iff.mp hj).1
            omega
          refine nR_cg (a2 (j + 1) ρ' hj) (okP ρ' (List.mem_of_getElem? hj)) (fun k hk => ?_)
          rw [f3, if_pos (by omega), show 35 * j + k + 35 = 35 * (j + 1) + k by omega]
      | succ n ih =>
        intro i M2 e1 f1 f2 f3
        refine hZ _ _ _ _ (hZ _ _ _ _ ?_)
        show Z 15 _ _ _
        refine hZ _ _ _ _ (br_f (nI_ge (a := i) (b := 245) (by omega) (by omega)) ?_)
        refine hZ _ _ _ _ (hZ _ _ _ _ (hZ _ _ _ _ (hZ _ _ _ _ (hZ _ _ _ _ (hZ _ _ _ _ (hZ _ _ _ _ (hZ _ _ _ _ ?_)))))))
        show Z 31 _ _ _
        rw [show nI i + 35 = nI (i + 35) from nI_add i 35]
        refine hZ _ _ _ _ ⟨vp_in_nI (N := 280) (by omega) (by omega), ?_⟩
        refine hZ _ _ _ _ ⟨vp_in_nI (N := 280) (by omega) (by omega), ?_⟩
        rw [nI_clamp (by omega), nI_clamp (by omega)]
        refine hZ _ _ _ _ (hZ _ _ _ _ ?_)
        show Z 11 _ _ _
        rw [show nI i + 1 = nI (i + 1) from nI_1 i]
        refine ih (i + 1) _ (by omega) (mfr_wr f1 (by decide) rfl) f2 (fun j => ?_)
        rw [p_wr_eq]
        by_cases e : j = i
        · rw [e, us, f3, if_neg (by omega), if_pos (by omega)]
        · rw [un e, f3]
          by_cases e5 : j < i
          · rw [if_pos e5, if_pos (by omega)]
          · rw [if_neg e5, if_neg (by omega)]
    exact loop 245 0 M rfl mfr_rf (by rw [a1, e8]) (fun j => by rw [if_neg (by omega)])
/-- behind notes: all else of the model's state -/
theorem mS_notes {M M1 : pM} {S : pS} (hS : mS M S) (F : mfr (Nat.beq 35) (Nat.beq 30) M M1) : mT M1 S.1 ∧ mR M1 S.2.1 ∧ mV M1 S.2.2.1 ∧ mL M1 38 34 2 S.2.2.2.2 := by
  obtain ⟨a1, a2, a3, a4, a5⟩ := hS
  exact ⟨mT_cg a1 (F.2.1 14 rfl) (F.1 27 (by decide) rfl), mR_cg a2 (fun k hk => F.2.1 k (p_beq_f (by omega))) (fun s h1 h2 => F.1 s (by omega) (p_beq_f (by omega))), mV_cg a3 (F.2.1 10 rfl) (F.1 25 (by decide) rfl) (F.1 26 (by decide) rfl), mL_cg a5 (F.2.1 34 rfl) (F.1 38 (by decide) rfl)⟩
theorem mfA_n {M M1 : pM} (F : mfr (Nat.beq 35) (Nat.beq 30) M M1) : mfA M M1 := mfA_of F (lo18 (fun s hs => p_beq_f (by omega)))
theorem okSP {S : pS} (ok : okS S) : ∀ ρ' ∈ S.2.2.2.1, okR ρ' := fun ρ' h => (ok.2.2.2.2.1 ρ' h).1
theorem okSK {S : pS} (ok : okS S) : ∀ ρ' ∈ S.2.2.2.2, okR ρ' := fun ρ' h => (ok.2.2.2.2.2 ρ' h).1
theorem n_turn {C : pC} (hC : p_Lg true C) {d : Nat} {M : pM} {Q : pQ} {S : pS} {f : Int32} (hd : 2 ≤ d) (hS : mS M S) (ok : okS S) (h : ∀ M', mfA M M' → mS M' (sp_turn S f).1 → Q M' (some (vI (sp_turn S f).2))) : C d k_X8_turn M [vR (aS 18), vI f] Q := by
  refine p_ent hC tb_X8_turn _ rfl rfl rfl (fun Z hZ => ?_)
  refine hZ _ _ _ _ (hZ _ _ _ _ ?_)
  show Z 2 _ _ _
  refine hZ _ _ _ _ ⟨d - 1, by omega, n_isFact hC (by omega) hS.2.1 ok.1 (fun k b1 b2 b3 => ?_) (fun b1 => ?_)⟩
  · skip
    refine hZ _ _ _ _ (p_tn (by decide) ?_)
    refine hZ _ _ _ _ ?_
    show Z 11 _ _ _
    refine hZ _ _ _ _ ⟨d - 1, by omega, n_notes hC (by omega) hS.2.2.2.1 (okSP ok) hS.2.1 ok.1 (fun M1 g1 g2 => ?_)⟩
    obtain ⟨t1, t2, t3, t4⟩ := mS_notes hS g1
    refine hZ _ _ _ _ (hZ _ _ _ _ (hZ _ _ _ _ (hZ _ _ _ _ (hZ _ _ _ _ (hZ _ _ _ _ (hZ _ _ _ _ (hZ _ _ _ _ (hZ _ _ _ _ (hZ _ _ _ _ (hZ _ _ _ _ (hZ _ _ _ _ (hZ _ _ _ _ (hZ _ _ _ _ ?_)))))))))))))
    show Z 34 _ _ _
    refine hZ _ _ _ _ ?_
    obtain ⟨x1, x2, x3, x4, x5, x6⟩ := t2
    have := h (p_wr M1 (aS 18) 3 (M1.1 (aS 18) 3 ^^^ ((1 : Int32) <<< (f &&& 31)))) (mfr_fd (mfA_n g1) rfl)
    simp only [sp_turn, b1] at this
    have e3 : (p_wr M1 (aS 18) 3 (M1.1 (aS 18) 3 ^^^ ((1 : Int32) <<< (f &&& 31)))).1 (aS 18) 3 = (trR S.2.1 f).2.2.1 := by
      rw [p_wr_eq, us, x4]
      rfl
    rw [e3]
    exact this ⟨t1, ⟨x1, x2, x3, e3, x5, x6⟩, t3, g2, t4⟩
  · skip
    refine hZ _ _ _ _ (p_fn (rfl) ?_)
    refine hZ _ _ _ _ ?_
    show Z 9 _ _ _
    refine hZ _ _ _ _ ?_
    have := h M mfr_rf
    simp only [sp_turn, b1] at this
    exact this hS
theorem n_add {C : pC} (hC : p_Lg true C) {d : Nat} {M : pM} {Q : pQ} {S : pS} {t f v w : Int32} (hd : 2 ≤ d) (hS : mS M S) (ok : okS S) (h : ∀ M', mfA M M' → mS M' (sp_add S t f v w).1 → Q M' (some (vI (sp_add S t f v w).2))) : C d k_X8_add M [vR (aS 18), vI t, vI f, vI v, vI w] Q := by
  have l3 := ok.1.2.2.1
  have bad : alw S.2.1 t f v w = false → Q M (some (vI (-1))) := by
    intro e
    have := h M mfr_rf
    simp only [sp_add, e] at this
    exact this hS
  refine p_ent hC tb_X8_add _ rfl rfl rfl (fun Z hZ => ?_)
  refine hZ _ _ _ _ (hZ _ _ _ _ ?_)
  show Z 2 _ _ _
  refine hZ _ _ _ _ ⟨d - 1, by omega, n_isTeller hC (by omega) hS.2.1 ok.1 (fun k b1 b2 b3 => ?_) (fun b1 => ?_)⟩
  · skip
    refine hZ _ _ _ _ (br_f (by decide) ?_)
    refine hZ _ _ _ _ (hZ _ _ _ _ ?_)
    show Z 10 _ _ _
    refine hZ _ _ _ _ ⟨d - 1, by omega, n_isFact hC (by omega) hS.2.1 ok.1 (fun k' c1 c2 c3 => ?_) (fun c1 => ?_)⟩
    · skip
      refine hZ _ _ _ _ (br_f (by decide) ?_)
      refine hZ _ _ _ _ (hZ _ _ _ _ (hZ _ _ _ _ ?_))
      show Z 19 _ _ _
      refine hZ _ _ _ _ ⟨d - 1, by omega, n_in hC (fun u1 u2 => ?_) (fun u1 => ?_)⟩
      · skip
        refine hZ _ _ _ _ (br_f (by decide) ?_)
        refine hZ _ _ _ _ (hZ _ _ _ _ (hZ _ _ _ _ ?_))
        show Z 30 _ _ _
        refine hZ _ _ _ _ ⟨d - 1, by omega, n_in hC (fun z1 z2 => ?_) (fun z1 => ?_)⟩
        · skip
          have ha : alw S.2.1 t f v w = true := by
            simp only [alw, b1, c1, Option.isSome_some, decide_eq_true (And.intro u1 u2), decide_eq_true (And.intro z1 z2)]
            rfl
          refine hZ _ _ _ _ (p_tn (by decide) ?_)
          refine hZ _ _ _ _ (hZ _ _ _ _ (hZ _ _ _ _ ?_))
          show Z 44 _ _ _
          rw [hS.2.1.2.2.1]
          by_cases hlt : S.2.1.2.2.2.length < 7
          · refine hZ _ _ _ _ (p_tn (by intro q; have := (nI_eq (a := S.2.1.2.2.2.length) (b := 7) (by omega) (by omega)).mp q; omega) ?_)
            refine hZ _ _ _ _ ?_
            show Z 51 _ _ _
            refine hZ _ _ _ _ ⟨d - 1, by omega, n_notes hC (by omega) hS.2.2.2.1 (okSP ok) hS.2.1 ok.1 (fun M1 g1 g2 => ?_)⟩
            obtain ⟨t1, t2, t3, t4⟩ := mS_notes hS g1
            obtain ⟨x1, x2, x3, x4, x5, x6⟩ := t2
            refine hZ _ _ _ _ (hZ _ _ _ _ (hZ _ _ _ _ (hZ _ _ _ _ (hZ _ _ _ _ (hZ _ _ _ _ (hZ _ _ _ _ ?_))))))
            show Z 64 _ _ _
            refine hZ _ _ _ _ ⟨d - 1, by omega, n_sets2 hC _ x3 (by omega) (fun M2 j1 j2 j3 j4 j5 => ?_)⟩
            refine hZ _ _ _ _ (hZ _ _ _ _ (hZ _ _ _ _ (hZ _ _ _ _ (hZ _ _ _ _ (hZ _ _ _ _ (hZ _ _ _ _ (hZ _ _ _ _ (hZ _ _ _ _ (hZ _ _ _ _ ?_)))))))))
            show Z 83 _ _ _
            refine hZ _ _ _ _ ?_
            have A2 : mfA M M2 := (mfA_n g1).tr (mfA_of j1 (lo18 (by decide)))
            have := h (p_wr M2 (aS 18) 2 (M2.1 (aS 18) 2 + 1)) (mfr_fd A2 rfl)
            simp only [sp_add, if_pos ha, if_pos hlt] at this
            have e2 : (p_wr M2 (aS 18) 2 (M2.1 (aS 18) 2 + 1)).1 (aS 18) 2 = nI (S.2.1.2.2.2.length + 1) := by
              rw [p_wr_eq, us, j1.2.1 2 rfl, x3, nI_1]
            rw [e2, nI_pred]
            refine this ⟨mT_cg t1 (j1.2.1 14 rfl) (j1.1 27 (by decide) rfl), ⟨(j1.2.1 0 rfl).trans x1, (j1.2.1 1 rfl).trans x2, ?_, (j1.2.1 3 rfl).trans x4, fun i x hx => ?_, fun i x hx => ?_⟩, mV_cg t3 (j1.2.1 10 rfl) (j1.1 25 (by decide) rfl) (j1.1 26 (by decide) rfl), mL_cg g2 (j1.2.1 30 rfl) (j1.1 35 (by decide) rfl), mL_cg t4 (j1.2.1 34 rfl) (j1.1 38 (by decide) rfl)⟩
            · rw [e2]
              show _ = nI (S.2.1.2.2.2 ++ [(t, f, v, w)]).length
              simp
            · show M2.1 (aS 19) i = _ ∧ M2.1 (aS 20) i = _
              rw [j1.1 19 (by decide) rfl, j1.1 20 (by decide) rfl]
              exact x5 i x hx
            · show M2.1 (aS 21) i = _ ∧ M2.1 (aS 22) i = _ ∧ M2.1 (aS 23) i = _ ∧ M2.1 (aS 24) i = _
              rw [j2, j3, j4, j5]
              rcases get_snoc hx with ⟨e1, e9⟩ | ⟨e1, e9⟩
              · rw [un (by omega), un (by omega), un (by omega), un (by omega)]
                exact x6 i x e9
              · rw [e1, e9, us, us, us, us]
                exact ⟨rfl, rfl, rfl, rfl⟩
          · skip
            refine hZ _ _ _ _ (p_fn (by rw [show S.2.1.2.2.2.length = 7 by omega]; rfl) ?_)
            refine hZ _ _ _ _ ?_
            show Z 49 _ _ _
            refine hZ _ _ _ _ ?_
            have := h M mfr_rf
            simp only [sp_add, if_pos ha, if_neg hlt] at this
            exact this hS
        · skip
          refine hZ _ _ _ _ (p_fn (rfl) ?_)
          refine hZ _ _ _ _ ?_
          show Z 37 _ _ _
          refine hZ _ _ _ _ ?_
          exact bad (by simp only [alw, decide_eq_false z1, Bool.and_false])
      · skip
        refine hZ _ _ _ _ (br_t (rfl) ?_)
        refine hZ _ _ _ _ ?_
        show Z 37 _ _ _
        refine hZ _ _ _ _ ?_
        exact bad (by simp only [alw, decide_eq_false u1, Bool.and_false, Bool.false_and])
    · skip
      refine hZ _ _ _ _ (br_t (rfl) ?_)
      refine hZ _ _ _ _ ?_
      show Z 37 _ _ _
      refine hZ _ _ _ _ ?_
      exact bad (by simp [alw, c1])
  · skip
    refine hZ _ _ _ _ (br_t (rfl) ?_)
    refine hZ _ _ _ _ ?_
    show Z 37 _ _ _
    refine hZ _ _ _ _ ?_
    exact bad (by simp [alw, b1])
theorem n_strike {C : pC} (hC : p_Lg true C) {d : Nat} {M : pM} {Q : pQ} {S : pS} {c : Int32} (hd : 2 ≤ d) (hS : mS M S) (ok : okS S) (h : ∀ M', mfA M M' → mS M' (sp_strike S c).1 → Q M' (some (vI (sp_strike S c).2))) : C d k_X8_strike M [vR (aS 18), vI c] Q := by
  have l3 := ok.1.2.2.1
  refine p_ent hC tb_X8_strike _ rfl rfl rfl (fun Z hZ => ?_)
  refine hZ _ _ _ _ (hZ _ _ _ _ ?_)
  show Z 2 _ _ _
  refine hZ _ _ _ _ ⟨d - 1, by omega, n_isClaim hC (by omega) hS.2.1 ok.1 (fun k b1 b2 b3 => ?_) (fun b1 => ?_)⟩
  · skip
    subst b3
    refine hZ _ _ _ _ (p_tn (by decide) ?_)
    refine hZ _ _ _ _ ?_
    show Z 11 _ _ _
    refine hZ _ _ _ _ ⟨d - 1, by omega, n_notes hC (by omega) hS.2.2.2.1 (okSP ok) hS.2.1 ok.1 (fun M1 g1 g2 => ?_)⟩
    obtain ⟨t1, t2, t3, t4⟩ := mS_notes hS g1
    obtain ⟨x1, x2, x3, x4, x5, x6⟩ := t2
    refine hZ _ _ _ _ (hZ _ _ _ _ (hZ _ _ _ _ (hZ _ _ _ _ ?_)))
    show Z 18 _ _ _
    rw [show nI k + 1 = nI (k + 1) from nI_1 k]
    have loop : ∀ (n i : Nat) (M2 : pM), i + n = S.2.1.2.2.2.length → k < i → mfr ch4 no M1 M2 → (∀ j, M2.1 (aS 21) j = if k ≤ j ∧ j + 1 < i then M1.1 (aS 21) (j + 1) else M1.1 (aS 21) j) → (∀ j, M2.1 (aS 22) j = if k ≤ j ∧ j + 1 < i then M1.1 (aS 22) (j + 1) else M1.1 (aS 22) j) → (∀ j, M2.1 (aS 23) j = if k ≤ j ∧ j + 1 < i then M1.1 (aS 23) (j + 1) else M1.1 (aS 23) j) → (∀ j, M2.1 (aS 24) j = if k ≤ j ∧ j + 1 < i then M1.1 (aS 24) (j + 1) else M1.1 (aS 24) j) → Z 18 [some (vR (aS 18)), some (vI (nI k)), some (vI (nI i))] [] M2 := by
      intro n
      induction n with
      | zero =>
        intro i M2 e1 hk j1 j2 j3 j4 j5
        have : i = S.2.1.2.2.2.length := by omega
        subst this
        have c2 : M2.1 (aS 18) 2 = nI S.2.1.2.2.2.length := (j1.2.1 2 rfl).trans x3
        refine hZ _ _ _ _ (hZ _ _ _ _ (hZ _ _ _ _ ?_))
        show Z 23 _ _ _
        refine hZ _ _ _ _ (br_t (by rw [c2]; exact Int32.le_refl _) ?_)
        refine hZ _ _ _ _ (hZ _ _ _ _ (hZ _ _ _ _ (hZ _ _ _ _ (hZ _ _ _ _ (hZ _ _ _ _ (hZ _ _ _ _ (hZ _ _ _ _ ?_)))))))
        show Z 54 _ _ _
        refine hZ _ _ _ _ ?_
        have A2 : mfA M M2 := (mfA_n g1).tr (mfA_of j1 (lo18 (by decide)))
        have := h (p_wr M2 (aS 18) 2 (M2.1 (aS 18) 2 - 1)) (mfr_fd A2 rfl)
        simp only [sp_strike, b1] at this
        have e2 : (p_wr M2 (aS 18) 2 (M2.1 (aS 18) 2 - 1)).1 (aS 18) 2 = nI (S.2.1.2.2.2.length - 1) := by
          rw [p_wr_eq, us, c2, show S.2.1.2.2.2.length = (S.2.1.2.2.2.length - 1) + 1 by omega]
          exact nI_pred _
        rw [e2]
        refine this ⟨mT_cg t1 (j1.2.1 14 rfl) (j1.1 27 (by decide) rfl), ⟨(j1.2.1 0 rfl).trans x1, (j1.2.1 1 rfl).trans x2, ?_, (j1.2.1 3 rfl).trans x4, fun i x hx => ?_, fun i x hx => ?_⟩, mV_cg t3 (j1.2.1 10 rfl) (j1.1 25 (by decide) rfl) (j1.1 26 (by decide) rfl), mL_cg g2 (j1.2.1 30 rfl) (j1.1 35 (by decide) rfl), mL_cg t4 (j1.2.1 34 rfl) (j1.1 38 (by decide) rfl)⟩
        · rw [e2]
          show _ = nI (rmL _ k).length
          rw [rmL_len]
        · show M2.1 (aS 19) i = _ ∧ M2.1 (aS 20) i = _
          rw [j1.1 19 (by decide) rfl, j1.1 20 (by decide) rfl]
          exact x5 i x hx
        · have hi : i < S.2.1.2.2.2.length - 1 := by
            have q : i < (rmL S.2.1.2.2.2 k).length := (List.getElem?_eq_some_iff.mp hx).1
            rwa [rmL_len] at q
          have hx' := mvL_get b2 (by omega) (rmL_get b2 hx)
          have es : slx k (S.2.1.2.2.2.length - 1) i = if k ≤ i ∧ i + 1 < S.2.1.2.2.2.length then i + 1 else i := by
            simp only [slx]
            rw [if_neg (by omega)]
            by_cases q : k ≤ i
            · rw [if_pos ⟨q, hi⟩, if_pos ⟨q, by omega⟩]
            · rw [if_neg (fun z => q z.1), if_neg (by omega), if_neg (fun z => q z.1)]
          rw [es] at hx'
          obtain ⟨y1, y2, y3, y4⟩ := x6 _ x hx'
          show M2.1 (aS 21) i = _ ∧ M2.1 (aS 22) i = _ ∧ M2.1 (aS 23) i = _ ∧ M2.1 (aS 24) i = _
          rw [j2, j3, j4, j5]
          by_cases q : k ≤ i ∧ i + 1 < S.2.1.2.2.2.length
          · simp only [if_pos q] at y1 y2 y3 y4 ⊢
            exact ⟨y1, y2, y3, y4⟩
          · simp only [if_neg q] at y1 y2 y3 y4 ⊢
            exact ⟨y1, y2, y3, y4⟩
      | succ n ih =>
        intro i M2 e1 hk j1 j2 j3 j4 j5
        refine hZ _ _ _ _ (hZ _ _ _ _ (hZ _ _ _ _ ?_))
        show Z 23 _ _ _
        refine hZ _ _ _ _ (br_f (by rw [j1.2.1 2 rfl, x3]; exact nI_ge (by omega) (by omega)) ?_)
        refine hZ _ _ _ _ (hZ _ _ _ _ (hZ _ _ _ _ (hZ _ _ _ _ (hZ _ _ _ _ ?_))))
        show Z 31 _ _ _
        rw [show nI i - 1 = nI (i - 1) from by rw [show i = (i - 1) + 1 by omega]; exact nI_pred _]
        refine hZ _ _ _ _ ⟨d - 1, by omega, n_copies hC i (i - 1) rfl rfl (by omega) (by omega) (by omega) (fun M3 q1 q2 q3 q4 q5 => ?_)⟩
        refine hZ _ _ _ _ (hZ _ _ _ _ ?_)
        show Z 18 _ _ _
        rw [show nI i + 1 = nI (i + 1) from nI_1 i]
        have upd_ok : ∀ (f g : Nat → Int32), (∀ j, f j = if k ≤ j ∧ j + 1 < i then g (j + 1) else g j) → ∀ j, upd f (i - 1) (f i) j = if k ≤ j ∧ j + 1 < i + 1 then g (j + 1) else g j := by
          intro f g hf j
          by_cases e : j = i - 1
          · rw [e, us, hf, if_neg (by omega), if_pos (by omega)]
            congr 1
            omega
          · rw [un e, hf]
            by_cases q : k ≤ j ∧ j + 1 < i
            · rw [if_pos q, if_pos (by omega)]
            · rw [if_neg q, if_neg (by omega)]
        exact ih (i + 1) M3 (by omega) (by omega) (j1.tr q1) (by rw [q2]; exact upd_ok _ _ j2) (by rw [q3]; exact upd_ok _ _ j3) (by rw [q4]; exact upd_ok _ _ j4) (by rw [q5]; exact upd_ok _ _ j5)
    refine loop (S.2.1.2.2.2.length - (k + 1)) (k + 1) M1 (by omega) (by omega) mfr_rf ?_ ?_ ?_ ?_ <;> exact fun j => by rw [if_neg (by omega)]
  · skip
    refine hZ _ _ _ _ (p_fn (rfl) ?_)
    refine hZ _ _ _ _ ?_
    show Z 9 _ _ _
    refine hZ _ _ _ _ ?_
    have := h M mfr_rf
    simp only [sp_strike, b1] at this
    exact this hS
theorem sl_fin {f : Nat → Int32} {c k : Nat} (h : c < k) : upd (slU f c k) k (f c) = sl f c k := by
  funext i
  simp only [upd, sl, slU]
  by_cases h2 : i = k
  · simp [h2]
  · have : ¬ (k < i ∧ i ≤ c) := by omega
    simp [h2, this]
theorem sl_fin2 {f : Nat → Int32} {c k : Nat} (h : ¬ c < k) : upd (slD f c k) k (f c) = sl f c k := by
  funext i
  simp only [upd, sl, slD]
  by_cases h2 : i = k
  · simp [h2]
  · have : ¬ (c ≤ i ∧ i < k) := by omega
    simp [h2, this]
theorem slU_s {f : Nat → Int32} {c i : Nat} (h : c ≤ i) : upd (slU f c i) i (slU f c i (i + 1)) = slU f c (i + 1) := by
  funext x
  simp only [upd, slU]
  by_cases h2 : x = i
  · have h3 : ¬ (c ≤ i + 1 ∧ i + 1 < i) := by omega
    have h4 : c ≤ i ∧ i < i + 1 := by omega
    simp only [h2, if_true, if_neg h3, if_pos h4]
  · by_cases h3 : c ≤ x ∧ x < i
    · have h4 : c ≤ x ∧ x < i + 1 := by omega
      simp [h2, h3, h4]
    · have h4 : ¬ (c ≤ x ∧ x < i + 1) := by omega
      simp [h2, h3, h4]
theorem slD_s {f : Nat → Int32} {c i : Nat} (h : i ≤ c) (h0 : 0 < i) : upd (slD f c i) i (slD f c i (i - 1)) = slD f c (i - 1) := by
  funext x
  simp only [upd, slD]
  by_cases h2 : x = i
  · have h3 : ¬ (i < i - 1 ∧ i - 1 ≤ c) := by omega
    have h4 : i - 1 < i ∧ i ≤ c := by omega
    simp only [h2, if_true, if_neg h3, if_pos h4]
  · by_cases h3 : i < x ∧ x ≤ c
    · have h4 : i - 1 < x ∧ x ≤ c := by omega
      simp [h2, h3, h4]
    · have h4 : ¬ (i - 1 < x ∧ x ≤ c) := by omega
      simp [h2, h3, h4]
theorem n_shifts {C : pC} (hC : p_Lg true C) {d : Nat} {M : pM} {Q : pQ} {x y : Int32} (c k : Nat) (ex : x = nI c) (ey : y = nI k) (hc : c < 8) (hk : k < 8) (hd : 2 ≤ d) (h : ∀ M', mfr ch4 no M M' → M'.1 (aS 21) = sl (M.1 (aS 21)) c k → M'.1 (aS 22) = sl (M.1 (aS 22)) c k → M'.1 (aS 23) = sl (M.1 (aS 23)) c k → M'.1 (aS 24) = sl (M.1 (aS 24)) c k → Q M' none) : C d k_X8_shifts M [vR (aS 18), vI x, vI y] Q := by
  subst ex
  subst ey
  have ec : (nI c).toNatClampNeg = c := nI_clamp (by omega)
  refine p_ent hC tb_X8_shifts _ rfl rfl rfl (fun Z hZ => ?_)
  refine hZ _ _ _ _ (hZ _ _ _ _ (hZ _ _ _ _ ?_))
  show Z 5 _ _ _
  refine hZ _ _ _ _ ⟨vp_in_nI (N := 8) hc (by omega), ?_⟩
  refine hZ _ _ _ _ (hZ _ _ _ _ (hZ _ _ _ _ (hZ _ _ _ _ ?_)))
  show Z 12 _ _ _
  refine hZ _ _ _ _ ⟨vp_in_nI (N := 8) hc (by omega), ?_⟩
  refine hZ _ _ _ _ (hZ _ _ _ _ (hZ _ _ _ _ (hZ _ _ _ _ ?_)))
  show Z 20 _ _ _
  refine hZ _ _ _ _ ⟨vp_in_nI (N := 8) hc (by omega), ?_⟩
  refine hZ _ _ _ _ (hZ _ _ _ _ (hZ _ _ _ _ (hZ _ _ _ _ ?_)))
  show Z 28 _ _ _
  refine hZ _ _ _ _ ⟨vp_in_nI (N := 8) hc (by omega), ?_⟩
  rw [ec]
  refine hZ _ _ _ _ (hZ _ _ _ _ (hZ _ _ _ _ ?_))
  show Z 34 _ _ _
  have fin : ∀ (j : Int32) (M2 : pM), mfr ch4 no M M2 → (∀ (s : Nat), 21 ≤ s → s ≤ 24 → upd (M2.1 (aS s)) k (M.1 (aS s) c) = sl (M.1 (aS s)) c k) → Z 81 [some (vR (aS 18)), some (vI (nI c)), some (vI (nI k)), some (vI (M.1 (aS 21) c)), some (vI (M.1 (aS 22) c)), some (vI (M.1 (aS 23) c)), some (vI (M.1 (aS 24) c)), some (vI j)] [] M2 := by
    intro j M2 f1 f2
    refine hZ _ _ _ _ (hZ _ _ _ _ (hZ _ _ _ _ (hZ _ _ _ _ (hZ _ _ _ _ (hZ _ _ _ _ ?_)))))
    show Z 90 _ _ _
    refine hZ _ _ _ _ ⟨d - 1, by omega, n_sets2 hC k rfl hk (fun M3 q1 q2 q3 q4 q5 => ?_)⟩
    refine hZ _ _ _ _ ?_
    exact h M3 (f1.tr q1) (q2.trans (f2 21 (by omega) (by omega))) (q3.trans (f2 22 (by omega) (by omega))) (q4.trans (f2 23 (by omega) (by omega))) (q5.trans (f2 24 (by omega) (by omega)))
  have in4 : ∀ (P : Nat → Prop), P 21 → P 22 → P 23 → P 24 → ∀ s, 21 ≤ s → s ≤ 24 → P s := by
    intro P p1 p2 p3 p4 s h1 h2
    rcases (show s = 21 ∨ s = 22 ∨ s = 23 ∨ s = 24 by omega) with rfl | rfl | rfl | rfl
    · exact p1
    · exact p2
    · exact p3
    · exact p4
  have down : ∀ (n i : Nat) (M2 : pM), k + n = i → i ≤ c → ¬ c < k → mfr ch4 no M M2 → (∀ s, 21 ≤ s → s ≤ 24 → M2.1 (aS s) = slD (M.1 (aS s)) c i) → Z 59 [some (vR (aS 18)), some (vI (nI c)), some (vI (nI k)), some (vI (M.1 (aS 21) c)), some (vI (M.1 (aS 22) c)), some (vI (M.1 (aS 23) c)), some (vI (M.1 (aS 24) c)), some (vI (nI i))] [] M2 := by
    intro n
    induction n with
    | zero =>
      intro i M2 e1 e2 e3 f1 f2
      have : i = k := by omega
      subst this
      refine hZ _ _ _ _ (hZ _ _ _ _ ?_)
      show Z 62 _ _ _
      refine hZ _ _ _ _ (br_t (nI_le (Nat.le_refl _) (by omega)) ?_)
      exact fin _ M2 f1 (fun s h1 h2 => by rw [f2 s h1 h2]; exact sl_fin2 e3)
    | succ n ih =>
      intro i M2 e1 e2 e3 f1 f2
      refine hZ _ _ _ _ (hZ _ _ _ _ ?_)
      show Z 62 _ _ _
      refine hZ _ _ _ _ (br_f (nI_ge (by omega) (by omega)) ?_)
      refine hZ _ _ _ _ (hZ _ _ _ _ (hZ _ _ _ _ (hZ _ _ _ _ (hZ _ _ _ _ ?_))))
      show Z 72 _ _ _
      rw [show nI i - 1 = nI (i - 1) from by rw [show i = (i - 1) + 1 by omega]; exact nI_pred _]
      refine hZ _ _ _ _ ⟨d - 1, by omega, n_copies hC (i - 1) i rfl rfl (by omega) (by omega) (by omega) (fun M3 q1 q2 q3 q4 q5 => ?_)⟩
      refine hZ _ _ _ _ (hZ _ _ _ _ ?_)
      show Z 59 _ _ _
      rw [show nI i + (-1) = nI (i - 1) from by rw [show i = (i - 1) + 1 by omega]; exact pk_m1 _]
      refine ih (i - 1) M3 (by omega) (by omega) e3 (f1.tr q1) (in4 _ ?_ ?_ ?_ ?_)
      · rw [q2, f2 21 (by omega) (by omega)]; exact slD_s e2 (by omega)
      · rw [q3, f2 22 (by omega) (by omega)]; exact slD_s e2 (by omega)
      · rw [q4, f2 23 (by omega) (by omega)]; exact slD_s e2 (by omega)
      · rw [q5, f2 24 (by omega) (by omega)]; exact slD_s e2 (by omega)
  have up : ∀ (n i : Nat) (M2 : pM), i + n = k → c ≤ i → c < k → mfr ch4 no M M2 → (∀ s, 21 ≤ s → s ≤ 24 → M2.1 (aS s) = slU (M.1 (aS s)) c i) → Z 34 [some (vR (aS 18)), some (vI (nI c)), some (vI (nI k)), some (vI (M.1 (aS 21) c)), some (vI (M.1 (aS 22) c)), some (vI (M.1 (aS 23) c)), some (vI (M.1 (aS 24) c)), some (vI (nI i))] [] M2 := by
    intro n
    induction n with
    | zero =>
      intro i M2 e1 e2 e3 f1 f2
      have : i = k := by omega
      subst this
      refine hZ _ _ _ _ (hZ _ _ _ _ ?_)
      show Z 37 _ _ _
      refine hZ _ _ _ _ (br_t (nI_le (Nat.le_refl _) (by omega)) ?_)
      refine hZ _ _ _ _ (hZ _ _ _ _ (hZ _ _ _ _ (hZ _ _ _ _ ?_)))
      show Z 62 _ _ _
      refine hZ _ _ _ _ (br_t (nI_le (by omega) (by omega)) ?_)
      exact fin _ M2 f1 (fun s h1 h2 => by rw [f2 s h1 h2]; exact sl_fin e3)
    | succ n ih =>
      intro i M2 e1 e2 e3 f1 f2
      refine hZ _ _ _ _ (hZ _ _ _ _ ?_)
      show Z 37 _ _ _
      refine hZ _ _ _ _ (br_f (nI_ge (by omega) (by omega)) ?_)
      refine hZ _ _ _ _ (hZ _ _ _ _ (hZ _ _ _ _ (hZ _ _ _ _ (hZ _ _ _ _ ?_))))
      show Z 47 _ _ _
      rw [show nI i + 1 = nI (i + 1) from nI_1 i]
      refine hZ _ _ _ _ ⟨d - 1, by omega, n_copies hC (i + 1) i rfl rfl (by omega) (by omega) (by omega) (fun M3 q1 q2 q3 q4 q5 => ?_)⟩
      refine hZ _ _ _ _ (hZ _ _ _ _ ?_)
      show Z 34 _ _ _
      rw [show nI i + 1 = nI (i + 1) from nI_1 i]
      refine ih (i + 1) M3 (by omega) (by omega) e3 (f1.tr q1) (in4 _ ?_ ?_ ?_ ?_)
      · rw [q2, f2 21 (by omega) (by omega)]; exact slU_s e2
      · rw [q3, f2 22 (by omega) (by omega)]; exact slU_s e2
      · rw [q4, f2 23 (by omega) (by omega)]; exact slU_s e2
      · rw [q5, f2 24 (by omega) (by omega)]; exact slU_s e2
  have e0 : ∀ f : Nat → Int32, slU f c c = f := fun f => by
    funext x
    have : ¬ (c ≤ x ∧ x < c) := by omega
    simp [slU, this]
  have e0' : ∀ f : Nat → Int32, slD f c c = f := fun f => by
    funext x
    have : ¬ (c < x ∧ x ≤ c) := by omega
    simp [slD, this]
  by_cases h1 : c < k
  · exact up (k - c) c M (by omega) (Nat.le_refl _) h1 mfr_rf (fun s _ _ => (e0 _).symm)
  · skip
    refine hZ _ _ _ _ (hZ _ _ _ _ ?_)
    show Z 37 _ _ _
    refine hZ _ _ _ _ (br_t (nI_le (by omega) (by omega)) ?_)
    refine hZ _ _ _ _ (hZ _ _ _ _ ?_)
    show Z 59 _ _ _
    exact down (c - k) c M (by omega) (Nat.le_refl _) h1 mfr_rf (fun s _ _ => (e0' _).symm)
/-- the claims behind shifts -/
theorem mR_sh {M1 M2 : pM} {ρ : pRm} {c k : Nat} (hR : mR M1 ρ) (hc : c < ρ.2.2.2.length) (hk : k < ρ.2.2.2.length) (j1 : mfr ch4 no M1 M2) (j2 : M2.1 (aS 21) = sl (M1.1 (aS 21)) c k) (j3 : M2.1 (aS 22) = sl (M1.1 (aS 22)) c k) (j4 : M2.1 (aS 23) = sl (M1.1 (aS 23)) c k) (j5 : M2.1 (aS 24) = sl (M1.1 (aS 24)) c k) : mR M2 (mvR ρ c k) := by
  obtain ⟨x1, x2, x3, x4, x5, x6⟩ := hR
  refine ⟨(j1.2.1 0 rfl).trans x1, (j1.2.1 1 rfl).trans x2, ?_, (j1.2.1 3 rfl).trans x4, fun i x hx => ?_, fun i x hx => ?_⟩
  · rw [j1.2.1 2 rfl, x3]
    show _ = nI (mvL _ c k).length
    rw [mvL_len]
  · rw [j1.1 19 (by decide) rfl, j1.1 20 (by decide) rfl]
    exact x5 i x hx
  · rw [j2, j3, j4, j5, sl_eq, sl_eq, sl_eq, sl_eq]
    exact x6 _ x (mvL_get hc hk hx)
theorem n_shift {C : pC} (hC : p_Lg true C) {d : Nat} {M : pM} {Q : pQ} {S : pS} {c k : Int32} (hd : 3 ≤ d) (hS : mS M S) (ok : okS S) (h : ∀ M', mfA M M' → mS M' (sp_shift S c k).1 → Q M' (some (vI (sp_shift S c k).2))) : C d k_X8_shift M [vR (aS 18), vI c, vI k] Q := by
  have l3 := ok.1.2.2.1
  refine p_ent hC tb_X8_shift _ rfl rfl rfl (fun Z hZ => ?_)
  refine hZ _ _ _ _ (hZ _ _ _ _ ?_)
  show Z 2 _ _ _
  refine hZ _ _ _ _ ⟨d - 1, by omega, n_isClaim hC (by omega) hS.2.1 ok.1 (fun k1 b1 b2 b3 => ?_) (fun b1 => ?_)⟩
  · skip
    refine hZ _ _ _ _ (br_f (by decide) ?_)
    refine hZ _ _ _ _ (hZ _ _ _ _ ?_)
    show Z 10 _ _ _
    refine hZ _ _ _ _ ⟨d - 1, by omega, n_isClaim hC (by omega) hS.2.1 ok.1 (fun k2 c1 c2 c3 => ?_) (fun c1 => ?_)⟩
    · skip
      refine hZ _ _ _ _ (p_tn (by decide) ?_)
      refine hZ _ _ _ _ (hZ _ _ _ _ ?_)
      show Z 20 _ _ _
      by_cases e : c = k
      · refine hZ _ _ _ _ (p_fn (e) ?_)
        refine hZ _ _ _ _ ?_
        show Z 25 _ _ _
        refine hZ _ _ _ _ ?_
        have := h M mfr_rf
        simp only [sp_shift, b1, c1, if_pos e] at this
        exact this hS
      · skip
        refine hZ _ _ _ _ (p_tn (e) ?_)
        refine hZ _ _ _ _ ?_
        show Z 27 _ _ _
        refine hZ _ _ _ _ ⟨d - 1, by omega, n_notes hC (by omega) hS.2.2.2.1 (okSP ok) hS.2.1 ok.1 (fun M1 g1 g2 => ?_)⟩
        obtain ⟨t1, t2, t3, t4⟩ := mS_notes hS g1
        refine hZ _ _ _ _ (hZ _ _ _ _ (hZ _ _ _ _ ?_))
        show Z 33 _ _ _
        refine hZ _ _ _ _ ⟨d - 1, by omega, n_shifts hC k1 k2 b3 c3 (by omega) (by omega) (by omega) (fun M2 j1 j2 j3 j4 j5 => ?_)⟩
        refine hZ _ _ _ _ (hZ _ _ _ _ (hZ _ _ _ _ (hZ _ _ _ _ (hZ _ _ _ _ ?_))))
        show Z 42 _ _ _
        refine hZ _ _ _ _ ?_
        have A2 : mfA M M2 := (mfA_n g1).tr (mfA_of j1 (lo18 (by decide)))
        have := h M2 A2
        simp only [sp_shift, b1, c1, if_neg e] at this
        exact this ⟨mT_cg t1 (j1.2.1 14 rfl) (j1.1 27 (by decide) rfl), mR_sh t2 b2 c2 j1 j2 j3 j4 j5, mV_cg t3 (j1.2.1 10 rfl) (j1.1 25 (by decide) rfl) (j1.1 26 (by decide) rfl), mL_cg g2 (j1.2.1 30 rfl) (j1.1 35 (by decide) rfl), mL_cg t4 (j1.2.1 34 rfl) (j1.1 38 (by decide) rfl)⟩
    · skip
      refine hZ _ _ _ _ (p_fn (rfl) ?_)
      refine hZ _ _ _ _ ?_
      show Z 17 _ _ _
      refine hZ _ _ _ _ ?_
      have := h M mfr_rf
      simp only [sp_shift, b1, c1] at this
      exact this hS
  · skip
    refine hZ _ _ _ _ (br_t (rfl) ?_)
    refine hZ _ _ _ _ ?_
    show Z 17 _ _ _
    refine hZ _ _ _ _ ?_
    have := h M mfr_rf
    simp only [sp_shift, b1] at this
    exact this hS
theorem mR_grip {M : pM} {ρ : pRm} {k : Nat} {g : Int32} (hR : mR M ρ) (hk : k < ρ.1.length) : mR (p_wr M (aS 20) k g) (grR ρ k g) := by
  obtain ⟨a1, a2, a3, a4, a5, a6⟩ := hR
  refine ⟨by show M.1 (aS 18) 0 = nI (ρ.1.set k _).length; rw [List.length_set]; exact a1, a2, a3, a4, fun i x hx => ?_, a6⟩
  have hx : (ρ.1.set k ((ρ.1.getD k (0, 0)).1, g))[i]? = some x := hx
  rw [List.getElem?_set] at hx
  by_cases e : k = i
  · subst e
    simp only [if_true, if_pos hk, Option.some.injEq] at hx
    subst hx
    have hy : ρ.1[k]? = some ρ.1[k] := List.getElem?_eq_getElem hk
    constructor
    · show M.1 (aS 19) k = (ρ.1.getD k (0, 0)).1
      rw [List.getD_eq_getElem?_getD, hy]
      exact (a5 k _ hy).1
    · rw [p_wr_eq, us]
  · rw [if_neg e] at hx
    constructor
    · exact (a5 i x hx).1
    · rw [p_wr_eq, un (fun q => e q.symm)]
      exact (a5 i x hx).2
theorem n_grip {C : pC} (hC : p_Lg true C) {d : Nat} {M : pM} {Q : pQ} {S : pS} {t g : Int32} (hd : 2 ≤ d) (hS : mS M S) (ok : okS S) (h : ∀ M', mfA M M' → mS M' (sp_grip S t g).1 → Q M' (some (vI (sp_grip S t g).2))) : C d k_X8_grip M [vR (aS 18), vI t, vI g] Q := by
  have l1 := ok.1.1
  refine p_ent hC tb_X8_grip _ rfl rfl rfl (fun Z hZ => ?_)
  refine hZ _ _ _ _ (hZ _ _ _ _ ?_)
  show Z 2 _ _ _
  refine hZ _ _ _ _ ⟨d - 1, by omega, n_isTeller hC (by omega) hS.2.1 ok.1 (fun k b1 b2 b3 => ?_) (fun b1 => ?_)⟩
  · skip
    have hy : S.2.1.1[k]? = some S.2.1.1[k] := List.getElem?_eq_getElem b2
    obtain ⟨y1, y2⟩ := hS.2.1.2.2.2.2.1 k _ hy
    subst b3
    have ec : (nI k).toNatClampNeg = k := nI_clamp (by omega)
    refine hZ _ _ _ _ (br_f (by decide) ?_)
    refine hZ _ _ _ _ (hZ _ _ _ _ (hZ _ _ _ _ ?_))
    show Z 12 _ _ _
    refine hZ _ _ _ _ ⟨d - 1, by omega, n_in hC (fun c1 c2 => ?_) (fun c1 => ?_)⟩
    · skip
      refine hZ _ _ _ _ (p_tn (by decide) ?_)
      refine hZ _ _ _ _ (hZ _ _ _ _ (hZ _ _ _ _ ?_))
      show Z 25 _ _ _
      refine hZ _ _ _ _ ⟨vp_in_nI (N := 5) (by omega) (by omega), ?_⟩
      rw [ec, y2]
      refine hZ _ _ _ _ (hZ _ _ _ _ (hZ _ _ _ _ ?_))
      show Z 29 _ _ _
      by_cases e : S.2.1.1[k].2 = g
      · refine hZ _ _ _ _ (p_fn (e) ?_)
        refine hZ _ _ _ _ ?_
        show Z 34 _ _ _
        refine hZ _ _ _ _ ?_
        have := h M mfr_rf
        simp only [sp_grip, b1, if_pos (And.intro c1 c2), hy, if_pos e] at this
        exact this hS
      · skip
        refine hZ _ _ _ _ (p_tn (e) ?_)
        refine hZ _ _ _ _ ?_
        show Z 36 _ _ _
        refine hZ _ _ _ _ ⟨d - 1, by omega, n_notes hC (by omega) hS.2.2.2.1 (okSP ok) hS.2.1 ok.1 (fun M1 g1 g2 => ?_)⟩
        obtain ⟨t1, t2, t3, t4⟩ := mS_notes hS g1
        refine hZ _ _ _ _ (hZ _ _ _ _ (hZ _ _ _ _ (hZ _ _ _ _ ?_)))
        show Z 45 _ _ _
        refine hZ _ _ _ _ ⟨vp_in_nI (N := 5) (by omega) (by omega), ?_⟩
        rw [ec]
        refine hZ _ _ _ _ ?_
        show Z 47 _ _ _
        refine hZ _ _ _ _ ?_
        have := h _ (mfr_wr (s := 20) (k := k) (x := g) (mfA_n g1) (by decide) rfl)
        simp only [sp_grip, b1, if_pos (And.intro c1 c2), hy, if_neg e] at this
        exact this ⟨t1, mR_grip t2 b2, t3, g2, t4⟩
    · skip
      refine hZ _ _ _ _ (p_fn (rfl) ?_)
      refine hZ _ _ _ _ ?_
      show Z 19 _ _ _
      refine hZ _ _ _ _ ?_
      have := h M mfr_rf
      simp only [sp_grip, b1, if_neg c1] at this
      exact this hS
  · skip
    refine hZ _ _ _ _ (br_t (rfl) ?_)
    refine hZ _ _ _ _ ?_
    show Z 19 _ _ _
    refine hZ _ _ _ _ ?_
    have := h M mfr_rf
    simp only [sp_grip, b1] at this
    exact this hS
