/-! Room: its methods -/
/-- a number as one of n -/
def ix (x : Int32) (n : Nat) : Option Nat := if 0 ≤ x ∧ x < nI n then some x.toNatClampNeg else none
theorem ix_some {x : Int32} {n : Nat} (hn : n < 2 ^ 31) (h1 : ¬ x < 0) (h2 : ¬ nI n ≤ x) : ∃ k, ix x n = some k ∧ k < n ∧ x = nI k := by
  obtain ⟨k, hk, e⟩ := nI_of h1
  subst e
  have h3 : nI k < nI n := Int32.not_le.mp h2
  have h4 := (nI_ltI hk hn).mp h3
  refine ⟨k, ?_, h4, rfl⟩
  rw [ix, if_pos ⟨nI_pos' hk, h3⟩, nI_clamp hk]
theorem ix_none1 {x : Int32} {n : Nat} (h : x < 0) : ix x n = none := by
  rw [ix, if_neg]
  intro q
  exact Int32.not_le.mpr h q.1
theorem ix_none2 {x : Int32} {n : Nat} (h : nI n ≤ x) : ix x n = none := by
  rw [ix, if_neg]
  intro q
  exact Int32.not_le.mpr q.2 h
theorem ix_nI {k n : Nat} (h : k < n) (hn : n < 2 ^ 31) : ix (nI k) n = some k := by
  rw [ix, if_pos ⟨nI_pos' (by omega), nI_lt h hn⟩, nI_clamp (by omega)]
theorem ix_spec {x : Int32} {n k : Nat} (hn : n < 2 ^ 31) (h : ix x n = some k) : k < n ∧ x = nI k := by
  by_cases h1 : x < 0
  · rw [ix_none1 h1] at h; cases h
  · by_cases h2 : nI n ≤ x
    · rw [ix_none2 h2] at h; cases h
    · obtain ⟨k', h3, h4, h5⟩ := ix_some hn h1 h2
      rw [h] at h3
      cases h3
      exact ⟨h4, h5⟩
theorem m_isTeller {b : Bool} {C : pC} (hC : p_Lg b C) {d : Nat} {M : pM} {Q : pQ} {j : Fin 12} {ρ : pRm} {x : Int32} (hR : cR M j ρ) (ok : okR ρ) (h1 : ∀ k, ix x ρ.1.length = some k → k < ρ.1.length → x = nI k → Q M (some (vI 1))) (h0 : ix x ρ.1.length = none → Q M (some (vI 0))) : C d k_X2_isTeller M [vR (aR j 0), vI x] Q := by
  have l1 := ok.1
  have l2 := ok.2.1
  have l3 := ok.2.2.1
  refine p_ent hC tb_X2_isTeller _ rfl rfl rfl (fun Z hZ => ?_)
  refine hZ _ _ _ _ ?_
  show Z 1 _ _ _
  refine hZ _ _ _ _ ⟨fun c1 => ?_, fun c1 => ?_⟩
  · skip
    refine hZ _ _ _ _ ?_
    show Z 17 _ _ _
    refine hZ _ _ _ _ ⟨Or.inl rfl, ?_⟩
    exact h0 (ix_none1 c1)
  · skip
    refine hZ _ _ _ _ (hZ _ _ _ _ (hZ _ _ _ _ ?_))
    show Z 9 _ _ _
    rw [hR.1]
    refine hZ _ _ _ _ ⟨fun c2 => ?_, fun c2 => ?_⟩
    · skip
      refine hZ _ _ _ _ ?_
      show Z 17 _ _ _
      refine hZ _ _ _ _ ⟨Or.inl rfl, ?_⟩
      exact h0 (ix_none2 c2)
    · skip
      refine hZ _ _ _ _ (hZ _ _ _ _ ?_)
      show Z 17 _ _ _
      refine hZ _ _ _ _ ⟨Or.inr rfl, ?_⟩
      obtain ⟨k, e1, e2, e3⟩ := ix_some (by omega) c1 c2
      exact h1 k e1 e2 e3
theorem m_isFact {b : Bool} {C : pC} (hC : p_Lg b C) {d : Nat} {M : pM} {Q : pQ} {j : Fin 12} {ρ : pRm} {x : Int32} (hR : cR M j ρ) (ok : okR ρ) (h1 : ∀ k, ix x ρ.2.1 = some k → k < ρ.2.1 → x = nI k → Q M (some (vI 1))) (h0 : ix x ρ.2.1 = none → Q M (some (vI 0))) : C d k_X2_isFact M [vR (aR j 0), vI x] Q := by
  have l1 := ok.1
  have l2 := ok.2.1
  have l3 := ok.2.2.1
  refine p_ent hC tb_X2_isFact _ rfl rfl rfl (fun Z hZ => ?_)
  refine hZ _ _ _ _ ?_
  show Z 1 _ _ _
  refine hZ _ _ _ _ ⟨fun c1 => ?_, fun c1 => ?_⟩
  · skip
    refine hZ _ _ _ _ ?_
    show Z 17 _ _ _
    refine hZ _ _ _ _ ⟨Or.inl rfl, ?_⟩
    exact h0 (ix_none1 c1)
  · skip
    refine hZ _ _ _ _ (hZ _ _ _ _ (hZ _ _ _ _ ?_))
    show Z 9 _ _ _
    rw [hR.2.1]
    refine hZ _ _ _ _ ⟨fun c2 => ?_, fun c2 => ?_⟩
    · skip
      refine hZ _ _ _ _ ?_
      show Z 17 _ _ _
      refine hZ _ _ _ _ ⟨Or.inl rfl, ?_⟩
      exact h0 (ix_none2 c2)
    · skip
      refine hZ _ _ _ _ (hZ _ _ _ _ ?_)
      show Z 17 _ _ _
      refine hZ _ _ _ _ ⟨Or.inr rfl, ?_⟩
      obtain ⟨k, e1, e2, e3⟩ := ix_some (by omega) c1 c2
      exact h1 k e1 e2 e3
theorem m_isClaim {b : Bool} {C : pC} (hC : p_Lg b C) {d : Nat} {M : pM} {Q : pQ} {j : Fin 12} {ρ : pRm} {x : Int32} (hR : cR M j ρ) (ok : okR ρ) (h1 : ∀ k, ix x ρ.2.2.2.length = some k → k < ρ.2.2.2.length → x = nI k → Q M (some (vI 1))) (h0 : ix x ρ.2.2.2.length = none → Q M (some (vI 0))) : C d k_X2_isClaim M [vR (aR j 0), vI x] Q := by
  have l1 := ok.1
  have l2 := ok.2.1
  have l3 := ok.2.2.1
  refine p_ent hC tb_X2_isClaim _ rfl rfl rfl (fun Z hZ => ?_)
  refine hZ _ _ _ _ ?_
  show Z 1 _ _ _
  refine hZ _ _ _ _ ⟨fun c1 => ?_, fun c1 => ?_⟩
  · skip
    refine hZ _ _ _ _ ?_
    show Z 17 _ _ _
    refine hZ _ _ _ _ ⟨Or.inl rfl, ?_⟩
    exact h0 (ix_none1 c1)
  · skip
    refine hZ _ _ _ _ (hZ _ _ _ _ (hZ _ _ _ _ ?_))
    show Z 9 _ _ _
    rw [hR.2.2.1]
    refine hZ _ _ _ _ ⟨fun c2 => ?_, fun c2 => ?_⟩
    · skip
      refine hZ _ _ _ _ ?_
      show Z 17 _ _ _
      refine hZ _ _ _ _ ⟨Or.inl rfl, ?_⟩
      exact h0 (ix_none2 c2)
    · skip
      refine hZ _ _ _ _ (hZ _ _ _ _ ?_)
      show Z 17 _ _ _
      refine hZ _ _ _ _ ⟨Or.inr rfl, ?_⟩
      obtain ⟨k, e1, e2, e3⟩ := ix_some (by omega) c1 c2
      exact h1 k e1 e2 e3
/-- a claim that may be told -/
def alw (ρ : pRm) (t f v h : Int32) : Bool := (ix t ρ.1.length).isSome && (ix f ρ.2.1).isSome && decide (0 ≤ v ∧ v ≤ 1) && decide (1 ≤ h ∧ h ≤ 20)
theorem m_allows {b : Bool} {C : pC} (hC : p_Lg b C) {d : Nat} {M : pM} {Q : pQ} {j : Fin 12} {ρ : pRm} {t f v w : Int32} (hd : 1 ≤ d) (hR : cR M j ρ) (ok : okR ρ) (h1 : alw ρ t f v w = true → ∀ t' f', t = nI t' → t' < ρ.1.length → f = nI f' → f' < ρ.2.1 → (v = 0 ∨ v = 1) → Q M (some (vI 1))) (h0 : alw ρ t f v w = false → Q M (some (vI 0))) : C d k_X2_allowsClaim M [vR (aR j 0), vI t, vI f, vI v, vI w] Q := by
  refine p_ent hC tb_X2_allowsClaim _ rfl rfl rfl (fun Z hZ => ?_)
  refine hZ _ _ _ _ (hZ _ _ _ _ ?_)
  show Z 2 _ _ _
  refine hZ _ _ _ _ ⟨d - 1, by omega, m_isTeller hC hR ok (fun t' a1 a2 a3 => ?_) (fun a1 => ?_)⟩
  · skip
    refine hZ _ _ _ _ (br_f (by decide) ?_)
    refine hZ _ _ _ _ (hZ _ _ _ _ ?_)
    show Z 10 _ _ _
    refine hZ _ _ _ _ ⟨d - 1, by omega, m_isFact hC hR ok (fun f' b1 b2 b3 => ?_) (fun b1 => ?_)⟩
    · skip
      refine hZ _ _ _ _ (br_f (by decide) ?_)
      refine hZ _ _ _ _ (hZ _ _ _ _ (hZ _ _ _ _ ?_))
      show Z 19 _ _ _
      refine hZ _ _ _ _ ⟨d - 1, by omega, m_within hC (fun c1 c2 => ?_) (fun c1 => ?_)⟩
      · skip
        refine hZ _ _ _ _ (br_f (by decide) ?_)
        refine hZ _ _ _ _ (hZ _ _ _ _ (hZ _ _ _ _ ?_))
        show Z 30 _ _ _
        refine hZ _ _ _ _ ⟨d - 1, by omega, m_within hC (fun e1 e2 => ?_) (fun e1 => ?_)⟩
        · skip
          refine hZ _ _ _ _ (br_f (by decide) ?_)
          refine hZ _ _ _ _ (hZ _ _ _ _ ?_)
          show Z 41 _ _ _
          refine hZ _ _ _ _ ⟨Or.inr rfl, ?_⟩
          exact h1 (by simp [alw, a1, b1, c1, c2, e1, e2]) t' f' a3 a2 b3 b2 (by grind)
        · skip
          refine hZ _ _ _ _ (br_t (rfl) ?_)
          refine hZ _ _ _ _ ?_
          show Z 41 _ _ _
          refine hZ _ _ _ _ ⟨Or.inl rfl, ?_⟩
          exact h0 (by simp only [alw, decide_eq_false e1, Bool.and_false])
      · skip
        refine hZ _ _ _ _ (br_t (rfl) ?_)
        refine hZ _ _ _ _ ?_
        show Z 41 _ _ _
        refine hZ _ _ _ _ ⟨Or.inl rfl, ?_⟩
        exact h0 (by simp only [alw, decide_eq_false c1, Bool.and_false, Bool.false_and])
    · skip
      refine hZ _ _ _ _ (br_t (rfl) ?_)
      refine hZ _ _ _ _ ?_
      show Z 41 _ _ _
      refine hZ _ _ _ _ ⟨Or.inl rfl, ?_⟩
      exact h0 (by simp [alw, b1])
  · skip
    refine hZ _ _ _ _ (br_t (rfl) ?_)
    refine hZ _ _ _ _ ?_
    show Z 41 _ _ _
    refine hZ _ _ _ _ ⟨Or.inl rfl, ?_⟩
    exact h0 (by simp [alw, a1])
theorem m_worldCount {b : Bool} {C : pC} (hC : p_Lg b C) {d : Nat} {M : pM} {Q : pQ} {j : Fin 12} {ρ : pRm} (hR : cR M j ρ) (ok : okR ρ) (h : Q M (some (vI (nI (2 ^ ρ.2.1))))) : C d k_X2_worldCount M [vR (aR j 0)] Q := by
  have key : ∀ n : Fin 7, (1 : Int32) <<< (nI n.val &&& 31) = nI (2 ^ n.val) := by decide +kernel
  have l2 := ok.2.1
  have e := key ⟨ρ.2.1, by omega⟩
  refine p_ent hC tb_X2_worldCount _ rfl rfl rfl (fun Z hZ => ?_)
  refine hZ _ _ _ _ (hZ _ _ _ _ (hZ _ _ _ _ (hZ _ _ _ _ ?_)))
  show Z 6 _ _ _
  refine hZ _ _ _ _ ?_
  rw [hR.2.1, e]
  exact h
theorem m_roomClear {b : Bool} {C : pC} (hC : p_Lg b C) {d : Nat} {M : pM} {Q : pQ} {j : Fin 12} (h : ∀ M', p_fr (f_room j) M M' → cR M' j ([], 0, 0, []) → Q M' none) : C d k_X2_clear M [vR (aR j 0)] Q := by
  refine p_ent hC tb_X2_clear _ rfl rfl rfl (fun Z hZ => ?_)
  refine hZ _ _ _ _ (hZ _ _ _ _ (hZ _ _ _ _ (hZ _ _ _ _ (hZ _ _ _ _ (hZ _ _ _ _ (hZ _ _ _ _ (hZ _ _ _ _ (hZ _ _ _ _ (hZ _ _ _ _ (hZ _ _ _ _ (hZ _ _ _ _ ?_)))))))))))
  show Z 20 _ _ _
  refine hZ _ _ _ _ ?_
  refine h _ (p_fr_wr (p_fr_wr (p_fr_wr (p_fr_wr p_fr_rf (f_room_self j 0)) (f_room_self j 0)) (f_room_self j 0)) (f_room_self j 0)) ⟨?_, ?_, ?_, ?_, (fun i x hx => by simp at hx), (fun i x hx => by simp at hx)⟩ <;> simp only [p_wr_eq, upd] <;> rfl
theorem m_turnFact {b : Bool} {C : pC} (hC : p_Lg b C) {d : Nat} {M : pM} {Q : pQ} {j : Fin 12} {ρ : pRm} {x : Int32} (hR : cR M j ρ) (h : ∀ M', p_fr (f_room j) M M' → cR M' j (ρ.1, ρ.2.1, ρ.2.2.1 ^^^ ((1 : Int32) <<< (x &&& 31)), ρ.2.2.2) → Q M' none) : C d k_X2_turnFact M [vR (aR j 0), vI x] Q := by
  obtain ⟨a1, a2, a3, a4, a5, a6⟩ := hR
  refine p_ent hC tb_X2_turnFact _ rfl rfl rfl (fun Z hZ => ?_)
  refine hZ _ _ _ _ (hZ _ _ _ _ (hZ _ _ _ _ (hZ _ _ _ _ (hZ _ _ _ _ (hZ _ _ _ _ (hZ _ _ _ _ (hZ _ _ _ _ ?_)))))))
  show Z 12 _ _ _
  refine hZ _ _ _ _ ?_
  refine h _ (p_fr_wr p_fr_rf (f_room_self j 0)) ⟨?_, ?_, ?_, ?_, a5, a6⟩
  · rw [p_wr_eq]; exact a1
  · rw [p_wr_eq]; exact a2
  · rw [p_wr_eq]; exact a3
  · rw [p_wr_eq, a4]; rfl
/-- a memory with the fact bits of room j laid anew -/
theorem cR_truth {M : pM} {j : Fin 12} {ρ : pRm} {x : Int32} (hR : cR M j ρ) : cR (p_wr M (aR j 0) 9 x) j (ρ.1, ρ.2.1, x, ρ.2.2.2) := by
  obtain ⟨a1, a2, a3, a4, a5, a6⟩ := hR
  refine ⟨?_, ?_, ?_, ?_, a5, a6⟩
  · rw [p_wr_eq]; exact a1
  · rw [p_wr_eq]; exact a2
  · rw [p_wr_eq]; exact a3
  · rw [p_wr_eq]; rfl
def f_cell (a : pA) : pA → Bool := fun q => p_eq q a
theorem m_copyRow2 {b : Bool} {C : pC} (hC : p_Lg b C) {d : Nat} {M : pM} {Q : pQ} {a q : pA} (hd : 1 ≤ d) (hk : p_is b a 9 = true) (hq : p_is b q 9 = true) (hl : p_ln a = p_ln q) (h : ∀ M', p_fr (f_cell a) M M' → (∀ k, k < p_ln a → M'.1 a k = M.1 q k) → Q M' none) : C d k_X7_copyRow M [vR q, vR a] Q :=
  m_copyRow hC hd hk hq hl (h _ (p_fr_row p_fr_rf (p_eq_rf a)) (fun k hk => by rw [p_row_eq]; exact sb_cpy0 hk))
theorem f_cell_room {j : Fin 12} {c : Nat} (a : pA) (h : f_room j a = false) : f_cell (aR j c) a = false := by
  refine p_eq_ne (fun e => ?_)
  rw [e, f_room_self] at h
  cases h
theorem m_roomCopy {b : Bool} {C : pC} (hC : p_Lg b C) {d : Nat} {M : pM} {Q : pQ} {j i : Fin 12} {ρ : pRm} (hd : 2 ≤ d) (hne : i ≠ j) (hR : cR M i ρ) (ok : okR ρ) (h : ∀ M', p_fr (f_room j) M M' → cR M' j ρ → Q M' none) : C d k_X2_copyFrom M [vR (aR j 0), vR (aR i 0)] Q := by
  have l1 := ok.1
  have l3 := ok.2.2.1
  have hf : ∀ c, f_room j (aR i c) = false := fun c => f_room_ne hne c
  obtain ⟨a1, a2, a3, a4, a5, a6⟩ := hR
  refine p_ent hC tb_X2_copyFrom _ rfl rfl rfl (fun Z hZ => ?_)
  refine hZ _ _ _ _ (hZ _ _ _ _ (hZ _ _ _ _ (hZ _ _ _ _ ?_)))
  show Z 8 _ _ _
  refine hZ _ _ _ _ ⟨d - 1, by omega, m_copyRow2 hC (by omega) rfl rfl rfl (fun M1 g1 r1 => ?_)⟩
  have F1 : p_fr (f_room j) M M1 := g1.mono f_cell_room
  refine hZ _ _ _ _ (hZ _ _ _ _ (hZ _ _ _ _ (hZ _ _ _ _ ?_)))
  show Z 19 _ _ _
  refine hZ _ _ _ _ ⟨d - 1, by omega, m_copyRow2 hC (by omega) rfl rfl rfl (fun M2 g2 r2 => ?_)⟩
  have F2 : p_fr (f_room j) M M2 := F1.tr (g2.mono f_cell_room)
  rw [F1.1 _ (hf 2)] at r2
  refine hZ _ _ _ _ (hZ _ _ _ _ (hZ _ _ _ _ (hZ _ _ _ _ ?_)))
  show Z 30 _ _ _
  refine hZ _ _ _ _ ⟨d - 1, by omega, m_copyRow2 hC (by omega) rfl rfl rfl (fun M3 g3 r3 => ?_)⟩
  have F3 : p_fr (f_room j) M M3 := F2.tr (g3.mono f_cell_room)
  rw [F2.1 _ (hf 3)] at r3
  refine hZ _ _ _ _ (hZ _ _ _ _ (hZ _ _ _ _ (hZ _ _ _ _ ?_)))
  show Z 41 _ _ _
  refine hZ _ _ _ _ ⟨d - 1, by omega, m_copyRow2 hC (by omega) rfl rfl rfl (fun M4 g4 r4 => ?_)⟩
  have F4 : p_fr (f_room j) M M4 := F3.tr (g4.mono f_cell_room)
  rw [F3.1 _ (hf 4)] at r4
  refine hZ _ _ _ _ (hZ _ _ _ _ (hZ _ _ _ _ (hZ _ _ _ _ ?_)))
  show Z 52 _ _ _
  refine hZ _ _ _ _ ⟨d - 1, by omega, m_copyRow2 hC (by omega) rfl rfl rfl (fun M5 g5 r5 => ?_)⟩
  have F5 : p_fr (f_room j) M M5 := F4.tr (g5.mono f_cell_room)
  rw [F4.1 _ (hf 5)] at r5
  refine hZ _ _ _ _ (hZ _ _ _ _ (hZ _ _ _ _ (hZ _ _ _ _ ?_)))
  show Z 63 _ _ _
  refine hZ _ _ _ _ ⟨d - 1, by omega, m_copyRow2 hC (by omega) rfl rfl rfl (fun M6 g6 r6 => ?_)⟩
  have F6 : p_fr (f_room j) M M6 := F5.tr (g6.mono f_cell_room)
  rw [F5.1 _ (hf 6)] at r6
  have q1 : ∀ k, k < 5 → M6.1 (aR j 1) k = M.1 (aR i 1) k := fun k hk => by
    rw [g6.1 (aR j 1) rfl, g5.1 (aR j 1) rfl, g4.1 (aR j 1) rfl, g3.1 (aR j 1) rfl, g2.1 (aR j 1) rfl]
    exact r1 k hk
  have q2 : ∀ k, k < 5 → M6.1 (aR j 2) k = M.1 (aR i 2) k := fun k hk => by
    rw [g6.1 (aR j 2) rfl, g5.1 (aR j 2) rfl, g4.1 (aR j 2) rfl, g3.1 (aR j 2) rfl]
    exact r2 k hk
  have q3 : ∀ k, k < 7 → M6.1 (aR j 3) k = M.1 (aR i 3) k := fun k hk => by
    rw [g6.1 (aR j 3) rfl, g5.1 (aR j 3) rfl, g4.1 (aR j 3) rfl]
    exact r3 k hk
  have q4 : ∀ k, k < 7 → M6.1 (aR j 4) k = M.1 (aR i 4) k := fun k hk => by
    rw [g6.1 (aR j 4) rfl, g5.1 (aR j 4) rfl]
    exact r4 k hk
  have q5 : ∀ k, k < 7 → M6.1 (aR j 5) k = M.1 (aR i 5) k := fun k hk => by
    rw [g6.1 (aR j 5) rfl]
    exact r5 k hk
  have q6 : ∀ k, k < 7 → M6.1 (aR j 6) k = M.1 (aR i 6) k := fun k hk => r6 k hk
  have q0 := F6.1 _ (hf 0)
  clear g1 g2 g3 g4 g5 g6 r1 r2 r3 r4 r5 r6 F1 F2 F3 F4 F5
  have wn : ∀ (M : pM) (k : Nat) (x : Int32), (p_wr M (aR j 0) k x).1 (aR i 0) = M.1 (aR i 0) := fun M k x => p_row_ne (fun e => hne (congrArg Prod.fst (Sum.inl.inj (Sum.inr.inj e))))
  refine hZ _ _ _ _ (hZ _ _ _ _ (hZ _ _ _ _ (hZ _ _ _ _ (hZ _ _ _ _ (hZ _ _ _ _ (hZ _ _ _ _ (hZ _ _ _ _ (hZ _ _ _ _ (hZ _ _ _ _ (hZ _ _ _ _ (hZ _ _ _ _ (hZ _ _ _ _ (hZ _ _ _ _ (hZ _ _ _ _ (hZ _ _ _ _ ?_)))))))))))))))
  show Z 98 _ _ _
  refine hZ _ _ _ _ ?_
  simp only [wn, q0]
  refine h _ (p_fr_wr (p_fr_wr (p_fr_wr (p_fr_wr F6 (f_room_self j 0)) (f_room_self j 0)) (f_room_self j 0)) (f_room_self j 0)) ⟨?_, ?_, ?_, ?_, ?_, ?_⟩
  · simp only [p_wr_eq, upd]; exact a1
  · simp only [p_wr_eq, upd]; exact a2
  · simp only [p_wr_eq, upd]; exact a3
  · simp only [p_wr_eq, upd]; exact a4
  · intro n x hx
    have hn : n < 5 := Nat.lt_of_lt_of_le (List.getElem?_eq_some_iff.mp hx).1 l1
    have h12 := a5 n x hx
    exact ⟨(q1 n hn).trans h12.1, (q2 n hn).trans h12.2⟩
  · intro n x hx
    have hn : n < 7 := Nat.lt_of_lt_of_le (List.getElem?_eq_some_iff.mp hx).1 l3
    obtain ⟨b1, b2, b3, b4⟩ := a6 n x hx
    exact ⟨(q3 n hn).trans b1, (q4 n hn).trans b2, (q5 n hn).trans b3, (q6 n hn).trans b4⟩
/-- the places behind a claim put from c to k -/
def slx (c k i : Nat) : Nat := if i = k then c else if c ≤ i ∧ i < k then i + 1 else if k < i ∧ i ≤ c then i - 1 else i
theorem sl_eq (f : Nat → Int32) (c k i : Nat) : sl f c k i = f (slx c k i) := by
  simp only [sl, slx]
  split
  · rfl
  · split
    · rfl
    · split <;> rfl
theorem slx_lt {c k i n : Nat} (hc : c < n) (hk : k < n) (hi : i < n) : slx c k i < n := by
  simp only [slx]
  split
  · exact hc
  · split
    · omega
    · split <;> omega
def mvL (l : List pCl) (c k : Nat) : List pCl := (List.range l.length).map (fun i => l.getD (slx c k i) (0, 0, 0, 0))
theorem mvL_len (l : List pCl) (c k : Nat) : (mvL l c k).length = l.length := by simp [mvL]
theorem mvL_get {l : List pCl} {c k i : Nat} {x : pCl} (hc : c < l.length) (hk : k < l.length) (h : (mvL l c k)[i]? = some x) : l[slx c k i]? = some x := by
  have hi : i < l.length := by
    have := (List.getElem?_eq_some_iff.mp h).1
    rwa [mvL_len] at this
  have h2 := slx_lt hc hk hi
  simp only [mvL, List.getElem?_map, List.getElem?_range hi, Option.map_some, Option.some.injEq] at h
  rw [List.getD_eq_getElem?_getD, List.getElem?_eq_getElem h2] at h
  rw [List.getElem?_eq_getElem h2]
  exact congrArg some h
theorem mvL_mem {l : List pCl} {c k : Nat} {x : pCl} (hc : c < l.length) (hk : k < l.length) (h : x ∈ mvL l c k) : x ∈ l := by
  obtain ⟨i, hi⟩ := List.getElem?_of_mem h
  exact List.mem_of_getElem? (mvL_get hc hk hi)
def mvR (ρ : pRm) (c k : Nat) : pRm := (ρ.1, ρ.2.1, ρ.2.2.1, mvL ρ.2.2.2 c k)
theorem okR_mv {ρ : pRm} {c k : Nat} (ok : okR ρ) (hc : c < ρ.2.2.2.length) (hk : k < ρ.2.2.2.length) : okR (mvR ρ c k) :=
  ⟨ok.1, ok.2.1, by show (mvL _ c k).length ≤ 7; rw [mvL_len]; exact ok.2.2.1, fun x hx => ok.2.2.2.1 x (mvL_mem hc hk hx), ok.2.2.2.2⟩
theorem m_slide2 {b : Bool} {C : pC} (hC : p_Lg b C) {d : Nat} {M : pM} {Q : pQ} {a : pA} {x y : Int32} (c k : Nat) (ex : x = nI c) (ey : y = nI k) (hd : 1 ≤ d) (hc : c < p_ln a) (hk9 : k < p_ln a) (hk : p_is b a 9 = true) (h : ∀ M', p_fr (f_cell a) M M' → (∀ i, M'.1 a i = M.1 a (slx c k i)) → Q M' none) : C d k_X7_slide M [vR a, vI x, vI y] Q :=
  m_slide hC c k ex ey hd hc hk9 hk (h _ (p_fr_row p_fr_rf (p_eq_rf a)) (fun i => by rw [p_row_eq]; exact sl_eq _ c k i))
theorem m_moveClaim {b : Bool} {C : pC} (hC : p_Lg b C) {d : Nat} {M : pM} {Q : pQ} {j : Fin 12} {ρ : pRm} {x y : Int32} (c k : Nat) (ex : x = nI c) (ey : y = nI k) (hd : 2 ≤ d) (hR : cR M j ρ) (ok : okR ρ) (hc : c < ρ.2.2.2.length) (hk : k < ρ.2.2.2.length) (h : ∀ M', p_fr (f_room j) M M' → cR M' j (mvR ρ c k) → Q M' none) : C d k_X2_moveClaim M [vR (aR j 0), vI x, vI y] Q := by
  have l3 := ok.2.2.1
  obtain ⟨a1, a2, a3, a4, a5, a6⟩ := hR
  subst ex
  subst ey
  refine p_ent hC tb_X2_moveClaim _ rfl rfl rfl (fun Z hZ => ?_)
  refine hZ _ _ _ _ (hZ _ _ _ _ (hZ _ _ _ _ (hZ _ _ _ _ ?_)))
  show Z 6 _ _ _
  refine hZ _ _ _ _ ⟨d - 1, by omega, m_slide2 hC c k rfl rfl (by omega) (show c < 7 by omega) (show k < 7 by omega) rfl (fun M1 g1 r1 => ?_)⟩
  refine hZ _ _ _ _ (hZ _ _ _ _ (hZ _ _ _ _ (hZ _ _ _ _ ?_)))
  show Z 15 _ _ _
  refine hZ _ _ _ _ ⟨d - 1, by omega, m_slide2 hC c k rfl rfl (by omega) (show c < 7 by omega) (show k < 7 by omega) rfl (fun M2 g2 r2 => ?_)⟩
  refine hZ _ _ _ _ (hZ _ _ _ _ (hZ _ _ _ _ (hZ _ _ _ _ ?_)))
  show Z 24 _ _ _
  refine hZ _ _ _ _ ⟨d - 1, by omega, m_slide2 hC c k rfl rfl (by omega) (show c < 7 by omega) (show k < 7 by omega) rfl (fun M3 g3 r3 => ?_)⟩
  refine hZ _ _ _ _ (hZ _ _ _ _ (hZ _ _ _ _ (hZ _ _ _ _ ?_)))
  show Z 33 _ _ _
  refine hZ _ _ _ _ ⟨d - 1, by omega, m_slide2 hC c k rfl rfl (by omega) (show c < 7 by omega) (show k < 7 by omega) rfl (fun M4 g4 r4 => ?_)⟩
  refine hZ _ _ _ _ ?_
  have k0 : M4.1 (aR j 0) = M.1 (aR j 0) := by rw [g4.1 (aR j 0) rfl, g3.1 (aR j 0) rfl, g2.1 (aR j 0) rfl, g1.1 (aR j 0) rfl]
  have k1 : M4.1 (aR j 1) = M.1 (aR j 1) := by rw [g4.1 (aR j 1) rfl, g3.1 (aR j 1) rfl, g2.1 (aR j 1) rfl, g1.1 (aR j 1) rfl]
  have k2 : M4.1 (aR j 2) = M.1 (aR j 2) := by rw [g4.1 (aR j 2) rfl, g3.1 (aR j 2) rfl, g2.1 (aR j 2) rfl, g1.1 (aR j 2) rfl]
  refine h _ ((g1.mono f_cell_room).tr ((g2.mono f_cell_room).tr ((g3.mono f_cell_room).tr (g4.mono f_cell_room)))) ⟨by rw [k0]; exact a1, by rw [k0]; exact a2, ?_, by rw [k0]; exact a4, by rw [k1, k2]; exact a5, ?_⟩
  · show M4.1 (aR j 0) 8 = nI (mvL _ c k).length
    rw [mvL_len, k0]
    exact a3
  · intro n x hx
    have hx' := mvL_get hc hk hx
    obtain ⟨b1, b2, b3, b4⟩ := a6 _ x hx'
    refine ⟨?_, ?_, ?_, ?_⟩
    · rw [g4.1 (aR j 3) rfl, g3.1 (aR j 3) rfl, g2.1 (aR j 3) rfl, r1, b1]
    · rw [g4.1 (aR j 4) rfl, g3.1 (aR j 4) rfl, r2, g1.1 (aR j 4) rfl, b2]
    · rw [g4.1 (aR j 5) rfl, r3, g2.1 (aR j 5) rfl, g1.1 (aR j 5) rfl, b3]
    · rw [r4, g3.1 (aR j 6) rfl, g2.1 (aR j 6) rfl, g1.1 (aR j 6) rfl, b4]
/-- a claim struck out -/
def rmL (l : List pCl) (c : Nat) : List pCl := (List.range (l.length - 1)).map (fun i => l.getD (slx c (l.length - 1) i) (0, 0, 0, 0))
def rmR (ρ : pRm) (c : Nat) : pRm := (ρ.1, ρ.2.1, ρ.2.2.1, rmL ρ.2.2.2 c)
theorem rmL_len (l : List pCl) (c : Nat) : (rmL l c).length = l.length - 1 := by simp [rmL]
theorem rmL_get {l : List pCl} {c i : Nat} {x : pCl} (hc : c < l.length) (h : (rmL l c)[i]? = some x) : (mvL l c (l.length - 1))[i]? = some x := by
  have hi : i < l.length - 1 := by
    have := (List.getElem?_eq_some_iff.mp h).1
    rwa [rmL_len] at this
  simp only [rmL, List.getElem?_map, List.getElem?_range hi] at h
  simp only [mvL, List.getElem?_map, List.getElem?_range (show i < l.length by omega)]
  exact h
theorem okR_rm {ρ : pRm} {c : Nat} (ok : okR ρ) (hc : c < ρ.2.2.2.length) : okR (rmR ρ c) := by
  refine ⟨ok.1, ok.2.1, ?_, fun x hx => ?_, ok.2.2.2.2⟩
  · show (rmL _ c).length ≤ 7
    rw [rmL_len]
    have := ok.2.2.1
    omega
  · obtain ⟨i, hi⟩ := List.getElem?_of_mem hx
    exact ok.2.2.2.1 x (List.mem_of_getElem? (mvL_get hc (by omega) (rmL_get hc hi)))
theorem m_removeClaim {b : Bool} {C : pC} (hC : p_Lg b C) {d : Nat} {M : pM} {Q : pQ} {j : Fin 12} {ρ : pRm} {x : Int32} (c : Nat) (ex : x = nI c) (hd : 3 ≤ d) (hR : cR M j ρ) (ok : okR ρ) (hc : c < ρ.2.2.2.length) (h : ∀ M', p_fr (f_room j) M M' → cR M' j (rmR ρ c) → Q M' none) : C d k_X2_removeClaim M [vR (aR j 0), vI x] Q := by
  have l3 := ok.2.2.1
  have e1 : nI ρ.2.2.2.length - 1 = nI (ρ.2.2.2.length - 1) := by
    rw [show ρ.2.2.2.length = (ρ.2.2.2.length - 1) + 1 by omega]
    exact nI_pred _
  refine p_ent hC tb_X2_removeClaim _ rfl rfl rfl (fun Z hZ => ?_)
  refine hZ _ _ _ _ (hZ _ _ _ _ (hZ _ _ _ _ (hZ _ _ _ _ (hZ _ _ _ _ (hZ _ _ _ _ ?_)))))
  show Z 8 _ _ _
  rw [hR.2.2.1, e1]
  refine hZ _ _ _ _ ⟨d - 1, by omega, m_moveClaim hC c (ρ.2.2.2.length - 1) ex rfl (by omega) hR ok hc (by omega) (fun M1 g1 r1 => ?_)⟩
  refine hZ _ _ _ _ (hZ _ _ _ _ (hZ _ _ _ _ (hZ _ _ _ _ (hZ _ _ _ _ (hZ _ _ _ _ ?_)))))
  show Z 21 _ _ _
  refine hZ _ _ _ _ ?_
  obtain ⟨a1, a2, a3, a4, a5, a6⟩ := r1
  refine h _ (p_fr_wr g1 (f_room_self j 0)) ⟨?_, ?_, ?_, ?_, a5, fun i x hx => a6 i x (rmL_get hc hx)⟩
  · rw [p_wr_eq]; exact a1
  · rw [p_wr_eq]; exact a2
  · rw [p_wr_eq]
    show M1.1 (aR j 0) 8 - 1 = nI (rmL _ c).length
    rw [a3, rmL_len, ← e1]
    show nI (mvL _ c _).length - 1 = _
    rw [mvL_len]
  · rw [p_wr_eq]; exact a4
theorem m_addClaim {b : Bool} {C : pC} (hC : p_Lg b C) {d : Nat} {M : pM} {Q : pQ} {j : Fin 12} {ρ : pRm} {t f v w : Int32} (hd : 2 ≤ d) (hR : cR M j ρ) (ok : okR ρ) (h1 : ρ.2.2.2.length < 7 → alw ρ t f v w = true → ∀ M', p_fr (f_room j) M M' → cR M' j (ρ.1, ρ.2.1, ρ.2.2.1, ρ.2.2.2 ++ [(t, f, v, w)]) → okR (ρ.1, ρ.2.1, ρ.2.2.1, ρ.2.2.2 ++ [(t, f, v, w)]) → Q M' (some (vI 1))) (h0 : ¬ (ρ.2.2.2.length < 7 ∧ alw ρ t f v w = true) → Q M (some (vI 0))) : C d k_X2_addClaim M [vR (aR j 0), vI t, vI f, vI v, vI w] Q := by
  have l3 := ok.2.2.1
  have hR0 := hR
  obtain ⟨a1, a2, a3, a4, a5, a6⟩ := hR
  refine p_ent hC tb_X2_addClaim _ rfl rfl rfl (fun Z hZ => ?_)
  refine hZ _ _ _ _ (hZ _ _ _ _ (hZ _ _ _ _ ?_))
  show Z 6 _ _ _
  rw [a3]
  refine hZ _ _ _ _ ⟨fun c1 => ?_, fun c1 => ?_⟩
  · skip
    refine hZ _ _ _ _ ?_
    show Z 22 _ _ _
    refine hZ _ _ _ _ ⟨Or.inl rfl, ?_⟩
    have := (nI_leI (a := 7) (b := ρ.2.2.2.length) (by omega) (by omega)).mp c1
    exact h0 (fun q => by omega)
  · skip
    have hlt : ρ.2.2.2.length < 7 := by
      have := mt (nI_leI (a := 7) (b := ρ.2.2.2.length) (by omega) (by omega)).mpr c1
      omega
    refine hZ _ _ _ _ (hZ _ _ _ _ (hZ _ _ _ _ (hZ _ _ _ _ (hZ _ _ _ _ ?_))))
    show Z 15 _ _ _
    refine hZ _ _ _ _ ⟨d - 1, by omega, m_allows hC (by omega) hR0 ok (fun b1 t' f' b2 b3 b4 b5 b6 => ?_) (fun b1 => ?_)⟩
    · skip
      refine hZ _ _ _ _ (p_tn (by decide) ?_)
      refine hZ _ _ _ _ (hZ _ _ _ _ (hZ _ _ _ _ (hZ _ _ _ _ (hZ _ _ _ _ ?_))))
      show Z 32 _ _ _
      refine hZ _ _ _ _ ⟨d - 1, by omega, m_put hC _ a3 hlt rfl ?_⟩
      refine hZ _ _ _ _ (hZ _ _ _ _ (hZ _ _ _ _ (hZ _ _ _ _ (hZ _ _ _ _ ?_))))
      show Z 44 _ _ _
      refine hZ _ _ _ _ ⟨d - 1, by omega, m_put hC _ a3 hlt rfl ?_⟩
      refine hZ _ _ _ _ (hZ _ _ _ _ (hZ _ _ _ _ (hZ _ _ _ _ (hZ _ _ _ _ ?_))))
      show Z 56 _ _ _
      refine hZ _ _ _ _ ⟨d - 1, by omega, m_put hC _ a3 hlt rfl ?_⟩
      refine hZ _ _ _ _ (hZ _ _ _ _ (hZ _ _ _ _ (hZ _ _ _ _ (hZ _ _ _ _ ?_))))
      show Z 69 _ _ _
      refine hZ _ _ _ _ ⟨d - 1, by omega, m_put hC _ a3 hlt rfl ?_⟩
      refine hZ _ _ _ _ (hZ _ _ _ _ (hZ _ _ _ _ (hZ _ _ _ _ (hZ _ _ _ _ (hZ _ _ _ _ (hZ _ _ _ _ ?_))))))
      show Z 83 _ _ _
      refine hZ _ _ _ _ ⟨Or.inr rfl, ?_⟩
      have get : ∀ i x, (ρ.2.2.2 ++ [(t, f, v, w)])[i]? = some x → (i < ρ.2.2.2.length ∧ ρ.2.2.2[i]? = some x) ∨ (i = ρ.2.2.2.length ∧ x = (t, f, v, w)) := by
        intro i x hx
        by_cases e : i < ρ.2.2.2.length
        · rw [List.getElem?_append_left e] at hx
          exact Or.inl ⟨e, hx⟩
        · rw [List.getElem?_append_right (by omega)] at hx
          have := (List.getElem?_eq_some_iff.mp hx).1
          simp at this
          have e2 : i - ρ.2.2.2.length = 0 := by omega
          rw [e2] at hx
          exact Or.inr ⟨by omega, (Option.some.inj hx).symm⟩
      refine h1 hlt b1 _ ?_ ⟨?_, ?_, ?_, ?_, a5, ?_⟩ ⟨ok.1, ok.2.1, ?_, fun x hx => ?_, ok.2.2.2.2⟩
      · exact p_fr_wr (p_fr_wr (p_fr_wr (p_fr_wr (p_fr_wr p_fr_rf (f_room_self j _)) (f_room_self j _)) (f_room_self j _)) (f_room_self j _)) (f_room_self j _)
      · rw [p_wr_eq]; exact a1
      · rw [p_wr_eq]; exact a2
      · rw [p_wr_eq]
        show M.1 (aR j 0) 8 + 1 = nI (ρ.2.2.2 ++ [(t, f, v, w)]).length
        rw [a3, nI_1]
        simp
      · rw [p_wr_eq]; exact a4
      · intro i x hx
        have u : ∀ (g : Nat → Int32) (y : Int32), i < ρ.2.2.2.length → upd g ρ.2.2.2.length y i = g i := fun g y hi => by simp only [upd, if_neg (show ¬ i = ρ.2.2.2.length by omega)]
        refine ⟨?_, ?_, ?_, ?_⟩
        · show (p_wr M (aR j 3) ρ.2.2.2.length t).1 (aR j 3) i = x.1
          rw [p_wr_eq]
          rcases get i x hx with ⟨e1, e2⟩ | ⟨e1, e2⟩
          · rw [u _ _ e1]; exact (a6 i x e2).1
          · rw [e1, e2]; simp [upd]
        · show (p_wr (p_wr M (aR j 3) ρ.2.2.2.length t) (aR j 4) ρ.2.2.2.length f).1 (aR j 4) i = x.2.1
          rw [p_wr_eq]
          rcases get i x hx with ⟨e1, e2⟩ | ⟨e1, e2⟩
          · rw [u _ _ e1]; exact (a6 i x e2).2.1
          · rw [e1, e2]; simp [upd]
        · show (p_wr (p_wr (p_wr M (aR j 3) ρ.2.2.2.length t) (aR j 4) ρ.2.2.2.length f) (aR j 5) ρ.2.2.2.length v).1 (aR j 5) i = x.2.2.1
          rw [p_wr_eq]
          rcases get i x hx with ⟨e1, e2⟩ | ⟨e1, e2⟩
          · rw [u _ _ e1]; exact (a6 i x e2).2.2.1
          · rw [e1, e2]; simp [upd]
        · show (p_wr (p_wr (p_wr (p_wr M (aR j 3) ρ.2.2.2.length t) (aR j 4) ρ.2.2.2.length f) (aR j 5) ρ.2.2.2.length v) (aR j 6) ρ.2.2.2.length w).1 (aR j 6) i = x.2.2.2
          rw [p_wr_eq]
          rcases get i x hx with ⟨e1, e2⟩ | ⟨e1, e2⟩
          · rw [u _ _ e1]; exact (a6 i x e2).2.2.2
          · rw [e1, e2]; simp [upd]
      · show (ρ.2.2.2 ++ [(t, f, v, w)]).length ≤ 7
        simp
        omega
      · rcases List.mem_append.mp hx with hx | hx
        · exact ok.2.2.2.1 x hx
        · rw [List.mem_singleton.mp hx]
          exact ⟨t', f', b2, b3, b4, b5, b6⟩
    · skip
      refine hZ _ _ _ _ (p_fn (rfl) ?_)
      refine hZ _ _ _ _ ?_
      show Z 22 _ _ _
      refine hZ _ _ _ _ ⟨Or.inl rfl, ?_⟩
      exact h0 (fun q => by rw [b1] at q; cases q.2)
theorem m_addTeller {b : Bool} {C : pC} (hC : p_Lg b C) {d : Nat} {M : pM} {Q : pQ} {j : Fin 12} {ρ : pRm} {k g : Int32} (hd : 1 ≤ d) (hR : cR M j ρ) (ok : okR ρ) (h1 : ρ.1.length < 5 → (0 ≤ k ∧ k ≤ 3) → (1 ≤ g ∧ g ≤ 40) → ∀ M', p_fr (f_room j) M M' → cR M' j (ρ.1 ++ [(k, g)], ρ.2) → okR (ρ.1 ++ [(k, g)], ρ.2) → Q M' (some (vI 1))) (h0 : ¬ (ρ.1.length < 5 ∧ (0 ≤ k ∧ k ≤ 3) ∧ (1 ≤ g ∧ g ≤ 40)) → Q M (some (vI 0))) : C d k_X2_addTeller M [vR (aR j 0), vI k, vI g] Q := by
  have l1 := ok.1
  obtain ⟨a1, a2, a3, a4, a5, a6⟩ := hR
  refine p_ent hC tb_X2_addTeller _ rfl rfl rfl (fun Z hZ => ?_)
  refine hZ _ _ _ _ (hZ _ _ _ _ (hZ _ _ _ _ ?_))
  show Z 5 _ _ _
  rw [a1]
  refine hZ _ _ _ _ ⟨fun c1 => ?_, fun c1 => ?_⟩
  · skip
    refine hZ _ _ _ _ ?_
    show Z 28 _ _ _
    refine hZ _ _ _ _ ⟨Or.inl rfl, ?_⟩
    have := (nI_leI (a := 5) (b := ρ.1.length) (by omega) (by omega)).mp c1
    exact h0 (fun q => by omega)
  · skip
    have hlt : ρ.1.length < 5 := by
      have := mt (nI_leI (a := 5) (b := ρ.1.length) (by omega) (by omega)).mpr c1
      omega
    refine hZ _ _ _ _ (hZ _ _ _ _ (hZ _ _ _ _ ?_))
    show Z 11 _ _ _
    refine hZ _ _ _ _ ⟨d - 1, by omega, m_within hC (fun b1 b2 => ?_) (fun b1 => ?_)⟩
    · skip
      refine hZ _ _ _ _ (br_f (by decide) ?_)
      refine hZ _ _ _ _ (hZ _ _ _ _ (hZ _ _ _ _ ?_))
      show Z 21 _ _ _
      refine hZ _ _ _ _ ⟨d - 1, by omega, m_within hC (fun b3 b4 => ?_) (fun b3 => ?_)⟩
      · skip
        refine hZ _ _ _ _ (p_tn (by decide) ?_)
        refine hZ _ _ _ _ (hZ _ _ _ _ (hZ _ _ _ _ (hZ _ _ _ _ (hZ _ _ _ _ ?_))))
        show Z 38 _ _ _
        refine hZ _ _ _ _ ⟨d - 1, by omega, m_put hC _ a1 hlt rfl ?_⟩
        refine hZ _ _ _ _ (hZ _ _ _ _ (hZ _ _ _ _ (hZ _ _ _ _ (hZ _ _ _ _ ?_))))
        show Z 50 _ _ _
        refine hZ _ _ _ _ ⟨d - 1, by omega, m_put hC _ a1 hlt rfl ?_⟩
        refine hZ _ _ _ _ (hZ _ _ _ _ (hZ _ _ _ _ (hZ _ _ _ _ (hZ _ _ _ _ (hZ _ _ _ _ (hZ _ _ _ _ ?_))))))
        show Z 64 _ _ _
        refine hZ _ _ _ _ ⟨Or.inr rfl, ?_⟩
        refine h1 hlt ⟨b1, b2⟩ ⟨b3, b4⟩ _ ?_ ⟨?_, ?_, ?_, ?_, ?_, a6⟩ ⟨?_, ok.2.1, ok.2.2.1, fun x hx => ?_, ok.2.2.2.2⟩
        · exact p_fr_wr (p_fr_wr (p_fr_wr p_fr_rf (f_room_self j _)) (f_room_self j _)) (f_room_self j _)
        · rw [p_wr_eq]
          show M.1 (aR j 0) 6 + 1 = nI (ρ.1 ++ [(k, g)]).length
          rw [a1, nI_1]
          simp
        · rw [p_wr_eq]; exact a2
        · rw [p_wr_eq]; exact a3
        · rw [p_wr_eq]; exact a4
        · intro i x hx
          have hx' : (ρ.1 ++ [(k, g)])[i]? = some x := hx
          constructor
          · show (p_wr M (aR j 1) ρ.1.length k).1 (aR j 1) i = x.1
            rw [p_wr_eq]
            by_cases e : i < ρ.1.length
            · rw [List.getElem?_append_left e] at hx'
              simp only [upd, if_neg (show ¬ i = ρ.1.length by omega)]
              exact (a5 i x hx').1
            · rw [List.getElem?_append_right (by omega)] at hx'
              have := (List.getElem?_eq_some_iff.mp hx').1
              simp at this
              have e2 : i = ρ.1.length := by omega
              subst e2
              simp at hx'
              simp [upd, ← hx']
          · show (p_wr (p_wr M (aR j 1) ρ.1.length k) (aR j 2) ρ.1.length g).1 (aR j 2) i = x.2
            rw [p_wr_eq]
            by_cases e : i < ρ.1.length
            · rw [List.getElem?_append_left e] at hx'
              simp only [upd, if_neg (show ¬ i = ρ.1.length by omega)]
              exact (a5 i x hx').2
            · rw [List.getElem?_append_right (by omega)] at hx'
              have := (List.getElem?_eq_some_iff.mp hx').1
              simp at this
              have e2 : i = ρ.1.length := by omega
              subst e2
              simp at hx'
              simp [upd, ← hx']
        · show (ρ.1 ++ [(k, g)]).length ≤ 5
          simp
          omega
        · obtain ⟨t, f, e1, e2, e3⟩ := ok.2.2.2.1 x hx
          exact ⟨t, f, e1, by show t < (ρ.1 ++ [(k, g)]).length; simp; omega, e3⟩
      · skip
        refine hZ _ _ _ _ (p_fn (rfl) ?_)
        refine hZ _ _ _ _ ?_
        show Z 28 _ _ _
        refine hZ _ _ _ _ ⟨Or.inl rfl, ?_⟩
        exact h0 (fun q => b3 q.2.2)
    · skip
      refine hZ _ _ _ _ (br_t (rfl) ?_)
      refine hZ _ _ _ _ ?_
      show Z 28 _ _ _
      refine hZ _ _ _ _ ⟨Or.inl rfl, ?_⟩
      exact h0 (fun q => b1 q.2.1)
/-- a fact more: its bit -/
theorem bit_more : ∀ (m : Fin 6) (n : Fin 64) (v : Fin 2), n.val < 2 ^ m.val → nI n.val ||| (nI v.val <<< (nI m.val &&& 31)) = nI (n.val + v.val * 2 ^ m.val) := by decide +kernel
theorem m_addFact {b : Bool} {C : pC} (hC : p_Lg b C) {d : Nat} {M : pM} {Q : pQ} {j : Fin 12} {ρ : pRm} {v : Int32} (hd : 1 ≤ d) (hR : cR M j ρ) (ok : okR ρ) (h1 : ρ.2.1 < 6 → (0 ≤ v ∧ v ≤ 1) → ∀ M', p_fr (f_room j) M M' → cR M' j (ρ.1, ρ.2.1 + 1, ρ.2.2.1 ||| (v <<< (nI ρ.2.1 &&& 31)), ρ.2.2.2) → okR (ρ.1, ρ.2.1 + 1, ρ.2.2.1 ||| (v <<< (nI ρ.2.1 &&& 31)), ρ.2.2.2) → Q M' (some (vI 1))) (h0 : ¬ (ρ.2.1 < 6 ∧ 0 ≤ v ∧ v ≤ 1) → Q M (some (vI 0))) : C d k_X2_addFact M [vR (aR j 0), vI v] Q := by
  have l2 := ok.2.1
  obtain ⟨a1, a2, a3, a4, a5, a6⟩ := hR
  refine p_ent hC tb_X2_addFact _ rfl rfl rfl (fun Z hZ => ?_)
  refine hZ _ _ _ _ (hZ _ _ _ _ (hZ _ _ _ _ ?_))
  show Z 6 _ _ _
  rw [a2]
  refine hZ _ _ _ _ ⟨fun c1 => ?_, fun c1 => ?_⟩
  · skip
    refine hZ _ _ _ _ ?_
    show Z 19 _ _ _
    refine hZ _ _ _ _ ⟨Or.inl rfl, ?_⟩
    have := (nI_leI (a := 6) (b := ρ.2.1) (by omega) (by omega)).mp c1
    exact h0 (fun q => by omega)
  · skip
    have hlt : ρ.2.1 < 6 := by
      have := mt (nI_leI (a := 6) (b := ρ.2.1) (by omega) (by omega)).mpr c1
      omega
    refine hZ _ _ _ _ (hZ _ _ _ _ (hZ _ _ _ _ ?_))
    show Z 12 _ _ _
    refine hZ _ _ _ _ ⟨d - 1, by omega, m_within hC (fun b1 b2 => ?_) (fun b1 => ?_)⟩
    · skip
      refine hZ _ _ _ _ (p_tn (by decide) ?_)
      refine hZ _ _ _ _ (hZ _ _ _ _ (hZ _ _ _ _ (hZ _ _ _ _ (hZ _ _ _ _ (hZ _ _ _ _ (hZ _ _ _ _ (hZ _ _ _ _ (hZ _ _ _ _ (hZ _ _ _ _ (hZ _ _ _ _ (hZ _ _ _ _ (hZ _ _ _ _ (hZ _ _ _ _ (hZ _ _ _ _ (hZ _ _ _ _ ?_)))))))))))))))
      show Z 46 _ _ _
      refine hZ _ _ _ _ ⟨Or.inr rfl, ?_⟩
      refine h1 hlt ⟨b1, b2⟩ _ (p_fr_wr (p_fr_wr p_fr_rf (f_room_self j _)) (f_room_self j _)) ⟨?_, ?_, ?_, ?_, a5, a6⟩ ⟨ok.1, ?_, ok.2.2.1, fun x hx => ?_, ?_⟩
      · simp only [p_wr_eq, upd]; exact a1
      · simp only [p_wr_eq, upd]
        show M.1 (aR j 0) 7 + 1 = nI (ρ.2.1 + 1)
        rw [a2, nI_1]
      · simp only [p_wr_eq, upd]; exact a3
      · simp only [p_wr_eq, upd]
        show M.1 (aR j 0) 9 ||| (v <<< (M.1 (aR j 0) 7 &&& 31)) = _
        rw [a4, a2]
      · show ρ.2.1 + 1 ≤ 6
        omega
      · obtain ⟨t, f, e1, e2, e3, e4, e5⟩ := ok.2.2.2.1 x hx
        exact ⟨t, f, e1, e2, e3, by show f < ρ.2.1 + 1; omega, e5⟩
      · obtain ⟨n, en, hn⟩ := ok.2.2.2.2
        have h64 : n < 64 := Nat.lt_of_lt_of_le hn (Nat.pow_le_pow_right (by omega) l2)
        have hv : ∃ u : Nat, u < 2 ∧ v = nI u := by
          have : v = 0 ∨ v = 1 := by grind
          rcases this with e | e
          · exact ⟨0, by omega, e⟩
          · exact ⟨1, by omega, e⟩
        obtain ⟨u, hu, ev⟩ := hv
        refine ⟨n + u * 2 ^ ρ.2.1, ?_, ?_⟩
        · show ρ.2.2.1 ||| (v <<< (nI ρ.2.1 &&& 31)) = _
          rw [en, ev]
          exact bit_more ⟨ρ.2.1, hlt⟩ ⟨n, h64⟩ ⟨u, hu⟩ hn
        · show n + u * 2 ^ ρ.2.1 < 2 ^ (ρ.2.1 + 1)
          rw [Nat.pow_succ]
          have : u * 2 ^ ρ.2.1 ≤ 1 * 2 ^ ρ.2.1 := Nat.mul_le_mul_right _ (by omega)
          omega
    · skip
      refine hZ _ _ _ _ (p_fn (rfl) ?_)
      refine hZ _ _ _ _ ?_
      show Z 19 _ _ _
      refine hZ _ _ _ _ ⟨Or.inl rfl, ?_⟩
      exact h0 (fun q => b1 q.2)
/-- how many of the first n claims are false -/
def nF (ρ : pRm) : Nat → Int32
  | 0 => 0
  | n + 1 => nF ρ n + (match ρ.2.2.2[n]? with
    | some x => bi (fl ρ.2.2.1 x)
    | none => 0)
theorem m_falseClaims {b : Bool} {C : pC} (hC : p_Lg b C) {d : Nat} {M : pM} {Q : pQ} {j : Fin 12} {ρ : pRm} (hd : 2 ≤ d) (hR : cR M j ρ) (ok : okR ρ) (h : Q M (some (vI (nF ρ ρ.2.2.2.length)))) : C d k_X2_falseClaims M [vR (aR j 0)] Q := by
  have l3 := ok.2.2.1
  refine p_ent hC tb_X2_falseClaims _ rfl rfl rfl (fun Z hZ => ?_)
  refine hZ _ _ _ _ (hZ _ _ _ _ (hZ _ _ _ _ (hZ _ _ _ _ ?_)))
  show Z 4 _ _ _
  have loop : ∀ (n i : Nat), i + n = ρ.2.2.2.length → Z 4 [some (vR (aR j 0)), some (vI (nF ρ i)), some (vI (nI i))] [] M := by
    intro n
    induction n with
    | zero =>
      intro i e
      have : i = ρ.2.2.2.length := by omega
      subst this
      refine hZ _ _ _ _ (hZ _ _ _ _ (hZ _ _ _ _ ?_))
      show Z 9 _ _ _
      refine hZ _ _ _ _ (br_t (by rw [hR.2.2.1]; exact Int32.le_refl _) ?_)
      refine hZ _ _ _ _ ?_
      show Z 30 _ _ _
      refine hZ _ _ _ _ ?_
      exact h
    | succ n ih =>
      intro i e
      have hi : i < ρ.2.2.2.length := by omega
      have hx : ρ.2.2.2[i]? = some ρ.2.2.2[i] := List.getElem?_eq_getElem hi
      have step := ih (i + 1) (by omega)
      rw [← nI_1] at step
      refine hZ _ _ _ _ (hZ _ _ _ _ (hZ _ _ _ _ ?_))
      show Z 9 _ _ _
      refine hZ _ _ _ _ (br_f (by rw [hR.2.2.1]; exact nI_ge hi (by omega)) ?_)
      refine hZ _ _ _ _ (hZ _ _ _ _ ?_)
      show Z 14 _ _ _
      refine hZ _ _ _ _ ⟨d - 1, by omega, m_isFalse hC (by omega) hR (by omega) hx ?_⟩
      cases e1 : fl ρ.2.2.1 ρ.2.2.2[i]
      · refine hZ _ _ _ _ (br_t (rfl) ?_)
        refine hZ _ _ _ _ (hZ _ _ _ _ ?_)
        show Z 4 _ _ _
        have e2 : nF ρ (i + 1) = nF ρ i := by simp only [nF, hx, e1]; exact Int32.add_zero _
        rw [e2] at step
        exact step
      · skip
        refine hZ _ _ _ _ (br_f (by decide) ?_)
        refine hZ _ _ _ _ (hZ _ _ _ _ (hZ _ _ _ _ ?_))
        show Z 4 _ _ _
        have e2 : nF ρ (i + 1) = nF ρ i + 1 := by simp only [nF, hx, e1]; rfl
        rw [e2] at step
        exact step
  exact loop ρ.2.2.2.length 0 (Nat.zero_add _)
