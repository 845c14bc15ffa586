/-! the class's calls: the evening, what fits what was seen -/
def sp_drops (S : pS) (t : Int32) : pS × Int32 := (S, match ix t S.2.1.1.length with
  | none => -1
  | some k => if (ev S.2.1).2.2.2 k = 7 then -4 else (ev S.2.1).2.2.2 k)
def sp_told (S : pS) : pS × Int32 := (S, (ev S.2.1).1.2.2.1)
def sp_hot (S : pS) (c : Int32) : pS × Int32 := (S, match ix c S.2.1.2.2.2.length with
  | none => -1
  | some k => (ev S.2.1).2.2.1 k)
def sp_hottest (S : pS) : pS × Int32 := (S, (ev S.2.1).2.1)
theorem cS_ev {M M' : pM} {S : pS} (h : p_fr f_ev M M') (hS : cS M S) : p_cl M M' ∧ cS M' S := ⟨(h.q 99).cl cl_ev, cS_sc (h.mono sc_ev) hS⟩
theorem c_drops {b : Bool} {C : pC} (hC : p_Lg b C) {d : Nat} {M : pM} {Q : pQ} {S : pS} {t : Int32} (hd : 4 ≤ d) (hS : cS M S) (ok : okS S) (h : ∀ M', p_cl M M' → cS M' S → Q M' (some (vI (sp_drops S t).2))) : C d k_X7_drops M [vR (aS 0), vI t] Q := by
  have l1 := ok.1.1
  refine p_ent hC tb_X7_drops _ rfl rfl rfl (fun Z hZ => ?_)
  refine hZ _ _ _ _ (hZ _ _ _ _ (hZ _ _ _ _ ?_))
  show Z 5 _ _ _
  refine hZ _ _ _ _ ⟨d - 1, by omega, m_isTeller hC hS.2.1 ok.1 (fun k b1 b2 b3 => ?_) (fun b1 => ?_)⟩
  · skip
    refine hZ _ _ _ _ (p_tn (by decide) ?_)
    refine hZ _ _ _ _ (hZ _ _ _ _ (hZ _ _ _ _ (hZ _ _ _ _ ?_)))
    show Z 21 _ _ _
    refine hZ _ _ _ _ ⟨d - 1, by omega, m_hold hC (by omega) hS.2.1 ok.1 (fun M1 g1 g2 => ?_)⟩
    refine hZ _ _ _ _ (hZ _ _ _ _ (hZ _ _ _ _ (hZ _ _ _ _ ?_)))
    show Z 32 _ _ _
    refine hZ _ _ _ _ ⟨d - 1, by omega, m_at hC k b3 (show k < 5 by omega) rfl ?_⟩
    refine hZ _ _ _ _ (hZ _ _ _ _ (hZ _ _ _ _ ?_))
    show Z 39 _ _ _
    rw [g2.2.2.2 k (by omega)]
    obtain ⟨k1, k2⟩ := cS_ev g1 hS
    have := h M1 k1 k2
    simp only [sp_drops, b1] at this
    by_cases e : (ev S.2.1).2.2.2 k = 7
    · refine hZ _ _ _ _ (p_fn (e) ?_)
      refine hZ _ _ _ _ (hZ _ _ _ _ ?_)
      show Z 48 _ _ _
      refine hZ _ _ _ _ ?_
      rw [if_pos e] at this
      exact this
    · skip
      refine hZ _ _ _ _ (p_tn (e) ?_)
      refine hZ _ _ _ _ ?_
      show Z 48 _ _ _
      refine hZ _ _ _ _ ?_
      rw [if_neg e] at this
      exact this
  · skip
    refine hZ _ _ _ _ (p_fn (rfl) ?_)
    refine hZ _ _ _ _ ?_
    show Z 12 _ _ _
    refine hZ _ _ _ _ ?_
    have := h M p_cl_rf hS
    simp only [sp_drops, b1] at this
    exact this
theorem c_told {b : Bool} {C : pC} (hC : p_Lg b C) {d : Nat} {M : pM} {Q : pQ} {S : pS} (hd : 4 ≤ d) (hS : cS M S) (ok : okS S) (h : ∀ M', p_cl M M' → cS M' S → Q M' (some (vI (sp_told S).2))) : C d k_X7_told M [vR (aS 0)] Q := by
  refine p_ent hC tb_X7_told _ rfl rfl rfl (fun Z hZ => ?_)
  refine hZ _ _ _ _ (hZ _ _ _ _ (hZ _ _ _ _ (hZ _ _ _ _ ?_)))
  show Z 8 _ _ _
  refine hZ _ _ _ _ ⟨d - 1, by omega, m_hold hC (by omega) hS.2.1 ok.1 (fun M1 g1 g2 => ?_)⟩
  refine hZ _ _ _ _ (hZ _ _ _ _ (hZ _ _ _ _ (hZ _ _ _ _ ?_)))
  show Z 21 _ _ _
  refine hZ _ _ _ _ ?_
  obtain ⟨k1, k2⟩ := cS_ev g1 hS
  rw [show M1.1 (aI 0) 2 = (ev S.2.1).1.2.2.1 from congrArg (fun q : pI => q.2.2.1) g2.1]
  exact h M1 k1 k2
theorem c_hot {b : Bool} {C : pC} (hC : p_Lg b C) {d : Nat} {M : pM} {Q : pQ} {S : pS} {c : Int32} (hd : 4 ≤ d) (hS : cS M S) (ok : okS S) (h : ∀ M', p_cl M M' → cS M' S → Q M' (some (vI (sp_hot S c).2))) : C d k_X7_hot M [vR (aS 0), vI c] Q := by
  have l3 := ok.1.2.2.1
  refine p_ent hC tb_X7_hot _ rfl rfl rfl (fun Z hZ => ?_)
  refine hZ _ _ _ _ (hZ _ _ _ _ (hZ _ _ _ _ ?_))
  show Z 5 _ _ _
  refine hZ _ _ _ _ ⟨d - 1, by omega, m_isClaim hC hS.2.1 ok.1 (fun k b1 b2 b3 => ?_) (fun b1 => ?_)⟩
  · skip
    refine hZ _ _ _ _ (p_tn (by decide) ?_)
    refine hZ _ _ _ _ (hZ _ _ _ _ (hZ _ _ _ _ (hZ _ _ _ _ ?_)))
    show Z 21 _ _ _
    refine hZ _ _ _ _ ⟨d - 1, by omega, m_hold hC (by omega) hS.2.1 ok.1 (fun M1 g1 g2 => ?_)⟩
    refine hZ _ _ _ _ (hZ _ _ _ _ (hZ _ _ _ _ (hZ _ _ _ _ ?_)))
    show Z 32 _ _ _
    refine hZ _ _ _ _ ⟨d - 1, by omega, m_at hC k b3 (show k < 7 by omega) rfl ?_⟩
    refine hZ _ _ _ _ ?_
    obtain ⟨k1, k2⟩ := cS_ev g1 hS
    have := h M1 k1 k2
    simp only [sp_hot, b1] at this
    rw [g2.2.2.1 k b2]
    exact this
  · skip
    refine hZ _ _ _ _ (p_fn (rfl) ?_)
    refine hZ _ _ _ _ ?_
    show Z 12 _ _ _
    refine hZ _ _ _ _ ?_
    have := h M p_cl_rf hS
    simp only [sp_hot, b1] at this
    exact this
theorem c_hottest {b : Bool} {C : pC} (hC : p_Lg b C) {d : Nat} {M : pM} {Q : pQ} {S : pS} (hd : 4 ≤ d) (hS : cS M S) (ok : okS S) (h : ∀ M', p_cl M M' → cS M' S → Q M' (some (vI (sp_hottest S).2))) : C d k_X7_hottest M [vR (aS 0)] Q := by
  refine p_ent hC tb_X7_hottest _ rfl rfl rfl (fun Z hZ => ?_)
  refine hZ _ _ _ _ (hZ _ _ _ _ (hZ _ _ _ _ (hZ _ _ _ _ ?_)))
  show Z 8 _ _ _
  refine hZ _ _ _ _ ⟨d - 1, by omega, m_hold hC (by omega) hS.2.1 ok.1 (fun M1 g1 g2 => ?_)⟩
  refine hZ _ _ _ _ (hZ _ _ _ _ (hZ _ _ _ _ ?_))
  show Z 18 _ _ _
  refine hZ _ _ _ _ ?_
  obtain ⟨k1, k2⟩ := cS_ev g1 hS
  rw [g2.2.1]
  exact h M1 k1 k2
/-- the room's tellers let go so that all that is seen is so -/
def fit (ρ : pRm) (V : pSn) : Bool := agr (ev ρ).2.2.2 V
theorem m_fits {b : Bool} {C : pC} (hC : p_Lg b C) {d : Nat} {M : pM} {Q : pQ} {j : Fin 12} {ρ : pRm} {V : pSn} (hd : 4 ≤ d) (hV : sR M V) (hR : cR M j ρ) (ok : okR ρ) (h1 : fit ρ V = true → ∀ M', p_fr f_ev M M' → Q M' (some (vI 1))) (h0 : fit ρ V = false → ∀ M', p_fr f_ev M M' → Q M' (some (vI 0))) : C d k_X7_fits M [vR (aS 0), vR (aR j 0)] Q := by
  refine p_ent hC tb_X7_fits _ rfl rfl rfl (fun Z hZ => ?_)
  refine hZ _ _ _ _ (hZ _ _ _ _ (hZ _ _ _ _ ?_))
  show Z 5 _ _ _
  refine hZ _ _ _ _ ⟨d - 1, by omega, m_hold hC (by omega) hR ok (fun M1 g1 g2 => ?_)⟩
  refine hZ _ _ _ _ (hZ _ _ _ _ (hZ _ _ _ _ (hZ _ _ _ _ ?_)))
  show Z 16 _ _ _
  refine hZ _ _ _ _ ⟨d - 1, by omega, m_agree hC (by omega) (sR_q (g1.q 99) rfl rfl rfl hV) g2.2.2.2 (fun e => ?_) (fun e => ?_)⟩
  · skip
    refine hZ _ _ _ _ ⟨Or.inr rfl, ?_⟩
    exact h1 e M1 g1
  · skip
    refine hZ _ _ _ _ ⟨Or.inl rfl, ?_⟩
    exact h0 e M1 g1
