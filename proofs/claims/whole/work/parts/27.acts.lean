/-! the class's calls: text, rooms, acts, kept -/
theorem c_write {b : Bool} {C : pC} (hC : p_Lg b C) {d : Nat} {M : pM} {Q : pQ} {S : pS} {x : Int32} (hd : 2 ≤ d) (hS : cS M S) (h : ∀ M', p_cl M M' → cS M' (sp_write S x).1 → Q M' (some (vI (sp_write S x).2))) : C d k_X7_write M [vR (aS 0), vI x] Q := by
  obtain ⟨a1, a2, a3, a4, a5, a6⟩ := hS
  refine p_ent hC tb_X7_write _ rfl rfl rfl (fun Z hZ => ?_)
  refine hZ _ _ _ _ (hZ _ _ _ _ (hZ _ _ _ _ ?_))
  show Z 5 _ _ _
  refine hZ _ _ _ _ ⟨d - 1, by omega, m_within hC (fun b1 b2 => ?_) (fun b1 => ?_)⟩
  · skip
    refine hZ _ _ _ _ (p_tn (by decide) ?_)
    refine hZ _ _ _ _ (hZ _ _ _ _ (hZ _ _ _ _ ?_))
    show Z 18 _ _ _
    refine hZ _ _ _ _ ⟨d - 1, by omega, m_append hC (by omega) a1 (fun c1 M1 g1 g2 => ?_) (fun c1 => ?_)⟩
    · skip
      refine hZ _ _ _ _ (br_f (by decide) ?_)
      refine hZ _ _ _ _ (hZ _ _ _ _ (hZ _ _ _ _ (hZ _ _ _ _ ?_)))
      show Z 36 _ _ _
      refine hZ _ _ _ _ ?_
      have F := g1.q 99
      rw [g2.2.1]
      have := h M1 (F.cl cl_t2)
      simp only [sp_write, if_pos (And.intro b1 b2), if_pos c1] at this
      simp only [List.length_append, List.length_singleton]
      exact this ⟨g2, cR_q F (fun c => rfl) a2, sR_q F rfl rfl rfl a3, shR_q F rfl (by decide) (fun j c _ _ => rfl) a4, shR_q F rfl (by decide) (fun j c _ _ => rfl) a5, stg_q F (by decide) a6⟩
    · skip
      refine hZ _ _ _ _ (br_t (rfl) ?_)
      refine hZ _ _ _ _ ?_
      show Z 36 _ _ _
      refine hZ _ _ _ _ ?_
      have := h M p_cl_rf
      simp only [sp_write, if_pos (And.intro b1 b2), if_neg (show ¬ S.1.length < 200 by omega)] at this
      exact this ⟨a1, a2, a3, a4, a5, a6⟩
  · skip
    refine hZ _ _ _ _ (p_fn (rfl) ?_)
    refine hZ _ _ _ _ ?_
    show Z 12 _ _ _
    refine hZ _ _ _ _ ?_
    have := h M p_cl_rf
    simp only [sp_write, if_neg b1] at this
    exact this ⟨a1, a2, a3, a4, a5, a6⟩
theorem c_wipe {b : Bool} {C : pC} (hC : p_Lg b C) {d : Nat} {M : pM} {Q : pQ} {S : pS} (hd : 1 ≤ d) (hS : cS M S) (h : ∀ M', p_cl M M' → cS M' (sp_wipe S).1 → Q M' (some (vI (sp_wipe S).2))) : C d k_X7_wipe M [vR (aS 0)] Q := by
  obtain ⟨a1, a2, a3, a4, a5, a6⟩ := hS
  refine p_ent hC tb_X7_wipe _ rfl rfl rfl (fun Z hZ => ?_)
  refine hZ _ _ _ _ (hZ _ _ _ _ (hZ _ _ _ _ (hZ _ _ _ _ (hZ _ _ _ _ (hZ _ _ _ _ ?_)))))
  show Z 12 _ _ _
  rw [a1.2.1]
  refine hZ _ _ _ _ ⟨d - 1, by omega, m_textClear hC (fun M1 g1 g2 => ?_)⟩
  refine hZ _ _ _ _ ?_
  show Z 16 _ _ _
  refine hZ _ _ _ _ ?_
  have F := g1.q 99
  exact h M1 (F.cl (cl_cell (by omega))) ⟨g2, cR_q F (fun c => rfl) a2, sR_q F rfl rfl rfl a3, shR_q F rfl (by decide) (fun j c _ _ => rfl) a4, shR_q F rfl (by decide) (fun j c _ _ => rfl) a5, stg_q F (by decide) a6⟩
theorem cS_read {M M' : pM} {S : pS} (h : p_fr (f_tr 1) M M') (hT : tR M' S.1) (hS : cS M S) : p_cl M M' ∧ cS M' S := by
  have F := h.q 99
  obtain ⟨a1, a2, a3, a4, a5, a6⟩ := hS
  have tr1 : ∀ (j : Fin 12) (c : Nat), 2 ≤ j.val → f_tr 1 (aR j c) = false := fun j c hj => by simp only [f_tr, r_lo1 c hj]; rfl
  exact ⟨F.cl cl_tr, hT, cR_q F (fun c => rfl) a2, sR_q F rfl rfl rfl a3, shR_q F rfl (by decide) (fun j c h1 _ => tr1 j c h1) a4, shR_q F rfl (by decide) (fun j c h1 _ => tr1 j c (by omega)) a5, stg_q F (by decide) a6⟩
theorem c_fault {b : Bool} {C : pC} (hC : p_Lg b C) {d : Nat} {M : pM} {Q : pQ} {S : pS} (hd : 6 ≤ d) (hS : cS M S) (h : ∀ M', p_cl M M' → cS M' (sp_fault S).1 → Q M' (some (vI (sp_fault S).2))) : C d k_X7_fault M [vR (aS 0)] Q := by
  refine p_ent hC tb_X7_fault _ rfl rfl rfl (fun Z hZ => ?_)
  refine hZ _ _ _ _ (hZ _ _ _ _ (hZ _ _ _ _ (hZ _ _ _ _ ?_)))
  show Z 8 _ _ _
  refine hZ _ _ _ _ ⟨d - 1, by omega, m_readInto hC (by omega) hS.1 (fun M1 g1 g2 g3 => ?_)⟩
  refine hZ _ _ _ _ ?_
  obtain ⟨k1, k2⟩ := cS_read g1 g2 hS
  exact h M1 k1 k2
theorem c_lay {b : Bool} {C : pC} (hC : p_Lg b C) {d : Nat} {M : pM} {Q : pQ} {S : pS} (hd : 6 ≤ d) (hS : cS M S) (h : ∀ M', p_cl M M' → cS M' (sp_lay S).1 → Q M' (some (vI (sp_lay S).2))) : C d k_X7_lay M [vR (aS 0)] Q := by
  refine p_ent hC tb_X7_lay _ rfl rfl rfl (fun Z hZ => ?_)
  refine hZ _ _ _ _ (hZ _ _ _ _ (hZ _ _ _ _ (hZ _ _ _ _ ?_)))
  show Z 8 _ _ _
  refine hZ _ _ _ _ ⟨d - 1, by omega, m_readInto hC (by omega) hS.1 (fun M1 g1 g2 g3 => ?_)⟩
  obtain ⟨k1, k2⟩ := cS_read g1 g2 hS
  refine hZ _ _ _ _ ?_
  show Z 13 _ _ _
  have bad : ¬ ((rdT S.1 200 0 ρ0).1 = none ∧ 1 ≤ (rdT S.1 200 0 ρ0).2.1.length ∧ 1 ≤ (rdT S.1 200 0 ρ0).2.2.1) → Z 36 [some (vR (aS 0))] [] M1 := by
    intro hb
    refine hZ _ _ _ _ ?_
    show Z 38 _ _ _
    refine hZ _ _ _ _ ?_
    have := h M1 k1
    rw [sp_lay, if_neg hb] at this
    exact this k2
  cases e : (rdT S.1 200 0 ρ0).1 with
  | some p =>
    refine hZ _ _ _ _ (p_tn (by rw [show fltV (some p) = nI p from rfl]; intro q; exact absurd (show nI p < 0 by rw [q]; decide) (nI_pos (by have := rdT_lt e; have := hS.1.1; omega))) ?_)
    exact bad (fun q => by rw [e] at q; cases q.1)
  | none =>
    obtain ⟨r1, r2⟩ := g3 e
    have l1 := r2.1
    have l2 := r2.2.1
    refine hZ _ _ _ _ (p_fn (rfl) ?_)
    refine hZ _ _ _ _ (hZ _ _ _ _ (hZ _ _ _ _ ?_))
    show Z 23 _ _ _
    rw [r1.1]
    by_cases z1 : (rdT S.1 200 0 ρ0).2.1.length = 0
    · refine hZ _ _ _ _ (br_t (by rw [z1]; rfl) ?_)
      exact bad (fun q => by omega)
    · skip
      refine hZ _ _ _ _ (br_f (nI_ne0 (by omega) (by omega)) ?_)
      refine hZ _ _ _ _ (hZ _ _ _ _ (hZ _ _ _ _ ?_))
      show Z 33 _ _ _
      rw [r1.2.1]
      by_cases z2 : (rdT S.1 200 0 ρ0).2.2.1 = 0
      · refine hZ _ _ _ _ (p_fn (by rw [z2]; rfl) ?_)
        exact bad (fun q => by omega)
      · skip
        refine hZ _ _ _ _ (p_tn (nI_ne0 (by omega) (by omega)) ?_)
        refine hZ _ _ _ _ (hZ _ _ _ _ (hZ _ _ _ _ (hZ _ _ _ _ ?_)))
        show Z 47 _ _ _
        refine hZ _ _ _ _ ⟨d - 1, by omega, m_roomCopy hC (by omega) (by decide) r1 r2 (fun M2 j1 j2 => ?_)⟩
        refine hZ _ _ _ _ (hZ _ _ _ _ ?_)
        show Z 54 _ _ _
        refine hZ _ _ _ _ ⟨d - 1, by omega, m_sightsClear hC (fun M3 j3 j4 => ?_)⟩
        refine hZ _ _ _ _ (hZ _ _ _ _ ?_)
        show Z 61 _ _ _
        refine hZ _ _ _ _ ⟨d - 1, by omega, m_shClearP hC (fun M4 j5 j6 => ?_)⟩
        refine hZ _ _ _ _ (hZ _ _ _ _ ?_)
        show Z 68 _ _ _
        refine hZ _ _ _ _ ⟨d - 1, by omega, m_shClearK hC (fun M5 j7 j8 => ?_)⟩
        refine hZ _ _ _ _ (hZ _ _ _ _ (hZ _ _ _ _ ?_))
        show Z 78 _ _ _
        refine hZ _ _ _ _ ?_
        have F2 := j1.q 99
        have F3 := j3.q 99
        have F4 := j5.q 99
        have F5 := j7.q 99
        obtain ⟨a1, a2, a3, a4, a5, a6⟩ := k2
        have p3 := shR_q F3 rfl (by decide) (fun j c _ _ => rfl) (shR_q F2 rfl (by decide) (fun j c h1 _ => r_lo0 c h1) a4)
        have q4 := shR_q F4 rfl (by decide) (fun j c _ _ => rfl) (shR_q F3 rfl (by decide) (fun j c _ _ => rfl) (shR_q F2 rfl (by decide) (fun j c h1 _ => r_lo0 c (by omega)) a5))
        have c5 := cR_q F5 (fun c => rfl) (cR_q F4 (fun c => rfl) (cR_q F3 (fun c => rfl) j2))
        have := h M5 (k1.tr ((F2.cl cl_room).tr ((F3.cl cl_si).tr ((F4.cl (cl_cell (by omega))).tr (F5.cl (cl_cell (by omega)))))))
        rw [sp_lay, if_pos ⟨e, by omega, by omega⟩] at this
        rw [c5.1]
        exact this ⟨tR_q F5 rfl rfl (tR_q F4 rfl rfl (tR_q F3 rfl rfl (tR_q F2 rfl rfl a1))), c5, sR_q F5 rfl rfl rfl (sR_q F4 rfl rfl rfl j4), shR_q F5 rfl (by decide) (fun j c _ _ => rfl) (j6 _ p3), j8 _ q4, stg_q F5 (by decide) (stg_q F4 (by decide) (stg_q F3 (by decide) (stg_q F2 (by decide) a6)))⟩
theorem c_teller {b : Bool} {C : pC} (hC : p_Lg b C) {d : Nat} {M : pM} {Q : pQ} {S : pS} {t x : Int32} (hd : 1 ≤ d) (hS : cS M S) (ok : okS S) (h : Q M (some (vI (sp_teller S t x).2))) : C d k_X7_teller M [vR (aS 0), vI t, vI x] Q := by
  obtain ⟨a1, a2, a3, a4, a5, a6⟩ := hS
  have l1 := ok.1.1
  refine p_ent hC tb_X7_teller _ rfl rfl rfl (fun Z hZ => ?_)
  refine hZ _ _ _ _ (hZ _ _ _ _ (hZ _ _ _ _ ?_))
  show Z 5 _ _ _
  refine hZ _ _ _ _ ⟨d - 1, by omega, m_isTeller hC a2 ok.1 (fun k b1 b2 b3 => ?_) (fun b1 => ?_)⟩
  · skip
    have hy : S.2.1.1[k]? = some S.2.1.1[k] := List.getElem?_eq_getElem b2
    obtain ⟨y1, y2⟩ := a2.2.2.2.2.1 k _ hy
    simp only [sp_teller, b1, hy] at h
    refine hZ _ _ _ _ (p_tn (by decide) ?_)
    refine hZ _ _ _ _ ?_
    show Z 14 _ _ _
    refine hZ _ _ _ _ ?_
    refine ⟨fun s1 => ?_, fun s1 => ⟨fun s2 => ?_, fun s2 => ?_⟩⟩
    · skip
      refine hZ _ _ _ _ (hZ _ _ _ _ (hZ _ _ _ _ (hZ _ _ _ _ ?_)))
      show Z 48 _ _ _
      refine hZ _ _ _ _ ⟨d - 1, by omega, m_at hC k b3 (show k < 5 by omega) rfl ?_⟩
      refine hZ _ _ _ _ ?_
      rw [y1]
      rw [if_pos s1] at h
      exact h
    · skip
      refine hZ _ _ _ _ (hZ _ _ _ _ (hZ _ _ _ _ (hZ _ _ _ _ ?_)))
      show Z 60 _ _ _
      refine hZ _ _ _ _ ⟨d - 1, by omega, m_at hC k b3 (show k < 5 by omega) rfl ?_⟩
      refine hZ _ _ _ _ ?_
      rw [y2]
      rw [if_neg s1, if_pos s2] at h
      exact h
    · skip
      refine hZ _ _ _ _ ?_
      show Z 65 _ _ _
      refine hZ _ _ _ _ ?_
      rw [if_neg s1, if_neg s2] at h
      exact h
  · skip
    refine hZ _ _ _ _ (p_fn (rfl) ?_)
    refine hZ _ _ _ _ ?_
    show Z 12 _ _ _
    refine hZ _ _ _ _ ?_
    simp only [sp_teller, b1] at h
    exact h
theorem c_fact {b : Bool} {C : pC} (hC : p_Lg b C) {d : Nat} {M : pM} {Q : pQ} {S : pS} {f : Int32} (hd : 1 ≤ d) (hS : cS M S) (ok : okS S) (h : Q M (some (vI (sp_fact S f).2))) : C d k_X7_fact M [vR (aS 0), vI f] Q := by
  obtain ⟨a1, a2, a3, a4, a5, a6⟩ := hS
  refine p_ent hC tb_X7_fact _ rfl rfl rfl (fun Z hZ => ?_)
  refine hZ _ _ _ _ (hZ _ _ _ _ (hZ _ _ _ _ ?_))
  show Z 5 _ _ _
  refine hZ _ _ _ _ ⟨d - 1, by omega, m_isFact hC a2 ok.1 (fun k b1 b2 b3 => ?_) (fun b1 => ?_)⟩
  · skip
    refine hZ _ _ _ _ (br_f (by decide) ?_)
    refine hZ _ _ _ _ (hZ _ _ _ _ (hZ _ _ _ _ (hZ _ _ _ _ ?_)))
    show Z 19 _ _ _
    refine hZ _ _ _ _ ⟨d - 1, by omega, m_bit hC ?_⟩
    refine hZ _ _ _ _ ?_
    show Z 26 _ _ _
    refine hZ _ _ _ _ ?_
    rw [a2.2.2.2.1]
    simp only [sp_fact, b1] at h
    exact h
  · skip
    refine hZ _ _ _ _ (br_t (rfl) ?_)
    refine hZ _ _ _ _ ?_
    show Z 26 _ _ _
    refine hZ _ _ _ _ ?_
    simp only [sp_fact, b1] at h
    exact h
theorem c_claim {b : Bool} {C : pC} (hC : p_Lg b C) {d : Nat} {M : pM} {Q : pQ} {S : pS} {c x : Int32} (hd : 2 ≤ d) (hS : cS M S) (ok : okS S) (h : Q M (some (vI (sp_claim S c x).2))) : C d k_X7_claim M [vR (aS 0), vI c, vI x] Q := by
  obtain ⟨a1, a2, a3, a4, a5, a6⟩ := hS
  have l3 := ok.1.2.2.1
  refine p_ent hC tb_X7_claim _ rfl rfl rfl (fun Z hZ => ?_)
  refine hZ _ _ _ _ (hZ _ _ _ _ (hZ _ _ _ _ ?_))
  show Z 5 _ _ _
  refine hZ _ _ _ _ ⟨d - 1, by omega, m_isClaim hC a2 ok.1 (fun k b1 b2 b3 => ?_) (fun b1 => ?_)⟩
  · skip
    have hy : S.2.1.2.2.2[k]? = some S.2.1.2.2.2[k] := List.getElem?_eq_getElem b2
    obtain ⟨y1, y2, y3, y4⟩ := a2.2.2.2.2.2 k _ hy
    simp only [sp_claim, b1, hy] at h
    refine hZ _ _ _ _ (p_tn (by decide) ?_)
    refine hZ _ _ _ _ ?_
    show Z 14 _ _ _
    refine hZ _ _ _ _ ?_
    refine ⟨fun s1 => ?_, fun s1 => ⟨fun s2 => ?_, fun s2 => ⟨fun s3 => ?_, fun s3 => ⟨fun s4 => ?_, fun s4 => ⟨fun s5 => ?_, fun s5 => ?_⟩⟩⟩⟩⟩
    · skip
      refine hZ _ _ _ _ (hZ _ _ _ _ (hZ _ _ _ _ (hZ _ _ _ _ ?_)))
      show Z 56 _ _ _
      refine hZ _ _ _ _ ⟨d - 1, by omega, m_at hC k b3 (show k < 7 by omega) rfl ?_⟩
      refine hZ _ _ _ _ ?_
      rw [y1]
      rw [if_pos s1] at h
      exact h
    · skip
      refine hZ _ _ _ _ (hZ _ _ _ _ (hZ _ _ _ _ (hZ _ _ _ _ ?_)))
      show Z 68 _ _ _
      refine hZ _ _ _ _ ⟨d - 1, by omega, m_at hC k b3 (show k < 7 by omega) rfl ?_⟩
      refine hZ _ _ _ _ ?_
      rw [y2]
      rw [if_neg s1, if_pos s2] at h
      exact h
    · skip
      refine hZ _ _ _ _ (hZ _ _ _ _ (hZ _ _ _ _ (hZ _ _ _ _ ?_)))
      show Z 80 _ _ _
      refine hZ _ _ _ _ ⟨d - 1, by omega, m_at hC k b3 (show k < 7 by omega) rfl ?_⟩
      refine hZ _ _ _ _ ?_
      rw [y3]
      rw [if_neg s1, if_neg s2, if_pos s3] at h
      exact h
    · skip
      refine hZ _ _ _ _ (hZ _ _ _ _ (hZ _ _ _ _ (hZ _ _ _ _ ?_)))
      show Z 92 _ _ _
      refine hZ _ _ _ _ ⟨d - 1, by omega, m_at hC k b3 (show k < 7 by omega) rfl ?_⟩
      refine hZ _ _ _ _ ?_
      rw [y4]
      rw [if_neg s1, if_neg s2, if_neg s3, if_pos s4] at h
      exact h
    · skip
      rw [if_neg s1, if_neg s2, if_neg s3, if_neg s4, if_pos s5] at h
      subst b3
      refine hZ _ _ _ _ (hZ _ _ _ _ (hZ _ _ _ _ ?_))
      show Z 101 _ _ _
      refine hZ _ _ _ _ ⟨d - 1, by omega, m_isFalse hC (by omega) a2 (show k < 7 by omega) hy ?_⟩
      cases e1 : fl S.2.1.2.2.1 S.2.1.2.2.2[k] with
      | false =>
        refine hZ _ _ _ _ (br_t (rfl) ?_)
        refine hZ _ _ _ _ ?_
        show Z 112 _ _ _
        refine hZ _ _ _ _ ?_
        rw [e1] at h
        exact h
      | true =>
        refine hZ _ _ _ _ (br_f (by decide) ?_)
        refine hZ _ _ _ _ (hZ _ _ _ _ ?_)
        show Z 112 _ _ _
        refine hZ _ _ _ _ ?_
        rw [e1] at h
        exact h
    · skip
      refine hZ _ _ _ _ ?_
      show Z 114 _ _ _
      refine hZ _ _ _ _ ?_
      rw [if_neg s1, if_neg s2, if_neg s3, if_neg s4, if_neg s5] at h
      exact h
  · skip
    refine hZ _ _ _ _ (p_fn (rfl) ?_)
    refine hZ _ _ _ _ ?_
    show Z 12 _ _ _
    refine hZ _ _ _ _ ?_
    simp only [sp_claim, b1] at h
    exact h
