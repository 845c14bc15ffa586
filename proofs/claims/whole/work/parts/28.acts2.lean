/-! the class's calls: acts, undone, kept, seen -/
theorem cS_act {M M1 M2 : pM} {S : pS} {ρ' : pRm} (hS : cS M S) (F : p_fq (f_sh 14 2 8) 15 M M1) (hP : shR M1 14 15 8 2 (psh8 S.2.2.2.1 S.2.1)) (G : p_fr (f_room 0) M1 M2) (hR : cR M2 0 ρ') : p_cl M M2 ∧ cS M2 (act S ρ') := by
  obtain ⟨a1, a2, a3, a4, a5, a6⟩ := hS
  have G' := G.q 99
  refine ⟨(F.cl (cl_sh (by omega))).tr (G'.cl cl_room), tR_q G' rfl rfl (tR_q F rfl rfl a1), hR, sR_q G' rfl rfl rfl (sR_q F rfl rfl rfl a3), shR_q G' rfl (by decide) (fun j c h1 _ => r_lo0 c h1) hP, shR_q G' rfl (by decide) (fun j c h1 _ => r_lo0 c (by omega)) (shR_q F rfl (by decide) (fun j c h1 _ => sh_a c h1) a5), stg_q G' (by decide) (stg_q F (by decide) a6)⟩
theorem cS_room {M M1 : pM} {S : pS} (hS : cS M S) (F : p_fq (f_sh 14 2 8) 15 M M1) : cR M1 0 S.2.1 := cR_q F (fun c => rfl) hS.2.1
theorem c_turn {b : Bool} {C : pC} (hC : p_Lg b C) {d : Nat} {M : pM} {Q : pQ} {S : pS} {f : Int32} (hd : 5 ≤ d) (hS : cS M S) (ok : okS S) (h : ∀ M', p_cl M M' → cS M' (sp_turn S f).1 → Q M' (some (vI (sp_turn S f).2))) : C d k_X7_turn M [vR (aS 0), vI f] Q := by
  refine p_ent hC tb_X7_turn _ rfl rfl rfl (fun Z hZ => ?_)
  refine hZ _ _ _ _ (hZ _ _ _ _ (hZ _ _ _ _ ?_))
  show Z 5 _ _ _
  refine hZ _ _ _ _ ⟨d - 1, by omega, m_isFact hC hS.2.1 ok.1 (fun k b1 b2 b3 => ?_) (fun b1 => ?_)⟩
  · skip
    refine hZ _ _ _ _ (p_tn (by decide) ?_)
    refine hZ _ _ _ _ (hZ _ _ _ _ (hZ _ _ _ _ (hZ _ _ _ _ ?_)))
    show Z 21 _ _ _
    refine hZ _ _ _ _ ⟨d - 1, by omega, m_pushP hC (by omega) hS.2.2.2.1 hS.2.1 ok.1 (fun M1 g1 g2 => ?_)⟩
    refine hZ _ _ _ _ (hZ _ _ _ _ (hZ _ _ _ _ ?_))
    show Z 29 _ _ _
    refine hZ _ _ _ _ ⟨d - 1, by omega, m_turnFact hC (cS_room hS g1) (fun M2 g3 g4 => ?_)⟩
    refine hZ _ _ _ _ (hZ _ _ _ _ (hZ _ _ _ _ (hZ _ _ _ _ ?_)))
    show Z 40 _ _ _
    refine hZ _ _ _ _ ⟨d - 1, by omega, m_bit hC ?_⟩
    refine hZ _ _ _ _ ?_
    obtain ⟨k1, k2⟩ := cS_act hS g1 g2 g3 g4
    have := h M2 k1
    simp only [sp_turn, b1] at this
    rw [g4.2.2.2.1]
    exact this k2
  · skip
    refine hZ _ _ _ _ (p_fn (rfl) ?_)
    refine hZ _ _ _ _ ?_
    show Z 12 _ _ _
    refine hZ _ _ _ _ ?_
    have := h M p_cl_rf
    simp only [sp_turn, b1] at this
    exact this hS
theorem c_add {b : Bool} {C : pC} (hC : p_Lg b C) {d : Nat} {M : pM} {Q : pQ} {S : pS} {t f v w : Int32} (hd : 5 ≤ d) (hS : cS M S) (ok : okS S) (h : ∀ M', p_cl M M' → cS M' (sp_add S t f v w).1 → Q M' (some (vI (sp_add S t f v w).2))) : C d k_X7_add M [vR (aS 0), vI t, vI f, vI v, vI w] Q := by
  have l3 := ok.1.2.2.1
  refine p_ent hC tb_X7_add _ rfl rfl rfl (fun Z hZ => ?_)
  refine hZ _ _ _ _ (hZ _ _ _ _ (hZ _ _ _ _ (hZ _ _ _ _ (hZ _ _ _ _ (hZ _ _ _ _ ?_)))))
  show Z 9 _ _ _
  refine hZ _ _ _ _ ⟨d - 1, by omega, m_allows hC (by omega) hS.2.1 ok.1 (fun b1 t' f' b2 b3 b4 b5 b6 => ?_) (fun b1 => ?_)⟩
  · skip
    refine hZ _ _ _ _ (p_tn (by decide) ?_)
    refine hZ _ _ _ _ (hZ _ _ _ _ (hZ _ _ _ _ (hZ _ _ _ _ ?_)))
    show Z 26 _ _ _
    rw [hS.2.1.2.2.1]
    by_cases hlt : S.2.1.2.2.2.length < 7
    · refine hZ _ _ _ _ (br_t (nI_lt (b := 7) hlt (by omega)) ?_)
      refine hZ _ _ _ _ (hZ _ _ _ _ (hZ _ _ _ _ (hZ _ _ _ _ ?_)))
      show Z 40 _ _ _
      refine hZ _ _ _ _ ⟨d - 1, by omega, m_pushP hC (by omega) hS.2.2.2.1 hS.2.1 ok.1 (fun M1 g1 g2 => ?_)⟩
      refine hZ _ _ _ _ (hZ _ _ _ _ (hZ _ _ _ _ (hZ _ _ _ _ (hZ _ _ _ _ (hZ _ _ _ _ ?_)))))
      show Z 52 _ _ _
      refine hZ _ _ _ _ ⟨d - 1, by omega, m_addClaim hC (by omega) (cS_room hS g1) ok.1 (fun u1 u2 M2 u3 u4 u5 => ?_) (fun u1 => absurd ⟨hlt, b1⟩ u1)⟩
      refine hZ _ _ _ _ (hZ _ _ _ _ (hZ _ _ _ _ (hZ _ _ _ _ (hZ _ _ _ _ (hZ _ _ _ _ ?_)))))
      show Z 65 _ _ _
      refine hZ _ _ _ _ ?_
      obtain ⟨k1, k2⟩ := cS_act hS g1 g2 u3 u4
      have := h M2 k1
      simp only [sp_add, if_pos b1, if_pos hlt] at this
      rw [u4.2.2.1]
      have e : nI (S.2.1.2.2.2 ++ [(t, f, v, w)]).length - 1 = nI S.2.1.2.2.2.length := by
        rw [List.length_append]
        exact nI_pred _
      show Q M2 (some (vI (nI (S.2.1.2.2.2 ++ [(t, f, v, w)]).length - 1)))
      rw [e]
      exact this k2
    · skip
      refine hZ _ _ _ _ (br_f (nI_nlt (a := S.2.1.2.2.2.length) (b := 7) (by omega) (by omega)) ?_)
      refine hZ _ _ _ _ ?_
      show Z 31 _ _ _
      refine hZ _ _ _ _ ?_
      have := h M p_cl_rf
      simp only [sp_add, if_pos b1, if_neg hlt] at this
      exact this hS
  · skip
    refine hZ _ _ _ _ (p_fn (rfl) ?_)
    refine hZ _ _ _ _ ?_
    show Z 16 _ _ _
    refine hZ _ _ _ _ ?_
    have := h M p_cl_rf
    simp only [sp_add, b1] at this
    exact this hS
theorem c_strike {b : Bool} {C : pC} (hC : p_Lg b C) {d : Nat} {M : pM} {Q : pQ} {S : pS} {c : Int32} (hd : 5 ≤ d) (hS : cS M S) (ok : okS S) (h : ∀ M', p_cl M M' → cS M' (sp_strike S c).1 → Q M' (some (vI (sp_strike S c).2))) : C d k_X7_strike M [vR (aS 0), vI c] Q := by
  refine p_ent hC tb_X7_strike _ rfl rfl rfl (fun Z hZ => ?_)
  refine hZ _ _ _ _ (hZ _ _ _ _ (hZ _ _ _ _ ?_))
  show Z 5 _ _ _
  refine hZ _ _ _ _ ⟨d - 1, by omega, m_isClaim hC hS.2.1 ok.1 (fun k b1 b2 b3 => ?_) (fun b1 => ?_)⟩
  · skip
    refine hZ _ _ _ _ (p_tn (by decide) ?_)
    refine hZ _ _ _ _ (hZ _ _ _ _ (hZ _ _ _ _ (hZ _ _ _ _ ?_)))
    show Z 21 _ _ _
    refine hZ _ _ _ _ ⟨d - 1, by omega, m_pushP hC (by omega) hS.2.2.2.1 hS.2.1 ok.1 (fun M1 g1 g2 => ?_)⟩
    refine hZ _ _ _ _ (hZ _ _ _ _ (hZ _ _ _ _ ?_))
    show Z 29 _ _ _
    refine hZ _ _ _ _ ⟨d - 1, by omega, m_removeClaim hC k b3 (by omega) (cS_room hS g1) ok.1 b2 (fun M2 g3 g4 => ?_)⟩
    refine hZ _ _ _ _ (hZ _ _ _ _ (hZ _ _ _ _ ?_))
    show Z 39 _ _ _
    refine hZ _ _ _ _ ?_
    obtain ⟨k1, k2⟩ := cS_act hS g1 g2 g3 g4
    have := h M2 k1
    simp only [sp_strike, b1] at this
    rw [g4.2.2.1]
    show Q M2 (some (vI (nI (rmL _ k).length)))
    rw [rmL_len]
    exact this k2
  · skip
    refine hZ _ _ _ _ (p_fn (rfl) ?_)
    refine hZ _ _ _ _ ?_
    show Z 12 _ _ _
    refine hZ _ _ _ _ ?_
    have := h M p_cl_rf
    simp only [sp_strike, b1] at this
    exact this hS
theorem c_shift {b : Bool} {C : pC} (hC : p_Lg b C) {d : Nat} {M : pM} {Q : pQ} {S : pS} {c k : Int32} (hd : 5 ≤ d) (hS : cS M S) (ok : okS S) (h : ∀ M', p_cl M M' → cS M' (sp_shift S c k).1 → Q M' (some (vI (sp_shift S c k).2))) : C d k_X7_shift M [vR (aS 0), vI c, vI k] Q := by
  have l3 := ok.1.2.2.1
  refine p_ent hC tb_X7_shift _ rfl rfl rfl (fun Z hZ => ?_)
  refine hZ _ _ _ _ (hZ _ _ _ _ (hZ _ _ _ _ ?_))
  show Z 5 _ _ _
  refine hZ _ _ _ _ ⟨d - 1, by omega, m_isClaim hC hS.2.1 ok.1 (fun k1 b1 b2 b3 => ?_) (fun b1 => ?_)⟩
  · skip
    refine hZ _ _ _ _ (br_f (by decide) ?_)
    refine hZ _ _ _ _ (hZ _ _ _ _ (hZ _ _ _ _ ?_))
    show Z 16 _ _ _
    refine hZ _ _ _ _ ⟨d - 1, by omega, m_isClaim hC hS.2.1 ok.1 (fun k2 c1 c2 c3 => ?_) (fun c1 => ?_)⟩
    · skip
      refine hZ _ _ _ _ (p_tn (by decide) ?_)
      refine hZ _ _ _ _ (hZ _ _ _ _ ?_)
      show Z 26 _ _ _
      by_cases e : c = k
      · refine hZ _ _ _ _ (p_fn (e) ?_)
        refine hZ _ _ _ _ ?_
        show Z 31 _ _ _
        refine hZ _ _ _ _ ?_
        have := h M p_cl_rf
        simp only [sp_shift, b1, c1, if_pos e] at this
        exact this hS
      · skip
        refine hZ _ _ _ _ (p_tn (e) ?_)
        refine hZ _ _ _ _ (hZ _ _ _ _ (hZ _ _ _ _ (hZ _ _ _ _ ?_)))
        show Z 40 _ _ _
        refine hZ _ _ _ _ ⟨d - 1, by omega, m_pushP hC (by omega) hS.2.2.2.1 hS.2.1 ok.1 (fun M1 g1 g2 => ?_)⟩
        refine hZ _ _ _ _ (hZ _ _ _ _ (hZ _ _ _ _ (hZ _ _ _ _ ?_)))
        show Z 49 _ _ _
        refine hZ _ _ _ _ ⟨d - 1, by omega, m_moveClaim hC k1 k2 b3 c3 (by omega) (cS_room hS g1) ok.1 b2 c2 (fun M2 g3 g4 => ?_)⟩
        refine hZ _ _ _ _ (hZ _ _ _ _ (hZ _ _ _ _ (hZ _ _ _ _ (hZ _ _ _ _ ?_))))
        show Z 58 _ _ _
        refine hZ _ _ _ _ ?_
        obtain ⟨j1, j2⟩ := cS_act hS g1 g2 g3 g4
        have := h M2 j1
        simp only [sp_shift, b1, c1, if_neg e] at this
        exact this j2
    · skip
      refine hZ _ _ _ _ (p_fn (rfl) ?_)
      refine hZ _ _ _ _ ?_
      show Z 23 _ _ _
      refine hZ _ _ _ _ ?_
      have := h M p_cl_rf
      simp only [sp_shift, b1, c1] at this
      exact this hS
  · skip
    refine hZ _ _ _ _ (br_t (rfl) ?_)
    refine hZ _ _ _ _ ?_
    show Z 23 _ _ _
    refine hZ _ _ _ _ ?_
    have := h M p_cl_rf
    simp only [sp_shift, b1] at this
    exact this hS
theorem cR_grip {M : pM} {j : Fin 12} {ρ : pRm} {k : Nat} {g : Int32} (hR : cR M j ρ) (hk : k < ρ.1.length) : cR (p_wr M (aR j 2) k g) j (grR ρ k g) := by
  obtain ⟨a1, a2, a3, a4, a5, a6⟩ := hR
  refine ⟨by show M.1 (aR j 0) 6 = nI (ρ.1.set k _).length; rw [List.length_set]; exact a1, a2, a3, a4, fun i x hx => ?_, a6⟩
  have hx : (ρ.1.set k ((ρ.1.getD k (0, 0)).1, g))[i]? = some x := hx
  rw [List.getElem?_set] at hx
  by_cases e : k = i
  · subst e
    simp only [if_true, if_pos hk, Option.some.injEq] at hx
    subst hx
    have hy : ρ.1[k]? = some ρ.1[k] := List.getElem?_eq_getElem hk
    constructor
    · show M.1 (aR j 1) k = (ρ.1.getD k (0, 0)).1
      rw [List.getD_eq_getElem?_getD, hy]
      exact (a5 k _ hy).1
    · rw [p_wr_eq]
      simp [upd]
  · rw [if_neg e] at hx
    constructor
    · exact (a5 i x hx).1
    · rw [p_wr_eq]
      simp only [upd, if_neg (show ¬ i = k from fun q => e q.symm)]
      exact (a5 i x hx).2
theorem c_grip {b : Bool} {C : pC} (hC : p_Lg b C) {d : Nat} {M : pM} {Q : pQ} {S : pS} {t g : Int32} (hd : 5 ≤ d) (hS : cS M S) (ok : okS S) (h : ∀ M', p_cl M M' → cS M' (sp_grip S t g).1 → Q M' (some (vI (sp_grip S t g).2))) : C d k_X7_grip M [vR (aS 0), vI t, vI g] Q := by
  have l1 := ok.1.1
  refine p_ent hC tb_X7_grip _ rfl rfl rfl (fun Z hZ => ?_)
  refine hZ _ _ _ _ (hZ _ _ _ _ (hZ _ _ _ _ ?_))
  show Z 5 _ _ _
  refine hZ _ _ _ _ ⟨d - 1, by omega, m_isTeller hC hS.2.1 ok.1 (fun k b1 b2 b3 => ?_) (fun b1 => ?_)⟩
  · skip
    have hy : S.2.1.1[k]? = some S.2.1.1[k] := List.getElem?_eq_getElem b2
    obtain ⟨y1, y2⟩ := hS.2.1.2.2.2.2.1 k _ hy
    refine hZ _ _ _ _ (br_f (by decide) ?_)
    refine hZ _ _ _ _ (hZ _ _ _ _ (hZ _ _ _ _ ?_))
    show Z 15 _ _ _
    refine hZ _ _ _ _ ⟨d - 1, by omega, m_within hC (fun c1 c2 => ?_) (fun c1 => ?_)⟩
    · skip
      refine hZ _ _ _ _ (p_tn (by decide) ?_)
      refine hZ _ _ _ _ (hZ _ _ _ _ (hZ _ _ _ _ (hZ _ _ _ _ ?_)))
      show Z 31 _ _ _
      refine hZ _ _ _ _ ⟨d - 1, by omega, m_at hC k b3 (show k < 5 by omega) rfl ?_⟩
      rw [y2]
      refine hZ _ _ _ _ (hZ _ _ _ _ (hZ _ _ _ _ ?_))
      show Z 37 _ _ _
      by_cases e : S.2.1.1[k].2 = g
      · refine hZ _ _ _ _ (p_fn (e) ?_)
        refine hZ _ _ _ _ ?_
        show Z 42 _ _ _
        refine hZ _ _ _ _ ?_
        have := h M p_cl_rf
        simp only [sp_grip, b1, if_pos (And.intro c1 c2), hy, if_pos e] at this
        exact this hS
      · skip
        refine hZ _ _ _ _ (p_tn (e) ?_)
        refine hZ _ _ _ _ (hZ _ _ _ _ (hZ _ _ _ _ (hZ _ _ _ _ ?_)))
        show Z 51 _ _ _
        refine hZ _ _ _ _ ⟨d - 1, by omega, m_pushP hC (by omega) hS.2.2.2.1 hS.2.1 ok.1 (fun M1 g1 g2 => ?_)⟩
        refine hZ _ _ _ _ (hZ _ _ _ _ (hZ _ _ _ _ (hZ _ _ _ _ (hZ _ _ _ _ ?_))))
        show Z 63 _ _ _
        refine hZ _ _ _ _ ⟨d - 1, by omega, m_put hC k b3 (show k < 5 by omega) rfl ?_⟩
        refine hZ _ _ _ _ ?_
        show Z 67 _ _ _
        refine hZ _ _ _ _ ?_
        obtain ⟨j1, j2⟩ := cS_act hS g1 g2 (p_fr_wr p_fr_rf (f_room_self 0 2)) (cR_grip (g := g) (cS_room hS g1) b2)
        have := h _ j1
        simp only [sp_grip, b1, if_pos (And.intro c1 c2), hy, if_neg e] at this
        exact this j2
    · skip
      refine hZ _ _ _ _ (p_fn (rfl) ?_)
      refine hZ _ _ _ _ ?_
      show Z 22 _ _ _
      refine hZ _ _ _ _ ?_
      have := h M p_cl_rf
      simp only [sp_grip, b1, if_neg c1] at this
      exact this hS
  · skip
    refine hZ _ _ _ _ (br_t (rfl) ?_)
    refine hZ _ _ _ _ ?_
    show Z 22 _ _ _
    refine hZ _ _ _ _ ?_
    have := h M p_cl_rf
    simp only [sp_grip, b1] at this
    exact this hS
theorem cS_pop {M M' : pM} {S : pS} {so : Nat} {ρ : pRm} (hS : cS M S) (hso : so = 14 ∨ so = 16) (F : p_fr (fun a => f_room 0 a || f_cell (aS so) a) M M') : p_cl M M' ∧ tR M' S.1 ∧ sR M' S.2.2.1 ∧ (so = 16 → shR M' 14 15 8 2 S.2.2.2.1) ∧ (so = 14 → shR M' 16 17 2 10 S.2.2.2.2) ∧ stg M' := by
  have G := F.q 99
  obtain ⟨a1, a2, a3, a4, a5, a6⟩ := hS
  have rr : ∀ (j : Fin 12) (c : Nat), 2 ≤ j.val → (f_room 0 (aR j c) || f_cell (aS so) (aR j c)) = false := fun j c hj => by rw [r_lo0 c hj]; rfl
  rcases hso with rfl | rfl
  · exact ⟨G.cl (fun s hs => n18 hs (by omega)), tR_q G rfl rfl a1, sR_q G rfl rfl rfl a3, (fun e => by cases e), fun _ => shR_q G rfl (by decide) (fun j c h1 _ => rr j c (by omega)) a5, stg_q G (by decide) a6⟩
  · exact ⟨G.cl (fun s hs => n18 hs (by omega)), tR_q G rfl rfl a1, sR_q G rfl rfl rfl a3, fun _ => shR_q G rfl (by decide) (fun j c h1 _ => rr j c h1) a4, (fun e => by cases e), stg_q G (by decide) a6⟩
theorem c_undo {b : Bool} {C : pC} (hC : p_Lg b C) {d : Nat} {M : pM} {Q : pQ} {S : pS} (hd : 4 ≤ d) (hS : cS M S) (h : ∀ M', p_cl M M' → cS M' (sp_undo S).1 → Q M' (some (vI (sp_undo S).2))) : C d k_X7_undo M [vR (aS 0)] Q := by
  refine p_ent hC tb_X7_undo _ rfl rfl rfl (fun Z hZ => ?_)
  refine hZ _ _ _ _ (hZ _ _ _ _ (hZ _ _ _ _ (hZ _ _ _ _ ?_)))
  show Z 8 _ _ _
  refine hZ _ _ _ _ ⟨d - 1, by omega, m_popP hC (by omega) hS.2.2.2.1 (fun ρ L' e ok' M1 g1 g2 g3 => ?_) (fun e => ?_)⟩
  · skip
    refine hZ _ _ _ _ (br_f (by decide) ?_)
    refine hZ _ _ _ _ (hZ _ _ _ _ (hZ _ _ _ _ (hZ _ _ _ _ ?_)))
    show Z 26 _ _ _
    refine hZ _ _ _ _ ?_
    obtain ⟨k1, k2, k3, k4, k5, k6⟩ := cS_pop (ρ := ρ) hS (Or.inl rfl) g1
    have := h M1 k1
    simp only [sp_undo, e, List.reverse_append, List.reverse_singleton, List.singleton_append, List.reverse_reverse, List.length_reverse] at this
    rw [g3.2.1]
    exact this ⟨k2, g2, k3, g3, k5 rfl, k6⟩
  · skip
    refine hZ _ _ _ _ (br_t (rfl) ?_)
    refine hZ _ _ _ _ ?_
    show Z 26 _ _ _
    refine hZ _ _ _ _ ?_
    have := h M p_cl_rf
    simp only [sp_undo, e, List.reverse_nil] at this
    exact this hS
theorem c_keep {b : Bool} {C : pC} (hC : p_Lg b C) {d : Nat} {M : pM} {Q : pQ} {S : pS} (hd : 5 ≤ d) (hS : cS M S) (ok : okS S) (h : ∀ M', p_cl M M' → cS M' (sp_keep S).1 → Q M' (some (vI (sp_keep S).2))) : C d k_X7_keep M [vR (aS 0)] Q := by
  have l2 := hS.2.2.2.2.1.1
  refine p_ent hC tb_X7_keep _ rfl rfl rfl (fun Z hZ => ?_)
  refine hZ _ _ _ _ (hZ _ _ _ _ (hZ _ _ _ _ (hZ _ _ _ _ ?_)))
  show Z 8 _ _ _
  rw [hS.2.2.2.2.1.2.1]
  by_cases hlt : S.2.2.2.2.length < 2
  · refine hZ _ _ _ _ (br_t (nI_lt (b := 2) hlt (by omega)) ?_)
    refine hZ _ _ _ _ (hZ _ _ _ _ (hZ _ _ _ _ (hZ _ _ _ _ ?_)))
    show Z 22 _ _ _
    refine hZ _ _ _ _ ⟨d - 1, by omega, m_pushK hC (by omega) hlt hS.2.2.2.2.1 hS.2.1 ok.1 (fun M1 g1 g2 => ?_)⟩
    refine hZ _ _ _ _ (hZ _ _ _ _ (hZ _ _ _ _ ?_))
    show Z 32 _ _ _
    refine hZ _ _ _ _ ?_
    have F := g1.q 99
    obtain ⟨a1, a2, a3, a4, a5, a6⟩ := hS
    have := h M1 (F.cl (cl_sh (by omega)))
    simp only [sp_keep, if_pos hlt] at this
    rw [g2.2.1, List.length_append]
    exact this ⟨tR_q F rfl rfl a1, cR_q F (fun c => rfl) a2, sR_q F rfl rfl rfl a3, shR_q F rfl (by decide) (fun j c _ h2 => sh_b c h2) a4, g2, stg_q F (by decide) a6⟩
  · skip
    refine hZ _ _ _ _ (br_f (nI_nlt (a := S.2.2.2.2.length) (b := 2) (by omega) (by omega)) ?_)
    refine hZ _ _ _ _ ?_
    show Z 13 _ _ _
    refine hZ _ _ _ _ ?_
    have := h M p_cl_rf
    simp only [sp_keep, if_neg hlt] at this
    exact this hS
theorem c_back {b : Bool} {C : pC} (hC : p_Lg b C) {d : Nat} {M : pM} {Q : pQ} {S : pS} (hd : 4 ≤ d) (hS : cS M S) (h : ∀ M', p_cl M M' → cS M' (sp_back S).1 → Q M' (some (vI (sp_back S).2))) : C d k_X7_back M [vR (aS 0)] Q := by
  refine p_ent hC tb_X7_back _ rfl rfl rfl (fun Z hZ => ?_)
  refine hZ _ _ _ _ (hZ _ _ _ _ (hZ _ _ _ _ (hZ _ _ _ _ ?_)))
  show Z 8 _ _ _
  refine hZ _ _ _ _ ⟨d - 1, by omega, m_popK hC (by omega) hS.2.2.2.2.1 (fun ρ L' e ok' M1 g1 g2 g3 => ?_) (fun e => ?_)⟩
  · skip
    refine hZ _ _ _ _ (p_tn (by decide) ?_)
    refine hZ _ _ _ _ (hZ _ _ _ _ ?_)
    show Z 21 _ _ _
    obtain ⟨k1, k2, k3, k4, k5, k6⟩ := cS_pop (ρ := ρ) hS (Or.inr rfl) g1
    refine hZ _ _ _ _ ⟨d - 1, by omega, m_shClearP hC (fun M2 j1 j2 => ?_)⟩
    refine hZ _ _ _ _ (hZ _ _ _ _ (hZ _ _ _ _ ?_))
    show Z 31 _ _ _
    refine hZ _ _ _ _ ?_
    have F := j1.q 99
    have := h M2 (k1.tr (F.cl (cl_cell (by omega))))
    simp only [sp_back, e, List.reverse_append, List.reverse_singleton, List.singleton_append, List.reverse_reverse, List.length_reverse] at this
    have s5 := shR_q F rfl (by decide) (fun j c _ _ => rfl) g3
    rw [s5.2.1]
    exact this ⟨tR_q F rfl rfl k2, cR_q F (fun c => rfl) g2, sR_q F rfl rfl rfl k3, j2 _ (k4 rfl), s5, stg_q F (by decide) k6⟩
  · skip
    refine hZ _ _ _ _ (p_fn (rfl) ?_)
    refine hZ _ _ _ _ ?_
    show Z 16 _ _ _
    refine hZ _ _ _ _ ?_
    have := h M p_cl_rf
    simp only [sp_back, e, List.reverse_nil] at this
    exact this hS
theorem c_forget {b : Bool} {C : pC} (hC : p_Lg b C) {d : Nat} {M : pM} {Q : pQ} {S : pS} (hd : 1 ≤ d) (hS : cS M S) (h : ∀ M', p_cl M M' → cS M' (sp_forget S).1 → Q M' (some (vI (sp_forget S).2))) : C d k_X7_forget M [vR (aS 0)] Q := by
  obtain ⟨a1, a2, a3, a4, a5, a6⟩ := hS
  refine p_ent hC tb_X7_forget _ rfl rfl rfl (fun Z hZ => ?_)
  refine hZ _ _ _ _ (hZ _ _ _ _ (hZ _ _ _ _ (hZ _ _ _ _ (hZ _ _ _ _ (hZ _ _ _ _ ?_)))))
  show Z 12 _ _ _
  rw [a3.2.1]
  refine hZ _ _ _ _ ⟨d - 1, by omega, m_sightsClear hC (fun M1 g1 g2 => ?_)⟩
  refine hZ _ _ _ _ ?_
  show Z 16 _ _ _
  refine hZ _ _ _ _ ?_
  have F := g1.q 99
  exact h M1 (F.cl cl_si) ⟨tR_q F rfl rfl a1, cR_q F (fun c => rfl) a2, g2, shR_q F rfl (by decide) (fun j c _ _ => rfl) a4, shR_q F rfl (by decide) (fun j c _ _ => rfl) a5, stg_q F (by decide) a6⟩
theorem c_seen {b : Bool} {C : pC} (hC : p_Lg b C) {d : Nat} {M : pM} {Q : pQ} {S : pS} {t k : Int32} (hd : 2 ≤ d) (hS : cS M S) (ok : okS S) (h : ∀ M', p_cl M M' → cS M' (sp_seen S t k).1 → Q M' (some (vI (sp_seen S t k).2))) : C d k_X7_seen M [vR (aS 0), vI t, vI k] Q := by
  have l1 := ok.1.1
  refine p_ent hC tb_X7_seen _ rfl rfl rfl (fun Z hZ => ?_)
  refine hZ _ _ _ _ (hZ _ _ _ _ (hZ _ _ _ _ ?_))
  show Z 5 _ _ _
  refine hZ _ _ _ _ ⟨d - 1, by omega, m_isTeller hC hS.2.1 ok.1 (fun t' b1 b2 b3 => ?_) (fun b1 => ?_)⟩
  · skip
    refine hZ _ _ _ _ (br_f (by decide) ?_)
    refine hZ _ _ _ _ (hZ _ _ _ _ (hZ _ _ _ _ ?_))
    show Z 15 _ _ _
    refine hZ _ _ _ _ ⟨d - 1, by omega, m_within hC (fun c1 c2 => ?_) (fun c1 => ?_)⟩
    · skip
      refine hZ _ _ _ _ (p_tn (by decide) ?_)
      refine hZ _ _ _ _ (hZ _ _ _ _ (hZ _ _ _ _ (hZ _ _ _ _ ?_)))
      show Z 29 _ _ _
      refine hZ _ _ _ _ ⟨d - 1, by omega, m_note hC (by omega) hS.2.2.1 b3 (by omega) (fun e1 M1 g1 g2 => ?_) (fun e1 => ?_)⟩
      · skip
        refine hZ _ _ _ _ (br_f (by decide) ?_)
        refine hZ _ _ _ _ (hZ _ _ _ _ (hZ _ _ _ _ (hZ _ _ _ _ ?_)))
        show Z 47 _ _ _
        refine hZ _ _ _ _ ?_
        have F := g1.q 99
        obtain ⟨a1, a2, a3, a4, a5, a6⟩ := hS
        have := h M1 (F.cl cl_si)
        simp only [sp_seen, b1, if_pos (And.intro c1 c2), if_pos e1] at this
        rw [g2.2.1, List.length_append]
        exact this ⟨tR_q F rfl rfl a1, cR_q F (fun c => rfl) a2, g2, shR_q F rfl (by decide) (fun j c _ _ => rfl) a4, shR_q F rfl (by decide) (fun j c _ _ => rfl) a5, stg_q F (by decide) a6⟩
      · skip
        refine hZ _ _ _ _ (br_t (rfl) ?_)
        refine hZ _ _ _ _ ?_
        show Z 47 _ _ _
        refine hZ _ _ _ _ ?_
        have := h M p_cl_rf
        simp only [sp_seen, b1, if_pos (And.intro c1 c2), if_neg (show ¬ S.2.2.1.length < 6 by omega)] at this
        exact this hS
    · skip
      refine hZ _ _ _ _ (p_fn (rfl) ?_)
      refine hZ _ _ _ _ ?_
      show Z 22 _ _ _
      refine hZ _ _ _ _ ?_
      have := h M p_cl_rf
      simp only [sp_seen, b1, if_neg c1] at this
      exact this hS
  · skip
    refine hZ _ _ _ _ (br_t (rfl) ?_)
    refine hZ _ _ _ _ ?_
    show Z 22 _ _ _
    refine hZ _ _ _ _ ?_
    have := h M p_cl_rf
    simp only [sp_seen, b1] at this
    exact this hS
