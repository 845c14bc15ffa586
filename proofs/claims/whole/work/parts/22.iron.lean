/-! Room.isFalse, Iron: heating, cool, copyFrom, take; Evening: begin, hold -/
theorem m_isFalse {b : Bool} {C : pC} (hC : p_Lg b C) {d : Nat} {M : pM} {Q : pQ} {j : Fin 12} {ρ : pRm} {c : Nat} {x : pCl} (hd : 1 ≤ d) (hR : cR M j ρ) (hc : c < 7) (hx : ρ.2.2.2[c]? = some x) (h : Q M (some (vI (bi (fl ρ.2.2.1 x))))) : C d k_X2_isFalse M [vR (aR j 0), vI (nI c)] Q := by
  obtain ⟨-, -, -, h4, -, h6⟩ := hR
  obtain ⟨-, x2, x3, -⟩ := h6 c x hx
  refine p_ent hC tb_X2_isFalse _ rfl rfl rfl (fun Z hZ => ?_)
  refine hZ _ _ _ _ (hZ _ _ _ _ (hZ _ _ _ _ (hZ _ _ _ _ (hZ _ _ _ _ ?_))))
  show Z 9 _ _ _
  refine hZ _ _ _ _ ⟨d - 1, by omega, m_at hC c rfl hc rfl ?_⟩
  rw [x2, h4]
  refine hZ _ _ _ _ ⟨d - 1, by omega, m_bit hC ?_⟩
  refine hZ _ _ _ _ (hZ _ _ _ _ (hZ _ _ _ _ ?_))
  show Z 20 _ _ _
  refine hZ _ _ _ _ ⟨d - 1, by omega, m_at hC c rfl hc rfl ?_⟩
  rw [x3]
  refine hZ _ _ _ _ ⟨fun c1 => ?_, fun c1 => ?_⟩
  · skip
    refine hZ _ _ _ _ ?_
    show Z 31 _ _ _
    refine hZ _ _ _ _ ⟨Or.inl rfl, ?_⟩
    have e : bi (fl ρ.2.2.1 x) = 0 := by simp [bi, fl, bt1, c1]
    rw [e] at h
    exact h
  · skip
    refine hZ _ _ _ _ (hZ _ _ _ _ ?_)
    show Z 31 _ _ _
    refine hZ _ _ _ _ ⟨Or.inr rfl, ?_⟩
    have e : bi (fl ρ.2.2.1 x) = 1 := by simp [bi, fl, bt1, c1]
    rw [e] at h
    exact h
theorem m_heating {b : Bool} {C : pC} (hC : p_Lg b C) {d : Nat} {M : pM} {Q : pQ} {k w : Int32} {f : Bool} (h : Q M (some (vI (hg k f w)))) : C d k_X1_heating M [vI k, vI (bi f), vI w] Q := by
  have e2 : ¬ (2 : Int32) = 0 := by decide
  refine p_ent hC tb_X1_heating _ rfl rfl rfl (fun Z hZ => ?_)
  refine hZ _ _ _ _ ?_
  show Z 1 _ _ _
  have key : ∀ x : Int32, x = (if f then w else 1) → Z 10 [some (vI k), some (vI (bi f)), some (vI w), some (vI x)] [] M := by
    intro x ex
    refine hZ _ _ _ _ ?_
    show Z 11 _ _ _
    refine hZ _ _ _ _ ?_
    refine ⟨fun c1 => ?_, fun c1 => ⟨fun c2 => ?_, fun c2 => ⟨fun c3 => ?_, fun c3 => ?_⟩⟩⟩
    · skip
      refine hZ _ _ _ _ (hZ _ _ _ _ ?_)
      show Z 38 _ _ _
      refine hZ _ _ _ _ ⟨e2, ?_⟩
      refine hZ _ _ _ _ ?_
      have e : hg k f w = x / 2 := by rw [ex]; exact if_pos c1
      rw [e] at h
      exact h
    · skip
      refine hZ _ _ _ _ ?_
      show Z 41 _ _ _
      cases f
      · refine hZ _ _ _ _ (br_t (rfl) ?_)
        refine hZ _ _ _ _ ?_
        show Z 51 _ _ _
        refine hZ _ _ _ _ ?_
        have e : hg k false w = x := by rw [ex, c2]; rfl
        rw [e] at h
        exact h
      · skip
        refine hZ _ _ _ _ (br_f (by decide) ?_)
        refine hZ _ _ _ _ (hZ _ _ _ _ (hZ _ _ _ _ (hZ _ _ _ _ ?_)))
        show Z 51 _ _ _
        refine hZ _ _ _ _ ?_
        have e : hg k true w = 2 * x := by rw [ex, c2]; rfl
        rw [e] at h
        exact h
    · skip
      refine hZ _ _ _ _ (hZ _ _ _ _ (hZ _ _ _ _ ?_))
      show Z 55 _ _ _
      refine hZ _ _ _ _ ?_
      have e : hg k f w = x + 1 := by rw [ex, c3]; rfl
      rw [e] at h
      exact h
    · skip
      refine hZ _ _ _ _ ?_
      show Z 57 _ _ _
      refine hZ _ _ _ _ ?_
      have e : hg k f w = x := by rw [ex]; simp only [hg, if_neg c1, if_neg c2, if_neg c3]
      rw [e] at h
      exact h
  cases f
  · skip
    refine hZ _ _ _ _ (br_t (rfl) ?_)
    refine hZ _ _ _ _ (hZ _ _ _ _ ?_)
    show Z 10 _ _ _
    exact key 1 rfl
  · skip
    refine hZ _ _ _ _ (br_f (by decide) ?_)
    refine hZ _ _ _ _ (hZ _ _ _ _ (hZ _ _ _ _ ?_))
    show Z 10 _ _ _
    exact key w rfl
theorem m_cool {b : Bool} {C : pC} (hC : p_Lg b C) {d : Nat} {M : pM} {Q : pQ} {i : Fin 9} (h : ∀ M', p_fr (f_iron i) M M' → iV M' i = s0 → Q M' none) : C d k_X1_cool M [vR (aI i)] Q := by
  refine p_ent hC tb_X1_cool _ rfl rfl rfl (fun Z hZ => ?_)
  refine hZ _ _ _ _ (hZ _ _ _ _ (hZ _ _ _ _ (hZ _ _ _ _ (hZ _ _ _ _ (hZ _ _ _ _ (hZ _ _ _ _ (hZ _ _ _ _ (hZ _ _ _ _ (hZ _ _ _ _ (hZ _ _ _ _ (hZ _ _ _ _ ?_)))))))))))
  show Z 20 _ _ _
  refine hZ _ _ _ _ ?_
  refine h _ ?_ ?_
  · exact p_fr_wr (p_fr_wr (p_fr_wr (p_fr_wr p_fr_rf (f_iron_self i)) (f_iron_self i)) (f_iron_self i)) (f_iron_self i)
  · simp [iV, s0, p_wr_eq, upd]
theorem m_ironCopy {b : Bool} {C : pC} (hC : p_Lg b C) {d : Nat} {M : pM} {Q : pQ} {i k : Fin 9} (hne : k ≠ i) (h : ∀ M', p_fr (f_iron i) M M' → iV M' i = iV M k → Q M' none) : C d k_X1_copyFrom M [vR (aI i), vR (aI k)] Q := by
  have hn : aI k ≠ aI i := fun e => hne (Sum.inr.inj (Sum.inr.inj e))
  have e1 : ∀ (M : pM) (n : Nat) (x : Int32), (p_wr M (aI i) n x).1 (aI k) = M.1 (aI k) := fun M n x => p_row_ne hn
  refine p_ent hC tb_X1_copyFrom _ rfl rfl rfl (fun Z hZ => ?_)
  refine hZ _ _ _ _ (hZ _ _ _ _ (hZ _ _ _ _ (hZ _ _ _ _ (hZ _ _ _ _ (hZ _ _ _ _ (hZ _ _ _ _ (hZ _ _ _ _ (hZ _ _ _ _ (hZ _ _ _ _ (hZ _ _ _ _ (hZ _ _ _ _ (hZ _ _ _ _ (hZ _ _ _ _ (hZ _ _ _ _ (hZ _ _ _ _ ?_)))))))))))))))
  show Z 32 _ _ _
  refine hZ _ _ _ _ ?_
  refine h _ ?_ ?_
  · exact p_fr_wr (p_fr_wr (p_fr_wr (p_fr_wr p_fr_rf (f_iron_self i)) (f_iron_self i)) (f_iron_self i)) (f_iron_self i)
  · simp [iV, p_wr_eq, e1, upd]
theorem m_take {b : Bool} {C : pC} (hC : p_Lg b C) {d : Nat} {M : pM} {Q : pQ} {i : Fin 9} {j : Fin 12} {ρ : pRm} {c : Nat} (hd : 2 ≤ d) (hR : cR M j ρ) (ok : okR ρ) (hc : c < ρ.2.2.2.length) (h : ∀ M', p_fr (f_iron i) M M' → iV M' i = (tk ρ (iV M i) c).1 → Q M' (some (vI (tk ρ (iV M i) c).2))) : C d k_X1_take M [vR (aI i), vR (aR j 0), vI (nI c)] Q := by
  have hc7 : c < 7 := Nat.lt_of_lt_of_le hc ok.2.2.1
  obtain ⟨x, t, f, y, hx, xt, t5, tl5, xf, hf, f6, -, hy, htk⟩ := okR_cl ok hc
  rw [htk (iV M i)] at h
  have hR0 := hR
  obtain ⟨-, -, -, h4, h5, h6⟩ := hR
  obtain ⟨x1, x2, x3, x4⟩ := h6 c x hx
  obtain ⟨y1, y2⟩ := h5 t y hy
  rw [xt] at x1
  have e2 : ¬ (2 : Int32) = 0 := by decide
  refine p_ent hC tb_X1_take _ rfl rfl rfl (fun Z hZ => ?_)
  refine hZ _ _ _ _ (hZ _ _ _ _ (hZ _ _ _ _ ?_))
  show Z 5 _ _ _
  refine hZ _ _ _ _ ⟨d - 1, by omega, m_at hC c rfl hc7 rfl ?_⟩
  rw [x1]
  refine hZ _ _ _ _ (hZ _ _ _ _ (hZ _ _ _ _ (hZ _ _ _ _ ?_)))
  show Z 14 _ _ _
  refine hZ _ _ _ _ ⟨d - 1, by omega, m_bit hC ?_⟩
  refine hZ _ _ _ _ ?_
  show Z 18 _ _ _
  refine hZ _ _ _ _ ⟨fun c1 => ?_, fun c1 => ?_⟩
  · skip
    refine hZ _ _ _ _ (hZ _ _ _ _ (hZ _ _ _ _ ?_))
    show Z 29 _ _ _
    have key : ∀ M1 : pM, p_fr (f_iron i) M M1 → M1.1 (aI i) 0 = (if (iV M i).2.1 = x.1 then (iV M i).1 else (iV M i).1 / 2) → M1.1 (aI i) 2 = M.1 (aI i) 2 → M1.1 (aI i) 3 = M.1 (aI i) 3 → Z 42 [some (vR (aI i)), some (vR (aR j 0)), some (vI (nI c)), some (vI (nI t)), none] [] M1 := by
      intro M1 hM1 a0 a2 a3
      have r : ∀ n, M1.1 (aR j n) = M.1 (aR j n) := fun n => hM1.1 _ rfl
      have hR1 : cR M1 j ρ := cR_cg r hR0
      refine hZ _ _ _ _ (hZ _ _ _ _ (hZ _ _ _ _ (hZ _ _ _ _ (hZ _ _ _ _ (hZ _ _ _ _ ?_)))))
      show Z 52 _ _ _
      refine hZ _ _ _ _ ⟨d - 1, by omega, m_at hC t rfl t5 rfl ?_⟩
      rw [r, y1]
      refine hZ _ _ _ _ (hZ _ _ _ _ ?_)
      show Z 57 _ _ _
      refine hZ _ _ _ _ ⟨d - 1, by omega, m_isFalse hC (by omega) hR1 hc7 hx ?_⟩
      refine hZ _ _ _ _ (hZ _ _ _ _ (hZ _ _ _ _ ?_))
      show Z 65 _ _ _
      refine hZ _ _ _ _ ⟨d - 1, by omega, m_at hC c rfl hc7 rfl ?_⟩
      rw [r, x4]
      refine hZ _ _ _ _ ⟨d - 1, by omega, m_heating hC ?_⟩
      refine hZ _ _ _ _ (hZ _ _ _ _ (hZ _ _ _ _ (hZ _ _ _ _ (hZ _ _ _ _ (hZ _ _ _ _ (hZ _ _ _ _ (hZ _ _ _ _ (hZ _ _ _ _ (hZ _ _ _ _ (hZ _ _ _ _ (hZ _ _ _ _ (hZ _ _ _ _ (hZ _ _ _ _ (hZ _ _ _ _ (hZ _ _ _ _ (hZ _ _ _ _ (hZ _ _ _ _ (hZ _ _ _ _ (hZ _ _ _ _ ?_)))))))))))))))))))
      show Z 105 _ _ _
      refine hZ _ _ _ _ ⟨d - 1, by omega, m_at hC t rfl t5 rfl ?_⟩
      have e9 : (p_wr (p_wr (p_wr M1 (aI i) 0 (M1.1 (aI i) 0 + hg y.1 (fl ρ.2.2.1 x) x.2.2.2)) (aI i) 1 (nI t)) (aI i) 2 ((p_wr (p_wr M1 (aI i) 0 (M1.1 (aI i) 0 + hg y.1 (fl ρ.2.2.1 x) x.2.2.2)) (aI i) 1 (nI t)).1 (aI i) 2 ||| ((1 : Int32) <<< (nI c &&& 31)))).1 (aR j 2) t = y.2 := by
        show M1.1 (aR j 2) t = y.2
        rw [r, y2]
      rw [e9]
      have hfr : p_fr (f_iron i) M (p_wr (p_wr (p_wr M1 (aI i) 0 (M1.1 (aI i) 0 + hg y.1 (fl ρ.2.2.1 x) x.2.2.2)) (aI i) 1 (nI t)) (aI i) 2 ((p_wr (p_wr M1 (aI i) 0 (M1.1 (aI i) 0 + hg y.1 (fl ρ.2.2.1 x) x.2.2.2)) (aI i) 1 (nI t)).1 (aI i) 2 ||| ((1 : Int32) <<< (nI c &&& 31)))) := p_fr_wr (p_fr_wr (p_fr_wr hM1 (f_iron_self i)) (f_iron_self i)) (f_iron_self i)
      have hb : ¬ bt1 (iV M i).2.2.2 x.1 = 1 := by rw [xt]; exact c1
      refine hZ _ _ _ _ ⟨fun c2 => ?_, fun c2 => ?_⟩
      · skip
        refine hZ _ _ _ _ ?_
        show Z 130 _ _ _
        refine hZ _ _ _ _ ?_
        simp only [p_wr_eq, upd, a0] at c2 ⊢
        have e8 : ¬ y.2 < (if (iV M i).2.1 = x.1 then (iV M i).1 else (iV M i).1 / 2) + hg y.1 (fl ρ.2.2.1 x) x.2.2.2 := Int32.not_lt.mpr (by simpa using c2)
        have := h _ hfr
        rw [tk1, if_neg hb, if_neg e8] at this
        have := this (by
          simp only [iV, p_wr_eq, upd, a0, a2, a3, xt]
          rfl)
        simp only [p_wr_eq, upd, a0, a2, a3] at this ⊢
        exact this
      · skip
        refine hZ _ _ _ _ (hZ _ _ _ _ (hZ _ _ _ _ (hZ _ _ _ _ (hZ _ _ _ _ (hZ _ _ _ _ (hZ _ _ _ _ (hZ _ _ _ _ (hZ _ _ _ _ (hZ _ _ _ _ (hZ _ _ _ _ (hZ _ _ _ _ ?_)))))))))))
        show Z 130 _ _ _
        refine hZ _ _ _ _ ?_
        simp only [p_wr_eq, upd, a0] at c2 ⊢
        have e8 : y.2 < (if (iV M i).2.1 = x.1 then (iV M i).1 else (iV M i).1 / 2) + hg y.1 (fl ρ.2.2.1 x) x.2.2.2 := Int32.not_le.mp (by simpa using c2)
        have := h _ (p_fr_wr (k := 0) (x := 0) (p_fr_wr (k := 3) (x := M1.1 (aI i) 3 ||| ((1 : Int32) <<< (nI t &&& 31))) hfr (f_iron_self i)) (f_iron_self i))
        rw [tk1, if_neg hb, if_pos e8] at this
        have := this (by
          simp only [iV, p_wr_eq, upd, a0, a2, a3, xt]
          rfl)
        simp only [p_wr_eq, upd, a0, a2, a3] at this ⊢
        exact this
    refine hZ _ _ _ _ ⟨fun c2 => ?_, fun c2 => ?_⟩
    · skip
      exact key M p_fr_rf (by rw [xt]; exact (if_pos c2).symm) rfl rfl
    · skip
      refine hZ _ _ _ _ (hZ _ _ _ _ (hZ _ _ _ _ (hZ _ _ _ _ ?_)))
      show Z 38 _ _ _
      refine hZ _ _ _ _ ⟨e2, ?_⟩
      refine hZ _ _ _ _ ?_
      show Z 42 _ _ _
      exact key _ (p_fr_wr p_fr_rf (f_iron_self i)) (by rw [xt, p_wr_eq]; exact (if_neg c2).symm) (by rw [p_wr_eq]; rfl) (by rw [p_wr_eq]; rfl)
  · skip
    refine hZ _ _ _ _ ?_
    show Z 23 _ _ _
    refine hZ _ _ _ _ ?_
    have hb : bt1 (iV M i).2.2.2 x.1 = 1 := by rw [xt]; exact c1
    rw [tk1, if_pos hb] at h
    exact h M p_fr_rf rfl
theorem m_begin {b : Bool} {C : pC} (hC : p_Lg b C) {d : Nat} {M : pM} {Q : pQ} (hd : 1 ≤ d) (h : ∀ M', p_fr f_ev M M' → iV M' 0 = s0 → M'.1 (aS 4) 3 = 0 → (∀ t, t < 5 → M'.1 (aS 6) t = 7) → Q M' none) : C d k_X0_begin M [vR (aS 4)] Q := by
  refine p_ent hC tb_X0_begin _ rfl rfl rfl (fun Z hZ => ?_)
  refine hZ _ _ _ _ (hZ _ _ _ _ ?_)
  show Z 4 _ _ _
  refine hZ _ _ _ _ ⟨d - 1, by omega, m_cool hC (fun M1 hM1 e1 => ?_)⟩
  refine hZ _ _ _ _ (hZ _ _ _ _ (hZ _ _ _ _ (hZ _ _ _ _ (hZ _ _ _ _ ?_))))
  show Z 14 _ _ _
  have loop : ∀ (n i : Nat) (M2 : pM), i + n = 5 → p_fr f_ev M M2 → iV M2 0 = s0 → M2.1 (aS 4) 3 = 0 → (∀ t, t < i → M2.1 (aS 6) t = 7) → Z 14 [some (vR (aS 4)), some (vI (nI i))] [] M2 := by
    intro n
    induction n with
    | zero =>
      intro i M2 e1 f1 f2 f3 f4
      have : i = 5 := by omega
      subst this
      refine hZ _ _ _ _ (hZ _ _ _ _ ?_)
      show Z 16 _ _ _
      refine hZ _ _ _ _ (br_t (Int32.le_refl _) ?_)
      refine hZ _ _ _ _ ?_
      exact h M2 f1 f2 f3 f4
    | succ n ih =>
      intro i M2 e1 f1 f2 f3 f4
      refine hZ _ _ _ _ (hZ _ _ _ _ ?_)
      show Z 16 _ _ _
      refine hZ _ _ _ _ (br_f (nI_ge (a := i) (b := 5) (by omega) (by omega)) ?_)
      refine hZ _ _ _ _ (hZ _ _ _ _ (hZ _ _ _ _ (hZ _ _ _ _ ?_)))
      show Z 26 _ _ _
      refine hZ _ _ _ _ ⟨d - 1, by omega, m_put hC i rfl (show i < 5 by omega) rfl ?_⟩
      refine hZ _ _ _ _ (hZ _ _ _ _ ?_)
      show Z 14 _ _ _
      rw [show nI i + 1 = nI (i + 1) from nI_1 i]
      refine ih (i + 1) _ (by omega) (p_fr_wr f1 rfl) f2 f3 (fun t ht => ?_)
      rw [p_wr_eq]
      by_cases h1 : t = i
      · simp [upd, h1]
      · simp only [upd, if_neg h1]
        exact f4 t (by omega)
  exact loop 5 0 _ rfl (p_fr_wr (hM1.mono (fun a ha => by rcases a with s | ⟨r | k⟩ <;> first | rfl | exact ha)) rfl) e1 (by rw [p_wr_eq]; rfl) (fun t ht => absurd ht (Nat.not_lt_zero t))
/-- the evening's cells hold the evening of room ρ -/
def eR (M : pM) (n : Nat) (E : pE) : Prop := iV M 0 = E.1 ∧ M.1 (aS 4) 3 = E.2.1 ∧ (∀ c, c < n → M.1 (aS 5) c = E.2.2.1 c) ∧ ∀ t, t < 5 → M.1 (aS 6) t = E.2.2.2 t
theorem m_hold {b : Bool} {C : pC} (hC : p_Lg b C) {d : Nat} {M : pM} {Q : pQ} {j : Fin 12} {ρ : pRm} (hd : 3 ≤ d) (hR : cR M j ρ) (ok : okR ρ) (h : ∀ M', p_fr f_ev M M' → eR M' ρ.2.2.2.length (ev ρ) → Q M' none) : C d k_X0_hold M [vR (aS 4), vR (aR j 0)] Q := by
  have h7 := ok.2.2.1
  refine p_ent hC tb_X0_hold _ rfl rfl rfl (fun Z hZ => ?_)
  refine hZ _ _ _ _ ?_
  show Z 1 _ _ _
  refine hZ _ _ _ _ ⟨d - 1, by omega, m_begin hC (by omega) (fun M1 hM1 a1 a2 a3 => ?_)⟩
  refine hZ _ _ _ _ (hZ _ _ _ _ ?_)
  show Z 6 _ _ _
  have loop : ∀ (n i : Nat) (M2 : pM) (y z : Option pV), i + n = ρ.2.2.2.length → p_fr f_ev M M2 → eR M2 i (evL ρ (List.range i)) → Z 6 [some (vR (aS 4)), some (vR (aR j 0)), some (vI (nI i)), y, z] [] M2 := by
    intro n
    induction n with
    | zero =>
      intro i M2 y z e1 f1 f2
      have : i = ρ.2.2.2.length := by omega
      subst this
      refine hZ _ _ _ _ (hZ _ _ _ _ (hZ _ _ _ _ ?_))
      show Z 11 _ _ _
      refine hZ _ _ _ _ (br_t (by rw [f1.1 (aR j 0) rfl, hR.2.2.1]; exact Int32.le_refl _) ?_)
      refine hZ _ _ _ _ ?_
      exact h M2 f1 f2
    | succ n ih =>
      intro i M2 y z e1 f1 f2
      have hi : i < ρ.2.2.2.length := by omega
      have r : ∀ n, M2.1 (aR j n) = M.1 (aR j n) := fun n => f1.1 _ rfl
      have hR2 : cR M2 j ρ := cR_cg r hR
      obtain ⟨x, t, f, y', hx, xt, t5, -, -, -, -, -, hy, htk⟩ := okR_cl ok hi
      have htl : tl ρ i = t := by simp only [tl, hx, xt]; exact nI_clamp (by omega)
      refine hZ _ _ _ _ (hZ _ _ _ _ (hZ _ _ _ _ ?_))
      show Z 11 _ _ _
      refine hZ _ _ _ _ (br_f (by rw [r, hR.2.2.1]; exact nI_ge hi (by omega)) ?_)
      refine hZ _ _ _ _ (hZ _ _ _ _ (hZ _ _ _ _ (hZ _ _ _ _ (hZ _ _ _ _ (hZ _ _ _ _ (hZ _ _ _ _ (hZ _ _ _ _ ?_)))))))
      show Z 28 _ _ _
      refine hZ _ _ _ _ ⟨d - 1, by omega, m_take hC (by omega) hR2 ok hi (fun M3 f3 f4 => ?_)⟩
      refine hZ _ _ _ _ (hZ _ _ _ _ (hZ _ _ _ _ (hZ _ _ _ _ (hZ _ _ _ _ ?_))))
      show Z 40 _ _ _
      refine hZ _ _ _ _ ⟨d - 1, by omega, m_put hC i rfl (show i < 7 by omega) rfl ?_⟩
      refine hZ _ _ _ _ (hZ _ _ _ _ (hZ _ _ _ _ (hZ _ _ _ _ ?_)))
      show Z 50 _ _ _
      refine hZ _ _ _ _ ⟨by omega, ?_⟩
      refine hZ _ _ _ _ (hZ _ _ _ _ (hZ _ _ _ _ (hZ _ _ _ _ (hZ _ _ _ _ ?_))))
      show Z 64 _ _ _
      obtain ⟨b1, b2, b3, b4⟩ := f2
      have g5 : M3.1 (aS 4) 3 = M2.1 (aS 4) 3 := by rw [f3.1 (aS 4) rfl]
      have g6 : M3.1 (aS 6) = M2.1 (aS 6) := f3.1 (aS 6) rfl
      have g7 : M3.1 (aS 5) = M2.1 (aS 5) := f3.1 (aS 5) rfl
      have fM3 : p_fr f_ev M M3 := f1.tr (f3.mono (fun a ha => by rcases a with s | ⟨r | k⟩ <;> first | rfl | exact ha))
      rw [b1] at f4
      have done : ∀ M4 : pM, p_fr f_ev M M4 → iV M4 0 = (ev1 ρ (evL ρ (List.range i)) i).1 → M4.1 (aS 4) 3 = (ev1 ρ (evL ρ (List.range i)) i).2.1 → (∀ c, c < i + 1 → M4.1 (aS 5) c = (ev1 ρ (evL ρ (List.range i)) i).2.2.1 c) → (∀ t, t < 5 → M4.1 (aS 6) t = (ev1 ρ (evL ρ (List.range i)) i).2.2.2 t) → ∀ y z, Z 83 [some (vR (aS 4)), some (vR (aR j 0)), some (vI (nI i)), y, z] [] M4 := by
        intro M4 g1 g2 g3 g4 g5 y z
        refine hZ _ _ _ _ (hZ _ _ _ _ ?_)
        show Z 6 _ _ _
        rw [show nI i + 1 = nI (i + 1) from nI_1 i]
        exact ih (i + 1) M4 y z (by omega) g1 (by rw [evL_succ]; exact ⟨g2, g3, g4, g5⟩)
      have k1 : M3.1 (aI 0) 3 = (tk ρ (evL ρ (List.range i)).1 i).1.2.2.2 := congrArg (fun q : pI => q.2.2.2) f4
      have k2 : M2.1 (aI 0) 3 = (evL ρ (List.range i)).1.2.2.2 := congrArg (fun q : pI => q.2.2.2) b1
      have hot5 : ∀ c, c < i + 1 → (upd (M3.1 (aS 5)) i (tk ρ (evL ρ (List.range i)).1 i).2) c = (ev1 ρ (evL ρ (List.range i)) i).2.2.1 c := by
        intro c hc
        by_cases e : c = i
        · simp [ev1, upd, e]
        · simp only [ev1, upd, if_neg e]
          rw [g7]
          exact b3 c (by omega)
      have most5 : p_max (M3.1 (aS 4) 3) (tk ρ (evL ρ (List.range i)).1 i).2 = (ev1 ρ (evL ρ (List.range i)) i).2.1 := by
        rw [g5, b2]
        rfl
      rw [b1]
      refine hZ _ _ _ _ ⟨fun c1 => ?_, fun c1 => ?_⟩
      · skip
        have c1 : M3.1 (aI 0) 3 = M2.1 (aI 0) 3 := c1
        rw [k1, k2] at c1
        refine done _ ?_ ?_ ?_ ?_ ?_ _ _
        · exact p_fr_wr (p_fr_wr fM3 rfl) rfl
        · exact f4
        · exact most5
        · exact hot5
        · intro t ht
          show M3.1 (aS 6) t = _
          rw [g6, b4 t ht]
          simp only [ev1, if_pos c1]
      · skip
        have c1 : ¬ M3.1 (aI 0) 3 = M2.1 (aI 0) 3 := c1
        rw [k1, k2] at c1
        refine hZ _ _ _ _ (hZ _ _ _ _ (hZ _ _ _ _ (hZ _ _ _ _ (hZ _ _ _ _ ?_))))
        show Z 76 _ _ _
        refine hZ _ _ _ _ ⟨d - 1, by omega, m_at hC i rfl (show i < 7 by omega) rfl ?_⟩
        refine hZ _ _ _ _ ?_
        show Z 80 _ _ _
        refine hZ _ _ _ _ ⟨d - 1, by omega, m_put hC t ?_ (show t < 5 by omega) rfl ?_⟩
        · show M3.1 (aR j 3) i = nI t
          rw [f3.1 (aR j 3) rfl, r, (hR.2.2.2.2.2 i x hx).1, xt]
        · refine done _ ?_ ?_ ?_ ?_ ?_ _ _
          · exact p_fr_wr (p_fr_wr (p_fr_wr fM3 rfl) rfl) rfl
          · exact f4
          · exact most5
          · exact hot5
          · intro t' ht'
            rw [p_wr_eq]
            simp only [ev1, if_neg c1, htl]
            by_cases e : t' = t
            · simp [upd, e]
            · simp only [upd, if_neg e]
              show M3.1 (aS 6) t' = _
              rw [g6, b4 t' ht']
  exact loop ρ.2.2.2.length 0 _ none none (Nat.zero_add _) hM1 ⟨a1, a2, fun c hc => absurd hc (Nat.not_lt_zero c), fun t ht => a3 t ht⟩
