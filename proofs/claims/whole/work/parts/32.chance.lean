/-! the class's calls: kinds, grips, likely, evenings -/
def kdR (ρ : pRm) (k : Nat) (x : Int32) : pRm := (ρ.1.set k (x, (ρ.1.getD k (0, 0)).2), ρ.2)
theorem cR_kind {M : pM} {j : Fin 12} {ρ : pRm} {k : Nat} {g : Int32} (hR : cR M j ρ) (hk : k < ρ.1.length) : cR (p_wr M (aR j 1) k g) j (kdR ρ k g) := by
  obtain ⟨a1, a2, a3, a4, a5, a6⟩ := hR
  refine ⟨by show M.1 (aR j 0) 6 = nI (ρ.1.set k _).length; rw [List.length_set]; exact a1, a2, a3, a4, fun i x hx => ?_, a6⟩
  have hx : (ρ.1.set k (g, (ρ.1.getD k (0, 0)).2))[i]? = some x := hx
  rw [List.getElem?_set] at hx
  by_cases e : k = i
  · subst e
    simp only [if_true, if_pos hk, Option.some.injEq] at hx
    subst hx
    have hy : ρ.1[k]? = some ρ.1[k] := List.getElem?_eq_getElem hk
    constructor
    · rw [p_wr_eq]
      simp [upd]
    · show M.1 (aR j 2) k = (ρ.1.getD k (0, 0)).2
      rw [List.getD_eq_getElem?_getD, hy]
      exact (a5 k _ hy).2
  · rw [if_neg e] at hx
    constructor
    · rw [p_wr_eq]
      simp only [upd, if_neg (show ¬ i = k from fun q => e q.symm)]
      exact (a5 i x hx).1
    · exact (a5 i x hx).2
theorem okR_tl {ρ : pRm} {l : List pTl} (ok : okR ρ) (h : l.length = ρ.1.length) : okR (l, ρ.2) := ⟨by show l.length ≤ 5; rw [h]; exact ok.1, ok.2.1, ok.2.2.1, fun x hx => by
  obtain ⟨t, f, e1, e2, e3⟩ := ok.2.2.2.1 x hx
  exact ⟨t, f, e1, by show t < l.length; rw [h]; exact e2, e3⟩, ok.2.2.2.2⟩
theorem getD_set {l : List pTl} {k : Nat} {x : pTl} (h : k < l.length) : (l.set k x).getD k (0, 0) = x := by
  rw [List.getD_eq_getElem?_getD, List.getElem?_set_self h]
  rfl
theorem kdR_kdR {ρ : pRm} {k : Nat} {x y : Int32} (h : k < ρ.1.length) : kdR (kdR ρ k x) k y = kdR ρ k y := by
  simp only [kdR, getD_set h, List.set_set]
theorem grR_grR {ρ : pRm} {k : Nat} {x y : Int32} (h : k < ρ.1.length) : grR (grR ρ k x) k y = grR ρ k y := by
  simp only [grR, getD_set h, List.set_set]
def kiN (ρ : pRm) (V : pSn) (k : Nat) : Nat → Int32
  | 0 => 0
  | i + 1 => if fit (kdR ρ k (nI i)) V = true then kiN ρ V k i ||| ((1 : Int32) <<< (nI i &&& 31)) else kiN ρ V k i
def sp_kinds (S : pS) (t : Int32) : pS × Int32 := (S, match ix t S.2.1.1.length with
  | none => -1
  | some k => kiN S.2.1 S.2.2.1 k 4)
theorem c_kinds {b : Bool} {C : pC} (hC : p_Lg b C) {d : Nat} {M : pM} {Q : pQ} {S : pS} {t : Int32} (hd : 6 ≤ d) (hS : cS M S) (ok : okS S) (h : ∀ M', p_cl M M' → cS M' S → Q M' (some (vI (sp_kinds S t).2))) : C d k_X7_kinds M [vR (aS 0), vI t] Q := by
  have l1 := ok.1.1
  refine p_ent hC tb_X7_kinds _ rfl rfl rfl (fun Z hZ => ?_)
  refine hZ _ _ _ _ (hZ _ _ _ _ (hZ _ _ _ _ ?_))
  show Z 5 _ _ _
  refine hZ _ _ _ _ ⟨d - 1, by omega, m_isTeller hC hS.2.1 ok.1 (fun k b1 b2 b3 => ?_) (fun b1 => ?_)⟩
  · skip
    refine hZ _ _ _ _ (p_tn (by decide) ?_)
    refine hZ _ _ _ _ (hZ _ _ _ _ (hZ _ _ _ _ (hZ _ _ _ _ ?_)))
    show Z 21 _ _ _
    refine hZ _ _ _ _ ⟨d - 1, by omega, m_roomCopy hC (by omega) (by decide) hS.2.1 ok.1 (fun M1 g1 g2 => ?_)⟩
    refine hZ _ _ _ _ (hZ _ _ _ _ (hZ _ _ _ _ (hZ _ _ _ _ ?_)))
    show Z 28 _ _ _
    have loop : ∀ (n i : Nat) (M2 : pM) (ρ' : pRm), i + n = 4 → p_fr f_sc M M2 → cR M2 1 ρ' → ρ'.1.length = S.2.1.1.length → (∀ x, kdR ρ' k x = kdR S.2.1 k x) → Z 28 [some (vR (aS 0)), some (vI t), some (vI (kiN S.2.1 S.2.2.1 k i)), some (vI (nI i))] [] M2 := by
      intro n
      induction n with
      | zero =>
        intro i M2 ρ' e1 f1 f2 f3 f4
        have : i = 4 := by omega
        subst this
        obtain ⟨j1, j2⟩ := cS_sc2 f1 hS
        refine hZ _ _ _ _ (hZ _ _ _ _ ?_)
        show Z 30 _ _ _
        refine hZ _ _ _ _ (br_t (by decide) ?_)
        refine hZ _ _ _ _ ?_
        show Z 69 _ _ _
        refine hZ _ _ _ _ ?_
        have := h M2 j1 j2
        simp only [sp_kinds, b1] at this
        exact this
      | succ n ih =>
        intro i M2 ρ' e1 f1 f2 f3 f4
        have step := fun M3 ρ' f3 => ih (i + 1) M3 ρ' (by omega) f3
        rw [← nI_1] at step
        have hk' : k < ρ'.1.length := by omega
        have R3 := cR_kind (g := nI i) f2 hk'
        have F3 : p_fr f_sc M (p_wr M2 (aR 1 1) k (nI i)) := p_fr_wr f1 rfl
        have hS3 := cS_sc F3 hS
        have l3 : (kdR ρ' k (nI i)).1.length = S.2.1.1.length := by show (ρ'.1.set k _).length = _; rw [List.length_set, f3]
        have hkd : ∀ x, kdR (kdR ρ' k (nI i)) k x = kdR S.2.1 k x := fun x => by rw [kdR_kdR hk', f4]
        rw [f4 (nI i)] at R3 l3 hkd
        refine hZ _ _ _ _ (hZ _ _ _ _ ?_)
        show Z 30 _ _ _
        refine hZ _ _ _ _ (br_f (nI_nlt (a := 3) (b := i) (by omega) (by omega)) ?_)
        refine hZ _ _ _ _ (hZ _ _ _ _ (hZ _ _ _ _ (hZ _ _ _ _ (hZ _ _ _ _ ?_))))
        show Z 42 _ _ _
        refine hZ _ _ _ _ ⟨d - 1, by omega, m_put hC k b3 (show k < 5 by omega) rfl ?_⟩
        refine hZ _ _ _ _ (hZ _ _ _ _ (hZ _ _ _ _ ?_))
        show Z 50 _ _ _
        refine hZ _ _ _ _ ⟨d - 1, by omega, m_fits hC (by omega) hS3.2.2.1 R3 (okR_tl ok.1 l3) (fun e M4 g4 => ?_) (fun e M4 g4 => ?_)⟩
        · skip
          refine hZ _ _ _ _ (br_f (by decide) ?_)
          refine hZ _ _ _ _ (hZ _ _ _ _ (hZ _ _ _ _ (hZ _ _ _ _ (hZ _ _ _ _ (hZ _ _ _ _ (hZ _ _ _ _ (hZ _ _ _ _ ?_)))))))
          show Z 28 _ _ _
          have e2 : kiN S.2.1 S.2.2.1 k (i + 1) = kiN S.2.1 S.2.2.1 k i ||| ((1 : Int32) <<< (nI i &&& 31)) := if_pos e
          rw [e2] at step
          exact step M4 _ (F3.tr (g4.mono sc_ev)) (cR_cg (fun c => g4.1 _ rfl) R3) l3 hkd
        · skip
          refine hZ _ _ _ _ (br_t (rfl) ?_)
          refine hZ _ _ _ _ (hZ _ _ _ _ ?_)
          show Z 28 _ _ _
          have e2 : kiN S.2.1 S.2.2.1 k (i + 1) = kiN S.2.1 S.2.2.1 k i := if_neg (by rw [e]; decide)
          rw [e2] at step
          exact step M4 _ (F3.tr (g4.mono sc_ev)) (cR_cg (fun c => g4.1 _ rfl) R3) l3 hkd
    exact loop 4 0 M1 S.2.1 rfl (sc_room1 g1) g2 rfl (fun _ => rfl)
  · skip
    refine hZ _ _ _ _ (p_fn (rfl) ?_)
    refine hZ _ _ _ _ ?_
    show Z 12 _ _ _
    refine hZ _ _ _ _ ?_
    have := h M p_cl_rf hS
    simp only [sp_kinds, b1] at this
    exact this
def gpN (ρ : pRm) (V : pSn) (k : Nat) : Nat → Int32 × Int32
  | 0 => (0, -4)
  | n + 1 => if fit (grR ρ k (nI (40 - n))) V = true then ((gpN ρ V k n).1 + 1, nI (40 - n)) else gpN ρ V k n
def sp_grips (S : pS) (t w : Int32) : pS × Int32 := (S, match ix t S.2.1.1.length with
  | none => -1
  | some k => if 0 ≤ w ∧ w ≤ 1 then (if w = 0 then (gpN S.2.1 S.2.2.1 k 40).1 else (gpN S.2.1 S.2.2.1 k 40).2) else -1)
theorem c_grips {b : Bool} {C : pC} (hC : p_Lg b C) {d : Nat} {M : pM} {Q : pQ} {S : pS} {t x : Int32} (hd : 6 ≤ d) (hS : cS M S) (ok : okS S) (h : ∀ M', p_cl M M' → cS M' S → Q M' (some (vI (sp_grips S t x).2))) : C d k_X7_grips M [vR (aS 0), vI t, vI x] Q := by
  have l1 := ok.1.1
  refine p_ent hC tb_X7_grips _ rfl rfl rfl (fun Z hZ => ?_)
  refine hZ _ _ _ _ (hZ _ _ _ _ (hZ _ _ _ _ ?_))
  show Z 5 _ _ _
  refine hZ _ _ _ _ ⟨d - 1, by omega, m_isTeller hC hS.2.1 ok.1 (fun k b1 b2 b3 => ?_) (fun b1 => ?_)⟩
  · skip
    refine hZ _ _ _ _ (br_f (by decide) ?_)
    refine hZ _ _ _ _ (hZ _ _ _ _ (hZ _ _ _ _ ?_))
    show Z 14 _ _ _
    refine hZ _ _ _ _ ⟨d - 1, by omega, m_within hC (fun c1 c2 => ?_) (fun c1 => ?_)⟩
    · skip
      refine hZ _ _ _ _ (p_tn (by decide) ?_)
      refine hZ _ _ _ _ (hZ _ _ _ _ (hZ _ _ _ _ (hZ _ _ _ _ ?_)))
      show Z 30 _ _ _
      refine hZ _ _ _ _ ⟨d - 1, by omega, m_roomCopy hC (by omega) (by decide) hS.2.1 ok.1 (fun M1 g1 g2 => ?_)⟩
      refine hZ _ _ _ _ (hZ _ _ _ _ (hZ _ _ _ _ (hZ _ _ _ _ (hZ _ _ _ _ (hZ _ _ _ _ ?_)))))
      show Z 43 _ _ _
      have loop : ∀ (n i : Nat) (M2 : pM) (ρ' : pRm), i + n = 40 → p_fr f_sc M M2 → cR M2 1 ρ' → ρ'.1.length = S.2.1.1.length → (∀ x, grR ρ' k x = grR S.2.1 k x) → Z 43 [some (vR (aS 0)), some (vI t), some (vI x), some (vI (gpN S.2.1 S.2.2.1 k i).1), some (vI (gpN S.2.1 S.2.2.1 k i).2), some (vI (nI (40 - i)))] [] M2 := by
        intro n
        induction n with
        | zero =>
          intro i M2 ρ' e1 f1 f2 f3 f4
          have : i = 40 := by omega
          subst this
          obtain ⟨j1, j2⟩ := cS_sc2 f1 hS
          have := h M2 j1 j2
          simp only [sp_grips, b1, if_pos (And.intro c1 c2)] at this
          refine hZ _ _ _ _ (hZ _ _ _ _ ?_)
          show Z 46 _ _ _
          refine hZ _ _ _ _ (br_t (by decide) ?_)
          refine hZ _ _ _ _ ?_
          show Z 87 _ _ _
          by_cases e : x = 0
          · refine hZ _ _ _ _ (p_fn (e) ?_)
            refine hZ _ _ _ _ (hZ _ _ _ _ ?_)
            show Z 96 _ _ _
            refine hZ _ _ _ _ ?_
            rw [if_pos e] at this
            exact this
          · skip
            refine hZ _ _ _ _ (p_tn (e) ?_)
            refine hZ _ _ _ _ ?_
            show Z 96 _ _ _
            refine hZ _ _ _ _ ?_
            rw [if_neg e] at this
            exact this
        | succ n ih =>
          intro i M2 ρ' e1 f1 f2 f3 f4
          have step := fun M3 ρ' f3 => ih (i + 1) M3 ρ' (by omega) f3
          rw [show nI (40 - (i + 1)) = nI (40 - i) + (-1) from by rw [show 40 - i = (40 - (i + 1)) + 1 by omega]; exact (pk_m1 _).symm] at step
          have hk' : k < ρ'.1.length := by omega
          have R3 := cR_grip (g := nI (40 - i)) f2 hk'
          have F3 : p_fr f_sc M (p_wr M2 (aR 1 2) k (nI (40 - i))) := p_fr_wr f1 rfl
          have hS3 := cS_sc F3 hS
          have l3 : (grR ρ' k (nI (40 - i))).1.length = S.2.1.1.length := by show (ρ'.1.set k _).length = _; rw [List.length_set, f3]
          have hkd : ∀ x, grR (grR ρ' k (nI (40 - i))) k x = grR S.2.1 k x := fun x => by rw [grR_grR hk', f4]
          rw [f4 (nI (40 - i))] at R3 l3 hkd
          refine hZ _ _ _ _ (hZ _ _ _ _ ?_)
          show Z 46 _ _ _
          refine hZ _ _ _ _ (br_f (nI_nlt (a := 40 - i) (b := 1) (by omega) (by omega)) ?_)
          refine hZ _ _ _ _ (hZ _ _ _ _ (hZ _ _ _ _ (hZ _ _ _ _ (hZ _ _ _ _ ?_))))
          show Z 59 _ _ _
          refine hZ _ _ _ _ ⟨d - 1, by omega, m_put hC k b3 (show k < 5 by omega) rfl ?_⟩
          refine hZ _ _ _ _ (hZ _ _ _ _ (hZ _ _ _ _ ?_))
          show Z 67 _ _ _
          refine hZ _ _ _ _ ⟨d - 1, by omega, m_fits hC (by omega) hS3.2.2.1 R3 (okR_tl ok.1 l3) (fun e M4 g4 => ?_) (fun e M4 g4 => ?_)⟩
          · skip
            refine hZ _ _ _ _ (br_f (by decide) ?_)
            refine hZ _ _ _ _ (hZ _ _ _ _ (hZ _ _ _ _ (hZ _ _ _ _ (hZ _ _ _ _ ?_))))
            show Z 43 _ _ _
            have e2 : gpN S.2.1 S.2.2.1 k (i + 1) = ((gpN S.2.1 S.2.2.1 k i).1 + 1, nI (40 - i)) := if_pos e
            rw [e2] at step
            exact step M4 _ (F3.tr (g4.mono sc_ev)) (cR_cg (fun c => g4.1 _ rfl) R3) l3 hkd
          · skip
            refine hZ _ _ _ _ (br_t (rfl) ?_)
            refine hZ _ _ _ _ (hZ _ _ _ _ ?_)
            show Z 43 _ _ _
            have e2 : gpN S.2.1 S.2.2.1 k (i + 1) = gpN S.2.1 S.2.2.1 k i := if_neg (by rw [e]; decide)
            rw [e2] at step
            exact step M4 _ (F3.tr (g4.mono sc_ev)) (cR_cg (fun c => g4.1 _ rfl) R3) l3 hkd
      exact loop 40 0 M1 S.2.1 rfl (sc_room1 g1) g2 rfl (fun _ => rfl)
    · skip
      refine hZ _ _ _ _ (p_fn (rfl) ?_)
      refine hZ _ _ _ _ ?_
      show Z 21 _ _ _
      refine hZ _ _ _ _ ?_
      have := h M p_cl_rf hS
      simp only [sp_grips, b1, if_neg c1] at this
      exact this
  · skip
    refine hZ _ _ _ _ (br_t (rfl) ?_)
    refine hZ _ _ _ _ ?_
    show Z 21 _ _ _
    refine hZ _ _ _ _ ?_
    have := h M p_cl_rf hS
    simp only [sp_grips, b1] at this
    exact this
/-- how likely a world is: the first n facts -/
def chN (w x : Int32) : Nat → Int32
  | 0 => 1
  | f + 1 => chN w x f * (if bt1 w (nI f) = 1 then x else 10 - x)
theorem m_chanceOf {b : Bool} {C : pC} (hC : p_Lg b C) {d : Nat} {M : pM} {Q : pQ} {S : pS} {w x : Int32} (hd : 1 ≤ d) (hS : cS M S) (ok : okS S) (h : Q M (some (vI (chN w x S.2.1.2.1)))) : C d k_X7_chanceOf M [vR (aS 0), vI w, vI x] Q := by
  have l2 := ok.1.2.1
  refine p_ent hC tb_X7_chanceOf _ rfl rfl rfl (fun Z hZ => ?_)
  refine hZ _ _ _ _ (hZ _ _ _ _ (hZ _ _ _ _ (hZ _ _ _ _ ?_)))
  show Z 5 _ _ _
  have loop : ∀ (n i : Nat), i + n = S.2.1.2.1 → Z 5 [some (vR (aS 0)), some (vI w), some (vI x), some (vI (chN w x i)), some (vI (nI i))] [] M := by
    intro n
    induction n with
    | zero =>
      intro i e1
      have : i = S.2.1.2.1 := by omega
      subst this
      refine hZ _ _ _ _ (hZ _ _ _ _ (hZ _ _ _ _ (hZ _ _ _ _ ?_)))
      show Z 14 _ _ _
      refine hZ _ _ _ _ (br_t (by rw [hS.2.1.2.1]; exact Int32.le_refl _) ?_)
      refine hZ _ _ _ _ ?_
      show Z 45 _ _ _
      refine hZ _ _ _ _ ?_
      exact h
    | succ n ih =>
      intro i e1
      have step := ih (i + 1) (by omega)
      rw [← nI_1] at step
      refine hZ _ _ _ _ (hZ _ _ _ _ (hZ _ _ _ _ (hZ _ _ _ _ ?_)))
      show Z 14 _ _ _
      refine hZ _ _ _ _ (br_f (by rw [hS.2.1.2.1]; exact nI_ge (by omega) (by omega)) ?_)
      refine hZ _ _ _ _ (hZ _ _ _ _ (hZ _ _ _ _ ?_))
      show Z 21 _ _ _
      refine hZ _ _ _ _ ⟨d - 1, by omega, m_bit hC ?_⟩
      refine hZ _ _ _ _ ?_
      show Z 25 _ _ _
      by_cases c1 : bt1 w (nI i) = 1
      · refine hZ _ _ _ _ (p_fn (c1) ?_)
        refine hZ _ _ _ _ (hZ _ _ _ _ (hZ _ _ _ _ (hZ _ _ _ _ (hZ _ _ _ _ (hZ _ _ _ _ ?_)))))
        show Z 5 _ _ _
        have e2 : chN w x (i + 1) = chN w x i * x := by simp only [chN]; rw [if_pos c1]
        rw [e2] at step
        exact step
      · skip
        refine hZ _ _ _ _ (p_tn (c1) ?_)
        refine hZ _ _ _ _ (hZ _ _ _ _ (hZ _ _ _ _ (hZ _ _ _ _ (hZ _ _ _ _ (hZ _ _ _ _ (hZ _ _ _ _ ?_))))))
        show Z 5 _ _ _
        have e2 : chN w x (i + 1) = chN w x i * (10 - x) := by simp only [chN]; rw [if_neg c1]
        rw [e2] at step
        exact step
  exact loop S.2.1.2.1 0 (Nat.zero_add _)
def gd : Nat → Int32 → Int32 → Int32
  | 0, a, _ => a
  | n + 1, a, e => if e = 0 then a else gd n e (a - a / e * e)
theorem m_gcd {b : Bool} {C : pC} (hC : p_Lg b C) {d : Nat} {M : pM} {Q : pQ} {x y : Int32} (h : Q M (some (vI (gd 100 x y)))) : C d k_X7_greatestDivisor M [vI x, vI y] Q := by
  refine p_ent hC tb_X7_greatestDivisor _ rfl rfl rfl (fun Z hZ => ?_)
  refine hZ _ _ _ _ (hZ _ _ _ _ ?_)
  show Z 2 _ _ _
  have loop : ∀ (n i : Nat) (a e : Int32) (z : Option pV), i + n = 100 → gd 100 x y = gd n a e → Z 2 [some (vI a), some (vI e), some (vI (nI i)), z] [] M := by
    intro n
    induction n with
    | zero =>
      intro i a e z e1 e2
      have : i = 100 := by omega
      subst this
      refine hZ _ _ _ _ (hZ _ _ _ _ ?_)
      show Z 5 _ _ _
      refine hZ _ _ _ _ (br_t (Int32.le_refl _) ?_)
      refine hZ _ _ _ _ ?_
      show Z 27 _ _ _
      refine hZ _ _ _ _ ?_
      rw [e2] at h
      exact h
    | succ n ih =>
      intro i a e z e1 e2
      refine hZ _ _ _ _ (hZ _ _ _ _ ?_)
      show Z 5 _ _ _
      refine hZ _ _ _ _ (br_f (nI_ge (a := i) (b := 100) (by omega) (by omega)) ?_)
      refine hZ _ _ _ _ ?_
      show Z 9 _ _ _
      by_cases c1 : e = 0
      · refine hZ _ _ _ _ (br_t (c1) ?_)
        refine hZ _ _ _ _ ?_
        show Z 27 _ _ _
        refine hZ _ _ _ _ ?_
        rw [e2] at h
        simp only [gd, if_pos c1] at h
        exact h
      · skip
        refine hZ _ _ _ _ (br_f (c1) ?_)
        refine hZ _ _ _ _ (hZ _ _ _ _ ?_)
        show Z 14 _ _ _
        refine hZ _ _ _ _ ⟨c1, ?_⟩
        refine hZ _ _ _ _ (hZ _ _ _ _ (hZ _ _ _ _ (hZ _ _ _ _ (hZ _ _ _ _ (hZ _ _ _ _ (hZ _ _ _ _ ?_))))))
        show Z 2 _ _ _
        rw [show nI i + 1 = nI (i + 1) from nI_1 i]
        exact ih (i + 1) _ _ _ (by omega) (by rw [e2]; simp only [gd, if_neg c1])
  exact loop 100 0 x y none rfl rfl
def lkN (ρ : pRm) (t x : Int32) : Nat → Int32 × Int32
  | 0 => (0, 0)
  | i + 1 => (if bt1 (ev (wR ρ i)).1.2.2.2 t = 1 then (lkN ρ t x i).1 + chN (nI i) x ρ.2.1 else (lkN ρ t x i).1, (lkN ρ t x i).2 + chN (nI i) x ρ.2.1)
def sp_likely (S : pS) (t x p : Int32) : pS × Int32 := (S, match ix t S.2.1.1.length with
  | none => -1
  | some _ => if (0 ≤ x ∧ x ≤ 10) ∧ (0 ≤ p ∧ p ≤ 1) then (if gd 100 (lkN S.2.1 t x (2 ^ S.2.1.2.1)).1 (lkN S.2.1 t x (2 ^ S.2.1.2.1)).2 = 0 then -1 else if p = 0 then (lkN S.2.1 t x (2 ^ S.2.1.2.1)).1 / gd 100 (lkN S.2.1 t x (2 ^ S.2.1.2.1)).1 (lkN S.2.1 t x (2 ^ S.2.1.2.1)).2 else (lkN S.2.1 t x (2 ^ S.2.1.2.1)).2 / gd 100 (lkN S.2.1 t x (2 ^ S.2.1.2.1)).1 (lkN S.2.1 t x (2 ^ S.2.1.2.1)).2) else -1)
theorem c_likely {b : Bool} {C : pC} (hC : p_Lg b C) {d : Nat} {M : pM} {Q : pQ} {S : pS} {t x p : Int32} (hd : 5 ≤ d) (hS : cS M S) (ok : okS S) (h : ∀ M', p_cl M M' → cS M' S → Q M' (some (vI (sp_likely S t x p).2))) : C d k_X7_likely M [vR (aS 0), vI t, vI x, vI p] Q := by
  have p6 := pw6 ok.1
  refine p_ent hC tb_X7_likely _ rfl rfl rfl (fun Z hZ => ?_)
  refine hZ _ _ _ _ (hZ _ _ _ _ (hZ _ _ _ _ ?_))
  show Z 5 _ _ _
  refine hZ _ _ _ _ ⟨d - 1, by omega, m_isTeller hC hS.2.1 ok.1 (fun k b1 b2 b3 => ?_) (fun b1 => ?_)⟩
  · skip
    refine hZ _ _ _ _ (br_f (by decide) ?_)
    refine hZ _ _ _ _ (hZ _ _ _ _ (hZ _ _ _ _ ?_))
    show Z 15 _ _ _
    refine hZ _ _ _ _ ⟨d - 1, by omega, m_within hC (fun c1 c2 => ?_) (fun c1 => ?_)⟩
    · skip
      refine hZ _ _ _ _ (br_f (by decide) ?_)
      refine hZ _ _ _ _ (hZ _ _ _ _ (hZ _ _ _ _ ?_))
      show Z 24 _ _ _
      refine hZ _ _ _ _ ⟨d - 1, by omega, m_within hC (fun c3 c4 => ?_) (fun c3 => ?_)⟩
      · skip
        refine hZ _ _ _ _ (p_tn (by decide) ?_)
        refine hZ _ _ _ _ (hZ _ _ _ _ (hZ _ _ _ _ (hZ _ _ _ _ (hZ _ _ _ _ (hZ _ _ _ _ (hZ _ _ _ _ (hZ _ _ _ _ ?_)))))))
        show Z 46 _ _ _
        refine hZ _ _ _ _ ⟨d - 1, by omega, m_roomCopy hC (by omega) (by decide) hS.2.1 ok.1 (fun M1 g1 g2 => ?_)⟩
        refine hZ _ _ _ _ (hZ _ _ _ _ ?_)
        show Z 52 _ _ _
        have loop : ∀ (n i : Nat) (M2 : pM) (τ : Int32) (y : Option pV), i + n = 2 ^ S.2.1.2.1 → p_fr f_sc M M2 → cR M2 1 (S.2.1.1, S.2.1.2.1, τ, S.2.1.2.2.2) → Z 52 [some (vR (aS 0)), some (vI t), some (vI x), some (vI p), some (vI (lkN S.2.1 t x i).1), some (vI (lkN S.2.1 t x i).2), some (vI (nI i)), y] [] M2 := by
          intro n
          induction n with
          | zero =>
            intro i M2 τ y e1 f1 f2
            have : i = 2 ^ S.2.1.2.1 := by omega
            subst this
            obtain ⟨j1, j2⟩ := cS_sc2 f1 hS
            have := h M2 j1 j2
            simp only [sp_likely, b1] at this
            rw [if_pos ⟨⟨c1, c2⟩, ⟨c3, c4⟩⟩] at this
            refine hZ _ _ _ _ (hZ _ _ _ _ (hZ _ _ _ _ ?_))
            show Z 58 _ _ _
            refine hZ _ _ _ _ ⟨d - 1, by omega, m_worldCount hC j2.2.1 ok.1 ?_⟩
            refine hZ _ _ _ _ (br_t (Int32.le_refl _) ?_)
            refine hZ _ _ _ _ (hZ _ _ _ _ ?_)
            show Z 135 _ _ _
            refine hZ _ _ _ _ ⟨d - 1, by omega, m_gcd hC ?_⟩
            refine hZ _ _ _ _ (hZ _ _ _ _ ?_)
            show Z 142 _ _ _
            by_cases e0 : gd 100 (lkN S.2.1 t x (2 ^ S.2.1.2.1)).1 (lkN S.2.1 t x (2 ^ S.2.1.2.1)).2 = 0
            · refine hZ _ _ _ _ (p_fn (e0) ?_)
              refine hZ _ _ _ _ ?_
              show Z 146 _ _ _
              refine hZ _ _ _ _ ?_
              rw [if_pos e0] at this
              exact this
            · skip
              rw [if_neg e0] at this
              refine hZ _ _ _ _ (p_tn (e0) ?_)
              refine hZ _ _ _ _ ?_
              show Z 148 _ _ _
              by_cases e1 : p = 0
              · refine hZ _ _ _ _ (p_fn (e1) ?_)
                refine hZ _ _ _ _ (hZ _ _ _ _ ?_)
                show Z 155 _ _ _
                refine hZ _ _ _ _ ⟨e0, ?_⟩
                refine hZ _ _ _ _ ?_
                show Z 164 _ _ _
                refine hZ _ _ _ _ ?_
                rw [if_pos e1] at this
                exact this
              · skip
                refine hZ _ _ _ _ (p_tn (e1) ?_)
                refine hZ _ _ _ _ (hZ _ _ _ _ ?_)
                show Z 163 _ _ _
                refine hZ _ _ _ _ ⟨e0, ?_⟩
                refine hZ _ _ _ _ ?_
                rw [if_neg e1] at this
                exact this
          | succ n ih =>
            intro i M2 τ y e1 f1 f2
            obtain ⟨j1, j2⟩ := cS_sc2 f1 hS
            have step := fun M3 τ y f3 => ih (i + 1) M3 τ y (by omega) f3
            rw [← nI_1] at step
            have R3' := cR_truth (x := nI i) f2
            have R3 : cR (p_wr M2 (aR 1 0) 9 (nI i)) 1 (wR S.2.1 i) := R3'
            have F3 : p_fr f_sc M (p_wr M2 (aR 1 0) 9 (nI i)) := p_fr_wr f1 rfl
            refine hZ _ _ _ _ (hZ _ _ _ _ (hZ _ _ _ _ ?_))
            show Z 58 _ _ _
            refine hZ _ _ _ _ ⟨d - 1, by omega, m_worldCount hC j2.2.1 ok.1 ?_⟩
            refine hZ _ _ _ _ (br_f (nI_ge (by omega) (by omega)) ?_)
            refine hZ _ _ _ _ (hZ _ _ _ _ (hZ _ _ _ _ ?_))
            show Z 68 _ _ _
            refine hZ _ _ _ _ ⟨d - 1, by omega, m_chanceOf hC (by omega) j2 ok ?_⟩
            refine hZ _ _ _ _ (hZ _ _ _ _ (hZ _ _ _ _ (hZ _ _ _ _ (hZ _ _ _ _ (hZ _ _ _ _ (hZ _ _ _ _ (hZ _ _ _ _ (hZ _ _ _ _ (hZ _ _ _ _ (hZ _ _ _ _ (hZ _ _ _ _ (hZ _ _ _ _ ?_))))))))))))
            show Z 97 _ _ _
            refine hZ _ _ _ _ ⟨d - 1, by omega, m_hold hC (by omega) R3 (okR_w ok.1 (by omega)) (fun M4 g4 g5 => ?_)⟩
            refine hZ _ _ _ _ (hZ _ _ _ _ (hZ _ _ _ _ (hZ _ _ _ _ (hZ _ _ _ _ ?_))))
            show Z 111 _ _ _
            rw [show M4.1 (aI 0) 3 = (ev (wR S.2.1 i)).1.2.2.2 from congrArg (fun q : pI => q.2.2.2) g5.1]
            refine hZ _ _ _ _ ⟨d - 1, by omega, m_bit hC ?_⟩
            refine hZ _ _ _ _ ?_
            show Z 115 _ _ _
            by_cases c5 : bt1 (ev (wR S.2.1 i)).1.2.2.2 t = 1
            · refine hZ _ _ _ _ (p_fn (c5) ?_)
              refine hZ _ _ _ _ (hZ _ _ _ _ (hZ _ _ _ _ (hZ _ _ _ _ (hZ _ _ _ _ (hZ _ _ _ _ ?_)))))
              show Z 52 _ _ _
              have e2 : lkN S.2.1 t x (i + 1) = ((lkN S.2.1 t x i).1 + chN (nI i) x S.2.1.2.1, (lkN S.2.1 t x i).2 + chN (nI i) x S.2.1.2.1) := by simp only [lkN]; rw [if_pos c5]
              rw [e2] at step
              exact step M4 _ _ (F3.tr (g4.mono sc_ev)) (cR_cg (fun c => g4.1 _ rfl) R3)
            · skip
              refine hZ _ _ _ _ (p_tn (c5) ?_)
              refine hZ _ _ _ _ (hZ _ _ _ _ ?_)
              show Z 52 _ _ _
              have e2 : lkN S.2.1 t x (i + 1) = ((lkN S.2.1 t x i).1, (lkN S.2.1 t x i).2 + chN (nI i) x S.2.1.2.1) := by simp only [lkN]; rw [if_neg c5]
              rw [e2] at step
              exact step M4 _ _ (F3.tr (g4.mono sc_ev)) (cR_cg (fun c => g4.1 _ rfl) R3)
        exact loop (2 ^ S.2.1.2.1) 0 M1 S.2.1.2.2.1 none (Nat.zero_add _) (sc_room1 g1) g2
      · skip
        refine hZ _ _ _ _ (p_fn (rfl) ?_)
        refine hZ _ _ _ _ ?_
        show Z 31 _ _ _
        refine hZ _ _ _ _ ?_
        have := h M p_cl_rf hS
        simp only [sp_likely, b1] at this
        rw [if_neg (fun q => c3 q.2)] at this
        exact this
    · skip
      refine hZ _ _ _ _ (br_t (rfl) ?_)
      refine hZ _ _ _ _ ?_
      show Z 31 _ _ _
      refine hZ _ _ _ _ ?_
      have := h M p_cl_rf hS
      simp only [sp_likely, b1] at this
      rw [if_neg (fun q => c1 q.1)] at this
      exact this
  · skip
    refine hZ _ _ _ _ (br_t (rfl) ?_)
    refine hZ _ _ _ _ ?_
    show Z 31 _ _ _
    refine hZ _ _ _ _ ?_
    have := h M p_cl_rf hS
    simp only [sp_likely, b1] at this
    exact this
