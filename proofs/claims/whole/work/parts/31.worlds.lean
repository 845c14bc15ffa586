/-! the class's calls: worlds, next, kinds, grips -/
def wR (ρ : pRm) (i : Nat) : pRm := (ρ.1, ρ.2.1, nI i, ρ.2.2.2)
theorem okR_w {ρ : pRm} {i : Nat} (ok : okR ρ) (hi : i < 2 ^ ρ.2.1) : okR (wR ρ i) := ⟨ok.1, ok.2.1, ok.2.2.1, ok.2.2.2.1, i, rfl, hi⟩
theorem pw6 {ρ : pRm} (ok : okR ρ) : 2 ^ ρ.2.1 ≤ 64 := Nat.pow_le_pow_right (n := 2) (by omega) ok.2.1
def ulS (x : Int64) (k : Int32) : Int64 := (x.toUInt64 >>> (k.toInt64.toUInt64 &&& Int64.toUInt64 63)).toInt64
def bl1 (x : Int64) : Int64 := x - (ulS x 1 &&& 6148914691236517205)
def bl2 (x : Int64) : Int64 := (x &&& 3689348814741910323) + (ulS x 2 &&& 3689348814741910323)
def bl3 (x : Int64) : Int64 := (x + ulS x 4) &&& 1085102592571150095
def bl4 (x : Int64) : Int64 := x + ulS x 8
def bl5 (x : Int64) : Int64 := x + ulS x 16
def bl6 (x : Int64) : Int64 := x + ulS x 32
def bcL (x : Int64) : Int32 := (bl6 (bl5 (bl4 (bl3 (bl2 (bl1 x)))))).toInt32 &&& 127
theorem m_bitCountL {b : Bool} {C : pC} (hC : p_Lg b C) {d : Nat} {M : pM} {Q : pQ} {x : Int64} (h : Q M (some (vI (bcL x)))) : C d k_J13_bitCount M [vL x] Q := by
  refine p_ent hC tb_J13_bitCount _ rfl rfl rfl (fun Z hZ => ?_)
  refine hZ _ _ _ _ (hZ _ _ _ _ (hZ _ _ _ _ (hZ _ _ _ _ (hZ _ _ _ _ (hZ _ _ _ _ (hZ _ _ _ _ (hZ _ _ _ _ (hZ _ _ _ _ (hZ _ _ _ _ (hZ _ _ _ _ (hZ _ _ _ _ (hZ _ _ _ _ (hZ _ _ _ _ (hZ _ _ _ _ (hZ _ _ _ _ (hZ _ _ _ _ (hZ _ _ _ _ (hZ _ _ _ _ (hZ _ _ _ _ (hZ _ _ _ _ (hZ _ _ _ _ (hZ _ _ _ _ (hZ _ _ _ _ (hZ _ _ _ _ (hZ _ _ _ _ (hZ _ _ _ _ (hZ _ _ _ _ (hZ _ _ _ _ (hZ _ _ _ _ (hZ _ _ _ _ (hZ _ _ _ _ (hZ _ _ _ _ (hZ _ _ _ _ (hZ _ _ _ _ (hZ _ _ _ _ (hZ _ _ _ _ (hZ _ _ _ _ (hZ _ _ _ _ (hZ _ _ _ _ (hZ _ _ _ _ (hZ _ _ _ _ (hZ _ _ _ _ (hZ _ _ _ _ (hZ _ _ _ _ (hZ _ _ _ _ (hZ _ _ _ _ (hZ _ _ _ _ ?_)))))))))))))))))))))))))))))))))))))))))))))))
  show Z 60 _ _ _
  refine hZ _ _ _ _ ?_
  exact h
theorem lgne {x y : Int64} (h : ¬ x = y) : ¬ lg_cmp x y = 0 := by
  intro q
  simp only [lg_cmp] at q
  split at q
  · cases q
  · first | exact absurd q (by decide) | (rw [if_neg h] at q; exact absurd q (by decide))
def inB (F : Int64) (i : Nat) : Bool := decide ((F >>> ((nI i).toInt64 &&& 63)) &&& 1 = 1)
theorem m_isIn {b : Bool} {C : pC} (hC : p_Lg b C) {d : Nat} {M : pM} {Q : pQ} {F : Int64} {i : Nat} (h1 : inB F i = true → Q M (some (vI 1))) (h0 : inB F i = false → Q M (some (vI 0))) : C d k_X7_isIn M [vL F, vI (nI i)] Q := by
  refine p_ent hC tb_X7_isIn _ rfl rfl rfl (fun Z hZ => ?_)
  refine hZ _ _ _ _ (hZ _ _ _ _ (hZ _ _ _ _ (hZ _ _ _ _ (hZ _ _ _ _ (hZ _ _ _ _ (hZ _ _ _ _ ?_))))))
  show Z 7 _ _ _
  by_cases e : (F >>> ((nI i).toInt64 &&& 63)) &&& 1 = 1
  · refine hZ _ _ _ _ (p_fn (by rw [e]; rfl) ?_)
    refine hZ _ _ _ _ (hZ _ _ _ _ ?_)
    show Z 15 _ _ _
    refine hZ _ _ _ _ ⟨Or.inr rfl, ?_⟩
    exact h1 (decide_eq_true e)
  · skip
    refine hZ _ _ _ _ (p_tn (lgne e) ?_)
    refine hZ _ _ _ _ ?_
    show Z 15 _ _ _
    refine hZ _ _ _ _ ⟨Or.inl rfl, ?_⟩
    exact h0 (decide_eq_false e)
/-- the worlds below n that fit, a bit each -/
def fwW (ρ : pRm) (V : pSn) : Nat → Int64
  | 0 => 0
  | n + 1 => if fit (wR ρ n) V = true then fwW ρ V n ||| ((1 : Int64) <<< ((nI n).toInt64 &&& 63)) else fwW ρ V n
theorem cS_sc2 {M M' : pM} {S : pS} (h : p_fr f_sc M M') (hS : cS M S) : p_cl M M' ∧ cS M' S := ⟨(h.q 99).cl cl_sc, cS_sc h hS⟩
theorem f_sc_r1 (c : Nat) : f_sc (aR 1 c) = true := rfl
theorem m_fitting {b : Bool} {C : pC} (hC : p_Lg b C) {d : Nat} {M : pM} {Q : pQ} {S : pS} (hd : 5 ≤ d) (hS : cS M S) (ok : okS S) (h : ∀ M', p_fr f_sc M M' → Q M' (some (vL (fwW S.2.1 S.2.2.1 (2 ^ S.2.1.2.1))))) : C d k_X7_fittingWorlds M [vR (aS 0)] Q := by
  have p6 := pw6 ok.1
  refine p_ent hC tb_X7_fittingWorlds _ rfl rfl rfl (fun Z hZ => ?_)
  refine hZ _ _ _ _ (hZ _ _ _ _ (hZ _ _ _ _ (hZ _ _ _ _ ?_)))
  show Z 8 _ _ _
  refine hZ _ _ _ _ ⟨d - 1, by omega, m_roomCopy hC (by omega) (by decide) hS.2.1 ok.1 (fun M1 g1 g2 => ?_)⟩
  refine hZ _ _ _ _ (hZ _ _ _ _ (hZ _ _ _ _ (hZ _ _ _ _ ?_)))
  show Z 15 _ _ _
  have loop : ∀ (n i : Nat) (M2 : pM) (τ : Int32), i + n = 2 ^ S.2.1.2.1 → p_fr f_sc M M2 → cR M2 1 (S.2.1.1, S.2.1.2.1, τ, S.2.1.2.2.2) → Z 15 [some (vR (aS 0)), some (vL (fwW S.2.1 S.2.2.1 i)), none, some (vI (nI i))] [] M2 := by
    intro n
    induction n with
    | zero =>
      intro i M2 τ e1 f1 f2
      have : i = 2 ^ S.2.1.2.1 := by omega
      subst this
      have hS2 := cS_sc f1 hS
      refine hZ _ _ _ _ (hZ _ _ _ _ (hZ _ _ _ _ ?_))
      show Z 20 _ _ _
      refine hZ _ _ _ _ ⟨d - 1, by omega, m_worldCount hC hS2.2.1 ok.1 ?_⟩
      refine hZ _ _ _ _ (br_t (Int32.le_refl _) ?_)
      refine hZ _ _ _ _ ?_
      show Z 58 _ _ _
      refine hZ _ _ _ _ ?_
      exact h M2 f1
    | succ n ih =>
      intro i M2 τ e1 f1 f2
      have hS2 := cS_sc f1 hS
      have R3' := cR_truth (x := nI i) f2
      have R3 : cR (p_wr M2 (aR 1 0) 9 (nI i)) 1 (wR S.2.1 i) := R3'
      have F3 : p_fr f_sc M (p_wr M2 (aR 1 0) 9 (nI i)) := p_fr_wr f1 rfl
      have step := fun M3 τ f3 => ih (i + 1) M3 τ (by omega) f3
      rw [← nI_1] at step
      refine hZ _ _ _ _ (hZ _ _ _ _ (hZ _ _ _ _ ?_))
      show Z 20 _ _ _
      refine hZ _ _ _ _ ⟨d - 1, by omega, m_worldCount hC hS2.2.1 ok.1 ?_⟩
      refine hZ _ _ _ _ (br_f (nI_ge (by omega) (by omega)) ?_)
      refine hZ _ _ _ _ (hZ _ _ _ _ (hZ _ _ _ _ (hZ _ _ _ _ (hZ _ _ _ _ (hZ _ _ _ _ (hZ _ _ _ _ ?_))))))
      show Z 39 _ _ _
      refine hZ _ _ _ _ ⟨d - 1, by omega, m_fits hC (by omega) (cS_sc F3 hS).2.2.1 R3 (okR_w ok.1 (by omega)) (fun e M4 g4 => ?_) (fun e M4 g4 => ?_)⟩
      · skip
        refine hZ _ _ _ _ (br_f (by decide) ?_)
        refine hZ _ _ _ _ (hZ _ _ _ _ (hZ _ _ _ _ (hZ _ _ _ _ (hZ _ _ _ _ (hZ _ _ _ _ (hZ _ _ _ _ (hZ _ _ _ _ ?_)))))))
        show Z 15 _ _ _
        have e2 : fwW S.2.1 S.2.2.1 (i + 1) = fwW S.2.1 S.2.2.1 i ||| ((1 : Int64) <<< ((nI i).toInt64 &&& 63)) := by simp only [fwW]; exact if_pos e
        rw [e2] at step
        exact step M4 _ (F3.tr (g4.mono sc_ev)) (cR_cg (fun c => g4.1 _ rfl) R3)
      · skip
        refine hZ _ _ _ _ (br_t (rfl) ?_)
        refine hZ _ _ _ _ (hZ _ _ _ _ ?_)
        show Z 15 _ _ _
        have e2 : fwW S.2.1 S.2.2.1 (i + 1) = fwW S.2.1 S.2.2.1 i := by simp only [fwW]; exact if_neg (by rw [e]; decide)
        rw [e2] at step
        exact step M4 _ (F3.tr (g4.mono sc_ev)) (cR_cg (fun c => g4.1 _ rfl) R3)
  exact loop (2 ^ S.2.1.2.1) 0 M1 S.2.1.2.2.1 (Nat.zero_add _) (sc_room1 g1) g2
def lwF (F : Int64) : Nat → Nat → Int32
  | 0, _ => -4
  | m + 1, i => if inB F i = true then nI i else lwF F m (i + 1)
theorem m_lowest {b : Bool} {C : pC} (hC : p_Lg b C) {d : Nat} {M : pM} {Q : pQ} {S : pS} {F : Int64} (hd : 1 ≤ d) (hS : cS M S) (ok : okS S) (h : Q M (some (vI (lwF F (2 ^ S.2.1.2.1) 0)))) : C d k_X7_lowestWorld M [vR (aS 0), vL F] Q := by
  have p6 := pw6 ok.1
  refine p_ent hC tb_X7_lowestWorld _ rfl rfl rfl (fun Z hZ => ?_)
  refine hZ _ _ _ _ (hZ _ _ _ _ ?_)
  show Z 2 _ _ _
  have loop : ∀ (n i : Nat), i + n = 2 ^ S.2.1.2.1 → lwF F (2 ^ S.2.1.2.1) 0 = lwF F n i → Z 2 [some (vR (aS 0)), some (vL F), none, some (vI (nI i))] [] M := by
    intro n
    induction n with
    | zero =>
      intro i e1 e2
      have : i = 2 ^ S.2.1.2.1 := by omega
      subst this
      refine hZ _ _ _ _ (hZ _ _ _ _ (hZ _ _ _ _ ?_))
      show Z 7 _ _ _
      refine hZ _ _ _ _ ⟨d - 1, by omega, m_worldCount hC hS.2.1 ok.1 ?_⟩
      refine hZ _ _ _ _ (br_t (Int32.le_refl _) ?_)
      refine hZ _ _ _ _ ?_
      show Z 31 _ _ _
      refine hZ _ _ _ _ ?_
      rw [e2] at h
      exact h
    | succ n ih =>
      intro i e1 e2
      refine hZ _ _ _ _ (hZ _ _ _ _ (hZ _ _ _ _ ?_))
      show Z 7 _ _ _
      refine hZ _ _ _ _ ⟨d - 1, by omega, m_worldCount hC hS.2.1 ok.1 ?_⟩
      refine hZ _ _ _ _ (br_f (nI_ge (by omega) (by omega)) ?_)
      refine hZ _ _ _ _ (hZ _ _ _ _ ?_)
      show Z 15 _ _ _
      refine hZ _ _ _ _ ⟨d - 1, by omega, m_isIn hC (fun e => ?_) (fun e => ?_)⟩
      · skip
        refine hZ _ _ _ _ (br_f (by decide) ?_)
        refine hZ _ _ _ _ ?_
        show Z 22 _ _ _
        refine hZ _ _ _ _ ?_
        rw [e2] at h
        simp only [lwF, if_pos e] at h
        exact h
      · skip
        refine hZ _ _ _ _ (br_t (rfl) ?_)
        refine hZ _ _ _ _ (hZ _ _ _ _ ?_)
        show Z 2 _ _ _
        rw [show nI i + 1 = nI (i + 1) from nI_1 i]
        exact ih (i + 1) (by omega) (by rw [e2]; simp only [lwF, e]; rfl)
  exact loop (2 ^ S.2.1.2.1) 0 (Nat.zero_add _) rfl
def srN (k : Nat) (F : Int64) (m : Int32) : Nat → Int32
  | 0 => nI (2 ^ k) - 1
  | i + 1 => if inB F i = true then srN k F m i &&& (nI i ^^^ m) else srN k F m i
theorem m_sure {b : Bool} {C : pC} (hC : p_Lg b C) {d : Nat} {M : pM} {Q : pQ} {S : pS} {F : Int64} {m : Int32} (hd : 1 ≤ d) (hS : cS M S) (ok : okS S) (h : Q M (some (vI (srN S.2.1.2.1 F m (2 ^ S.2.1.2.1))))) : C d k_X7_sureFacts M [vR (aS 0), vL F, vI m] Q := by
  have p6 := pw6 ok.1
  refine p_ent hC tb_X7_sureFacts _ rfl rfl rfl (fun Z hZ => ?_)
  refine hZ _ _ _ _ (hZ _ _ _ _ ?_)
  show Z 4 _ _ _
  refine hZ _ _ _ _ ⟨d - 1, by omega, m_worldCount hC hS.2.1 ok.1 ?_⟩
  refine hZ _ _ _ _ (hZ _ _ _ _ (hZ _ _ _ _ (hZ _ _ _ _ (hZ _ _ _ _ ?_))))
  show Z 14 _ _ _
  have loop : ∀ (n i : Nat), i + n = 2 ^ S.2.1.2.1 → Z 14 [some (vR (aS 0)), some (vL F), none, some (vI m), some (vI (srN S.2.1.2.1 F m i)), some (vI (nI i))] [] M := by
    intro n
    induction n with
    | zero =>
      intro i e1
      have : i = 2 ^ S.2.1.2.1 := by omega
      subst this
      refine hZ _ _ _ _ (hZ _ _ _ _ (hZ _ _ _ _ ?_))
      show Z 20 _ _ _
      refine hZ _ _ _ _ ⟨d - 1, by omega, m_worldCount hC hS.2.1 ok.1 ?_⟩
      refine hZ _ _ _ _ (br_t (Int32.le_refl _) ?_)
      refine hZ _ _ _ _ ?_
      show Z 52 _ _ _
      refine hZ _ _ _ _ ?_
      exact h
    | succ n ih =>
      intro i e1
      have step := ih (i + 1) (by omega)
      rw [← nI_1] at step
      refine hZ _ _ _ _ (hZ _ _ _ _ (hZ _ _ _ _ ?_))
      show Z 20 _ _ _
      refine hZ _ _ _ _ ⟨d - 1, by omega, m_worldCount hC hS.2.1 ok.1 ?_⟩
      refine hZ _ _ _ _ (br_f (nI_ge (by omega) (by omega)) ?_)
      refine hZ _ _ _ _ (hZ _ _ _ _ ?_)
      show Z 29 _ _ _
      refine hZ _ _ _ _ ⟨d - 1, by omega, m_isIn hC (fun e => ?_) (fun e => ?_)⟩
      · skip
        refine hZ _ _ _ _ (br_f (by decide) ?_)
        refine hZ _ _ _ _ (hZ _ _ _ _ (hZ _ _ _ _ (hZ _ _ _ _ (hZ _ _ _ _ (hZ _ _ _ _ (hZ _ _ _ _ (hZ _ _ _ _ ?_)))))))
        show Z 14 _ _ _
        have e2 : srN S.2.1.2.1 F m (i + 1) = srN S.2.1.2.1 F m i &&& (nI i ^^^ m) := by simp only [srN]; exact if_pos e
        rw [e2] at step
        exact step
      · skip
        refine hZ _ _ _ _ (br_t (rfl) ?_)
        refine hZ _ _ _ _ (hZ _ _ _ _ ?_)
        show Z 14 _ _ _
        have e2 : srN S.2.1.2.1 F m (i + 1) = srN S.2.1.2.1 F m i := by simp only [srN]; exact if_neg (by rw [e]; decide)
        rw [e2] at step
        exact step
  exact loop (2 ^ S.2.1.2.1) 0 (Nat.zero_add _)
def sp_worlds (S : pS) (w : Int32) : pS × Int32 := (S, if 0 ≤ w ∧ w ≤ 3 then (if w = 0 then bcL (fwW S.2.1 S.2.2.1 (2 ^ S.2.1.2.1)) else if fwW S.2.1 S.2.2.1 (2 ^ S.2.1.2.1) = 0 then -4 else if w = 1 then lwF (fwW S.2.1 S.2.2.1 (2 ^ S.2.1.2.1)) (2 ^ S.2.1.2.1) 0 else if w = 2 then srN S.2.1.2.1 (fwW S.2.1 S.2.2.1 (2 ^ S.2.1.2.1)) 0 (2 ^ S.2.1.2.1) else srN S.2.1.2.1 (fwW S.2.1 S.2.2.1 (2 ^ S.2.1.2.1)) (nI (2 ^ S.2.1.2.1) - 1) (2 ^ S.2.1.2.1)) else -1)
theorem c_worlds {b : Bool} {C : pC} (hC : p_Lg b C) {d : Nat} {M : pM} {Q : pQ} {S : pS} {x : Int32} (hd : 6 ≤ d) (hS : cS M S) (ok : okS S) (h : ∀ M', p_cl M M' → cS M' S → Q M' (some (vI (sp_worlds S x).2))) : C d k_X7_worlds M [vR (aS 0), vI x] Q := by
  refine p_ent hC tb_X7_worlds _ rfl rfl rfl (fun Z hZ => ?_)
  refine hZ _ _ _ _ (hZ _ _ _ _ (hZ _ _ _ _ ?_))
  show Z 3 _ _ _
  refine hZ _ _ _ _ ⟨d - 1, by omega, m_within hC (fun c1 c2 => ?_) (fun c1 => ?_)⟩
  · skip
    refine hZ _ _ _ _ (p_tn (by decide) ?_)
    refine hZ _ _ _ _ ?_
    show Z 12 _ _ _
    refine hZ _ _ _ _ ⟨d - 1, by omega, m_fitting hC (by omega) hS ok (fun M1 g1 => ?_)⟩
    obtain ⟨k1, k2⟩ := cS_sc2 g1 hS
    have := h M1 k1 k2
    simp only [sp_worlds, if_pos (And.intro c1 c2)] at this
    refine hZ _ _ _ _ (hZ _ _ _ _ ?_)
    show Z 17 _ _ _
    by_cases e0 : x = 0
    · refine hZ _ _ _ _ (p_fn (e0) ?_)
      refine hZ _ _ _ _ ?_
      show Z 21 _ _ _
      refine hZ _ _ _ _ ⟨d - 1, by omega, m_bitCountL hC ?_⟩
      refine hZ _ _ _ _ ?_
      rw [if_pos e0] at this
      exact this
    · skip
      rw [if_neg e0] at this
      refine hZ _ _ _ _ (p_tn (e0) ?_)
      refine hZ _ _ _ _ (hZ _ _ _ _ (hZ _ _ _ _ ?_))
      show Z 28 _ _ _
      by_cases e1 : fwW S.2.1 S.2.2.1 (2 ^ S.2.1.2.1) = 0
      · rw [if_pos e1] at this
        refine hZ _ _ _ _ (p_fn (by rw [e1]; rfl) ?_)
        refine hZ _ _ _ _ ?_
        show Z 33 _ _ _
        refine hZ _ _ _ _ ?_
        exact this
      · skip
        rw [if_neg e1] at this
        refine hZ _ _ _ _ (p_tn (lgne e1) ?_)
        refine hZ _ _ _ _ ?_
        show Z 35 _ _ _
        refine hZ _ _ _ _ ?_
        refine ⟨fun s1 => ?_, fun s1 => ⟨fun s2 => ?_, fun s2 => ?_⟩⟩
        · skip
          refine hZ _ _ _ _ (hZ _ _ _ _ ?_)
          show Z 62 _ _ _
          refine hZ _ _ _ _ ⟨d - 1, by omega, m_lowest hC (by omega) k2 ok ?_⟩
          refine hZ _ _ _ _ ?_
          rw [if_pos s1] at this
          exact this
        · skip
          refine hZ _ _ _ _ (hZ _ _ _ _ (hZ _ _ _ _ ?_))
          show Z 69 _ _ _
          refine hZ _ _ _ _ ⟨d - 1, by omega, m_sure hC (by omega) k2 ok ?_⟩
          refine hZ _ _ _ _ ?_
          rw [if_neg s1, if_pos s2] at this
          exact this
        · skip
          refine hZ _ _ _ _ (hZ _ _ _ _ (hZ _ _ _ _ (hZ _ _ _ _ ?_)))
          show Z 79 _ _ _
          refine hZ _ _ _ _ ⟨d - 1, by omega, m_worldCount hC k2.2.1 ok.1 ?_⟩
          refine hZ _ _ _ _ (hZ _ _ _ _ ?_)
          show Z 84 _ _ _
          refine hZ _ _ _ _ ⟨d - 1, by omega, m_sure hC (by omega) k2 ok ?_⟩
          refine hZ _ _ _ _ ?_
          rw [if_neg s1, if_neg s2] at this
          exact this
  · skip
    refine hZ _ _ _ _ (p_fn (rfl) ?_)
    refine hZ _ _ _ _ ?_
    show Z 10 _ _ _
    refine hZ _ _ _ _ ?_
    have := h M p_cl_rf hS
    simp only [sp_worlds, if_neg c1] at this
    exact this
/-- in how many of the worlds below n one lets go at the claim more -/
def wdN (ρ : pRm) (F : Int64) (k : Nat) (t f w : Int32) : Nat → Int32
  | 0 => 0
  | i + 1 => if inB F i = true ∧ (ev (wR (adR ρ t f 1 w) i)).2.2.2 k = nI ρ.2.2.2.length then wdN ρ F k t f w i + 1 else wdN ρ F k t f w i
theorem m_worldsOfDrop {b : Bool} {C : pC} (hC : p_Lg b C) {d : Nat} {M : pM} {Q : pQ} {S : pS} {F : Int64} {t f w : Int32} {k : Nat} (hd : 5 ≤ d) (hS : cS M S) (ok : okS S) (ek : t = nI k) (hk : k < S.2.1.1.length) (hlt : S.2.1.2.2.2.length < 7) (ha : alw S.2.1 t f 1 w = true) (h : ∀ M', p_fr f_sc M M' → Q M' (some (vI (wdN S.2.1 F k t f w (2 ^ S.2.1.2.1))))) : C d k_X7_worldsOfDrop M [vR (aS 0), vL F, vI t, vI f, vI w] Q := by
  have p6 := pw6 ok.1
  have l1 := ok.1.1
  refine p_ent hC tb_X7_worldsOfDrop _ rfl rfl rfl (fun Z hZ => ?_)
  refine hZ _ _ _ _ (hZ _ _ _ _ (hZ _ _ _ _ (hZ _ _ _ _ ?_)))
  show Z 8 _ _ _
  refine hZ _ _ _ _ ⟨d - 1, by omega, m_roomCopy hC (by omega) (by decide) hS.2.1 ok.1 (fun M1 g1 g2 => ?_)⟩
  refine hZ _ _ _ _ (hZ _ _ _ _ (hZ _ _ _ _ (hZ _ _ _ _ (hZ _ _ _ _ (hZ _ _ _ _ ?_)))))
  show Z 21 _ _ _
  refine hZ _ _ _ _ ⟨d - 1, by omega, m_addClaim hC (by omega) g2 ok.1 (fun u1 u2 M2 u3 u4 u5 => ?_) (fun u1 => absurd ⟨hlt, ha⟩ u1)⟩
  refine hZ _ _ _ _ (hZ _ _ _ _ (hZ _ _ _ _ (hZ _ _ _ _ (hZ _ _ _ _ ?_))))
  show Z 31 _ _ _
  have loop : ∀ (n i : Nat) (M3 : pM) (τ : Int32), i + n = 2 ^ S.2.1.2.1 → p_fr f_sc M M3 → cR M3 1 (S.2.1.1, S.2.1.2.1, τ, S.2.1.2.2.2 ++ [(t, f, 1, w)]) → Z 31 [some (vR (aS 0)), some (vL F), none, some (vI t), some (vI f), some (vI w), some (vI (wdN S.2.1 F k t f w i)), some (vI (nI i))] [] M3 := by
    intro n
    induction n with
    | zero =>
      intro i M3 τ e1 f1 f2
      have : i = 2 ^ S.2.1.2.1 := by omega
      subst this
      have hS2 := cS_sc f1 hS
      refine hZ _ _ _ _ (hZ _ _ _ _ (hZ _ _ _ _ ?_))
      show Z 37 _ _ _
      refine hZ _ _ _ _ ⟨d - 1, by omega, m_worldCount hC hS2.2.1 ok.1 ?_⟩
      refine hZ _ _ _ _ (br_t (Int32.le_refl _) ?_)
      refine hZ _ _ _ _ ?_
      show Z 104 _ _ _
      refine hZ _ _ _ _ ?_
      exact h M3 f1
    | succ n ih =>
      intro i M3 τ e1 f1 f2
      have hS2 := cS_sc f1 hS
      have step := fun M3 τ f3 => ih (i + 1) M3 τ (by omega) f3
      rw [← nI_1] at step
      refine hZ _ _ _ _ (hZ _ _ _ _ (hZ _ _ _ _ ?_))
      show Z 37 _ _ _
      refine hZ _ _ _ _ ⟨d - 1, by omega, m_worldCount hC hS2.2.1 ok.1 ?_⟩
      refine hZ _ _ _ _ (br_f (nI_ge (by omega) (by omega)) ?_)
      refine hZ _ _ _ _ (hZ _ _ _ _ ?_)
      show Z 46 _ _ _
      refine hZ _ _ _ _ ⟨d - 1, by omega, m_isIn hC (fun e => ?_) (fun e => ?_)⟩
      · skip
        have R3' := cR_truth (x := nI i) f2
        have R3 : cR (p_wr M3 (aR 1 0) 9 (nI i)) 1 (wR (adR S.2.1 t f 1 w) i) := R3'
        have F3 : p_fr f_sc M (p_wr M3 (aR 1 0) 9 (nI i)) := p_fr_wr f1 rfl
        have okw : okR (wR (adR S.2.1 t f 1 w) i) := okR_w (ρ := adR S.2.1 t f 1 w) u5 (show i < 2 ^ S.2.1.2.1 by omega)
        refine hZ _ _ _ _ (br_f (by decide) ?_)
        refine hZ _ _ _ _ (hZ _ _ _ _ (hZ _ _ _ _ (hZ _ _ _ _ (hZ _ _ _ _ (hZ _ _ _ _ (hZ _ _ _ _ (hZ _ _ _ _ ?_)))))))
        show Z 69 _ _ _
        refine hZ _ _ _ _ ⟨d - 1, by omega, m_hold hC (by omega) R3 okw (fun M4 g4 g5 => ?_)⟩
        refine hZ _ _ _ _ (hZ _ _ _ _ (hZ _ _ _ _ (hZ _ _ _ _ ?_)))
        show Z 80 _ _ _
        refine hZ _ _ _ _ ⟨d - 1, by omega, m_at hC k ek (show k < 5 by omega) rfl ?_⟩
        refine hZ _ _ _ _ (hZ _ _ _ _ (hZ _ _ _ _ ?_))
        show Z 90 _ _ _
        have hS4 := cS_sc (F3.tr (g4.mono sc_ev)) hS
        rw [g5.2.2.2 k (by omega), hS4.2.1.2.2.1]
        by_cases c1 : (ev (wR (adR S.2.1 t f 1 w) i)).2.2.2 k = nI S.2.1.2.2.2.length
        · refine hZ _ _ _ _ (p_fn (c1) ?_)
          refine hZ _ _ _ _ (hZ _ _ _ _ (hZ _ _ _ _ ?_))
          show Z 31 _ _ _
          have e2 : wdN S.2.1 F k t f w (i + 1) = wdN S.2.1 F k t f w i + 1 := by simp only [wdN]; exact if_pos ⟨e, c1⟩
          rw [e2] at step
          exact step M4 _ (F3.tr (g4.mono sc_ev)) (cR_cg (fun c => g4.1 _ rfl) R3)
        · skip
          refine hZ _ _ _ _ (p_tn (c1) ?_)
          refine hZ _ _ _ _ (hZ _ _ _ _ ?_)
          show Z 31 _ _ _
          have e2 : wdN S.2.1 F k t f w (i + 1) = wdN S.2.1 F k t f w i := by simp only [wdN]; exact if_neg (fun q => c1 q.2)
          rw [e2] at step
          exact step M4 _ (F3.tr (g4.mono sc_ev)) (cR_cg (fun c => g4.1 _ rfl) R3)
      · skip
        refine hZ _ _ _ _ (br_t (rfl) ?_)
        refine hZ _ _ _ _ (hZ _ _ _ _ ?_)
        show Z 31 _ _ _
        have e2 : wdN S.2.1 F k t f w (i + 1) = wdN S.2.1 F k t f w i := by simp only [wdN]; exact if_neg (fun q => by rw [e] at q; cases q.1)
        rw [e2] at step
        exact step M3 _ f1 f2
  exact loop (2 ^ S.2.1.2.1) 0 M2 S.2.1.2.2.1 (Nat.zero_add _) ((sc_room1 g1).tr (sc_room1 u3)) u4
def nxN (ρ : pRm) (F : Int64) (k : Nat) (t w : Int32) : Nat → Int32 × Int32
  | 0 => (-4, nI (2 ^ ρ.2.1) + 1)
  | f + 1 => if p_max (wdN ρ F k t (nI f) w (2 ^ ρ.2.1)) (bcL F - wdN ρ F k t (nI f) w (2 ^ ρ.2.1)) < (nxN ρ F k t w f).2 then (nI f, p_max (wdN ρ F k t (nI f) w (2 ^ ρ.2.1)) (bcL F - wdN ρ F k t (nI f) w (2 ^ ρ.2.1))) else nxN ρ F k t w f
def sp_next (S : pS) (t w : Int32) : pS × Int32 := (S, match ix t S.2.1.1.length with
  | none => -1
  | some k => if 1 ≤ w ∧ w ≤ 20 then (if S.2.1.2.2.2.length < 7 ∧ ¬ fwW S.2.1 S.2.2.1 (2 ^ S.2.1.2.1) = 0 then (nxN S.2.1 (fwW S.2.1 S.2.2.1 (2 ^ S.2.1.2.1)) k t w S.2.1.2.1).1 else -4) else -1)
theorem c_next {b : Bool} {C : pC} (hC : p_Lg b C) {d : Nat} {M : pM} {Q : pQ} {S : pS} {t w : Int32} (hd : 6 ≤ d) (hS : cS M S) (ok : okS S) (h : ∀ M', p_cl M M' → cS M' S → Q M' (some (vI (sp_next S t w).2))) : C d k_X7_next M [vR (aS 0), vI t, vI w] Q := by
  have l3 := ok.1.2.2.1
  have l2 := ok.1.2.1
  refine p_ent hC tb_X7_next _ rfl rfl rfl (fun Z hZ => ?_)
  refine hZ _ _ _ _ (hZ _ _ _ _ (hZ _ _ _ _ ?_))
  show Z 5 _ _ _
  refine hZ _ _ _ _ ⟨d - 1, by omega, m_isTeller hC hS.2.1 ok.1 (fun k b1 b2 b3 => ?_) (fun b1 => ?_)⟩
  · skip
    refine hZ _ _ _ _ (br_f (by decide) ?_)
    refine hZ _ _ _ _ (hZ _ _ _ _ (hZ _ _ _ _ ?_))
    show Z 15 _ _ _
    refine hZ _ _ _ _ ⟨d - 1, by omega, m_within hC (fun c1 c2 => ?_) (fun c1 => ?_)⟩
    · skip
      refine hZ _ _ _ _ (p_tn (by decide) ?_)
      refine hZ _ _ _ _ ?_
      show Z 24 _ _ _
      refine hZ _ _ _ _ ⟨d - 1, by omega, m_fitting hC (by omega) hS ok (fun M1 g1 => ?_)⟩
      obtain ⟨k1, k2⟩ := cS_sc2 g1 hS
      refine hZ _ _ _ _ (hZ _ _ _ _ (hZ _ _ _ _ (hZ _ _ _ _ (hZ _ _ _ _ ?_))))
      show Z 37 _ _ _
      rw [k2.2.1.2.2.1]
      by_cases hlt : S.2.1.2.2.2.length < 7
      · refine hZ _ _ _ _ (br_f (nI_ge (b := 7) hlt (by omega)) ?_)
        refine hZ _ _ _ _ (hZ _ _ _ _ (hZ _ _ _ _ ?_))
        show Z 43 _ _ _
        by_cases e1 : fwW S.2.1 S.2.2.1 (2 ^ S.2.1.2.1) = 0
        · refine hZ _ _ _ _ (p_fn (by rw [e1]; rfl) ?_)
          refine hZ _ _ _ _ ?_
          show Z 48 _ _ _
          refine hZ _ _ _ _ ?_
          have := h M1 k1 k2
          simp only [sp_next, b1, if_pos (And.intro c1 c2)] at this
          rw [if_neg (fun q => q.2 e1)] at this
          exact this
        · skip
          refine hZ _ _ _ _ (p_tn (lgne e1) ?_)
          refine hZ _ _ _ _ (hZ _ _ _ _ (hZ _ _ _ _ (hZ _ _ _ _ ?_)))
          show Z 57 _ _ _
          refine hZ _ _ _ _ ⟨d - 1, by omega, m_worldCount hC k2.2.1 ok.1 ?_⟩
          refine hZ _ _ _ _ (hZ _ _ _ _ (hZ _ _ _ _ (hZ _ _ _ _ (hZ _ _ _ _ ?_))))
          show Z 67 _ _ _
          have loop : ∀ (n i : Nat) (M2 : pM) (y z : Option pV), i + n = S.2.1.2.1 → p_fr f_sc M M2 → Z 67 [some (vR (aS 0)), some (vI t), some (vI w), some (vL (fwW S.2.1 S.2.2.1 (2 ^ S.2.1.2.1))), none, some (vI (nxN S.2.1 (fwW S.2.1 S.2.2.1 (2 ^ S.2.1.2.1)) k t w i).1), some (vI (nxN S.2.1 (fwW S.2.1 S.2.2.1 (2 ^ S.2.1.2.1)) k t w i).2), some (vI (nI i)), y, z] [] M2 := by
            intro n
            induction n with
            | zero =>
              intro i M2 y z e9 f1
              have : i = S.2.1.2.1 := by omega
              subst this
              obtain ⟨j1, j2⟩ := cS_sc2 f1 hS
              refine hZ _ _ _ _ (hZ _ _ _ _ (hZ _ _ _ _ (hZ _ _ _ _ ?_)))
              show Z 76 _ _ _
              refine hZ _ _ _ _ (br_t (by rw [j2.2.1.2.1]; exact Int32.le_refl _) ?_)
              refine hZ _ _ _ _ ?_
              show Z 127 _ _ _
              refine hZ _ _ _ _ ?_
              have := h M2 j1 j2
              simp only [sp_next, b1, if_pos (And.intro c1 c2)] at this
              rw [if_pos ⟨hlt, e1⟩] at this
              exact this
            | succ n ih =>
              intro i M2 y z e9 f1
              obtain ⟨j1, j2⟩ := cS_sc2 f1 hS
              have hi : i < S.2.1.2.1 := by omega
              have step := fun M3 y z f3 => ih (i + 1) M3 y z (by omega) f3
              rw [← nI_1] at step
              have ha : alw S.2.1 t (nI i) 1 w = true := by
                simp only [alw, b1, ix_nI hi (by omega), c1, c2, Option.isSome_some]
                decide
              refine hZ _ _ _ _ (hZ _ _ _ _ (hZ _ _ _ _ (hZ _ _ _ _ ?_)))
              show Z 76 _ _ _
              refine hZ _ _ _ _ (br_f (by rw [j2.2.1.2.1]; exact nI_ge hi (by omega)) ?_)
              refine hZ _ _ _ _ (hZ _ _ _ _ (hZ _ _ _ _ (hZ _ _ _ _ (hZ _ _ _ _ ?_))))
              show Z 85 _ _ _
              refine hZ _ _ _ _ ⟨d - 1, by omega, m_worldsOfDrop hC (by omega) j2 ok b3 b2 hlt ha (fun M3 g3 => ?_)⟩
              refine hZ _ _ _ _ (hZ _ _ _ _ (hZ _ _ _ _ ?_))
              show Z 93 _ _ _
              refine hZ _ _ _ _ ⟨d - 1, by omega, m_bitCountL hC ?_⟩
              refine hZ _ _ _ _ (hZ _ _ _ _ ?_)
              show Z 99 _ _ _
              refine hZ _ _ _ _ ⟨by omega, ?_⟩
              refine hZ _ _ _ _ (hZ _ _ _ _ (hZ _ _ _ _ ?_))
              show Z 108 _ _ _
              by_cases c3 : p_max (wdN S.2.1 (fwW S.2.1 S.2.2.1 (2 ^ S.2.1.2.1)) k t (nI i) w (2 ^ S.2.1.2.1)) (bcL (fwW S.2.1 S.2.2.1 (2 ^ S.2.1.2.1)) - wdN S.2.1 (fwW S.2.1 S.2.2.1 (2 ^ S.2.1.2.1)) k t (nI i) w (2 ^ S.2.1.2.1)) < (nxN S.2.1 (fwW S.2.1 S.2.2.1 (2 ^ S.2.1.2.1)) k t w i).2
              · refine hZ _ _ _ _ (br_f (Int32.not_le.mpr c3) ?_)
                refine hZ _ _ _ _ (hZ _ _ _ _ (hZ _ _ _ _ (hZ _ _ _ _ (hZ _ _ _ _ (hZ _ _ _ _ ?_)))))
                show Z 67 _ _ _
                have e2 : nxN S.2.1 (fwW S.2.1 S.2.2.1 (2 ^ S.2.1.2.1)) k t w (i + 1) = (nI i, p_max (wdN S.2.1 (fwW S.2.1 S.2.2.1 (2 ^ S.2.1.2.1)) k t (nI i) w (2 ^ S.2.1.2.1)) (bcL (fwW S.2.1 S.2.2.1 (2 ^ S.2.1.2.1)) - wdN S.2.1 (fwW S.2.1 S.2.2.1 (2 ^ S.2.1.2.1)) k t (nI i) w (2 ^ S.2.1.2.1))) := if_pos c3
                rw [e2] at step
                exact step M3 _ _ (f1.tr g3)
              · skip
                refine hZ _ _ _ _ (br_t (Int32.not_lt.mp c3) ?_)
                refine hZ _ _ _ _ (hZ _ _ _ _ ?_)
                show Z 67 _ _ _
                have e2 : nxN S.2.1 (fwW S.2.1 S.2.2.1 (2 ^ S.2.1.2.1)) k t w (i + 1) = nxN S.2.1 (fwW S.2.1 S.2.2.1 (2 ^ S.2.1.2.1)) k t w i := if_neg c3
                rw [e2] at step
                exact step M3 _ _ (f1.tr g3)
          exact loop S.2.1.2.1 0 M1 none none (Nat.zero_add _) g1
      · skip
        refine hZ _ _ _ _ (br_t (nI_le (a := 7) (b := S.2.1.2.2.2.length) (by omega) (by omega)) ?_)
        refine hZ _ _ _ _ ?_
        show Z 48 _ _ _
        refine hZ _ _ _ _ ?_
        have := h M1 k1 k2
        simp only [sp_next, b1, if_pos (And.intro c1 c2)] at this
        rw [if_neg (fun q => hlt q.1)] at this
        exact this
    · skip
      refine hZ _ _ _ _ (p_fn (rfl) ?_)
      refine hZ _ _ _ _ ?_
      show Z 22 _ _ _
      refine hZ _ _ _ _ ?_
      have := h M p_cl_rf hS
      simp only [sp_next, b1, if_neg c1] at this
      exact this
  · skip
    refine hZ _ _ _ _ (br_t (rfl) ?_)
    refine hZ _ _ _ _ ?_
    show Z 22 _ _ _
    refine hZ _ _ _ _ ?_
    have := h M p_cl_rf hS
    simp only [sp_next, b1] at this
    exact this
