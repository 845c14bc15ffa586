/-! how many bits; counts; what is best: left out, held by another -/
def ush (x k : Int32) : Int32 := (x.toUInt32 >>> (k.toUInt32 &&& Int32.toUInt32 31)).toInt32
def bc1 (x : Int32) : Int32 := x - (ush x 1 &&& 1431655765)
def bc2 (x : Int32) : Int32 := (x &&& 858993459) + (ush x 2 &&& 858993459)
def bc3 (x : Int32) : Int32 := (x + ush x 4) &&& 252645135
def bc4 (x : Int32) : Int32 := x + ush x 8
def bc5 (x : Int32) : Int32 := x + ush x 16
def bc (x : Int32) : Int32 := bc5 (bc4 (bc3 (bc2 (bc1 x)))) &&& 63
theorem m_bitCount {b : Bool} {C : pC} (hC : p_Lg b C) {d : Nat} {M : pM} {Q : pQ} {x : Int32} (h : Q M (some (vI (bc x)))) : C d k_J6_bitCount M [vI x] Q := by
  refine p_ent hC tb_J6_bitCount _ rfl rfl rfl (fun Z hZ => ?_)
  refine hZ _ _ _ _ (hZ _ _ _ _ (hZ _ _ _ _ (hZ _ _ _ _ (hZ _ _ _ _ (hZ _ _ _ _ (hZ _ _ _ _ (hZ _ _ _ _ (hZ _ _ _ _ (hZ _ _ _ _ (hZ _ _ _ _ (hZ _ _ _ _ (hZ _ _ _ _ (hZ _ _ _ _ (hZ _ _ _ _ (hZ _ _ _ _ (hZ _ _ _ _ (hZ _ _ _ _ (hZ _ _ _ _ (hZ _ _ _ _ (hZ _ _ _ _ (hZ _ _ _ _ (hZ _ _ _ _ (hZ _ _ _ _ (hZ _ _ _ _ (hZ _ _ _ _ (hZ _ _ _ _ (hZ _ _ _ _ (hZ _ _ _ _ (hZ _ _ _ _ (hZ _ _ _ _ (hZ _ _ _ _ (hZ _ _ _ _ (hZ _ _ _ _ (hZ _ _ _ _ (hZ _ _ _ _ (hZ _ _ _ _ (hZ _ _ _ _ (hZ _ _ _ _ (hZ _ _ _ _ (hZ _ _ _ _ ?_))))))))))))))))))))))))))))))))))))))))
  show Z 52 _ _ _
  refine hZ _ _ _ _ ?_
  exact h
theorem m_goneTonight {b : Bool} {C : pC} (hC : p_Lg b C) {d : Nat} {M : pM} {Q : pQ} {S : pS} (hd : 4 ≤ d) (hS : cS M S) (ok : okS S) (h : ∀ M', p_cl M M' → cS M' S → Q M' (some (vI (bc (ev S.2.1).1.2.2.2)))) : C d k_X7_goneTonight M [vR (aS 0)] Q := by
  refine p_ent hC tb_X7_goneTonight _ rfl rfl rfl (fun Z hZ => ?_)
  refine hZ _ _ _ _ (hZ _ _ _ _ (hZ _ _ _ _ (hZ _ _ _ _ ?_)))
  show Z 8 _ _ _
  refine hZ _ _ _ _ ⟨d - 1, by omega, m_hold hC (by omega) hS.2.1 ok.1 (fun M1 g1 g2 => ?_)⟩
  refine hZ _ _ _ _ (hZ _ _ _ _ (hZ _ _ _ _ (hZ _ _ _ _ ?_)))
  show Z 21 _ _ _
  refine hZ _ _ _ _ ⟨d - 1, by omega, m_bitCount hC ?_⟩
  refine hZ _ _ _ _ ?_
  obtain ⟨k1, k2⟩ := cS_ev g1 hS
  rw [show M1.1 (aI 0) 3 = (ev S.2.1).1.2.2.2 from congrArg (fun q : pI => q.2.2.2) g2.1]
  exact h M1 k1 k2
def sp_count (S : pS) (w : Int32) : pS × Int32 := (S, if w = 0 then nI S.2.1.1.length else if w = 1 then nI S.2.1.2.1 else if w = 2 then nI S.2.1.2.2.2.length else if w = 3 then bc S.2.1.2.2.1 else if w = 4 then nF S.2.1 S.2.1.2.2.2.length else if w = 5 then bc (ev S.2.1).1.2.2.1 else if w = 6 then bc (ev S.2.1).1.2.2.2 else if w = 7 then nI S.2.2.1.length else if w = 8 then nI S.2.2.2.1.length else if w = 9 then nI S.2.2.2.2.length else if w = 10 then nI S.1.length else -1)
theorem c_count {b : Bool} {C : pC} (hC : p_Lg b C) {d : Nat} {M : pM} {Q : pQ} {S : pS} {x : Int32} (hd : 5 ≤ d) (hS : cS M S) (ok : okS S) (h : ∀ M', p_cl M M' → cS M' S → Q M' (some (vI (sp_count S x).2))) : C d k_X7_count M [vR (aS 0), vI x] Q := by
  have h0 := h M p_cl_rf hS
  refine p_ent hC tb_X7_count _ rfl rfl rfl (fun Z hZ => ?_)
  refine hZ _ _ _ _ ?_
  show Z 1 _ _ _
  refine hZ _ _ _ _ ?_
  refine ⟨fun s0 => ?_, fun s0 => ⟨fun s1 => ?_, fun s1 => ⟨fun s2 => ?_, fun s2 => ⟨fun s3 => ?_, fun s3 => ⟨fun s4 => ?_, fun s4 => ⟨fun s5 => ?_, fun s5 => ⟨fun s6 => ?_, fun s6 => ⟨fun s7 => ?_, fun s7 => ⟨fun s8 => ?_, fun s8 => ⟨fun s9 => ?_, fun s9 => ⟨fun s10 => ?_, fun s10 => ?_⟩⟩⟩⟩⟩⟩⟩⟩⟩⟩⟩
  · skip
    refine hZ _ _ _ _ (hZ _ _ _ _ (hZ _ _ _ _ ?_))
    show Z 67 _ _ _
    refine hZ _ _ _ _ ?_
    simp only [sp_count, if_pos s0] at h0
    rw [hS.2.1.1]
    exact h0
  · skip
    refine hZ _ _ _ _ (hZ _ _ _ _ (hZ _ _ _ _ ?_))
    show Z 75 _ _ _
    refine hZ _ _ _ _ ?_
    simp only [sp_count, if_neg s0, if_pos s1] at h0
    rw [hS.2.1.2.1]
    exact h0
  · skip
    refine hZ _ _ _ _ (hZ _ _ _ _ (hZ _ _ _ _ ?_))
    show Z 83 _ _ _
    refine hZ _ _ _ _ ?_
    simp only [sp_count, if_neg s0, if_neg s1, if_pos s2] at h0
    rw [hS.2.1.2.2.1]
    exact h0
  · skip
    refine hZ _ _ _ _ (hZ _ _ _ _ (hZ _ _ _ _ ?_))
    show Z 91 _ _ _
    refine hZ _ _ _ _ ⟨d - 1, by omega, m_bitCount hC ?_⟩
    refine hZ _ _ _ _ ?_
    simp only [sp_count, if_neg s0, if_neg s1, if_neg s2, if_pos s3] at h0
    rw [hS.2.1.2.2.2.1]
    exact h0
  · skip
    refine hZ _ _ _ _ (hZ _ _ _ _ ?_)
    show Z 99 _ _ _
    refine hZ _ _ _ _ ⟨d - 1, by omega, m_falseClaims hC (by omega) hS.2.1 ok.1 ?_⟩
    refine hZ _ _ _ _ ?_
    simp only [sp_count, if_neg s0, if_neg s1, if_neg s2, if_neg s3, if_pos s4] at h0
    exact h0
  · skip
    refine hZ _ _ _ _ ?_
    show Z 104 _ _ _
    refine hZ _ _ _ _ ⟨d - 1, by omega, c_told hC (by omega) hS ok (fun M1 k1 k2 => ?_)⟩
    refine hZ _ _ _ _ ⟨d - 1, by omega, m_bitCount hC ?_⟩
    refine hZ _ _ _ _ ?_
    have := h M1 k1 k2
    simp only [sp_count, if_neg s0, if_neg s1, if_neg s2, if_neg s3, if_neg s4, if_pos s5] at this
    exact this
  · skip
    refine hZ _ _ _ _ ?_
    show Z 112 _ _ _
    refine hZ _ _ _ _ ⟨d - 1, by omega, m_goneTonight hC (by omega) hS ok (fun M1 k1 k2 => ?_)⟩
    refine hZ _ _ _ _ ?_
    have := h M1 k1 k2
    simp only [sp_count, if_neg s0, if_neg s1, if_neg s2, if_neg s3, if_neg s4, if_neg s5, if_pos s6] at this
    exact this
  · skip
    refine hZ _ _ _ _ (hZ _ _ _ _ (hZ _ _ _ _ ?_))
    show Z 123 _ _ _
    refine hZ _ _ _ _ ?_
    simp only [sp_count, if_neg s0, if_neg s1, if_neg s2, if_neg s3, if_neg s4, if_neg s5, if_neg s6, if_pos s7] at h0
    rw [hS.2.2.1.2.1]
    exact h0
  · skip
    refine hZ _ _ _ _ (hZ _ _ _ _ (hZ _ _ _ _ ?_))
    show Z 131 _ _ _
    refine hZ _ _ _ _ ?_
    simp only [sp_count, if_neg s0, if_neg s1, if_neg s2, if_neg s3, if_neg s4, if_neg s5, if_neg s6, if_neg s7, if_pos s8] at h0
    rw [hS.2.2.2.1.2.1]
    exact h0
  · skip
    refine hZ _ _ _ _ (hZ _ _ _ _ (hZ _ _ _ _ ?_))
    show Z 139 _ _ _
    refine hZ _ _ _ _ ?_
    simp only [sp_count, if_neg s0, if_neg s1, if_neg s2, if_neg s3, if_neg s4, if_neg s5, if_neg s6, if_neg s7, if_neg s8, if_pos s9] at h0
    rw [hS.2.2.2.2.1.2.1]
    exact h0
  · skip
    refine hZ _ _ _ _ (hZ _ _ _ _ (hZ _ _ _ _ ?_))
    show Z 147 _ _ _
    refine hZ _ _ _ _ ?_
    simp only [sp_count, if_neg s0, if_neg s1, if_neg s2, if_neg s3, if_neg s4, if_neg s5, if_neg s6, if_neg s7, if_neg s8, if_neg s9, if_pos s10] at h0
    rw [hS.1.2.1]
    exact h0
  · skip
    refine hZ _ _ _ _ ?_
    show Z 149 _ _ _
    refine hZ _ _ _ _ ?_
    simp only [sp_count, if_neg s0, if_neg s1, if_neg s2, if_neg s3, if_neg s4, if_neg s5, if_neg s6, if_neg s7, if_neg s8, if_neg s9, if_neg s10] at h0
    exact h0
/-- the iron behind the first n claims but those of a set -/
def irW (ρ : pRm) (x : Int32) : Nat → pI
  | 0 => s0
  | n + 1 => if bt1 x (nI n) = 0 then (tk ρ (irW ρ x n) n).1 else irW ρ x n
theorem m_lgw {b : Bool} {C : pC} (hC : p_Lg b C) {d : Nat} {M : pM} {Q : pQ} {ρ : pRm} {t x : Int32} (hd : 3 ≤ d) (hR : cR M 0 ρ) (ok : okR ρ) (h1 : bt1 (irW ρ x ρ.2.2.2.length).2.2.2 t = 1 → ∀ M', p_fr (f_iron 0) M M' → Q M' (some (vI 1))) (h0 : ¬ bt1 (irW ρ x ρ.2.2.2.length).2.2.2 t = 1 → ∀ M', p_fr (f_iron 0) M M' → Q M' (some (vI 0))) : C d k_X7_letsGoWithout M [vR (aS 0), vI t, vI x] Q := by
  have l3 := ok.2.2.1
  refine p_ent hC tb_X7_letsGoWithout _ rfl rfl rfl (fun Z hZ => ?_)
  refine hZ _ _ _ _ (hZ _ _ _ _ (hZ _ _ _ _ (hZ _ _ _ _ (hZ _ _ _ _ ?_))))
  show Z 9 _ _ _
  refine hZ _ _ _ _ ⟨d - 1, by omega, m_cool hC (fun M1 g1 g2 => ?_)⟩
  refine hZ _ _ _ _ (hZ _ _ _ _ ?_)
  show Z 15 _ _ _
  have loop : ∀ (n i : Nat) (M2 : pM), i + n = ρ.2.2.2.length → p_fr (f_iron 0) M M2 → iV M2 0 = irW ρ x i → Z 15 [some (vR (aS 0)), some (vI t), some (vI x), some (vR (aI 0)), some (vI (nI i))] [] M2 := by
    intro n
    induction n with
    | zero =>
      intro i M2 e1 f1 f2
      have : i = ρ.2.2.2.length := by omega
      subst this
      refine hZ _ _ _ _ (hZ _ _ _ _ (hZ _ _ _ _ (hZ _ _ _ _ ?_)))
      show Z 24 _ _ _
      refine hZ _ _ _ _ (br_t (by rw [f1.1 (aR 0 0) rfl, hR.2.2.1]; exact Int32.le_refl _) ?_)
      refine hZ _ _ _ _ (hZ _ _ _ _ (hZ _ _ _ _ ?_))
      show Z 58 _ _ _
      rw [show M2.1 (aI 0) 3 = (irW ρ x ρ.2.2.2.length).2.2.2 from congrArg (fun q : pI => q.2.2.2) f2]
      refine hZ _ _ _ _ ⟨d - 1, by omega, m_bit hC ?_⟩
      refine hZ _ _ _ _ ?_
      show Z 62 _ _ _
      refine hZ _ _ _ _ ⟨fun c1 => ?_, fun c1 => ?_⟩
      · skip
        refine hZ _ _ _ _ ?_
        show Z 70 _ _ _
        refine hZ _ _ _ _ ⟨Or.inl rfl, ?_⟩
        exact h0 c1 M2 f1
      · skip
        refine hZ _ _ _ _ (hZ _ _ _ _ ?_)
        show Z 70 _ _ _
        refine hZ _ _ _ _ ⟨Or.inr rfl, ?_⟩
        exact h1 c1 M2 f1
    | succ n ih =>
      intro i M2 e1 f1 f2
      have hi : i < ρ.2.2.2.length := by omega
      have hR2 : cR M2 0 ρ := cR_cg (fun c => f1.1 _ rfl) hR
      refine hZ _ _ _ _ (hZ _ _ _ _ (hZ _ _ _ _ (hZ _ _ _ _ ?_)))
      show Z 24 _ _ _
      refine hZ _ _ _ _ (br_f (by rw [hR2.2.2.1]; exact nI_ge hi (by omega)) ?_)
      refine hZ _ _ _ _ (hZ _ _ _ _ ?_)
      show Z 30 _ _ _
      refine hZ _ _ _ _ ⟨d - 1, by omega, m_bit hC ?_⟩
      by_cases c1 : bt1 x (nI i) = 0
      · refine hZ _ _ _ _ (p_fn (c1) ?_)
        refine hZ _ _ _ _ (hZ _ _ _ _ (hZ _ _ _ _ (hZ _ _ _ _ ?_)))
        show Z 43 _ _ _
        refine hZ _ _ _ _ ⟨d - 1, by omega, m_take hC (by omega) hR2 ok hi (fun M3 f3 f4 => ?_)⟩
        refine hZ _ _ _ _ (hZ _ _ _ _ (hZ _ _ _ _ ?_))
        show Z 15 _ _ _
        rw [show nI i + 1 = nI (i + 1) from nI_1 i]
        refine ih (i + 1) M3 (by omega) (f1.tr f3) ?_
        rw [f4, f2]
        simp only [irW, if_pos c1]
      · skip
        refine hZ _ _ _ _ (p_tn (c1) ?_)
        refine hZ _ _ _ _ (hZ _ _ _ _ ?_)
        show Z 15 _ _ _
        rw [show nI i + 1 = nI (i + 1) from nI_1 i]
        refine ih (i + 1) M2 (by omega) f1 ?_
        rw [f2]
        simp only [irW, if_neg c1]
  exact loop ρ.2.2.2.length 0 M1 (Nat.zero_add _) g1 g2
/-- the fewest to be left out, out of the sets below n, else all -/
def fwN (ρ : pRm) (t : Int32) : Nat → Int32
  | 0 => nI (2 ^ ρ.2.2.2.length - 1)
  | n + 1 => if bc (nI n) < bc (fwN ρ t n) ∧ ¬ bt1 (irW ρ (nI n) ρ.2.2.2.length).2.2.2 t = 1 then nI n else fwN ρ t n
theorem pw7 : ∀ n : Fin 8, (1 : Int32) <<< (nI n.val &&& 31) - 1 = nI (2 ^ n.val - 1) ∧ 2 ^ n.val ≤ 128 := by decide +kernel
theorem m_fewestLeft {b : Bool} {C : pC} (hC : p_Lg b C) {d : Nat} {M : pM} {Q : pQ} {ρ : pRm} {t : Int32} (hd : 4 ≤ d) (hR : cR M 0 ρ) (ok : okR ρ) (h : ∀ M', p_fr (f_iron 0) M M' → Q M' (some (vI (fwN ρ t (2 ^ ρ.2.2.2.length - 1))))) : C d k_X7_fewestLeft M [vR (aS 0), vI t] Q := by
  have l3 := ok.2.2.1
  obtain ⟨p1, p2⟩ := pw7 ⟨ρ.2.2.2.length, by omega⟩
  refine p_ent hC tb_X7_fewestLeft _ rfl rfl rfl (fun Z hZ => ?_)
  refine hZ _ _ _ _ (hZ _ _ _ _ (hZ _ _ _ _ (hZ _ _ _ _ (hZ _ _ _ _ (hZ _ _ _ _ (hZ _ _ _ _ (hZ _ _ _ _ ?_)))))))
  show Z 12 _ _ _
  rw [hR.2.2.1, p1]
  refine hZ _ _ _ _ (hZ _ _ _ _ (hZ _ _ _ _ (hZ _ _ _ _ ?_)))
  show Z 17 _ _ _
  have loop : ∀ (n i : Nat) (M2 : pM), i + n = 2 ^ ρ.2.2.2.length - 1 → p_fr (f_iron 0) M M2 → Z 17 [some (vR (aS 0)), some (vI t), some (vI (nI (2 ^ ρ.2.2.2.length - 1))), some (vI (fwN ρ t i)), some (vI (nI i))] [] M2 := by
    intro n
    induction n with
    | zero =>
      intro i M2 e1 f1
      have : i = 2 ^ ρ.2.2.2.length - 1 := by omega
      subst this
      refine hZ _ _ _ _ (hZ _ _ _ _ ?_)
      show Z 20 _ _ _
      refine hZ _ _ _ _ (br_t (Int32.le_refl _) ?_)
      refine hZ _ _ _ _ ?_
      show Z 55 _ _ _
      refine hZ _ _ _ _ ?_
      exact h M2 f1
    | succ n ih =>
      intro i M2 e1 f1
      have hR2 : cR M2 0 ρ := cR_cg (fun c => f1.1 _ rfl) hR
      have step := fun M3 f3 => ih (i + 1) M3 (by omega) f3
      rw [← nI_1] at step
      have p3 : 2 ^ ρ.2.2.2.length ≤ 128 := p2
      refine hZ _ _ _ _ (hZ _ _ _ _ ?_)
      show Z 20 _ _ _
      refine hZ _ _ _ _ (br_f (nI_ge (a := i) (b := 2 ^ ρ.2.2.2.length - 1) (by omega) (by omega)) ?_)
      refine hZ _ _ _ _ ?_
      show Z 25 _ _ _
      refine hZ _ _ _ _ ⟨d - 1, by omega, m_bitCount hC ?_⟩
      refine hZ _ _ _ _ ?_
      show Z 29 _ _ _
      refine hZ _ _ _ _ ⟨d - 1, by omega, m_bitCount hC ?_⟩
      by_cases c1 : bc (nI i) < bc (fwN ρ t i)
      · refine hZ _ _ _ _ (br_f (Int32.not_le.mpr c1) ?_)
        refine hZ _ _ _ _ (hZ _ _ _ _ (hZ _ _ _ _ ?_))
        show Z 39 _ _ _
        refine hZ _ _ _ _ ⟨d - 1, by omega, m_lgw hC (by omega) hR2 ok (fun u1 M3 u2 => ?_) (fun u1 M3 u2 => ?_)⟩
        · skip
          refine hZ _ _ _ _ (p_tn (by decide) ?_)
          refine hZ _ _ _ _ (hZ _ _ _ _ ?_)
          show Z 17 _ _ _
          have e2 : fwN ρ t (i + 1) = fwN ρ t i := by simp only [fwN]; exact if_neg (fun q => q.2 u1)
          rw [e2] at step
          exact step M3 (f1.tr u2)
        · skip
          refine hZ _ _ _ _ (p_fn (rfl) ?_)
          refine hZ _ _ _ _ (hZ _ _ _ _ (hZ _ _ _ _ (hZ _ _ _ _ ?_)))
          show Z 17 _ _ _
          have e2 : fwN ρ t (i + 1) = nI i := by simp only [fwN]; exact if_pos ⟨c1, u1⟩
          rw [e2] at step
          exact step M3 (f1.tr u2)
      · skip
        refine hZ _ _ _ _ (br_t (Int32.not_lt.mp c1) ?_)
        refine hZ _ _ _ _ (hZ _ _ _ _ ?_)
        show Z 17 _ _ _
        have e2 : fwN ρ t (i + 1) = fwN ρ t i := by simp only [fwN]; exact if_neg (fun q => c1 q.1)
        rw [e2] at step
        exact step M2 f1
  exact loop (2 ^ ρ.2.2.2.length - 1) 0 M (Nat.zero_add _) p_fr_rf
def sp_leave (S : pS) (t w : Int32) : pS × Int32 := (S, match ix t S.2.1.1.length with
  | none => -1
  | some _ => if 0 ≤ w ∧ w ≤ 1 then (if w = 0 then bc (fwN S.2.1 t (2 ^ S.2.1.2.2.2.length - 1)) else fwN S.2.1 t (2 ^ S.2.1.2.2.2.length - 1)) else -1)
theorem ev_iron (a : pA) (h : f_ev a = false) : f_iron 0 a = false := by
  rcases a with s | ⟨r | i⟩
  · rfl
  · rfl
  · exact h
theorem c_leave {b : Bool} {C : pC} (hC : p_Lg b C) {d : Nat} {M : pM} {Q : pQ} {S : pS} {t x : Int32} (hd : 5 ≤ d) (hS : cS M S) (ok : okS S) (h : ∀ M', p_cl M M' → cS M' S → Q M' (some (vI (sp_leave S t x).2))) : C d k_X7_leave M [vR (aS 0), vI t, vI x] Q := by
  refine p_ent hC tb_X7_leave _ rfl rfl rfl (fun Z hZ => ?_)
  refine hZ _ _ _ _ (hZ _ _ _ _ (hZ _ _ _ _ ?_))
  show Z 5 _ _ _
  refine hZ _ _ _ _ ⟨d - 1, by omega, m_isTeller hC hS.2.1 ok.1 (fun k b1 b2 b3 => ?_) (fun b1 => ?_)⟩
  · skip
    refine hZ _ _ _ _ (br_f (by decide) ?_)
    refine hZ _ _ _ _ (hZ _ _ _ _ (hZ _ _ _ _ ?_))
    show Z 14 _ _ _
    refine hZ _ _ _ _ ⟨d - 1, by omega, m_within hC (fun c1 c2 => ?_) (fun c1 => ?_)⟩
    · skip
      refine hZ _ _ _ _ (p_tn (by decide) ?_)
      refine hZ _ _ _ _ (hZ _ _ _ _ ?_)
      show Z 24 _ _ _
      refine hZ _ _ _ _ ⟨d - 1, by omega, m_fewestLeft hC (by omega) hS.2.1 ok.1 (fun M1 g1 => ?_)⟩
      refine hZ _ _ _ _ (hZ _ _ _ _ ?_)
      show Z 29 _ _ _
      obtain ⟨k1, k2⟩ := cS_ev (g1.mono ev_iron) hS
      have := h M1 k1 k2
      simp only [sp_leave, b1, if_pos (And.intro c1 c2)] at this
      by_cases e : x = 0
      · refine hZ _ _ _ _ (p_fn (e) ?_)
        refine hZ _ _ _ _ ?_
        show Z 33 _ _ _
        refine hZ _ _ _ _ ⟨d - 1, by omega, m_bitCount hC ?_⟩
        refine hZ _ _ _ _ ?_
        show Z 40 _ _ _
        refine hZ _ _ _ _ ?_
        rw [if_pos e] at this
        exact this
      · skip
        refine hZ _ _ _ _ (p_tn (e) ?_)
        refine hZ _ _ _ _ ?_
        show Z 40 _ _ _
        refine hZ _ _ _ _ ?_
        rw [if_neg e] at this
        exact this
    · skip
      refine hZ _ _ _ _ (p_fn (rfl) ?_)
      refine hZ _ _ _ _ ?_
      show Z 21 _ _ _
      refine hZ _ _ _ _ ?_
      have := h M p_cl_rf hS
      simp only [sp_leave, b1, if_neg c1] at this
      exact this
  · skip
    refine hZ _ _ _ _ (br_t (rfl) ?_)
    refine hZ _ _ _ _ ?_
    show Z 21 _ _ _
    refine hZ _ _ _ _ ?_
    have := h M p_cl_rf hS
    simp only [sp_leave, b1] at this
    exact this
/-- all claims of t told by o -/
def hbR (ρ : pRm) (t o : Int32) : pRm := (ρ.1, ρ.2.1, ρ.2.2.1, ρ.2.2.2.map (fun x => if x.1 = t then (o, x.2) else x))
theorem okR_hb {ρ : pRm} {t o : Int32} {k : Nat} (ok : okR ρ) (eo : o = nI k) (hk : k < ρ.1.length) : okR (hbR ρ t o) := by
  refine ⟨ok.1, ok.2.1, by show (List.map _ _).length ≤ 7; rw [List.length_map]; exact ok.2.2.1, fun x hx => ?_, ok.2.2.2.2⟩
  obtain ⟨y, hy, e⟩ := List.mem_map.mp hx
  obtain ⟨t', f, e1, e2, e3, e4, e5⟩ := ok.2.2.2.1 y hy
  by_cases ey : y.1 = t
  · rw [if_pos ey] at e
    subst e
    exact ⟨k, f, eo, hk, e3, e4, e5⟩
  · rw [if_neg ey] at e
    subst e
    exact ⟨t', f, e1, e2, e3, e4, e5⟩
theorem sc_room1 {M M' : pM} (h : p_fr (f_room 1) M M') : p_fr f_sc M M' := h.mono sc_tr
theorem m_goneIfHeld {b : Bool} {C : pC} (hC : p_Lg b C) {d : Nat} {M : pM} {Q : pQ} {S : pS} {t o : Int32} {k : Nat} (hd : 4 ≤ d) (hS : cS M S) (ok : okS S) (eo : o = nI k) (hk : k < S.2.1.1.length) (h : ∀ M', p_fr f_sc M M' → Q M' (some (vI (bc (ev (hbR S.2.1 t o)).1.2.2.2)))) : C d k_X7_goneIfHeldBy M [vR (aS 0), vI t, vI o] Q := by
  have l3 := ok.1.2.2.1
  refine p_ent hC tb_X7_goneIfHeldBy _ rfl rfl rfl (fun Z hZ => ?_)
  refine hZ _ _ _ _ (hZ _ _ _ _ (hZ _ _ _ _ (hZ _ _ _ _ ?_)))
  show Z 8 _ _ _
  refine hZ _ _ _ _ ⟨d - 1, by omega, m_roomCopy hC (by omega) (by decide) hS.2.1 ok.1 (fun M1 g1 g2 => ?_)⟩
  refine hZ _ _ _ _ (hZ _ _ _ _ ?_)
  show Z 13 _ _ _
  obtain ⟨a1, a2, a3, a4, a5, a6⟩ := g2
  have loop : ∀ (n i : Nat) (M2 : pM), i + n = S.2.1.2.2.2.length → p_fr (f_cell (aR 1 3)) M1 M2 → (∀ c x, S.2.1.2.2.2[c]? = some x → M2.1 (aR 1 3) c = if c < i ∧ x.1 = t then o else x.1) → Z 13 [some (vR (aS 0)), some (vI t), some (vI o), some (vI (nI i))] [] M2 := by
    intro n
    induction n with
    | zero =>
      intro i M2 e1 f1 f2
      have : i = S.2.1.2.2.2.length := by omega
      subst this
      have R2 : cR M2 1 (hbR S.2.1 t o) := by
        refine ⟨by rw [f1.1 (aR 1 0) rfl]; exact a1, by rw [f1.1 (aR 1 0) rfl]; exact a2, ?_, by rw [f1.1 (aR 1 0) rfl]; exact a4, fun i x hx => by rw [f1.1 (aR 1 1) rfl, f1.1 (aR 1 2) rfl]; exact a5 i x hx, fun i x hx => ?_⟩
        · show _ = nI (List.map _ _).length
          rw [f1.1 (aR 1 0) rfl, List.length_map]
          exact a3
        · have hx : (List.map (fun x => if x.1 = t then (o, x.2) else x) S.2.1.2.2.2)[i]? = some x := hx
          rw [List.getElem?_map] at hx
          cases ey : S.2.1.2.2.2[i]? with
          | none => rw [ey] at hx; cases hx
          | some y =>
            rw [ey] at hx
            have hx : (if y.1 = t then (o, y.2) else y) = x := Option.some.inj hx
            obtain ⟨y1, y2, y3, y4⟩ := a6 i y ey
            have hi := (List.getElem?_eq_some_iff.mp ey).1
            rw [f2 i y ey, f1.1 (aR 1 4) rfl, f1.1 (aR 1 5) rfl, f1.1 (aR 1 6) rfl, y2, y3, y4]
            by_cases e9 : y.1 = t
            · rw [if_pos ⟨hi, e9⟩]
              rw [if_pos e9] at hx
              subst hx
              exact ⟨rfl, rfl, rfl, rfl⟩
            · rw [if_neg (fun q => e9 q.2)]
              rw [if_neg e9] at hx
              subst hx
              exact ⟨rfl, rfl, rfl, rfl⟩
      refine hZ _ _ _ _ (hZ _ _ _ _ (hZ _ _ _ _ (hZ _ _ _ _ ?_)))
      show Z 21 _ _ _
      refine hZ _ _ _ _ (br_t (by rw [f1.1 (aR 1 0) rfl, a3]; exact Int32.le_refl _) ?_)
      refine hZ _ _ _ _ (hZ _ _ _ _ (hZ _ _ _ _ (hZ _ _ _ _ ?_)))
      show Z 65 _ _ _
      refine hZ _ _ _ _ ⟨d - 1, by omega, m_hold hC (by omega) R2 (okR_hb ok.1 eo hk) (fun M3 g3 g4 => ?_)⟩
      refine hZ _ _ _ _ (hZ _ _ _ _ (hZ _ _ _ _ (hZ _ _ _ _ ?_)))
      show Z 78 _ _ _
      refine hZ _ _ _ _ ⟨d - 1, by omega, m_bitCount hC ?_⟩
      refine hZ _ _ _ _ ?_
      rw [show M3.1 (aI 0) 3 = (ev (hbR S.2.1 t o)).1.2.2.2 from congrArg (fun q : pI => q.2.2.2) g4.1]
      exact h M3 ((sc_room1 g1).tr ((sc_room1 (f1.mono f_cell_room)).tr (g3.mono sc_ev)))
    | succ n ih =>
      intro i M2 e1 f1 f2
      have hi : i < S.2.1.2.2.2.length := by omega
      have hx : S.2.1.2.2.2[i]? = some S.2.1.2.2.2[i] := List.getElem?_eq_getElem hi
      have fx := f2 i _ hx
      rw [if_neg (fun q => by omega)] at fx
      refine hZ _ _ _ _ (hZ _ _ _ _ (hZ _ _ _ _ (hZ _ _ _ _ ?_)))
      show Z 21 _ _ _
      refine hZ _ _ _ _ (br_f (by rw [f1.1 (aR 1 0) rfl, a3]; exact nI_ge hi (by omega)) ?_)
      refine hZ _ _ _ _ (hZ _ _ _ _ (hZ _ _ _ _ (hZ _ _ _ _ ?_)))
      show Z 32 _ _ _
      refine hZ _ _ _ _ ⟨d - 1, by omega, m_at hC i rfl (show i < 7 by omega) rfl ?_⟩
      rw [fx]
      refine hZ _ _ _ _ ?_
      show Z 36 _ _ _
      by_cases c1 : S.2.1.2.2.2[i].1 = t
      · refine hZ _ _ _ _ (p_fn (c1) ?_)
        refine hZ _ _ _ _ (hZ _ _ _ _ (hZ _ _ _ _ (hZ _ _ _ _ (hZ _ _ _ _ ?_))))
        show Z 48 _ _ _
        refine hZ _ _ _ _ ⟨d - 1, by omega, m_put hC i rfl (show i < 7 by omega) rfl ?_⟩
        refine hZ _ _ _ _ (hZ _ _ _ _ ?_)
        show Z 13 _ _ _
        rw [show nI i + 1 = nI (i + 1) from nI_1 i]
        refine ih (i + 1) _ (by omega) (p_fr_wr f1 (p_eq_rf _)) (fun c x hc => ?_)
        rw [p_wr_eq]
        by_cases e : c = i
        · subst e
          rw [hx] at hc
          cases hc
          simp [upd, c1]
        · simp only [upd, if_neg e]
          rw [f2 c x hc]
          by_cases e5 : c < i
          · simp only [e5, show c < i + 1 by omega]
          · simp only [e5, show ¬ c < i + 1 by omega]
      · skip
        refine hZ _ _ _ _ (p_tn (c1) ?_)
        refine hZ _ _ _ _ (hZ _ _ _ _ ?_)
        show Z 13 _ _ _
        rw [show nI i + 1 = nI (i + 1) from nI_1 i]
        refine ih (i + 1) _ (by omega) f1 (fun c x hc => ?_)
        rw [f2 c x hc]
        by_cases e : c = i
        · subst e
          rw [hx] at hc
          cases hc
          simp [c1]
        · by_cases e5 : c < i
          · simp only [e5, show c < i + 1 by omega]
          · simp only [e5, show ¬ c < i + 1 by omega]
  exact loop S.2.1.2.2.2.length 0 M1 (Nat.zero_add _) p_fr_rf (fun c x hc => by rw [if_neg (fun q => by omega)]; exact (a6 c x hc).1)
/-- who of the first n should hold for t, and how many let go then -/
def hdN (ρ : pRm) (t : Int32) : Nat → Int32 × Int32
  | 0 => (0, 6)
  | n + 1 => if bc (ev (hbR ρ t (nI n))).1.2.2.2 < (hdN ρ t n).2 then (nI n, bc (ev (hbR ρ t (nI n))).1.2.2.2) else hdN ρ t n
def sp_holds (S : pS) (t w : Int32) : pS × Int32 := (S, match ix t S.2.1.1.length with
  | none => -1
  | some _ => if 0 ≤ w ∧ w ≤ 1 then (if w = 0 then (hdN S.2.1 t S.2.1.1.length).1 else (hdN S.2.1 t S.2.1.1.length).2) else -1)
theorem c_holds {b : Bool} {C : pC} (hC : p_Lg b C) {d : Nat} {M : pM} {Q : pQ} {S : pS} {t x : Int32} (hd : 5 ≤ d) (hS : cS M S) (ok : okS S) (h : ∀ M', p_cl M M' → cS M' S → Q M' (some (vI (sp_holds S t x).2))) : C d k_X7_holds M [vR (aS 0), vI t, vI x] Q := by
  have l1 := ok.1.1
  refine p_ent hC tb_X7_holds _ rfl rfl rfl (fun Z hZ => ?_)
  refine hZ _ _ _ _ (hZ _ _ _ _ (hZ _ _ _ _ ?_))
  show Z 5 _ _ _
  refine hZ _ _ _ _ ⟨d - 1, by omega, m_isTeller hC hS.2.1 ok.1 (fun k b1 b2 b3 => ?_) (fun b1 => ?_)⟩
  · skip
    refine hZ _ _ _ _ (br_f (by decide) ?_)
    refine hZ _ _ _ _ (hZ _ _ _ _ (hZ _ _ _ _ ?_))
    show Z 14 _ _ _
    refine hZ _ _ _ _ ⟨d - 1, by omega, m_within hC (fun c1 c2 => ?_) (fun c1 => ?_)⟩
    · skip
      refine hZ _ _ _ _ (p_tn (by decide) ?_)
      refine hZ _ _ _ _ (hZ _ _ _ _ (hZ _ _ _ _ (hZ _ _ _ _ (hZ _ _ _ _ (hZ _ _ _ _ ?_)))))
      show Z 31 _ _ _
      have loop : ∀ (n i : Nat) (M2 : pM) (y : Option pV), i + n = S.2.1.1.length → p_fr f_sc M M2 → Z 31 [some (vR (aS 0)), some (vI t), some (vI x), some (vI (hdN S.2.1 t i).1), some (vI (hdN S.2.1 t i).2), some (vI (nI i)), y] [] M2 := by
        intro n
        induction n with
        | zero =>
          intro i M2 y e1 f1
          have : i = S.2.1.1.length := by omega
          subst this
          have hS2 := cS_sc f1 hS
          have := h M2 ((f1.q 99).cl cl_sc) hS2
          simp only [sp_holds, b1, if_pos (And.intro c1 c2)] at this
          refine hZ _ _ _ _ (hZ _ _ _ _ (hZ _ _ _ _ (hZ _ _ _ _ ?_)))
          show Z 40 _ _ _
          refine hZ _ _ _ _ (br_t (by rw [hS2.2.1.1]; exact Int32.le_refl _) ?_)
          refine hZ _ _ _ _ ?_
          show Z 73 _ _ _
          by_cases e : x = 0
          · refine hZ _ _ _ _ (p_fn (e) ?_)
            refine hZ _ _ _ _ (hZ _ _ _ _ ?_)
            show Z 82 _ _ _
            refine hZ _ _ _ _ ?_
            rw [if_pos e] at this
            exact this
          · skip
            refine hZ _ _ _ _ (p_tn (e) ?_)
            refine hZ _ _ _ _ ?_
            show Z 82 _ _ _
            refine hZ _ _ _ _ ?_
            rw [if_neg e] at this
            exact this
        | succ n ih =>
          intro i M2 y e1 f1
          have hi : i < S.2.1.1.length := by omega
          have hS2 := cS_sc f1 hS
          have step := fun M3 y f3 => ih (i + 1) M3 y (by omega) f3
          rw [← nI_1] at step
          refine hZ _ _ _ _ (hZ _ _ _ _ (hZ _ _ _ _ (hZ _ _ _ _ ?_)))
          show Z 40 _ _ _
          refine hZ _ _ _ _ (br_f (by rw [hS2.2.1.1]; exact nI_ge hi (by omega)) ?_)
          refine hZ _ _ _ _ (hZ _ _ _ _ (hZ _ _ _ _ ?_))
          show Z 47 _ _ _
          refine hZ _ _ _ _ ⟨d - 1, by omega, m_goneIfHeld hC (by omega) hS2 ok rfl hi (fun M3 g1 => ?_)⟩
          refine hZ _ _ _ _ (hZ _ _ _ _ (hZ _ _ _ _ ?_))
          show Z 56 _ _ _
          by_cases c3 : bc (ev (hbR S.2.1 t (nI i))).1.2.2.2 < (hdN S.2.1 t i).2
          · refine hZ _ _ _ _ (br_f (Int32.not_le.mpr c3) ?_)
            refine hZ _ _ _ _ (hZ _ _ _ _ (hZ _ _ _ _ (hZ _ _ _ _ (hZ _ _ _ _ (hZ _ _ _ _ ?_)))))
            show Z 31 _ _ _
            have e2 : hdN S.2.1 t (i + 1) = (nI i, bc (ev (hbR S.2.1 t (nI i))).1.2.2.2) := by simp only [hdN]; exact if_pos c3
            rw [e2] at step
            exact step M3 _ (f1.tr g1)
          · skip
            refine hZ _ _ _ _ (br_t (Int32.not_lt.mp c3) ?_)
            refine hZ _ _ _ _ (hZ _ _ _ _ ?_)
            show Z 31 _ _ _
            have e2 : hdN S.2.1 t (i + 1) = hdN S.2.1 t i := by simp only [hdN]; exact if_neg c3
            rw [e2] at step
            exact step M3 _ (f1.tr g1)
      exact loop S.2.1.1.length 0 M none (Nat.zero_add _) p_fr_rf
    · skip
      refine hZ _ _ _ _ (p_fn (rfl) ?_)
      refine hZ _ _ _ _ ?_
      show Z 21 _ _ _
      refine hZ _ _ _ _ ?_
      have := h M p_cl_rf hS
      simp only [sp_holds, b1, if_neg c1] at this
      exact this
  · skip
    refine hZ _ _ _ _ (br_t (rfl) ?_)
    refine hZ _ _ _ _ ?_
    show Z 21 _ _ _
    refine hZ _ _ _ _ ?_
    have := h M p_cl_rf hS
    simp only [sp_holds, b1] at this
    exact this
