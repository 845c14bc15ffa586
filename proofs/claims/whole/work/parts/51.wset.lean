/-! sets of worlds: what their bits say -/
theorem i64_c : ∀ i : Fin 64, (((nI i.val).toInt64 &&& 63).toBitVec.smod 64#64).toNat = i.val := by decide +kernel
theorem i64_s : ∀ i n : Fin 64, ((1 : Int64) <<< ((nI n.val).toInt64 &&& 63)).toBitVec.getLsbD i.val = decide (i = n) := by decide +kernel
theorem i64_1 (y : Int64) : (y &&& 1 = 1) ↔ y.toBitVec.getLsbD 0 = true := by
  have q : (y &&& 1).toBitVec = y.toBitVec &&& 1#64 := rfl
  rw [← Int64.toBitVec_inj, q, BitVec.and_one_eq_setWidth_ofBool_getLsbD]
  cases y.toBitVec.getLsbD 0 <;> decide
theorem inB_bit (F : Int64) {i : Nat} (hi : i < 64) : inB F i = F.toBitVec.getLsbD i := by
  have c := i64_c ⟨i, hi⟩
  simp only at c
  have q : (F >>> ((nI i).toInt64 &&& 63)).toBitVec = F.toBitVec.sshiftRight (((nI i).toInt64 &&& 63).toBitVec.smod 64#64).toNat := rfl
  have e : (F >>> ((nI i).toInt64 &&& 63)).toBitVec.getLsbD 0 = F.toBitVec.getLsbD i := by
    rw [q, c, BitVec.getLsbD_sshiftRight]
    simp [hi]
  unfold inB
  by_cases z : F.toBitVec.getLsbD i = true
  · rw [z]
    exact decide_eq_true ((i64_1 _).mpr (e.trans z))
  · rw [Bool.eq_false_iff.mpr z]
    exact decide_eq_false (fun w => z (e ▸ (i64_1 _).mp w))
theorem fw_bit (ρ : pRm) (V : pSn) : ∀ n, n ≤ 64 → ∀ i, i < 64 → (fwW ρ V n).toBitVec.getLsbD i = (decide (i < n) && fit (wR ρ i) V) := by
  intro n
  induction n with
  | zero =>
    intro _ i _
    show (0#64).getLsbD i = _
    simp
  | succ n ih =>
    intro h i hi
    have ih := ih (by omega) i hi
    simp only [fwW]
    cases z : fit (wR ρ n) V with
    | false =>
      rw [if_neg (by decide), ih]
      by_cases e : i = n
      · rw [e, z]; simp
      · have : (i < n + 1) ↔ i < n := by omega
        simp [this]
    | true =>
      rw [if_pos rfl]
      have s := i64_s ⟨i, hi⟩ ⟨n, by omega⟩
      simp only [Fin.mk.injEq] at s
      have q : (fwW ρ V n ||| ((1 : Int64) <<< ((nI n).toInt64 &&& 63))).toBitVec = (fwW ρ V n).toBitVec ||| ((1 : Int64) <<< ((nI n).toInt64 &&& 63)).toBitVec := rfl
      rw [q, BitVec.getLsbD_or, s, ih]
      by_cases e : i = n
      · rw [e, z]; simp
      · have : (i < n + 1) ↔ i < n := by omega
        simp [this, e]
/-- how many below n -/
def cn (f : Nat → Bool) : Nat → Nat
  | 0 => 0
  | n + 1 => if f n = true then cn f n + 1 else cn f n
theorem cn_le (f : Nat → Bool) : ∀ n, cn f n ≤ n := by
  intro n
  induction n with
  | zero => exact Nat.le_refl _
  | succ n ih =>
    simp only [cn]
    split <;> omega
theorem cb_bit (x : BitVec 64) (f : Nat → Bool) : ∀ n, n ≤ 64 → (∀ i, i < n → x.getLsbD i = f i) → cb x.toNat n = cn f n := by
  intro n
  induction n with
  | zero => intro _ _; rfl
  | succ n ih =>
    intro h hf
    have ih := ih (by omega) (fun i hi => hf i (by omega))
    have e : x.toNat / 2 ^ n % 2 = if f n = true then 1 else 0 := by
      have z := hf n (by omega)
      rw [BitVec.getLsbD, Nat.testBit_eq_decide_div_mod_eq] at z
      have two : x.toNat / 2 ^ n % 2 < 2 := Nat.mod_lt _ (by decide)
      by_cases q : f n = true
      · rw [if_pos q]
        rw [q] at z
        exact of_decide_eq_true z
      · rw [if_neg q]
        rw [Bool.eq_false_iff.mpr q] at z
        have := of_decide_eq_false z
        omega
    simp only [cb, cn, ih, e]
    split <;> rfl
theorem cn_cg {f g : Nat → Bool} : ∀ n, (∀ i, i < n → f i = g i) → cn f n = cn g n := by
  intro n
  induction n with
  | zero => intro _; rfl
  | succ n ih => intro h; simp only [cn, ih (fun i hi => h i (by omega)), h n (Nat.lt_succ_self n)]
theorem cn_up {f : Nat → Bool} {n : Nat} : ∀ m, (∀ i, n ≤ i → f i = false) → cn f (n + m) = cn f n := by
  intro m
  induction m with
  | zero => intro _; rfl
  | succ m ih =>
    intro h
    have e : cn f (n + (m + 1)) = cn f (n + m) := if_neg (fun q => by
      have w := h (n + m) (by omega)
      exact absurd (w.symm.trans q) (by decide))
    rw [e]
    exact ih h
/-- the count of worlds that fit -/
theorem bc_fw (ρ : pRm) (V : pSn) {n : Nat} (hn : n ≤ 64) : bcL (fwW ρ V n) = nI (cn (fun i => fit (wR ρ i) V) n) := by
  rw [bcL_cb, cb_bit _ (fun i => decide (i < n) && fit (wR ρ i) V) 64 (Nat.le_refl _) (fun i hi => fw_bit ρ V n hn i hi)]
  have e : 64 = n + (64 - n) := by omega
  rw [e, cn_up (64 - n) (fun i hi => by simp [Nat.not_lt.mpr hi])]
  rw [cn_cg n (g := fun i => fit (wR ρ i) V) (fun i hi => by simp [hi])]
theorem in_fw (ρ : pRm) (V : pSn) {n i : Nat} (hn : n ≤ 64) (hi : i < n) : inB (fwW ρ V n) i = fit (wR ρ i) V := by
  rw [inB_bit _ (by omega), fw_bit ρ V n hn i (by omega)]
  simp [hi]
theorem fw_0 (ρ : pRm) (V : pSn) : ∀ n, cn (fun i => fit (wR ρ i) V) n = 0 → fwW ρ V n = 0 := by
  intro n
  induction n with
  | zero => intro _; rfl
  | succ n ih =>
    intro h
    simp only [cn] at h
    simp only [fwW]
    by_cases z : fit (wR ρ n) V = true
    · rw [if_pos z] at h
      omega
    · rw [if_neg z] at h ⊢
      exact ih h
theorem fw_n0 (ρ : pRm) (V : pSn) {n : Nat} (hn : n ≤ 64) (h : fwW ρ V n = 0) : cn (fun i => fit (wR ρ i) V) n = 0 := by
  have c := bc_fw ρ V hn
  have l := cn_le (fun i => fit (wR ρ i) V) n
  rw [h] at c
  have c0 : bcL 0 = nI 0 := by decide
  rw [c0] at c
  exact ((nI_eq (by omega) (by omega)).mp c).symm
