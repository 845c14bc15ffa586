/-! how many bits of 64; sets of worlds as 64 bits -/
def dg (f : Nat → Nat) : Nat → Nat → Nat
  | 0, _ => 0
  | k + 1, N => 256 * dg f k (N / 256) + f (N % 256)
def ms (c : Nat) : Nat → Nat
  | 0 => 0
  | k + 1 => 256 * ms c k + c
theorem and_sp {h l mh ml : Nat} (hl : l < 256) (hm : ml < 256) : (256 * h + l) &&& (256 * mh + ml) = 256 * (h &&& mh) + (l &&& ml) := by
  apply Nat.eq_of_testBit_eq
  intro i
  have q : l &&& ml < 2 ^ 8 := Nat.and_lt_two_pow _ (show ml < 2 ^ 8 from hm)
  rw [Nat.testBit_and, show 256 = 2 ^ 8 from rfl, Nat.testBit_two_pow_mul_add h (show l < 2 ^ 8 from hl), Nat.testBit_two_pow_mul_add mh (show ml < 2 ^ 8 from hm), Nat.testBit_two_pow_mul_add _ q]
  by_cases e : i < 8
  · simp only [if_pos e, Nat.testBit_and]
  · simp only [if_neg e, Nat.testBit_and]
theorem k55 : ∀ (l : Fin 256) (c : Fin 2), (128 * c.val + l.val / 2) &&& 85 = (l.val / 2) &&& 85 := by decide +kernel
theorem k33 : ∀ (l : Fin 256) (c : Fin 4), (64 * c.val + l.val / 4) &&& 51 = (l.val / 4) &&& 51 := by decide +kernel
theorem d55 : ∀ (k N : Nat), (N / 2) &&& ms 85 k = dg (fun b => (b / 2) &&& 85) k N := by
  intro k
  induction k with
  | zero => intro N; exact Nat.and_zero _
  | succ k ih =>
    intro N
    have e : N / 2 = 256 * (N / 256 / 2) + (128 * (N / 256 % 2) + N % 256 / 2) := by omega
    rw [e]
    show _ &&& (256 * ms 85 k + 85) = _
    rw [and_sp (by omega) (by decide), ih (N / 256)]
    have := k55 ⟨N % 256, by omega⟩ ⟨N / 256 % 2, by omega⟩
    simp only at this
    rw [this]
    rfl
theorem d33 : ∀ (k N : Nat), (N / 4) &&& ms 51 k = dg (fun b => (b / 4) &&& 51) k N := by
  intro k
  induction k with
  | zero => intro N; exact Nat.and_zero _
  | succ k ih =>
    intro N
    have e : N / 4 = 256 * (N / 256 / 4) + (64 * (N / 256 % 4) + N % 256 / 4) := by omega
    rw [e]
    show _ &&& (256 * ms 51 k + 51) = _
    rw [and_sp (by omega) (by decide), ih (N / 256)]
    have := k33 ⟨N % 256, by omega⟩ ⟨N / 256 % 4, by omega⟩
    simp only at this
    rw [this]
    rfl
theorem d33' : ∀ (k N : Nat), N &&& ms 51 k = dg (fun b => b &&& 51) k N := by
  intro k
  induction k with
  | zero => intro N; exact Nat.and_zero _
  | succ k ih =>
    intro N
    have e : N = 256 * (N / 256) + N % 256 := by omega
    have q : N &&& ms 51 (k + 1) = (256 * (N / 256) + N % 256) &&& (256 * ms 51 k + 51) := by rw [← e]; rfl
    rw [q, and_sp (by omega) (by decide), ih (N / 256)]
    rfl
theorem dg_id : ∀ (k N : Nat), N < 256 ^ k → dg (fun b => b) k N = N := by
  intro k
  induction k with
  | zero => intro N h; simp only [Nat.pow_zero] at h; simp only [dg]; omega
  | succ k ih =>
    intro N h
    have : N / 256 < 256 ^ k := Nat.div_lt_of_lt_mul (by rw [Nat.pow_succ, Nat.mul_comm] at h; exact h)
    simp only [dg, ih _ this]
    omega
theorem dg_le {f g : Nat → Nat} (h : ∀ b, b < 256 → g b ≤ f b) : ∀ (k N : Nat), dg g k N ≤ dg f k N := by
  intro k
  induction k with
  | zero => intro N; exact Nat.le_refl _
  | succ k ih =>
    intro N
    have := ih (N / 256)
    have := h (N % 256) (by omega)
    simp only [dg]
    omega
theorem dg_sub {f g : Nat → Nat} (h : ∀ b, b < 256 → g b ≤ f b) : ∀ (k N : Nat), dg f k N - dg g k N = dg (fun b => f b - g b) k N := by
  intro k
  induction k with
  | zero => intro N; rfl
  | succ k ih =>
    intro N
    have a := ih (N / 256)
    have b := h (N % 256) (by omega)
    have c := dg_le h k (N / 256)
    simp only [dg]
    omega
theorem dg_add {f g : Nat → Nat} : ∀ (k N : Nat), dg f k N + dg g k N = dg (fun b => f b + g b) k N := by
  intro k
  induction k with
  | zero => intro N; rfl
  | succ k ih =>
    intro N
    have a := ih (N / 256)
    simp only [dg]
    omega
theorem dg_c {f g : Nat → Nat} (h : ∀ b, b < 256 → f b < 256) : ∀ (k N : Nat), dg g k (dg f k N) = dg (fun b => g (f b)) k N := by
  intro k
  induction k with
  | zero => intro N; rfl
  | succ k ih =>
    intro N
    have a := ih (N / 256)
    have b := h (N % 256) (by omega)
    have e1 : (256 * dg f k (N / 256) + f (N % 256)) / 256 = dg f k (N / 256) := by omega
    have e2 : (256 * dg f k (N / 256) + f (N % 256)) % 256 = f (N % 256) := by omega
    simp only [dg, e1, e2, a]
theorem dg_cg {f g : Nat → Nat} (h : ∀ b, b < 256 → f b = g b) : ∀ (k N : Nat), dg f k N = dg g k N := by
  intro k
  induction k with
  | zero => intro N; rfl
  | succ k ih =>
    intro N
    have a := ih (N / 256)
    have b := h (N % 256) (by omega)
    simp only [dg, a, b]
theorem dg_0f {g : Nat → Nat} (h : ∀ b, b < 256 → g b % 16 ≤ 4 ∧ g b / 16 ≤ 4) : ∀ (k N : Nat), (dg g k N + dg g k N / 16) &&& ms 15 k = dg (fun b => g b % 16 + g b / 16) k N := by
  intro k
  induction k with
  | zero => intro N; exact Nat.and_zero _
  | succ k ih =>
    intro N
    have a := ih (N / 256)
    have b := h (N % 256) (by omega)
    have hH : dg g k (N / 256) % 16 ≤ 4 := by
      cases k with
      | zero => simp [dg]
      | succ k =>
        have := h (N / 256 % 256) (by omega)
        simp only [dg]
        omega
    have e : dg g (k + 1) N + dg g (k + 1) N / 16 = 256 * (dg g k (N / 256) + dg g k (N / 256) / 16) + (16 * (dg g k (N / 256) % 16) + g (N % 256) + g (N % 256) / 16) := by
      simp only [dg]
      omega
    rw [e]
    show _ &&& (256 * ms 15 k + 15) = _
    rw [and_sp (by omega) (by decide), a, show (15 : Nat) = 2 ^ 4 - 1 from rfl, Nat.and_two_pow_sub_one_eq_mod]
    simp only [dg]
    omega
def g1 (b : Nat) : Nat := b - ((b / 2) &&& 85)
def g2 (b : Nat) : Nat := (g1 b &&& 51) + ((g1 b / 4) &&& 51)
def cb (N : Nat) : Nat → Nat
  | 0 => 0
  | n + 1 => cb N n + N / 2 ^ n % 2
theorem g_all : ∀ b : Fin 256, ((b.val / 2) &&& 85 ≤ b.val ∧ g1 b.val < 256) ∧ (g2 b.val % 16 ≤ 4 ∧ g2 b.val / 16 ≤ 4) ∧ g2 b.val % 16 + g2 b.val / 16 = cb b.val 8 := by decide +kernel
theorem pop_nat {N : Nat} (hN : N < 2 ^ 64) : ((N - ((N / 2) &&& 6148914691236517205)) &&& 3689348814741910323) + (((N - ((N / 2) &&& 6148914691236517205)) / 4) &&& 3689348814741910323) = dg g2 8 N := by
  have a1 : ∀ b, b < 256 → (b / 2) &&& 85 ≤ b := fun b hb => (g_all ⟨b, hb⟩).1.1
  have a2 : ∀ b, b < 256 → g1 b < 256 := fun b hb => (g_all ⟨b, hb⟩).1.2
  have e1 : N - ((N / 2) &&& 6148914691236517205) = dg g1 8 N := by
    have := d55 8 N
    have m : ms 85 8 = 6148914691236517205 := rfl
    rw [m] at this
    rw [this]
    have i := dg_id 8 N (by simpa using hN)
    have s := dg_sub (f := fun b => b) (g := fun b => (b / 2) &&& 85) a1 8 N
    rw [i] at s
    exact s
  rw [e1]
  have m : ms 51 8 = 3689348814741910323 := rfl
  have b1 := d33 8 (dg g1 8 N)
  have b2 := d33' 8 (dg g1 8 N)
  rw [m] at b1 b2
  rw [b1, b2, dg_c a2, dg_c a2, dg_add]
  rfl
theorem cb_8 (N : Nat) : cb N 8 = cb (N % 256) 8 := by
  simp only [cb]
  omega
theorem cb_add (N m : Nat) : cb N (8 + m) = cb (N % 256) 8 + cb (N / 256) m := by
  induction m with
  | zero => exact cb_8 N
  | succ m ih =>
    show cb N (8 + m) + N / 2 ^ (8 + m) % 2 = cb (N % 256) 8 + (cb (N / 256) m + N / 256 / 2 ^ m % 2)
    rw [ih, Nat.pow_add, ← Nat.div_div_eq_div_mul, show (2 : Nat) ^ 8 = 256 from rfl]
    omega
theorem cb_le : ∀ b : Fin 256, cb b.val 8 ≤ 8 := by decide +kernel
theorem pop_sum {N : Nat} : ∃ p0 p1 p2 p3 p4 p5 p6 p7 : Nat, p0 ≤ 8 ∧ p1 ≤ 8 ∧ p2 ≤ 8 ∧ p3 ≤ 8 ∧ p4 ≤ 8 ∧ p5 ≤ 8 ∧ p6 ≤ 8 ∧ p7 ≤ 8 ∧ dg (fun b => cb b 8) 8 N = p0 + 256 * (p1 + 256 * (p2 + 256 * (p3 + 256 * (p4 + 256 * (p5 + 256 * (p6 + 256 * p7)))))) ∧ cb N 64 = p0 + p1 + p2 + p3 + p4 + p5 + p6 + p7 := by
  have c : ∀ b, b < 256 → cb b 8 ≤ 8 := fun b hb => cb_le ⟨b, hb⟩
  refine ⟨_, _, _, _, _, _, _, _, c (N % 256) (by omega), c (N / 256 % 256) (by omega), c (N / 256 / 256 % 256) (by omega), c (N / 256 / 256 / 256 % 256) (by omega), c (N / 256 / 256 / 256 / 256 % 256) (by omega), c (N / 256 / 256 / 256 / 256 / 256 % 256) (by omega), c (N / 256 / 256 / 256 / 256 / 256 / 256 % 256) (by omega), c (N / 256 / 256 / 256 / 256 / 256 / 256 / 256 % 256) (by omega), ?_, ?_⟩
  · simp only [dg]
    omega
  · rw [show 64 = 8 + (8 + (8 + (8 + (8 + (8 + (8 + (8 + 0))))))) from rfl, cb_add, cb_add, cb_add, cb_add, cb_add, cb_add, cb_add, cb_add]
    simp only [show ∀ n, cb n 0 = 0 from fun _ => rfl]
    omega
theorem ul_1 (x : Int64) : (ulS x 1).toBitVec = x.toBitVec >>> (1 : Nat) := rfl
theorem ul_2 (x : Int64) : (ulS x 2).toBitVec = x.toBitVec >>> (2 : Nat) := rfl
theorem ul_4 (x : Int64) : (ulS x 4).toBitVec = x.toBitVec >>> (4 : Nat) := rfl
theorem ul_8 (x : Int64) : (ulS x 8).toBitVec = x.toBitVec >>> (8 : Nat) := rfl
theorem ul_16 (x : Int64) : (ulS x 16).toBitVec = x.toBitVec >>> (16 : Nat) := rfl
theorem ul_32 (x : Int64) : (ulS x 32).toBitVec = x.toBitVec >>> (32 : Nat) := rfl
theorem d_dv (a B : Nat) (ha : a < 256) : (a + 256 * B) / 256 = B := by omega
theorem d_dd (a1 B1 a2 B2 : Nat) : (a1 + 256 * B1) + (a2 + 256 * B2) = (a1 + a2) + 256 * (B1 + B2) := by omega
theorem d_dl (a B b : Nat) : a + 256 * B + b = (a + b) + 256 * B := by omega
theorem d_ub {a B K : Nat} (h1 : a ≤ 64) (h2 : B ≤ 64 * K) : a + 256 * B ≤ 64 * (1 + 256 * K) := by omega
theorem d_B8 {q0 q1 q2 q3 q4 q5 q6 q7 : Nat} (h0 : q0 ≤ 64) (h1 : q1 ≤ 64) (h2 : q2 ≤ 64) (h3 : q3 ≤ 64) (h4 : q4 ≤ 64) (h5 : q5 ≤ 64) (h6 : q6 ≤ 64) (h7 : q7 ≤ 64) : (q0 + 256 * (q1 + 256 * (q2 + 256 * (q3 + 256 * (q4 + 256 * (q5 + 256 * (q6 + 256 * q7))))))) % 2 ^ 64 = q0 + 256 * (q1 + 256 * (q2 + 256 * (q3 + 256 * (q4 + 256 * (q5 + 256 * (q6 + 256 * q7)))))) :=
  Nat.mod_eq_of_lt (Nat.lt_of_le_of_lt (d_ub h0 (d_ub h1 (d_ub h2 (d_ub h3 (d_ub h4 (d_ub h5 (d_ub (K := 1) h6 (by rw [Nat.mul_one]; exact h7)))))))) (by decide))
theorem pop_4 {p0 p1 p2 p3 p4 p5 p6 p7 : Nat} (c0 : p0 ≤ 8) (c1 : p1 ≤ 8) (c2 : p2 ≤ 8) (c3 : p3 ≤ 8) (c4 : p4 ≤ 8) (c5 : p5 ≤ 8) (c6 : p6 ≤ 8) (c7 : p7 ≤ 8) : (p0 + 256 * (p1 + 256 * (p2 + 256 * (p3 + 256 * (p4 + 256 * (p5 + 256 * (p6 + 256 * p7)))))) + (p0 + 256 * (p1 + 256 * (p2 + 256 * (p3 + 256 * (p4 + 256 * (p5 + 256 * (p6 + 256 * p7))))))) / 2 ^ 8) % 2 ^ 64 = (p0 + p1) + 256 * ((p1 + p2) + 256 * ((p2 + p3) + 256 * ((p3 + p4) + 256 * ((p4 + p5) + 256 * ((p5 + p6) + 256 * ((p6 + p7) + 256 * p7)))))) := by
  have h0 : p0 < 256 := by omega
  have k0 : p0 + p1 ≤ 64 := by omega
  have k1 : p1 + p2 ≤ 64 := by omega
  have k2 : p2 + p3 ≤ 64 := by omega
  have k3 : p3 + p4 ≤ 64 := by omega
  have k4 : p4 + p5 ≤ 64 := by omega
  have k5 : p5 + p6 ≤ 64 := by omega
  have k6 : p6 + p7 ≤ 64 := by omega
  have k7 : p7 ≤ 64 := by omega
  rw [show (2 : Nat) ^ 8 = 256 from rfl, d_dv _ _ h0, d_dd, d_dd, d_dd, d_dd, d_dd, d_dd, d_dl p6 p7 p7]
  exact d_B8 k0 k1 k2 k3 k4 k5 k6 k7
theorem pop_16 {q0 q1 q2 q3 q4 q5 q6 q7 : Nat} (c0 : q0 ≤ 16) (c1 : q1 ≤ 16) (c2 : q2 ≤ 16) (c3 : q3 ≤ 16) (c4 : q4 ≤ 16) (c5 : q5 ≤ 16) (c6 : q6 ≤ 16) (c7 : q7 ≤ 16) : (q0 + 256 * (q1 + 256 * (q2 + 256 * (q3 + 256 * (q4 + 256 * (q5 + 256 * (q6 + 256 * q7)))))) + (q0 + 256 * (q1 + 256 * (q2 + 256 * (q3 + 256 * (q4 + 256 * (q5 + 256 * (q6 + 256 * q7))))))) / 2 ^ 16) % 2 ^ 64 = (q0 + q2) + 256 * ((q1 + q3) + 256 * ((q2 + q4) + 256 * ((q3 + q5) + 256 * ((q4 + q6) + 256 * ((q5 + q7) + 256 * (q6 + 256 * q7)))))) := by
  have h0 : q0 < 256 := by omega
  have h1 : q1 < 256 := by omega
  have k0 : q0 + q2 ≤ 64 := by omega
  have k1 : q1 + q3 ≤ 64 := by omega
  have k2 : q2 + q4 ≤ 64 := by omega
  have k3 : q3 + q5 ≤ 64 := by omega
  have k4 : q4 + q6 ≤ 64 := by omega
  have k5 : q5 + q7 ≤ 64 := by omega
  have k6 : q6 ≤ 64 := by omega
  have k7 : q7 ≤ 64 := by omega
  rw [show (2 : Nat) ^ 16 = 256 * 256 from rfl, ← Nat.div_div_eq_div_mul, d_dv _ _ h0, d_dv _ _ h1, d_dd, d_dd, d_dd, d_dd, d_dd, d_dl q5 _ q7]
  exact d_B8 k0 k1 k2 k3 k4 k5 k6 k7
theorem pop_32 {q0 q1 q2 q3 q4 q5 q6 q7 : Nat} (c0 : q0 ≤ 32) (c1 : q1 ≤ 32) (c2 : q2 ≤ 32) (c3 : q3 ≤ 32) (c4 : q4 ≤ 32) (c5 : q5 ≤ 32) (c6 : q6 ≤ 32) (c7 : q7 ≤ 32) : (q0 + 256 * (q1 + 256 * (q2 + 256 * (q3 + 256 * (q4 + 256 * (q5 + 256 * (q6 + 256 * q7)))))) + (q0 + 256 * (q1 + 256 * (q2 + 256 * (q3 + 256 * (q4 + 256 * (q5 + 256 * (q6 + 256 * q7))))))) / 2 ^ 32) % 2 ^ 64 % 128 = q0 + q4 := by
  have h0 : q0 < 256 := by omega
  have h1 : q1 < 256 := by omega
  have h2 : q2 < 256 := by omega
  have h3 : q3 < 256 := by omega
  have k0 : q0 + q4 ≤ 64 := by omega
  have k1 : q1 + q5 ≤ 64 := by omega
  have k2 : q2 + q6 ≤ 64 := by omega
  have k3 : q3 + q7 ≤ 64 := by omega
  have k4 : q4 ≤ 64 := by omega
  have k5 : q5 ≤ 64 := by omega
  have k6 : q6 ≤ 64 := by omega
  have k7 : q7 ≤ 64 := by omega
  rw [show (2 : Nat) ^ 32 = 256 * 256 * 256 * 256 from rfl, ← Nat.div_div_eq_div_mul, ← Nat.div_div_eq_div_mul, ← Nat.div_div_eq_div_mul, d_dv _ _ h0, d_dv _ _ h1, d_dv _ _ h2, d_dv _ _ h3, d_dd, d_dd, d_dd, d_dl q3 _ q7, d_B8 k0 k1 k2 k3 k4 k5 k6 k7]
  generalize q1 + q5 + 256 * _ = R
  omega
theorem bcL_cb (x : Int64) : bcL x = nI (cb x.toBitVec.toNat 64) := by
  have hN : x.toBitVec.toNat < 2 ^ 64 := x.toBitVec.isLt
  generalize hx : x.toBitVec.toNat = N at hN
  have e1 : (bl1 x).toBitVec.toNat = N - ((N / 2) &&& 6148914691236517205) := by
    have q : (bl1 x).toBitVec = x.toBitVec - (x.toBitVec >>> (1 : Nat) &&& 6148914691236517205#64) := rfl
    have le : (N / 2) &&& 6148914691236517205 ≤ N := Nat.le_trans Nat.and_le_left (Nat.div_le_self _ _)
    rw [q, BitVec.toNat_sub, BitVec.toNat_and, BitVec.toNat_ushiftRight, hx, Nat.shiftRight_eq_div_pow]
    show (2 ^ 64 - (N / 2 &&& 6148914691236517205) + N) % 2 ^ 64 = _
    generalize N / 2 &&& 6148914691236517205 = y at le
    omega
  have p1 := pop_nat hN
  generalize N - ((N / 2) &&& 6148914691236517205) = N1 at e1 p1
  have q1 : ∀ b, b < 256 → g2 b % 16 ≤ 4 ∧ g2 b / 16 ≤ 4 := fun b hb => (g_all ⟨b, hb⟩).2.1
  have q2 := dg_0f q1 8 N
  have q3 : dg (fun b => g2 b % 16 + g2 b / 16) 8 N = dg (fun b => cb b 8) 8 N := dg_cg (fun b hb => (g_all ⟨b, hb⟩).2.2) 8 N
  rw [q3] at q2
  have m : ms 15 8 = 1085102592571150095 := rfl
  rw [m] at q2
  have lt2 : dg g2 8 N < 2 ^ 63 := by
    have c : ∀ b, b < 256 → g2 b ≤ 68 := fun b hb => by have := q1 b hb; omega
    have := c (N % 256) (by omega)
    have := c (N / 256 % 256) (by omega)
    have := c (N / 256 / 256 % 256) (by omega)
    have := c (N / 256 / 256 / 256 % 256) (by omega)
    have := c (N / 256 / 256 / 256 / 256 % 256) (by omega)
    have := c (N / 256 / 256 / 256 / 256 / 256 % 256) (by omega)
    have := c (N / 256 / 256 / 256 / 256 / 256 / 256 % 256) (by omega)
    have := c (N / 256 / 256 / 256 / 256 / 256 / 256 / 256 % 256) (by omega)
    simp only [dg]
    omega
  have e2 : (bl2 (bl1 x)).toBitVec.toNat = dg g2 8 N := by
    have q : (bl2 (bl1 x)).toBitVec = ((bl1 x).toBitVec &&& 3689348814741910323#64) + ((bl1 x).toBitVec >>> (2 : Nat) &&& 3689348814741910323#64) := rfl
    rw [q, BitVec.toNat_add, BitVec.toNat_and, BitVec.toNat_and, BitVec.toNat_ushiftRight, e1, Nat.shiftRight_eq_div_pow]
    show ((N1 &&& 3689348814741910323) + (N1 / 4 &&& 3689348814741910323)) % 2 ^ 64 = _
    rw [p1]
    omega
  have e3 : (bl3 (bl2 (bl1 x))).toBitVec.toNat = dg (fun b => cb b 8) 8 N := by
    have q : (bl3 (bl2 (bl1 x))).toBitVec = ((bl2 (bl1 x)).toBitVec + (bl2 (bl1 x)).toBitVec >>> (4 : Nat)) &&& 1085102592571150095#64 := rfl
    rw [q, BitVec.toNat_and, BitVec.toNat_add, BitVec.toNat_ushiftRight, e2, Nat.shiftRight_eq_div_pow]
    show (dg g2 8 N + dg g2 8 N / 16) % 2 ^ 64 &&& 1085102592571150095 = _
    rw [Nat.mod_eq_of_lt (by omega), q2]
  have sh : ∀ (y : Int64) (k : Nat), (y.toBitVec + y.toBitVec >>> k).toNat = (y.toBitVec.toNat + y.toBitVec.toNat / 2 ^ k) % 2 ^ 64 := fun y k => by rw [BitVec.toNat_add, BitVec.toNat_ushiftRight, Nat.shiftRight_eq_div_pow]
  have e4 : (bl4 (bl3 (bl2 (bl1 x)))).toBitVec.toNat = _ := sh (bl3 (bl2 (bl1 x))) 8
  have e5 : (bl5 (bl4 (bl3 (bl2 (bl1 x))))).toBitVec.toNat = _ := sh (bl4 (bl3 (bl2 (bl1 x)))) 16
  have e6 : (bl6 (bl5 (bl4 (bl3 (bl2 (bl1 x)))))).toBitVec.toNat = _ := sh (bl5 (bl4 (bl3 (bl2 (bl1 x))))) 32
  obtain ⟨p0, p1, p2, p3, p4, p5, p6, p7, c0, c1, c2, c3, c4, c5, c6, c7, d1, d2⟩ := pop_sum (N := N)
  have r6 : (bl6 (bl5 (bl4 (bl3 (bl2 (bl1 x)))))).toBitVec.toNat % 128 = cb N 64 := by
    rw [e6, e5, e4, e3, d1, d2]
    clear e1 e2 e3 e4 e5 e6 d1 d2 sh lt2 q2 q1 m hN hx q3
    rw [pop_4 c0 c1 c2 c3 c4 c5 c6 c7, pop_16 (by omega) (by omega) (by omega) (by omega) (by omega) (by omega) (by omega) (by omega), pop_32 (by omega) (by omega) (by omega) (by omega) (by omega) (by omega) (by omega) (by omega)]
    omega
  have lt : cb N 64 ≤ 64 := by
    rw [d2]
    clear e1 e2 e3 e4 e5 e6 d1 d2 sh lt2 q2 q1 m hN hx q3 r6
    omega
  clear e1 e2 e3 e4 e5 e6 d1 sh lt2 q2 q1 m q3 d2
  have fin : (bcL x).toBitVec.toNat = cb N 64 := by
    have q : (bcL x).toBitVec = (bl6 (bl5 (bl4 (bl3 (bl2 (bl1 x)))))).toBitVec.signExtend 32 &&& 127#32 := rfl
    rw [q, BitVec.toNat_and, BitVec.signExtend_eq_setWidth_of_le _ (by decide), BitVec.toNat_setWidth]
    show _ &&& 2 ^ 7 - 1 = _
    rw [Nat.and_two_pow_sub_one_eq_mod, ← r6]
    generalize (bl6 (bl5 (bl4 (bl3 (bl2 (bl1 x)))))).toBitVec.toNat = Y
    omega
  apply Int32.toBitVec_inj.mp
  apply BitVec.eq_of_toNat_eq
  rw [fin]
  show _ = (BitVec.ofNat 32 (cb N 64)).toNat
  rw [BitVec.toNat_ofNat]
  omega
