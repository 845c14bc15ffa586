/-! the model: likely -/
theorem gd_gcd : ∀ (k fuel a b : Nat), b < 2 ^ k → 2 * k + 1 ≤ fuel → a < 2 ^ 31 → b < 2 ^ 31 → gd fuel (nI a) (nI b) = nI (Nat.gcd a b) := by
  intro k
  induction k with
  | zero =>
    intro fuel a b hb hf ha hb2
    have : b = 0 := by simp only [Nat.pow_zero] at hb; omega
    subst this
    obtain ⟨n, rfl⟩ : ∃ n, fuel = n + 1 := ⟨fuel - 1, by omega⟩
    rw [Nat.gcd_zero_right]
    exact if_pos rfl
  | succ k ih =>
    intro fuel a b hb hf ha hb2
    obtain ⟨m, rfl⟩ : ∃ m, fuel = m + 1 + 1 := ⟨fuel - 2, by omega⟩
    by_cases b0 : b = 0
    · subst b0
      rw [Nat.gcd_zero_right]
      exact if_pos rfl
    · have s1 : gd (m + 1 + 1) (nI a) (nI b) = gd (m + 1) (nI b) (nI (a % b)) := by
        have e : gd (m + 1 + 1) (nI a) (nI b) = gd (m + 1) (nI b) (nI a - nI a / nI b * nI b) := if_neg (nI_ne0 (by omega) hb2)
        rw [e, pk_rem ha (by omega) hb2]
      have lt : a % b < b := Nat.mod_lt _ (by omega)
      have g1 : Nat.gcd a b = Nat.gcd (a % b) b := by rw [Nat.gcd_comm, Nat.gcd_rec]
      rw [s1, g1]
      by_cases r0 : a % b = 0
      · rw [r0, Nat.gcd_zero_left]
        exact if_pos rfl
      · have s2 : gd (m + 1) (nI b) (nI (a % b)) = gd m (nI (a % b)) (nI (b % (a % b))) := by
          have e : gd (m + 1) (nI b) (nI (a % b)) = gd m (nI (a % b)) (nI b - nI b / nI (a % b) * nI (a % b)) := if_neg (nI_ne0 (by omega) (by omega))
          rw [e, pk_rem hb2 (by omega) (by omega)]
        have g2 : Nat.gcd (a % b) b = Nat.gcd (a % b) (b % (a % b)) := by rw [Nat.gcd_rec, Nat.gcd_comm]
        rw [s2, g2]
        generalize a % b = r at lt r0
        have l2 : b % r < r := Nat.mod_lt _ (by omega)
        have hh : b % r < 2 ^ k := by
          rw [Nat.pow_succ] at hb
          by_cases q : r ≤ b / 2
          · omega
          · have : b % r = b - r := by
              rw [Nat.mod_eq_sub_mod (by omega), Nat.mod_eq_of_lt (by omega)]
            omega
        exact ih m r (b % r) hh (by omega) (by omega) (by omega)
theorem n_common {C : pC} (hC : p_Lg true C) {d : Nat} {M : pM} {Q : pQ} {a b : Nat} (ha : a < 2 ^ 31) (hb : b < 2 ^ 31) (h : Q M (some (vL (lN (Nat.gcd a b))))) : C d k_X8_common M [vL (lN a), vL (lN b)] Q := by
  refine p_ent hC tb_X8_common _ rfl rfl rfl (fun Z hZ => ?_)
  refine hZ _ _ _ _ (hZ _ _ _ _ (hZ _ _ _ _ (hZ _ _ _ _ ?_)))
  show Z 6 _ _ _
  have loop : ∀ (n p q : Nat) (x8 x9 : Option pV), q ≤ n → p < 2 ^ 31 → q < 2 ^ 31 → Nat.gcd p q = Nat.gcd a b → Z 6 [some (vL (lN a)), none, some (vL (lN b)), none, some (vL (lN p)), none, some (vL (lN q)), none, x8, x9] [] M := by
    intro n
    induction n with
    | zero =>
      intro p q x8 x9 h1 h2 h3 h4
      have : q = 0 := by omega
      subst this
      rw [Nat.gcd_zero_right] at h4
      refine hZ _ _ _ _ (hZ _ _ _ _ (hZ _ _ _ _ ?_))
      show Z 10 _ _ _
      refine hZ _ _ _ _ (br_t (rfl) ?_)
      refine hZ _ _ _ _ ?_
      show Z 33 _ _ _
      refine hZ _ _ _ _ ?_
      rw [h4]
      exact h
    | succ n ih =>
      intro p q x8 x9 h1 h2 h3 h4
      by_cases q0 : q = 0
      · subst q0
        rw [Nat.gcd_zero_right] at h4
        refine hZ _ _ _ _ (hZ _ _ _ _ (hZ _ _ _ _ ?_))
        show Z 10 _ _ _
        refine hZ _ _ _ _ (br_t (rfl) ?_)
        refine hZ _ _ _ _ ?_
        show Z 33 _ _ _
        refine hZ _ _ _ _ ?_
        rw [h4]
        exact h
      · skip
        have nz : ¬ lN q = 0 := fun e => q0 ((lN_eq (a := q) (b := 0) h3 (by omega)).mp e)
        refine hZ _ _ _ _ (hZ _ _ _ _ (hZ _ _ _ _ ?_))
        show Z 10 _ _ _
        refine hZ _ _ _ _ (br_f (lgne nz) ?_)
        refine hZ _ _ _ _ (hZ _ _ _ _ ?_)
        show Z 17 _ _ _
        refine hZ _ _ _ _ ⟨nz, ?_⟩
        rw [pk_lRem (by omega) (by omega) (by omega)]
        refine hZ _ _ _ _ (hZ _ _ _ _ (hZ _ _ _ _ (hZ _ _ _ _ (hZ _ _ _ _ (hZ _ _ _ _ ?_)))))
        show Z 6 _ _ _
        have lt : p % q < q := Nat.mod_lt _ (by omega)
        refine ih q (p % q) _ _ (by omega) h3 (by omega) ?_
        rw [← h4, Nat.gcd_comm p q, Nat.gcd_rec q p, Nat.gcd_comm]
  exact loop b a b _ _ (Nat.le_refl _) ha hb rfl
def cM (X i : Nat) : Nat → Nat
  | 0 => 1
  | f + 1 => cM X i f * (if bt1 (nI i) (nI f) = 1 then X else 10 - X)
theorem ch_cM {X : Nat} (hX : X ≤ 10) (i : Nat) : ∀ n, chN (nI i) (nI X) n = nI (cM X i n) := by
  intro n
  induction n with
  | zero => rfl
  | succ n ih =>
    simp only [chN, cM, ih]
    have e : (10 : Int32) - nI X = nI (10 - X) := pk_sub (a := 10) hX
    split
    · rw [pk_mul]
    · rw [e, pk_mul]
theorem cM_le {X : Nat} (hX : X ≤ 10) (i : Nat) : ∀ n, cM X i n ≤ 10 ^ n := by
  intro n
  induction n with
  | zero => exact Nat.le_refl _
  | succ n ih =>
    simp only [cM, Nat.pow_succ]
    refine Nat.mul_le_mul ih ?_
    split <;> omega
def tM (X k : Nat) : Nat → Nat
  | 0 => 0
  | i + 1 => tM X k i + cM X i k
theorem tM_all : ∀ (X : Fin 11) (k : Fin 7), tM X.val k.val (2 ^ k.val) = 10 ^ k.val := by decide +kernel
theorem tM_mono {X k : Nat} : ∀ (m n : Nat), tM X k n ≤ tM X k (n + m) := by
  intro m
  induction m with
  | zero => intro n; exact Nat.le_refl _
  | succ m ih =>
    intro n
    have := ih n
    show _ ≤ tM X k (n + m) + cM X (n + m) k
    omega
def aM (ρ : pRm) (t : Int32) (X : Nat) : Nat → Nat
  | 0 => 0
  | i + 1 => if bt1 (ev (wR ρ i)).1.2.2.2 t = 1 then aM ρ t X i + cM X i ρ.2.1 else aM ρ t X i
theorem aM_le (ρ : pRm) (t : Int32) (X : Nat) : ∀ n, aM ρ t X n ≤ tM X ρ.2.1 n := by
  intro n
  induction n with
  | zero => exact Nat.le_refl _
  | succ n ih =>
    simp only [aM, tM]
    split <;> omega
theorem lk_M {ρ : pRm} {t : Int32} {X : Nat} (hX : X ≤ 10) : ∀ n, lkN ρ t (nI X) n = (nI (aM ρ t X n), nI (tM X ρ.2.1 n)) := by
  intro n
  induction n with
  | zero => rfl
  | succ n ih =>
    simp only [lkN, aM, tM, ih, ch_cM hX, nI_add]
    split <;> rfl
