/-! CONTRACTS, leaves: rows read and written, copied, slid; numbers within bounds, bits -/
theorem p_tn {c A B : Prop} (h : ¬ c) (a : A) : (¬ c → A) ∧ (c → B) := ⟨fun _ => a, fun x => absurd x h⟩
theorem p_fn {c A B : Prop} (h : c) (b : B) : (¬ c → A) ∧ (c → B) := ⟨fun x => absurd h x, fun _ => b⟩
theorem p_g_le : ∀ (l : List Nat) (n : Nat), (l.all fun x => Nat.ble x 280) = true → p_g l n ≤ 280 := by
  intro l
  induction l with
  | nil => intro n _; simp [p_g]
  | cons x l ih =>
    intro n h
    simp only [List.all_cons, Bool.and_eq_true] at h
    cases n with
    | zero => exact Nat.le_of_ble_eq_true h.1
    | succ n => exact ih n h.2
theorem p_ln_lt (a : pA) : p_ln a ≤ 280 := by
  rcases a with s | ⟨⟨j, c⟩ | i⟩
  · exact p_g_le p_lS s rfl
  · exact p_g_le p_lR c rfl
  · exact Nat.zero_le _
theorem p_row_row {M : pM} {a : pA} {f g : Nat → Int32} : p_row (p_row M a f) a g = p_row M a g := by
  simp only [p_row]
  congr 1
  funext b
  cases p_eq b a <;> rfl
theorem p_row_id {M : pM} {a : pA} : p_row M a (M.1 a) = M := by
  obtain ⟨f, g⟩ := M
  simp only [p_row]
  congr 1
  funext b
  cases e : p_eq b a
  · rfl
  · rw [p_eq_iff.mp e]
section Ev
variable {b : Bool} {C : pC} {d pc : Nat} {Q : pQ} {X : pX} {ls : pLS} {st : pST} {M : pM} {a : pA}
theorem g_len (hk : p_is b a 9 = true) (h : X (pc + 1) ls (vI (nI (p_ln a)) :: st) M) : o_len b C d Q X pc ls (vR a :: st) M := by
  simp only [p_is, Bool.and_eq_true] at hk
  simp only [o_len, Nat.eq_of_beq_eq_true hk.1, hk.2]
  exact h
theorem g_ia {i : Int32} (hk : p_is b a 9 = true) (hi : vp_in i (p_ln a)) (h : X (pc + 1) ls (vI (M.1 a i.toNatClampNeg) :: st) M) : o_ia b C d Q X pc ls (vI i :: vR a :: st) M := by
  simp only [o_ia, hk]
  exact ⟨hi, h⟩
theorem g_ist {i x : Int32} (hk : p_is b a 9 = true) (hi : vp_in i (p_ln a)) (h : X (pc + 1) ls st (p_wr M a i.toNatClampNeg x)) : o_ist b C d Q X pc ls (vI x :: vI i :: vR a :: st) M := by
  simp only [o_ist, hk]
  exact ⟨hi, h⟩
end Ev
section Leaf
variable {b : Bool} {C : pC} (hC : p_Lg b C) {d : Nat} {M : pM} {Q : pQ}
theorem m_at {a : pA} {i : Int32} (n : Nat) (hi : i = nI n) (hn : n < p_ln a) (hk : p_is b a 9 = true) (h : Q M (some (vI (M.1 a n)))) : C d k_X7_at M [vR a, vI i] Q := by
  have hl := p_ln_lt a
  subst hi
  refine p_ent hC tb_X7_at _ rfl rfl rfl (fun Z hZ => ?_)
  refine hZ _ _ _ _ ?_
  refine hZ _ _ _ _ (br_f (nI_pos (by omega)) ?_)
  refine hZ _ _ _ _ (hZ _ _ _ _ ?_)
  refine hZ _ _ _ _ (g_len hk ?_)
  refine hZ _ _ _ _ (br_f (nI_ge hn (by omega)) ?_)
  refine hZ _ _ _ _ (hZ _ _ _ _ ?_)
  refine hZ _ _ _ _ (g_ia hk (vp_in_nI hn (by omega)) ?_)
  refine hZ _ _ _ _ ?_
  refine hZ _ _ _ _ ?_
  rw [nI_clamp (by omega)]
  exact h
theorem m_put {a : pA} {i x : Int32} (n : Nat) (hi : i = nI n) (hn : n < p_ln a) (hk : p_is b a 9 = true) (h : Q (p_wr M a n x) none) : C d k_X7_put M [vR a, vI i, vI x] Q := by
  have hl := p_ln_lt a
  subst hi
  refine p_ent hC tb_X7_put _ rfl rfl rfl (fun Z hZ => ?_)
  refine hZ _ _ _ _ ?_
  refine hZ _ _ _ _ (br_f (nI_pos (by omega)) ?_)
  refine hZ _ _ _ _ (hZ _ _ _ _ ?_)
  refine hZ _ _ _ _ (g_len hk ?_)
  refine hZ _ _ _ _ (br_f (nI_ge hn (by omega)) ?_)
  refine hZ _ _ _ _ (hZ _ _ _ _ (hZ _ _ _ _ ?_))
  refine hZ _ _ _ _ (g_ist hk (vp_in_nI hn (by omega)) ?_)
  refine hZ _ _ _ _ ?_
  rw [nI_clamp (by omega)]
  exact h
theorem m_bit {x i : Int32} (h : Q M (some (vI (x >>> (i &&& 31) &&& 1)))) : C d k_X7_bit M [vI x, vI i] Q := by
  refine p_ent hC tb_X7_bit _ rfl rfl rfl (fun Z hZ => ?_)
  refine hZ _ _ _ _ (hZ _ _ _ _ (hZ _ _ _ _ (hZ _ _ _ _ (hZ _ _ _ _ ?_))))
  refine hZ _ _ _ _ ?_
  exact h
theorem m_within {x lo hi : Int32} (h1 : lo ≤ x → x ≤ hi → Q M (some (vI 1))) (h0 : ¬ (lo ≤ x ∧ x ≤ hi) → Q M (some (vI 0))) : C d k_X7_within M [vI x, vI lo, vI hi] Q := by
  refine p_ent hC tb_X7_within _ rfl rfl rfl (fun Z hZ => ?_)
  refine hZ _ _ _ _ (hZ _ _ _ _ ?_)
  refine hZ _ _ _ _ ⟨fun c1 => ?_, fun c1 => ?_⟩
  · skip
    refine hZ _ _ _ _ ?_
    refine hZ _ _ _ _ ⟨Or.inl rfl, ?_⟩
    exact h0 (fun q => Int32.not_le.mpr c1 q.1)
  · skip
    refine hZ _ _ _ _ (hZ _ _ _ _ ?_)
    refine hZ _ _ _ _ ⟨fun c2 => ?_, fun c2 => ?_⟩
    · skip
      refine hZ _ _ _ _ ?_
      refine hZ _ _ _ _ ⟨Or.inl rfl, ?_⟩
      exact h0 (fun q => Int32.not_le.mpr c2 q.2)
    · skip
      refine hZ _ _ _ _ (hZ _ _ _ _ ?_)
      refine hZ _ _ _ _ ⟨Or.inr rfl, ?_⟩
      exact h1 (Int32.not_lt.mp c1) (Int32.not_lt.mp c2)
theorem m_copyRow {a q : pA} (hd : 1 ≤ d) (hk : p_is b a 9 = true) (hq : p_is b q 9 = true) (hl : p_ln a = p_ln q) (h : Q (p_row M a (va_cpy (M.1 q) (M.1 a) 0 0 (p_ln a))) none) : C d k_X7_copyRow M [vR q, vR a] Q := by
  have hl1 := p_ln_lt a
  have e0 : ∀ n : Nat, p_min (nI n) (nI n) = nI n := fun n => by simp [p_min]
  refine p_ent hC tb_X7_copyRow _ rfl rfl rfl (fun Z hZ => ?_)
  refine hZ _ _ _ _ (hZ _ _ _ _ (hZ _ _ _ _ (hZ _ _ _ _ (hZ _ _ _ _ ?_))))
  refine hZ _ _ _ _ (g_len hq ?_)
  refine hZ _ _ _ _ ?_
  refine hZ _ _ _ _ (g_len hk ?_)
  refine hZ _ _ _ _ ⟨hd, ?_⟩
  rw [hl, e0]
  refine hZ _ _ _ _ ?_
  show o_cp b C d Q Z 11 _ _ M
  simp only [o_cp, hk, hq]
  have e1 : (nI (p_ln q)).toNatClampNeg = p_ln q := nI_clamp (by omega)
  have e2 : (0 : Int32).toNatClampNeg = 0 := rfl
  refine ⟨⟨hd, by decide, by decide, nI_pos (by omega), ?_, ?_⟩, ?_⟩
  · rw [e1, e2]; omega
  · rw [e1, e2]; omega
    refine hZ _ _ _ _ ?_
    rw [e1, e2, ← hl]
    exact h
/-- a row with the number at c taken out and put in at k -/
def sl (f : Nat → Int32) (c k : Nat) : Nat → Int32 := fun i => if i = k then f c else if c ≤ i ∧ i < k then f (i + 1) else if k < i ∧ i ≤ c then f (i - 1) else f i
def slU (f : Nat → Int32) (c i : Nat) : Nat → Int32 := fun x => if c ≤ x ∧ x < i then f (x + 1) else f x
def slD (f : Nat → Int32) (c i : Nat) : Nat → Int32 := fun x => if i < x ∧ x ≤ c then f (x - 1) else f x
theorem m_slide {a : pA} {x y : Int32} (c k : Nat) (ex : x = nI c) (ey : y = nI k) (hd : 1 ≤ d) (hc : c < p_ln a) (hk9 : k < p_ln a) (hk : p_is b a 9 = true) (h : Q (p_row M a (sl (M.1 a) c k)) none) : C d k_X7_slide M [vR a, vI x, vI y] Q := by
  have hl := p_ln_lt a
  subst ex
  subst ey
  refine p_ent hC tb_X7_slide _ rfl rfl rfl (fun Z hZ => ?_)
  refine hZ _ _ _ _ (hZ _ _ _ _ ?_)
  refine hZ _ _ _ _ ⟨d - 1, by omega, m_at hC c rfl hc hk ?_⟩
  refine hZ _ _ _ _ (hZ _ _ _ _ (hZ _ _ _ _ ?_))
  have up : ∀ (n i : Nat), i + n = k → c ≤ i → Z 9 [some (vR a), some (vI (nI c)), some (vI (nI k)), some (vI (M.1 a c)), some (vI (nI i))] [] (p_row M a (slU (M.1 a) c i)) := by
    sorry
  sorry
end Leaf
theorem tst1 (t n : Int32) (h : 0 ≤ t) (h2 : ¬ t < n) : n ≤ t := by grind
theorem tst2 (t n : Int32) (h : 0 ≤ t) (h2 : t < 5) (h3 : ¬ t = 0) : 1 ≤ t := by grind
