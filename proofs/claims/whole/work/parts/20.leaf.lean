/-! CONTRACTS, leaves: rows read and written, copied, slid; numbers within bounds, bits -/
theorem p_tn {c A B : Prop} (h : ¬ c) (a : A) : (¬ c → A) ∧ (c → B) := ⟨fun _ => a, fun x => absurd x h⟩
theorem p_fn {c A B : Prop} (h : c) (b : B) : (¬ c → A) ∧ (c → B) := ⟨fun x => absurd h x, fun _ => b⟩
theorem p_g_le : ∀ (l : List Nat) (n : Nat), (l.all fun x => Nat.ble x 280) = true → p_g l n ≤ 280 := by
  intro l
  induction l with
  | nil => intro n _; simp [p_g]
  | cons x l ih =>
    intro n h
    simp only [List.all_cons, Bool.and_eq_true] at h
    cases n with
    | zero => exact Nat.le_of_ble_eq_true h.1
    | succ n => exact ih n h.2
theorem p_ln_lt (a : pA) : p_ln a ≤ 280 := by
  rcases a with s | ⟨⟨j, c⟩ | i⟩
  · exact p_g_le p_lS s rfl
  · exact p_g_le p_lR c rfl
  · exact Nat.zero_le _
theorem p_row_row {M : pM} {a : pA} {f g : Nat → Int32} : p_row (p_row M a f) a g = p_row M a g := by
  simp only [p_row]
  congr 1
  funext b
  cases p_eq b a <;> rfl
theorem p_row_id {M : pM} {a : pA} : p_row M a (M.1 a) = M := by
  obtain ⟨f, g⟩ := M
  simp only [p_row]
  congr 1
  funext b
  cases e : p_eq b a
  · rfl
  · rw [p_eq_iff.mp e]
section Ev
variable {b : Bool} {C : pC} {d pc : Nat} {Q : pQ} {X : pX} {ls : pLS} {st : pST} {M : pM} {a : pA}
theorem g_len (hk : p_is b a 9 = true) (h : X (pc + 1) ls (vI (nI (p_ln a)) :: st) M) : o_len b C d Q X pc ls (vR a :: st) M := by
  simp only [p_is, Bool.and_eq_true] at hk
  simp only [o_len, Nat.eq_of_beq_eq_true hk.1, hk.2]
  exact h
theorem g_ia {i : Int32} (hk : p_is b a 9 = true) (hi : vp_in i (p_ln a)) (h : X (pc + 1) ls (vI (M.1 a i.toNatClampNeg) :: st) M) : o_ia b C d Q X pc ls (vI i :: vR a :: st) M := by
  simp only [o_ia, hk]
  exact ⟨hi, h⟩
theorem g_ist {i x : Int32} (hk : p_is b a 9 = true) (hi : vp_in i (p_ln a)) (h : X (pc + 1) ls st (p_wr M a i.toNatClampNeg x)) : o_ist b C d Q X pc ls (vI x :: vI i :: vR a :: st) M := by
  simp only [o_ist, hk]
  exact ⟨hi, h⟩
theorem g_cp {n : Nat} {q : pA} (hd : 0 < d) (hk : p_is b a 9 = true) (hq : p_is b q 9 = true) (hs : Nat.ble (p_cat st) 8 = true) (h1 : n ≤ p_ln q) (h2 : n ≤ p_ln a) (hn : n < 2 ^ 31) (h : X (pc + 3) ls st (p_row M a (va_cpy (M.1 q) (M.1 a) 0 0 n))) : o_cp b C d Q X pc ls (vI (nI n) :: vI 0 :: vR a :: vI 0 :: vR q :: st) M := by
  simp only [o_cp, hk, hq, hs]
  have e1 : (nI n).toNatClampNeg = n := nI_clamp hn
  have e2 : (0 : Int32).toNatClampNeg = 0 := rfl
  refine ⟨⟨hd, by decide, by decide, nI_pos hn, ?_, ?_⟩, ?_⟩
  · rw [e1, e2]; omega
  · rw [e1, e2]; omega
  · rw [e1, e2]
    exact h
end Ev
theorem m_at {b : Bool} {C : pC} (hC : p_Lg b C) {d : Nat} {M : pM} {Q : pQ} {a : pA} {i : Int32} (n : Nat) (hi : i = nI n) (hn : n < p_ln a) (hk : p_is b a 9 = true) (h : Q M (some (vI (M.1 a n)))) : C d k_X7_at M [vR a, vI i] Q := by
  have hl := p_ln_lt a
  subst hi
  refine p_ent hC tb_X7_at _ rfl rfl rfl (fun Z hZ => ?_)
  refine hZ _ _ _ _ ?_
  show Z 1 _ _ _
  refine hZ _ _ _ _ (br_f (nI_pos (by omega)) ?_)
  refine hZ _ _ _ _ (hZ _ _ _ _ ?_)
  show Z 6 _ _ _
  refine hZ _ _ _ _ (g_len (C := C) (d := d) (Q := Q) hk ?_)
  refine hZ _ _ _ _ (br_f (nI_ge hn (by omega)) ?_)
  refine hZ _ _ _ _ (hZ _ _ _ _ ?_)
  show Z 12 _ _ _
  refine hZ _ _ _ _ (g_ia (C := C) (d := d) (Q := Q) hk (vp_in_nI hn (by omega)) ?_)
  refine hZ _ _ _ _ ?_
  show Z 17 _ _ _
  refine hZ _ _ _ _ ?_
  rw [nI_clamp (by omega)]
  exact h
theorem m_put {b : Bool} {C : pC} (hC : p_Lg b C) {d : Nat} {M : pM} {Q : pQ} {a : pA} {i x : Int32} (n : Nat) (hi : i = nI n) (hn : n < p_ln a) (hk : p_is b a 9 = true) (h : Q (p_wr M a n x) none) : C d k_X7_put M [vR a, vI i, vI x] Q := by
  have hl := p_ln_lt a
  subst hi
  refine p_ent hC tb_X7_put _ rfl rfl rfl (fun Z hZ => ?_)
  refine hZ _ _ _ _ ?_
  show Z 1 _ _ _
  refine hZ _ _ _ _ (br_f (nI_pos (by omega)) ?_)
  refine hZ _ _ _ _ (hZ _ _ _ _ ?_)
  show Z 6 _ _ _
  refine hZ _ _ _ _ (g_len (C := C) (d := d) (Q := Q) hk ?_)
  refine hZ _ _ _ _ (br_f (nI_ge hn (by omega)) ?_)
  refine hZ _ _ _ _ (hZ _ _ _ _ (hZ _ _ _ _ ?_))
  show Z 13 _ _ _
  refine hZ _ _ _ _ (g_ist (C := C) (d := d) (Q := Q) hk (vp_in_nI hn (by omega)) ?_)
  refine hZ _ _ _ _ ?_
  rw [nI_clamp (by omega)]
  exact h
theorem m_bit {b : Bool} {C : pC} (hC : p_Lg b C) {d : Nat} {M : pM} {Q : pQ} {x i : Int32} (h : Q M (some (vI (x >>> (i &&& 31) &&& 1)))) : C d k_X7_bit M [vI x, vI i] Q := by
  refine p_ent hC tb_X7_bit _ rfl rfl rfl (fun Z hZ => ?_)
  refine hZ _ _ _ _ (hZ _ _ _ _ (hZ _ _ _ _ (hZ _ _ _ _ (hZ _ _ _ _ ?_))))
  show Z 5 _ _ _
  refine hZ _ _ _ _ ?_
  exact h
theorem m_within {b : Bool} {C : pC} (hC : p_Lg b C) {d : Nat} {M : pM} {Q : pQ} {x lo hi : Int32} (h1 : lo ≤ x → x ≤ hi → Q M (some (vI 1))) (h0 : ¬ (lo ≤ x ∧ x ≤ hi) → Q M (some (vI 0))) : C d k_X7_within M [vI x, vI lo, vI hi] Q := by
  refine p_ent hC tb_X7_within _ rfl rfl rfl (fun Z hZ => ?_)
  refine hZ _ _ _ _ (hZ _ _ _ _ ?_)
  show Z 2 _ _ _
  refine hZ _ _ _ _ ⟨fun c1 => ?_, fun c1 => ?_⟩
  · skip
    refine hZ _ _ _ _ ?_
    show Z 15 _ _ _
    refine hZ _ _ _ _ ⟨Or.inl rfl, ?_⟩
    exact h0 (fun q => Int32.not_le.mpr c1 q.1)
  · skip
    refine hZ _ _ _ _ (hZ _ _ _ _ ?_)
    show Z 7 _ _ _
    refine hZ _ _ _ _ ⟨fun c2 => ?_, fun c2 => ?_⟩
    · skip
      refine hZ _ _ _ _ ?_
      show Z 15 _ _ _
      refine hZ _ _ _ _ ⟨Or.inl rfl, ?_⟩
      exact h0 (fun q => Int32.not_le.mpr c2 q.2)
    · skip
      refine hZ _ _ _ _ (hZ _ _ _ _ ?_)
      show Z 15 _ _ _
      refine hZ _ _ _ _ ⟨Or.inr rfl, ?_⟩
      exact h1 (Int32.not_lt.mp c1) (Int32.not_lt.mp c2)
theorem m_copyRow {b : Bool} {C : pC} (hC : p_Lg b C) {d : Nat} {M : pM} {Q : pQ} {a q : pA} (hd : 1 ≤ d) (hk : p_is b a 9 = true) (hq : p_is b q 9 = true) (hl : p_ln a = p_ln q) (h : Q (p_row M a (va_cpy (M.1 q) (M.1 a) 0 0 (p_ln a))) none) : C d k_X7_copyRow M [vR q, vR a] Q := by
  have hl1 := p_ln_lt a
  have e0 : ∀ n : Nat, p_min (nI n) (nI n) = nI n := fun n => by simp [p_min]
  refine p_ent hC tb_X7_copyRow _ rfl rfl rfl (fun Z hZ => ?_)
  refine hZ _ _ _ _ (hZ _ _ _ _ (hZ _ _ _ _ (hZ _ _ _ _ (hZ _ _ _ _ ?_))))
  show Z 5 _ _ _
  refine hZ _ _ _ _ (g_len (C := C) (d := d) (Q := Q) hq ?_)
  refine hZ _ _ _ _ ?_
  show Z 7 _ _ _
  refine hZ _ _ _ _ (g_len (C := C) (d := d) (Q := Q) hk ?_)
  refine hZ _ _ _ _ ⟨hd, ?_⟩
  rw [hl, e0]
  refine hZ _ _ _ _ (g_cp (C := C) (d := d) (Q := Q) hd hk hq rfl (Nat.le_refl _) (by omega) (by omega) ?_)
  refine hZ _ _ _ _ ?_
  rw [← hl]
  exact h
/-- a row with the number at c taken out and put in at k -/
def sl (f : Nat → Int32) (c k : Nat) : Nat → Int32 := fun i => if i = k then f c else if c ≤ i ∧ i < k then f (i + 1) else if k < i ∧ i ≤ c then f (i - 1) else f i
def slU (f : Nat → Int32) (c i : Nat) : Nat → Int32 := fun x => if c ≤ x ∧ x < i then f (x + 1) else f x
def slD (f : Nat → Int32) (c i : Nat) : Nat → Int32 := fun x => if i < x ∧ x ≤ c then f (x - 1) else f x
theorem m_slide {b : Bool} {C : pC} (hC : p_Lg b C) {d : Nat} {M : pM} {Q : pQ} {a : pA} {x y : Int32} (c k : Nat) (ex : x = nI c) (ey : y = nI k) (hd : 1 ≤ d) (hc : c < p_ln a) (hk9 : k < p_ln a) (hk : p_is b a 9 = true) (h : Q (p_row M a (sl (M.1 a) c k)) none) : C d k_X7_slide M [vR a, vI x, vI y] Q := by
  have hl := p_ln_lt a
  subst ex
  subst ey
  refine p_ent hC tb_X7_slide _ rfl rfl rfl (fun Z hZ => ?_)
  refine hZ _ _ _ _ (hZ _ _ _ _ ?_)
  show Z 2 _ _ _
  refine hZ _ _ _ _ ⟨d - 1, by omega, m_at hC c rfl hc hk ?_⟩
  refine hZ _ _ _ _ (hZ _ _ _ _ (hZ _ _ _ _ ?_))
  show Z 9 _ _ _
  have fin : Z 64 [some (vR a), some (vI (nI c)), some (vI (nI k)), some (vI (M.1 a c)), some (vI (nI (if c < k then c else k)))] [] (p_row M a (if c < k then slU (M.1 a) c k else slD (M.1 a) c k)) := by
    refine hZ _ _ _ _ (hZ _ _ _ _ (hZ _ _ _ _ ?_))
    show Z 67 _ _ _
    refine hZ _ _ _ _ ⟨d - 1, by omega, m_put hC k rfl hk9 hk ?_⟩
    refine hZ _ _ _ _ ?_
    have e : p_wr (p_row M a (if c < k then slU (M.1 a) c k else slD (M.1 a) c k)) a k (M.1 a c) = p_row M a (sl (M.1 a) c k) := by
      rw [p_wr, p_row_row, p_row_eq]
      congr 1
      funext i
      by_cases h1 : c < k
      · simp only [if_pos h1, upd, sl, slU]
        by_cases h2 : i = k
        · simp [h2]
        · have : ¬ (k < i ∧ i ≤ c) := by omega
          simp [h2, this]
      · simp only [if_neg h1, upd, sl, slD]
        by_cases h2 : i = k
        · simp [h2]
        · have : ¬ (c ≤ i ∧ i < k) := by omega
          simp [h2, this]
    rw [e]
    exact h
  have down : ∀ (n i : Nat), k + n = i → i ≤ c → k ≤ c → Z 38 [some (vR a), some (vI (nI c)), some (vI (nI k)), some (vI (M.1 a c)), some (vI (nI i))] [] (p_row M a (slD (M.1 a) c i)) := by
    intro n
    induction n with
    | zero =>
      intro i e1 e2 e3
      have : i = k := by omega
      subst this
      refine hZ _ _ _ _ (hZ _ _ _ _ ?_)
      show Z 41 _ _ _
      refine hZ _ _ _ _ (br_t (nI_le (Nat.le_refl _) (by omega)) ?_)
      have h1 : ¬ c < i := by omega
      simp only [if_neg h1] at fin
      exact fin
    | succ n ih =>
      intro i e1 e2 e3
      refine hZ _ _ _ _ (hZ _ _ _ _ ?_)
      show Z 41 _ _ _
      refine hZ _ _ _ _ (br_f (nI_ge (by omega) (by omega)) ?_)
      refine hZ _ _ _ _ (hZ _ _ _ _ (hZ _ _ _ _ (hZ _ _ _ _ (hZ _ _ _ _ (hZ _ _ _ _ ?_)))))
      show Z 52 _ _ _
      rw [show nI i - 1 = nI (i - 1) from by rw [show i = (i - 1) + 1 by omega]; exact nI_pred _]
      refine hZ _ _ _ _ ⟨d - 1, by omega, m_at hC (i - 1) rfl (by omega) hk ?_⟩
      refine hZ _ _ _ _ ⟨d - 1, by omega, m_put hC i rfl (by omega) hk ?_⟩
      refine hZ _ _ _ _ (hZ _ _ _ _ ?_)
      show Z 38 _ _ _
      have e : p_wr (p_row M a (slD (M.1 a) c i)) a i ((p_row M a (slD (M.1 a) c i)).1 a (i - 1)) = p_row M a (slD (M.1 a) c (i - 1)) := by
        rw [p_wr, p_row_row, p_row_eq]
        congr 1
        funext x
        simp only [upd, slD]
        by_cases h2 : x = i
        · have h3 : ¬ (i < i - 1 ∧ i - 1 ≤ c) := by omega
          have h4 : i - 1 < i ∧ i ≤ c := by omega
          simp only [h2, if_true, if_neg h3, if_pos h4]
        · by_cases h3 : i < x ∧ x ≤ c
          · have h4 : i - 1 < x ∧ x ≤ c := by omega
            simp [h2, h3, h4]
          · have h4 : ¬ (i - 1 < x ∧ x ≤ c) := by omega
            simp [h2, h3, h4]
      rw [e]
      have e5 : nI i + (-1) = nI (i - 1) := by rw [show i = (i - 1) + 1 by omega]; exact pk_m1 _
      have := ih (i - 1) (by omega) (by omega) e3
      rw [← e5] at this
      exact this
  have up : ∀ (n i : Nat), i + n = k → c ≤ i → c < k → Z 9 [some (vR a), some (vI (nI c)), some (vI (nI k)), some (vI (M.1 a c)), some (vI (nI i))] [] (p_row M a (slU (M.1 a) c i)) := by
    intro n
    induction n with
    | zero =>
      intro i e1 e2 e3
      have : i = k := by omega
      subst this
      refine hZ _ _ _ _ (hZ _ _ _ _ ?_)
      show Z 12 _ _ _
      refine hZ _ _ _ _ (br_t (nI_le (Nat.le_refl _) (by omega)) ?_)
      refine hZ _ _ _ _ (hZ _ _ _ _ (hZ _ _ _ _ (hZ _ _ _ _ ?_)))
      show Z 41 _ _ _
      refine hZ _ _ _ _ (br_t (nI_le (by omega) (by omega)) ?_)
      simp only [if_pos e3] at fin
      exact fin
    | succ n ih =>
      intro i e1 e2 e3
      refine hZ _ _ _ _ (hZ _ _ _ _ ?_)
      show Z 12 _ _ _
      refine hZ _ _ _ _ (br_f (nI_ge (by omega) (by omega)) ?_)
      refine hZ _ _ _ _ (hZ _ _ _ _ (hZ _ _ _ _ (hZ _ _ _ _ (hZ _ _ _ _ (hZ _ _ _ _ ?_)))))
      show Z 23 _ _ _
      rw [nI_1]
      refine hZ _ _ _ _ ⟨d - 1, by omega, m_at hC (i + 1) rfl (by omega) hk ?_⟩
      refine hZ _ _ _ _ ⟨d - 1, by omega, m_put hC i rfl (by omega) hk ?_⟩
      refine hZ _ _ _ _ (hZ _ _ _ _ ?_)
      show Z 9 _ _ _
      have e : p_wr (p_row M a (slU (M.1 a) c i)) a i ((p_row M a (slU (M.1 a) c i)).1 a (i + 1)) = p_row M a (slU (M.1 a) c (i + 1)) := by
        rw [p_wr, p_row_row, p_row_eq]
        congr 1
        funext x
        simp only [upd, slU]
        by_cases h2 : x = i
        · have h3 : ¬ (c ≤ i + 1 ∧ i + 1 < i) := by omega
          have h4 : c ≤ i ∧ i < i + 1 := by omega
          simp [h2, h3, h4]
        · by_cases h3 : c ≤ x ∧ x < i
          · have h4 : c ≤ x ∧ x < i + 1 := by omega
            simp [h2, h3, h4]
          · have h4 : ¬ (c ≤ x ∧ x < i + 1) := by omega
            simp [h2, h3, h4]
      rw [e]
      have := ih (i + 1) (by omega) (by omega) e3
      rw [← nI_1] at this
      exact this
  by_cases h1 : c < k
  · have h2 := up (k - c) c (by omega) (Nat.le_refl _) h1
    have e : slU (M.1 a) c c = M.1 a := by
      funext x
      have : ¬ (c ≤ x ∧ x < c) := by omega
      simp [slU, this]
    rw [e, p_row_id] at h2
    exact h2
  · skip
    refine hZ _ _ _ _ (hZ _ _ _ _ ?_)
    show Z 12 _ _ _
    refine hZ _ _ _ _ (br_t (nI_le (by omega) (by omega)) ?_)
    refine hZ _ _ _ _ (hZ _ _ _ _ ?_)
    show Z 38 _ _ _
    have h2 := down (c - k) c (by omega) (Nat.le_refl _) (by omega)
    have e : slD (M.1 a) c c = M.1 a := by
      funext x
      have : ¬ (c < x ∧ x ≤ c) := by omega
      simp [slD, this]
    rw [e, p_row_id] at h2
    exact h2
