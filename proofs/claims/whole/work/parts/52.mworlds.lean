/-! the model: worlds -/
/-- the first below n -/
def wfN (f : Nat → Bool) : Nat → Int32
  | 0 => -4
  | n + 1 => if f n = true then (if cn f n = 0 then nI n else wfN f n) else wfN f n
def waN (z : Int32) (f : Nat → Bool) : Nat → Int32
  | 0 => z
  | n + 1 => if f n = true then waN z f n &&& nI n else waN z f n
def woN (f : Nat → Bool) : Nat → Int32
  | 0 => 0
  | n + 1 => if f n = true then woN f n ||| nI n else woN f n
theorem wf_stay {f : Nat → Bool} {n : Nat} (h : 0 < cn f n) : ∀ m, wfN f (n + m) = wfN f n ∧ 0 < cn f (n + m) := by
  intro m
  induction m with
  | zero => exact ⟨rfl, h⟩
  | succ m ih =>
    have e1 : wfN f (n + (m + 1)) = if f (n + m) = true then (if cn f (n + m) = 0 then nI (n + m) else wfN f (n + m)) else wfN f (n + m) := rfl
    have e2 : cn f (n + (m + 1)) = if f (n + m) = true then cn f (n + m) + 1 else cn f (n + m) := rfl
    rw [e1, e2]
    have := ih.2
    by_cases q : f (n + m) = true
    · rw [if_pos q, if_pos q, if_neg (by omega)]
      exact ⟨ih.1, by omega⟩
    · rw [if_neg q, if_neg q]
      exact ih
theorem lw_wf (F : Int64) (f : Nat → Bool) : ∀ (m i : Nat), (∀ j, j < i + m → inB F j = f j) → cn f i = 0 → wfN f i = -4 → lwF F m i = wfN f (i + m) := by
  intro m
  induction m with
  | zero => intro i _ _ h; exact h.symm
  | succ m ih =>
    intro i h c w
    have b := h i (by omega)
    by_cases q : f i = true
    · have e1 : lwF F (m + 1) i = nI i := if_pos (by rw [b]; exact q)
      have e2 : cn f (i + 1) = cn f i + 1 := if_pos q
      have e3 : wfN f (i + 1) = nI i := by
        have z : wfN f (i + 1) = if cn f i = 0 then nI i else wfN f i := if_pos q
        rw [z, if_pos c]
      have := (wf_stay (f := f) (n := i + 1) (by omega) m).1
      rw [e1, show i + (m + 1) = i + 1 + m by omega, this, e3]
    · have e1 : lwF F (m + 1) i = lwF F m (i + 1) := if_neg (by rw [b]; exact q)
      have e2 : cn f (i + 1) = cn f i := if_neg q
      have e3 : wfN f (i + 1) = wfN f i := if_neg q
      rw [e1, show i + (m + 1) = i + 1 + m by omega]
      exact ih (i + 1) (fun j hj => h j (by omega)) (e2.trans c) (e3.trans w)
theorem sr_wa (k : Nat) (F : Int64) (f : Nat → Bool) : ∀ n, (∀ j, j < n → inB F j = f j) → srN k F 0 n = waN (nI (2 ^ k) - 1) f n := by
  intro n
  induction n with
  | zero => intro _; rfl
  | succ n ih =>
    intro h
    have ih := ih (fun j hj => h j (by omega))
    have b := h n (Nat.lt_succ_self n)
    simp only [srN, waN, b, ih, Int32.xor_zero]
theorem i32_id (f a i : Int32) : (f &&& (a ^^^ -1)) &&& (i ^^^ f) = f &&& ((a ||| i) ^^^ -1) := by
  apply Int32.toBitVec_inj.mp
  show (f.toBitVec &&& (a.toBitVec ^^^ (-1 : Int32).toBitVec)) &&& (i.toBitVec ^^^ f.toBitVec) = f.toBitVec &&& ((a.toBitVec ||| i.toBitVec) ^^^ (-1 : Int32).toBitVec)
  have e : (-1 : Int32).toBitVec = BitVec.allOnes 32 := by decide
  rw [e]
  ext j hj
  simp only [BitVec.getElem_and, BitVec.getElem_xor, BitVec.getElem_or, BitVec.getElem_allOnes]
  cases f.toBitVec[j] <;> cases a.toBitVec[j] <;> cases i.toBitVec[j] <;> rfl
theorem sr_wo (k : Nat) (F : Int64) (f : Nat → Bool) : ∀ n, (∀ j, j < n → inB F j = f j) → srN k F (nI (2 ^ k) - 1) n = (nI (2 ^ k) - 1) &&& (woN f n ^^^ -1) := by
  intro n
  induction n with
  | zero =>
    intro _
    show nI (2 ^ k) - 1 = (nI (2 ^ k) - 1) &&& ((0 : Int32) ^^^ -1)
    rw [Int32.zero_xor, Int32.and_neg_one]
  | succ n ih =>
    intro h
    have ih := ih (fun j hj => h j (by omega))
    have b := h n (Nat.lt_succ_self n)
    simp only [srN, woN, b, ih]
    by_cases q : f n = true
    · rw [if_pos q, if_pos q, i32_id]
    · rw [if_neg q, if_neg q]
