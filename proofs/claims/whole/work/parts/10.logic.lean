/-! THE LOGIC. All cells are made in the two constructors; behind them the world is fixed: pA are its addresses (single cells; rooms: which, which cell of it; irons), pM its memory (ints; rows of references). An instruction is a predicate transformer (pT); C d k M as Q: method k, called with as at M, with d frames of room, comes back with Q. -/
abbrev pA : Type := Nat ⊕ ((Fin 12 × Nat) ⊕ Fin 9)
abbrev pV : Type := Int32 ⊕ (Int64 ⊕ Option pA)
abbrev pM : Type := (pA → Nat → Int32) × (pA → Nat → Option pA)
abbrev aS (i : Nat) : pA := Sum.inl i
abbrev aR (j : Fin 12) (c : Nat) : pA := Sum.inr (Sum.inl (j, c))
abbrev aI (i : Fin 9) : pA := Sum.inr (Sum.inr i)
abbrev vI (x : Int32) : pV := Sum.inl x
abbrev vL (x : Int64) : pV := Sum.inr (Sum.inl x)
abbrev vR (a : pA) : pV := Sum.inr (Sum.inr (some a))
abbrev vN : pV := Sum.inr (Sum.inr none)
abbrev pLS : Type := List (Option pV)
abbrev pST : Type := List pV
abbrev pQ : Type := pM → Option pV → Prop
abbrev pC : Type := Nat → Nat → pM → pST → pQ → Prop
abbrev pX : Type := Nat → pLS → pST → pM → Prop
abbrev pT : Type := Bool → pC → Nat → pQ → pX → Nat → pLS → pST → pM → Prop
def p_g : List Nat → Nat → Nat
  | [], _ => 99
  | x :: _, 0 => x
  | _ :: l, n + 1 => p_g l n
/-- kinds: 0 Evening, 1 Iron, 2 Room, 3 Search, 4 Shelf, 5 Sights, 6 Text, 7 PokerEvening, 8 Model, 9 ints, 10 irons' row, 11 rooms' row, 12 the script. Singles: 0 PokerEvening, 1 Text, 2 letters, 3 numbers, 4 Evening, 5 hotOf, 6 dropOf, 7 Search, 8 stages, 9 path, 10 best, 11 Sights, 12 tellerOf, 13 dropOf, 14 past, 15 its rooms, 16 kept, 17 its rooms; 18 Model, 19 kindOf, 20 gripOf, 21 who, 22 what, 23 side, 24 weight, 25 seenWho, 26 seenAt, 27 text, 28 readKinds, 29 readGrips, 30 readSo, 31 readClaim, 32 row, 33 letsGo, 34 hotOf, 35 ahead, 36 bestRow, 37 aside, 38 kept; 39 the script -/
def p_kS : List Nat := [7, 6, 9, 9, 0, 9, 9, 3, 10, 9, 9, 5, 9, 9, 4, 11, 4, 11, 8, 9, 9, 9, 9, 9, 9, 9, 9, 9, 9, 9, 9, 9, 9, 9, 9, 9, 9, 9, 9, 12]
def p_lS : List Nat := [0, 0, 200, 4, 0, 7, 5, 0, 8, 7, 7, 0, 6, 6, 0, 8, 0, 2, 0, 5, 5, 8, 8, 8, 8, 6, 6, 200, 5, 5, 6, 28, 8, 5, 8, 280, 8, 35, 70, 0]
def p_lR : List Nat := [0, 5, 5, 7, 7, 7, 7]
def p_kd : pA → Nat
  | .inl s => p_g p_kS s
  | .inr (.inl r) => match Nat.beq r.2 0 with
    | true => 2
    | false => 9
  | .inr (.inr _) => 1
def p_ln : pA → Nat
  | .inl s => p_g p_lS s
  | .inr (.inl r) => p_g p_lR r.2
  | .inr (.inr _) => 0
/-- alive: the class's cells; the model's, once it is made -/
def p_al (b : Bool) : pA → Bool
  | .inl s => Nat.blt s 18 || (b && Nat.blt s 39)
  | .inr (.inl r) => Nat.blt r.2 7
  | .inr (.inr _) => true
def p_is (b : Bool) (a : pA) (kd : Nat) : Bool := Nat.beq (p_kd a) kd && p_al b a
def p_go : List (Option pA) → Nat → Option pA
  | [], _ => none
  | x :: _, 0 => x
  | _ :: l, n + 1 => p_go l n
/-- where the reference of a field points -/
def p_rS : Nat → List (Option pA)
  | 0 => [some (aS 1), some (aR 0 0), some (aR 1 0), some (aS 4), some (aS 7), some (aS 11), some (aS 14), some (aS 16)]
  | 1 => [some (aS 2), some (aS 3)]
  | 4 => [some (aI 0), some (aS 5), some (aS 6)]
  | 7 => [some (aS 8), some (aS 9), some (aS 10)]
  | 11 => [some (aS 12), some (aS 13)]
  | 14 => [some (aS 15)]
  | 16 => [some (aS 17)]
  | 18 => [none, none, none, none, some (aS 19), some (aS 20), some (aS 21), some (aS 22), some (aS 23), some (aS 24), none, some (aS 25), some (aS 26), some (aS 27), none, none, none, none, none, some (aS 28), some (aS 29), some (aS 30), some (aS 31), none, some (aS 32), some (aS 33), some (aS 34), none, none, some (aS 35), none, some (aS 36), some (aS 37), some (aS 38), none]
  | _ => []
def p_rf : pA → Nat → Option pA
  | .inl s, k => p_go (p_rS s) k
  | .inr (.inl r), k => match Nat.beq r.2 0 with
    | true => p_go [some (aR r.1 1), some (aR r.1 2), some (aR r.1 3), some (aR r.1 4), some (aR r.1 5), some (aR r.1 6)] k
    | false => none
  | .inr (.inr _), _ => none
def p_eq : pA → pA → Bool
  | .inl s, .inl t => Nat.beq s t
  | .inr (.inl r), .inr (.inl q) => Nat.beq r.2 q.2 && Nat.beq r.1.val q.1.val
  | .inr (.inr i), .inr (.inr j) => Nat.beq i.val j.val
  | _, _ => false
theorem p_eq_iff {a b : pA} : p_eq a b = true ↔ a = b := by
  rcases a with s | ⟨⟨j, c⟩ | i⟩ <;> rcases b with t | ⟨⟨j', c'⟩ | i'⟩ <;> simp [p_eq, Fin.ext_iff, and_comm]
theorem p_eq_rf (a : pA) : p_eq a a = true := p_eq_iff.mpr rfl
theorem p_eq_ne {a b : pA} (h : a ≠ b) : p_eq a b = false := by
  cases e : p_eq a b
  · rfl
  · exact absurd (p_eq_iff.mp e) h
-- locals
def p_lg : pLS → Nat → Option pV
  | [], _ => none
  | x :: _, 0 => x
  | _ :: l, n + 1 => p_lg l n
def p_ls : pLS → Nat → Option pV → pLS
  | [], _, _ => []
  | _ :: l, 0, v => v :: l
  | x :: l, n + 1, v => x :: p_ls l n v
def p_len : pLS → Nat
  | [] => 0
  | _ :: l => p_len l + 1
/-- a place that can be stored into: it is there, and no long stands just ahead of it -/
def p_lw (ls : pLS) : Nat → Bool
  | 0 => Nat.blt 0 (p_len ls)
  | i + 1 => Nat.blt (i + 1) (p_len ls) && (match p_lg ls i with
    | some (.inr (.inl _)) => false
    | _ => true)
def p_ini : Nat → pST → pLS
  | 0, _ => []
  | n + 1, [] => none :: p_ini n []
  | n + 1, .inr (.inl x) :: l => some (vL x) :: (match n with | 0 => [] | k + 1 => none :: p_ini k l)
  | n + 1, .inl x :: l => some (vI x) :: p_ini n l
  | n + 1, .inr (.inr x) :: l => some (.inr (.inr x)) :: p_ini n l
def p_pop : Nat → pST → pST → Option (pST × pST)
  | 0, st, as => some (as, st)
  | _ + 1, [], _ => none
  | n + 1, v :: st, as => p_pop n st (v :: as)
def p_cat : pST → Nat
  | [] => 0
  | .inr (.inl _) :: l => p_cat l + 2
  | _ :: l => p_cat l + 1
def p_psh : Option pV → pST → pST
  | none, st => st
  | some v, st => v :: st
-- memory
def p_row (M : pM) (a : pA) (r : Nat → Int32) : pM := (fun b => match p_eq b a with
  | true => r
  | false => M.1 b, M.2)
def p_wr (M : pM) (a : pA) (k : Nat) (x : Int32) : pM := p_row M a (upd (M.1 a) k x)
def p_wq (M : pM) (a : pA) (k : Nat) (x : Option pA) : pM := (M.1, fun b => match p_eq b a with
  | true => va_up (M.2 a) k x
  | false => M.2 b)
-- instructions
def o_x : pT := fun _ _ _ _ _ _ _ _ _ => False
def o_ic (v : Int32) (n : Nat) : pT := fun _ _ _ _ X pc ls st M => X (pc + n) ls (.inl v :: st) M
def o_lc (v : Int64) (n : Nat) : pT := fun _ _ _ _ X pc ls st M => X (pc + n) ls (.inr (.inl v) :: st) M
def o_nu : pT := fun _ _ _ _ X pc ls st M => X (pc + 1) ls (.inr (.inr none) :: st) M
def o_il (i n : Nat) : pT := fun _ _ _ _ X pc ls st M => match p_lg ls i with
  | some (.inl x) => X (pc + n) ls (.inl x :: st) M
  | _ => False
def o_ll (i n : Nat) : pT := fun _ _ _ _ X pc ls st M => match p_lg ls i with
  | some (.inr (.inl x)) => X (pc + n) ls (.inr (.inl x) :: st) M
  | _ => False
def o_al (i n : Nat) : pT := fun _ _ _ _ X pc ls st M => match p_lg ls i with
  | some (.inr (.inr x)) => X (pc + n) ls (.inr (.inr x) :: st) M
  | _ => False
def o_is (i n : Nat) : pT := fun _ _ _ _ X pc ls st M => match st with
  | .inl x :: st => match p_lw ls i with
    | true => X (pc + n) (p_ls ls i (some (.inl x))) st M
    | false => False
  | _ => False
def o_as (i n : Nat) : pT := fun _ _ _ _ X pc ls st M => match st with
  | .inr (.inr x) :: st => match p_lw ls i with
    | true => X (pc + n) (p_ls ls i (some (.inr (.inr x)))) st M
    | false => False
  | _ => False
def o_lst (i n : Nat) : pT := fun _ _ _ _ X pc ls st M => match st with
  | .inr (.inl x) :: st => match p_lw ls i && Nat.blt (i + 1) (p_len ls) with
    | true => X (pc + n) (p_ls (p_ls ls i (some (.inr (.inl x)))) (i + 1) none) st M
    | false => False
  | _ => False
def o_ii (i : Nat) (k : Int32) : pT := fun _ _ _ _ X pc ls st M => match p_lg ls i with
  | some (.inl x) => match p_lw ls i with
    | true => X (pc + 3) (p_ls ls i (some (.inl (x + k)))) st M
    | false => False
  | _ => False
def o_add : pT := fun _ _ _ _ X pc ls st M => match st with
  | .inl y :: .inl x :: st => X (pc + 1) ls (.inl (x + y) :: st) M
  | _ => False
def o_sub : pT := fun _ _ _ _ X pc ls st M => match st with
  | .inl y :: .inl x :: st => X (pc + 1) ls (.inl (x - y) :: st) M
  | _ => False
def o_mul : pT := fun _ _ _ _ X pc ls st M => match st with
  | .inl y :: .inl x :: st => X (pc + 1) ls (.inl (x * y) :: st) M
  | _ => False
def o_and : pT := fun _ _ _ _ X pc ls st M => match st with
  | .inl y :: .inl x :: st => X (pc + 1) ls (.inl (x &&& y) :: st) M
  | _ => False
def o_or : pT := fun _ _ _ _ X pc ls st M => match st with
  | .inl y :: .inl x :: st => X (pc + 1) ls (.inl (x ||| y) :: st) M
  | _ => False
def o_xor : pT := fun _ _ _ _ X pc ls st M => match st with
  | .inl y :: .inl x :: st => X (pc + 1) ls (.inl (x ^^^ y) :: st) M
  | _ => False
def o_shl : pT := fun _ _ _ _ X pc ls st M => match st with
  | .inl y :: .inl x :: st => X (pc + 1) ls (.inl (x <<< (y &&& 31)) :: st) M
  | _ => False
def o_shr : pT := fun _ _ _ _ X pc ls st M => match st with
  | .inl y :: .inl x :: st => X (pc + 1) ls (.inl (x >>> (y &&& 31)) :: st) M
  | _ => False
def o_ushr : pT := fun _ _ _ _ X pc ls st M => match st with
  | .inl y :: .inl x :: st => X (pc + 1) ls (.inl ((x.toUInt32 >>> (y.toUInt32 &&& Int32.toUInt32 31)).toInt32) :: st) M
  | _ => False
def o_div : pT := fun _ _ _ _ X pc ls st M => match st with
  | .inl y :: .inl x :: st => ¬ y = 0 ∧ X (pc + 1) ls (.inl (x / y) :: st) M
  | _ => False
def o_rem : pT := fun _ _ _ _ X pc ls st M => match st with
  | .inl y :: .inl x :: st => ¬ y = 0 ∧ X (pc + 1) ls (.inl (x - x / y * y) :: st) M
  | _ => False
def o_ladd : pT := fun _ _ _ _ X pc ls st M => match st with
  | .inr (.inl y) :: .inr (.inl x) :: st => X (pc + 1) ls (.inr (.inl (x + y)) :: st) M
  | _ => False
def o_lsub : pT := fun _ _ _ _ X pc ls st M => match st with
  | .inr (.inl y) :: .inr (.inl x) :: st => X (pc + 1) ls (.inr (.inl (x - y)) :: st) M
  | _ => False
def o_lmul : pT := fun _ _ _ _ X pc ls st M => match st with
  | .inr (.inl y) :: .inr (.inl x) :: st => X (pc + 1) ls (.inr (.inl (x * y)) :: st) M
  | _ => False
def o_land : pT := fun _ _ _ _ X pc ls st M => match st with
  | .inr (.inl y) :: .inr (.inl x) :: st => X (pc + 1) ls (.inr (.inl (x &&& y)) :: st) M
  | _ => False
def o_lor : pT := fun _ _ _ _ X pc ls st M => match st with
  | .inr (.inl y) :: .inr (.inl x) :: st => X (pc + 1) ls (.inr (.inl (x ||| y)) :: st) M
  | _ => False
def o_ldiv : pT := fun _ _ _ _ X pc ls st M => match st with
  | .inr (.inl y) :: .inr (.inl x) :: st => ¬ y = 0 ∧ X (pc + 1) ls (.inr (.inl (x / y)) :: st) M
  | _ => False
def o_lrem : pT := fun _ _ _ _ X pc ls st M => match st with
  | .inr (.inl y) :: .inr (.inl x) :: st => ¬ y = 0 ∧ X (pc + 1) ls (.inr (.inl (x - x / y * y)) :: st) M
  | _ => False
def o_lcmp : pT := fun _ _ _ _ X pc ls st M => match st with
  | .inr (.inl y) :: .inr (.inl x) :: st => X (pc + 1) ls (.inl (lg_cmp x y) :: st) M
  | _ => False
def o_lshl : pT := fun _ _ _ _ X pc ls st M => match st with
  | .inl y :: .inr (.inl x) :: st => X (pc + 1) ls (.inr (.inl (x <<< (y.toInt64 &&& 63))) :: st) M
  | _ => False
def o_lshr : pT := fun _ _ _ _ X pc ls st M => match st with
  | .inl y :: .inr (.inl x) :: st => X (pc + 1) ls (.inr (.inl (x >>> (y.toInt64 &&& 63))) :: st) M
  | _ => False
def o_lushr : pT := fun _ _ _ _ X pc ls st M => match st with
  | .inl y :: .inr (.inl x) :: st => X (pc + 1) ls (.inr (.inl ((x.toUInt64 >>> (y.toInt64.toUInt64 &&& Int64.toUInt64 63)).toInt64)) :: st) M
  | _ => False
def o_i2l : pT := fun _ _ _ _ X pc ls st M => match st with
  | .inl x :: st => X (pc + 1) ls (.inr (.inl x.toInt64) :: st) M
  | _ => False
def o_l2i : pT := fun _ _ _ _ X pc ls st M => match st with
  | .inr (.inl x) :: st => X (pc + 1) ls (.inl x.toInt32 :: st) M
  | _ => False
def o_dup : pT := fun _ _ _ _ X pc ls st M => match st with
  | .inl x :: st => X (pc + 1) ls (.inl x :: .inl x :: st) M
  | .inr (.inr x) :: st => X (pc + 1) ls (.inr (.inr x) :: .inr (.inr x) :: st) M
  | _ => False
def o_pop : pT := fun _ _ _ _ X pc ls st M => match st with
  | .inl _ :: st => X (pc + 1) ls st M
  | .inr (.inr _) :: st => X (pc + 1) ls st M
  | _ => False
def o_goto (t : Nat) : pT := fun _ _ _ _ X _ ls st M => X t ls st M
def o_eq0 (t : Nat) : pT := fun _ _ _ _ X pc ls st M => match st with
  | .inl x :: st => (x = 0 → X t ls st M) ∧ (¬ x = 0 → X (pc + 3) ls st M)
  | _ => False
def o_ieq (t : Nat) : pT := fun _ _ _ _ X pc ls st M => match st with
  | .inl y :: .inl x :: st => (x = y → X t ls st M) ∧ (¬ x = y → X (pc + 3) ls st M)
  | _ => False
def o_ne0 (t : Nat) : pT := fun _ _ _ _ X pc ls st M => match st with
  | .inl x :: st => (¬ x = 0 → X t ls st M) ∧ (x = 0 → X (pc + 3) ls st M)
  | _ => False
def o_ine (t : Nat) : pT := fun _ _ _ _ X pc ls st M => match st with
  | .inl y :: .inl x :: st => (¬ x = y → X t ls st M) ∧ (x = y → X (pc + 3) ls st M)
  | _ => False
def o_lt0 (t : Nat) : pT := fun _ _ _ _ X pc ls st M => match st with
  | .inl x :: st => (x < 0 → X t ls st M) ∧ (¬ x < 0 → X (pc + 3) ls st M)
  | _ => False
def o_ilt (t : Nat) : pT := fun _ _ _ _ X pc ls st M => match st with
  | .inl y :: .inl x :: st => (x < y → X t ls st M) ∧ (¬ x < y → X (pc + 3) ls st M)
  | _ => False
def o_ge0 (t : Nat) : pT := fun _ _ _ _ X pc ls st M => match st with
  | .inl x :: st => (0 ≤ x → X t ls st M) ∧ (¬ 0 ≤ x → X (pc + 3) ls st M)
  | _ => False
def o_ige (t : Nat) : pT := fun _ _ _ _ X pc ls st M => match st with
  | .inl y :: .inl x :: st => (y ≤ x → X t ls st M) ∧ (¬ y ≤ x → X (pc + 3) ls st M)
  | _ => False
def o_gt0 (t : Nat) : pT := fun _ _ _ _ X pc ls st M => match st with
  | .inl x :: st => (0 < x → X t ls st M) ∧ (¬ 0 < x → X (pc + 3) ls st M)
  | _ => False
def o_igt (t : Nat) : pT := fun _ _ _ _ X pc ls st M => match st with
  | .inl y :: .inl x :: st => (y < x → X t ls st M) ∧ (¬ y < x → X (pc + 3) ls st M)
  | _ => False
def o_le0 (t : Nat) : pT := fun _ _ _ _ X pc ls st M => match st with
  | .inl x :: st => (x ≤ 0 → X t ls st M) ∧ (¬ x ≤ 0 → X (pc + 3) ls st M)
  | _ => False
def o_ile (t : Nat) : pT := fun _ _ _ _ X pc ls st M => match st with
  | .inl y :: .inl x :: st => (x ≤ y → X t ls st M) ∧ (¬ x ≤ y → X (pc + 3) ls st M)
  | _ => False
def o_inul (t : Nat) : pT := fun _ _ _ _ X pc ls st M => match st with
  | .inr (.inr none) :: st => X t ls st M
  | .inr (.inr (some _)) :: st => X (pc + 3) ls st M
  | _ => False
def o_inn (t : Nat) : pT := fun _ _ _ _ X pc ls st M => match st with
  | .inr (.inr none) :: st => X (pc + 3) ls st M
  | .inr (.inr (some _)) :: st => X t ls st M
  | _ => False
def p_sw (Y : Nat → Prop) (x : Int32) : List (Int32 × Nat) → Nat → Prop
  | [], d => Y d
  | q :: r, d => (x = q.1 → Y q.2) ∧ (¬ x = q.1 → p_sw Y x r d)
def o_sw (l : List (Int32 × Nat)) (d : Nat) : pT := fun _ _ _ _ X _ ls st M => match st with
  | .inl x :: st => p_sw (fun t => X t ls st M) x l d
  | _ => False
-- cells
def o_gi (c k : Nat) : pT := fun b _ _ _ X pc ls st M => match st with
  | .inr (.inr (some a)) :: st => match p_is b a c with
    | true => match p_rf a k with
      | none => X (pc + 3) ls (.inl (M.1 a k) :: st) M
      | some _ => False
    | false => False
  | _ => False
def o_gr (c k : Nat) : pT := fun b _ _ _ X pc ls st M => match st with
  | .inr (.inr (some a)) :: st => match p_is b a c with
    | true => match p_rf a k with
      | some q => X (pc + 3) ls (.inr (.inr (some q)) :: st) M
      | none => False
    | false => False
  | _ => False
def o_pi (c k : Nat) : pT := fun b _ _ _ X pc ls st M => match st with
  | .inl x :: .inr (.inr (some a)) :: st => match p_is b a c with
    | true => match p_rf a k with
      | none => X (pc + 3) ls st (p_wr M a k x)
      | some _ => False
    | false => False
  | _ => False
def o_len : pT := fun b _ _ _ X pc ls st M => match st with
  | .inr (.inr (some a)) :: st => match Nat.ble 9 (p_kd a) && (Nat.ble (p_kd a) 11 && p_al b a) with
    | true => X (pc + 1) ls (.inl (Int32.ofNat (p_ln a)) :: st) M
    | false => False
  | _ => False
def o_ia : pT := fun b _ _ _ X pc ls st M => match st with
  | .inl i :: .inr (.inr (some a)) :: st => match p_is b a 9 with
    | true => vp_in i (p_ln a) ∧ X (pc + 1) ls (.inl (M.1 a i.toNatClampNeg) :: st) M
    | false => False
  | _ => False
def o_ist : pT := fun b _ _ _ X pc ls st M => match st with
  | .inl x :: .inl i :: .inr (.inr (some a)) :: st => match p_is b a 9 with
    | true => vp_in i (p_ln a) ∧ X (pc + 1) ls st (p_wr M a i.toNatClampNeg x)
    | false => False
  | _ => False
def o_aa (kd : Nat) : pT := fun b _ _ _ X pc ls st M => match st with
  | .inl i :: .inr (.inr (some a)) :: st => match p_is b a kd with
    | true => vp_in i (p_ln a) ∧ X (pc + 1) ls (.inr (.inr (M.2 a i.toNatClampNeg)) :: st) M
    | false => False
  | _ => False
def o_ast (kd ce : Nat) : pT := fun b _ _ _ X pc ls st M => match st with
  | .inr (.inr (some q)) :: .inl i :: .inr (.inr (some a)) :: st => match p_is b a kd && p_is b q ce with
    | true => vp_in i (p_ln a) ∧ X (pc + 1) ls st (p_wq M a i.toNatClampNeg (some q))
    | false => False
  | _ => False
/-- the receiver of a call: a cell of the class; of a static method (99) none -/
def p_rc (b : Bool) (c : Nat) (as : pST) : Bool := match Nat.beq c 99 with
  | true => true
  | false => match as with
    | .inr (.inr (some a)) :: _ => p_is b a c
    | _ => false
def o_call (c k n : Nat) : pT := fun b C d _ X pc ls st M => match p_pop n st [] with
  | some (as, st) => match p_rc b c as && Nat.ble (p_cat st) 8 with
    | true => ∃ d', d = d' + 1 ∧ C d' k M as (fun M v => X (pc + 3) ls (p_psh v st) M)
    | false => False
  | none => False
def o_cp : pT := fun b _ d _ X pc ls st M => match st with
  | .inl n :: .inl dp :: .inr (.inr (some a)) :: .inl sp :: .inr (.inr (some q)) :: st => match p_is b a 9 && (p_is b q 9 && Nat.ble (p_cat st) 8) with
    | true => (0 < d ∧ ¬ sp < 0 ∧ ¬ dp < 0 ∧ ¬ n < 0 ∧ sp.toNatClampNeg + n.toNatClampNeg ≤ p_ln q ∧ dp.toNatClampNeg + n.toNatClampNeg ≤ p_ln a) ∧ X (pc + 3) ls st (p_row M a (va_cpy (M.1 q) (M.1 a) sp.toNatClampNeg dp.toNatClampNeg n.toNatClampNeg))
    | false => False
  | _ => False
def p_max (x y : Int32) : Int32 := if x < y then y else x
def p_min (x y : Int32) : Int32 := if y < x then y else x
def o_mmax : pT := fun _ _ d _ X pc ls st M => match st with
  | .inl y :: .inl x :: st => match Nat.ble (p_cat st) 8 with
    | true => 0 < d ∧ X (pc + 3) ls (.inl (p_max x y) :: st) M
    | false => False
  | _ => False
def o_mmin : pT := fun _ _ d _ X pc ls st M => match st with
  | .inl y :: .inl x :: st => match Nat.ble (p_cat st) 8 with
    | true => 0 < d ∧ X (pc + 3) ls (.inl (p_min x y) :: st) M
    | false => False
  | _ => False
-- the script, of the law alone
def o_zl (L : Nat) : pT := fun _ _ _ _ X pc ls st M => match st with
  | .inr (.inr (some a)) :: st => match p_eq a (aS 39) with
    | true => X (pc + 1) ls (.inl (Int32.ofNat L) :: st) M
    | false => False
  | _ => False
def o_za (xs : Nat → Int32) (L : Nat) : pT := fun _ _ _ _ X pc ls st M => match st with
  | .inl i :: .inr (.inr (some a)) :: st => match p_eq a (aS 39) with
    | true => vp_in i L ∧ X (pc + 1) ls (.inl (xs i.toNatClampNeg) :: st) M
    | false => False
  | _ => False
-- returns
def o_vr : pT := fun _ _ _ Q _ _ _ st M => match st with
  | [] => Q M none
  | _ => False
def o_ir : pT := fun _ _ _ Q _ _ _ st M => match st with
  | [.inl x] => Q M (some (.inl x))
  | _ => False
def o_zr : pT := fun _ _ _ Q _ _ _ st M => match st with
  | [.inl x] => (x = 0 ∨ x = 1) ∧ Q M (some (.inl x))
  | _ => False
def o_lr : pT := fun _ _ _ Q _ _ _ st M => match st with
  | [.inr (.inl x)] => Q M (some (.inr (.inl x)))
  | _ => False
def o_ar : pT := fun _ _ _ Q _ _ _ st M => match st with
  | [.inr (.inr x)] => Q M (some (.inr (.inr x)))
  | _ => False
def p_nth : List pT → Nat → pT
  | [], _ => o_x
  | t :: _, 0 => t
  | _ :: l, n + 1 => p_nth l n
/-- a walk of the code tb is closed under its instructions -/
def p_Cl (b : Bool) (C : pC) (tb : List pT) (d : Nat) (Q : pQ) (Z : pX) : Prop := ∀ (pc : Nat) (ls : pLS) (st : pST) (M : pM), p_nth tb pc b C d Q Z pc ls st M → Z pc ls st M
