/-! THE LOGIC: typed addresses of the fixed world, a memory of ints, an instruction as a predicate transformer. pA: single cells, rooms (which, which cell of it), irons. -/
abbrev pA : Type := Fin 41 ⊕ ((Fin 12 × Fin 7) ⊕ Fin 9)
abbrev pV : Type := Int32 ⊕ (Int64 ⊕ Option pA)
abbrev pM : Type := (pA → Nat → Int32) × ((pA → Nat → Option pA) × (Nat × (pA → Nat)))
abbrev aS (i : Fin 41) : pA := Sum.inl i
abbrev aR (j : Fin 12) (c : Fin 7) : pA := Sum.inr (Sum.inl (j, c))
abbrev aI (i : Fin 9) : pA := Sum.inr (Sum.inr i)
abbrev vI (x : Int32) : pV := Sum.inl x
abbrev vL (x : Int64) : pV := Sum.inr (Sum.inl x)
abbrev vR (a : pA) : pV := Sum.inr (Sum.inr (some a))
abbrev vN : pV := Sum.inr (Sum.inr none)
abbrev pLS : Type := List (Option pV)
abbrev pST : Type := List pV
abbrev pQ : Type := pM → Option pV → Prop
abbrev pC : Type := Nat → Nat → pM → pST → Nat → pQ → Prop
abbrev pX : Type := Nat → pLS → pST → pM → Prop
abbrev pT : Type := pC → Nat → Nat → pQ → pX → Nat → pLS → pST → pM → Prop
/-- kinds: 0 Evening, 1 Iron, 2 Room, 3 Search, 4 Shelf, 5 Sights, 6 Text, 7 PokerEvening, 8 Model, 9 ints, 10 irons' row, 11 rooms' row, 12 the script, 13 the literal -/
def p_kS : List Nat := [7, 6, 9, 9, 0, 9, 9, 3, 10, 9, 9, 5, 9, 9, 4, 11, 4, 11, 8, 9, 9, 9, 9, 9, 9, 9, 9, 9, 9, 9, 9, 9, 9, 9, 9, 9, 9, 9, 9, 12, 13]
def p_lS : List Nat := [0, 0, 200, 4, 0, 7, 5, 0, 8, 7, 7, 0, 6, 6, 0, 8, 0, 2, 0, 5, 5, 8, 8, 8, 8, 6, 6, 200, 5, 5, 6, 28, 8, 5, 8, 280, 8, 35, 70, 0, 0]
def p_lR : List Nat := [0, 5, 5, 7, 7, 7, 7]
def p_g : List Nat → Nat → Nat
  | [], _ => 99
  | x :: _, 0 => x
  | _ :: l, n + 1 => p_g l n
def p_kd : pA → Nat
  | .inl s => p_g p_kS s.val
  | .inr (.inl r) => match Nat.beq r.2.val 0 with
    | true => 2
    | false => 9
  | .inr (.inr _) => 1
def p_ln : pA → Nat
  | .inl s => p_g p_lS s.val
  | .inr (.inl r) => p_g p_lR r.2.val
  | .inr (.inr _) => 0
def p_go : List (Option pA) → Nat → Option pA
  | [], _ => none
  | x :: _, 0 => x
  | _ :: l, n + 1 => p_go l n
def p_rX : List (Option pA) := [some (aS 1), some (aR 0 0), some (aR 1 0), some (aS 4), some (aS 7), some (aS 11), some (aS 14), some (aS 16)]
def p_rM : List (Option pA) := [none, none, none, none, some (aS 19), some (aS 20), some (aS 21), some (aS 22), some (aS 23), some (aS 24), none, some (aS 25), some (aS 26), some (aS 27), none, none, none, none, none, some (aS 28), some (aS 29), some (aS 30), some (aS 31), none, some (aS 32), some (aS 33), some (aS 34), none, none, some (aS 35), none, some (aS 36), some (aS 37), some (aS 38), none]
/-- where the reference of a field points: fixed, once it is set -/
def p_rS : Nat → List (Option pA)
  | 0 => p_rX
  | 1 => [some (aS 2), some (aS 3)]
  | 4 => [some (aI 0), some (aS 5), some (aS 6)]
  | 7 => [some (aS 8), some (aS 9), some (aS 10)]
  | 11 => [some (aS 12), some (aS 13)]
  | 14 => [some (aS 15)]
  | 16 => [some (aS 17)]
  | 18 => p_rM
  | _ => []
def p_rf : pA → Nat → Option pA
  | .inl s, k => p_go (p_rS s.val) k
  | .inr (.inl r), k => match Nat.beq r.2.val 0 with
    | true => p_go [some (aR r.1 1), some (aR r.1 2), some (aR r.1 3), some (aR r.1 4), some (aR r.1 5), some (aR r.1 6)] k
    | false => none
  | .inr (.inr _), _ => none
/-- the order in which the cells are made -/
def p_ixS : List Nat := [0, 1, 2, 3, 18, 20, 21, 22, 23, 24, 25, 34, 35, 36, 37, 38, 95, 96, 111, 112, 113, 114, 115, 116, 117, 118, 119, 120, 121, 122, 123, 124, 125, 126, 127, 128, 129, 130, 131]
def p_ixR : List Nat := [4, 11, 39, 46, 53, 60, 67, 74, 81, 88, 97, 104]
def p_ixI : List Nat := [19, 26, 27, 28, 29, 30, 31, 32, 33]
def p_ix : pA → Nat
  | .inl s => p_g p_ixS s.val
  | .inr (.inl r) => p_g p_ixR r.1.val + r.2.val
  | .inr (.inr i) => p_g p_ixI i.val
def p_room7 (j : Fin 12) : List (Option pA) := [some (aR j 0), some (aR j 1), some (aR j 2), some (aR j 3), some (aR j 4), some (aR j 5), some (aR j 6)]
def p_all : List (Option pA) := [some (aS 0), some (aS 1), some (aS 2), some (aS 3)] ++ (p_room7 0 ++ (p_room7 1 ++ ([some (aS 4), some (aI 0), some (aS 5), some (aS 6), some (aS 7), some (aS 8), some (aS 9), some (aS 10), some (aI 1), some (aI 2), some (aI 3), some (aI 4), some (aI 5), some (aI 6), some (aI 7), some (aI 8), some (aS 11), some (aS 12), some (aS 13), some (aS 14), some (aS 15)] ++ (p_room7 2 ++ (p_room7 3 ++ (p_room7 4 ++ (p_room7 5 ++ (p_room7 6 ++ (p_room7 7 ++ (p_room7 8 ++ (p_room7 9 ++ ([some (aS 16), some (aS 17)] ++ (p_room7 10 ++ (p_room7 11 ++ [some (aS 18), some (aS 19), some (aS 20), some (aS 21), some (aS 22), some (aS 23), some (aS 24), some (aS 25), some (aS 26), some (aS 27), some (aS 28), some (aS 29), some (aS 30), some (aS 31), some (aS 32), some (aS 33), some (aS 34), some (aS 35), some (aS 36), some (aS 37), some (aS 38)])))))))))))))
theorem p_all_ok : (List.range 132).all (fun n => match p_go p_all n with | some a => p_ix a == n | none => false) = true := by decide +kernel
/-- the literal -/
def p_lit : List Int32 := [116, 48, 44, 49, 48, 59, 116, 49, 44, 56, 59, 116, 50, 44, 49, 50, 59, 116, 51, 44, 57, 59, 102, 49, 59, 102, 48, 59, 102, 49, 59, 102, 48, 59, 99, 48, 44, 48, 44, 49, 44, 57, 59, 99, 48, 44, 49, 44, 49, 44, 56, 59, 99, 49, 44, 50, 44, 48, 44, 49, 52, 59, 99, 48, 44, 51, 44, 49, 44, 54, 59, 99, 50, 44, 49, 44, 49, 44, 53, 59, 99, 51, 44, 51, 44, 48, 44, 50, 48, 59, 99, 50, 44, 48, 44, 48, 44, 52, 59]
-- locals
def p_lg : pLS → Nat → Option pV
  | [], _ => none
  | x :: _, 0 => x
  | _ :: l, n + 1 => p_lg l n
def p_ls : pLS → Nat → Option pV → pLS
  | [], _, _ => []
  | _ :: l, 0, v => v :: l
  | x :: l, n + 1, v => x :: p_ls l n v
/-- a place that can be stored into: it is there, and no long stands just ahead of it -/
def p_lw : pLS → Nat → Bool
  | [], _ => false
  | _ :: _, 0 => true
  | [_], _ + 1 => false
  | some (.inr (.inl _)) :: _ :: _, 1 => false
  | _ :: y :: l, n + 1 => p_lw (y :: l) n
def p_ini : Nat → pST → pLS
  | 0, _ => []
  | n + 1, [] => none :: p_ini n []
  | n + 1, .inr (.inl x) :: l => some (vL x) :: (match n with | 0 => [] | k + 1 => none :: p_ini k l)
  | n + 1, .inl x :: l => some (vI x) :: p_ini n l
  | n + 1, .inr (.inr x) :: l => some (.inr (.inr x)) :: p_ini n l
def p_pop : Nat → pST → pST → Option (pST × pST)
  | 0, st, as => some (as, st)
  | _ + 1, [], _ => none
  | n + 1, v :: st, as => p_pop n st (v :: as)
-- memory
def p_row (M : pM) (a : pA) (r : Nat → Int32) : pM := (fun b => if b = a then r else M.1 b, M.2)
def p_wr (M : pM) (a : pA) (k : Nat) (x : Int32) : pM := p_row M a (upd (M.1 a) k x)
def p_wq (M : pM) (a : pA) (k : Nat) (x : Option pA) : pM := (M.1, (fun b => if b = a then va_up (M.2.1 a) k x else M.2.1 b), M.2.2)
def p_fl (M : pM) (a : pA) (k : Nat) : pM := (M.1, M.2.1, M.2.2.1, fun b => if b = a then k else M.2.2.2 b)
def p_mk (M : pM) (a : pA) : pM := (fun b => if b = a then (fun _ => 0) else M.1 b, (fun b => if b = a then (fun _ => none) else M.2.1 b), M.2.2.1 + 1, fun b => if b = a then 1 else M.2.2.2 b)
/-- a cell of this kind that is there, its references behind place m set -/
def p_is (M : pM) (a : pA) (kd m : Nat) : Bool := Nat.beq (p_kd a) kd && Nat.blt m (M.2.2.2 a)
/-- no reference among the fields from i on, n of them -/
def p_nr (a : pA) : Nat → Nat → Bool
  | _, 0 => true
  | i, n + 1 => match p_rf a i with
    | none => p_nr a (i + 1) n
    | some _ => false
-- instructions
def o_x : pT := fun _ _ _ _ _ _ _ _ _ => False
def o_ic (v : Int32) (n : Nat) : pT := fun _ _ _ _ X pc ls st M => X (pc + n) ls (.inl v :: st) M
def o_lc (v : Int64) (n : Nat) : pT := fun _ _ _ _ X pc ls st M => X (pc + n) ls (.inr (.inl v) :: st) M
def o_nu : pT := fun _ _ _ _ X pc ls st M => X (pc + 1) ls (.inr (.inr none) :: st) M
def o_il (i n : Nat) : pT := fun _ _ _ _ X pc ls st M => match p_lg ls i with
  | some (.inl x) => X (pc + n) ls (.inl x :: st) M
  | _ => False
def o_ll (i n : Nat) : pT := fun _ _ _ _ X pc ls st M => match p_lg ls i with
  | some (.inr (.inl x)) => X (pc + n) ls (.inr (.inl x) :: st) M
  | _ => False
def o_al (i n : Nat) : pT := fun _ _ _ _ X pc ls st M => match p_lg ls i with
  | some (.inr (.inr x)) => X (pc + n) ls (.inr (.inr x) :: st) M
  | _ => False
def o_is (i n : Nat) : pT := fun _ _ _ _ X pc ls st M => match st with
  | .inl x :: st => match p_lw ls i with
    | true => X (pc + n) (p_ls ls i (some (.inl x))) st M
    | false => False
  | _ => False
def o_as (i n : Nat) : pT := fun _ _ _ _ X pc ls st M => match st with
  | .inr (.inr x) :: st => match p_lw ls i with
    | true => X (pc + n) (p_ls ls i (some (.inr (.inr x)))) st M
    | false => False
  | _ => False
def o_lst (i n : Nat) : pT := fun _ _ _ _ X pc ls st M => match st with
  | .inr (.inl x) :: st => match p_lw ls i && Nat.blt (i + 1) ls.length with
    | true => X (pc + n) (p_ls (p_ls ls i (some (.inr (.inl x)))) (i + 1) none) st M
    | false => False
  | _ => False
def o_ii (i : Nat) (k : Int32) : pT := fun _ _ _ _ X pc ls st M => match p_lg ls i with
  | some (.inl x) => match p_lw ls i with
    | true => X (pc + 3) (p_ls ls i (some (.inl (x + k)))) st M
    | false => False
  | _ => False
def o_add : pT := fun _ _ _ _ X pc ls st M => match st with
  | .inl y :: .inl x :: st => X (pc + 1) ls (.inl (x + y) :: st) M
  | _ => False
def o_sub : pT := fun _ _ _ _ X pc ls st M => match st with
  | .inl y :: .inl x :: st => X (pc + 1) ls (.inl (x - y) :: st) M
  | _ => False
def o_mul : pT := fun _ _ _ _ X pc ls st M => match st with
  | .inl y :: .inl x :: st => X (pc + 1) ls (.inl (x * y) :: st) M
  | _ => False
def o_div : pT := fun _ _ _ _ X pc ls st M => match st with
  | .inl y :: .inl x :: st => ¬ y = 0 ∧ X (pc + 1) ls (.inl (x / y) :: st) M
  | _ => False
def o_rem : pT := fun _ _ _ _ X pc ls st M => match st with
  | .inl y :: .inl x :: st => ¬ y = 0 ∧ X (pc + 1) ls (.inl (x - x / y * y) :: st) M
  | _ => False
def o_and : pT := fun _ _ _ _ X pc ls st M => match st with
  | .inl y :: .inl x :: st => X (pc + 1) ls (.inl (x &&& y) :: st) M
  | _ => False
def o_or : pT := fun _ _ _ _ X pc ls st M => match st with
  | .inl y :: .inl x :: st => X (pc + 1) ls (.inl (x ||| y) :: st) M
  | _ => False
def o_xor : pT := fun _ _ _ _ X pc ls st M => match st with
  | .inl y :: .inl x :: st => X (pc + 1) ls (.inl (x ^^^ y) :: st) M
  | _ => False
def o_shl : pT := fun _ _ _ _ X pc ls st M => match st with
  | .inl y :: .inl x :: st => X (pc + 1) ls (.inl (x <<< (y &&& 31)) :: st) M
  | _ => False
def o_shr : pT := fun _ _ _ _ X pc ls st M => match st with
  | .inl y :: .inl x :: st => X (pc + 1) ls (.inl (x >>> (y &&& 31)) :: st) M
  | _ => False
def o_ushr : pT := fun _ _ _ _ X pc ls st M => match st with
  | .inl y :: .inl x :: st => X (pc + 1) ls (.inl (x.toUInt32 >>> (y.toUInt32 &&& Int32.toUInt32 31)).toInt32 :: st) M
  | _ => False
def o_i2l : pT := fun _ _ _ _ X pc ls st M => match st with
  | .inl x :: st => X (pc + 1) ls (.inr (.inl x.toInt64) :: st) M
  | _ => False
def o_l2i : pT := fun _ _ _ _ X pc ls st M => match st with
  | .inr (.inl x) :: st => X (pc + 1) ls (.inl x.toInt32 :: st) M
  | _ => False
def o_ladd : pT := fun _ _ _ _ X pc ls st M => match st with
  | .inr (.inl y) :: .inr (.inl x) :: st => X (pc + 1) ls (.inr (.inl (x + y)) :: st) M
  | _ => False
def o_lsub : pT := fun _ _ _ _ X pc ls st M => match st with
  | .inr (.inl y) :: .inr (.inl x) :: st => X (pc + 1) ls (.inr (.inl (x - y)) :: st) M
  | _ => False
def o_lmul : pT := fun _ _ _ _ X pc ls st M => match st with
  | .inr (.inl y) :: .inr (.inl x) :: st => X (pc + 1) ls (.inr (.inl (x * y)) :: st) M
  | _ => False
def o_ldiv : pT := fun _ _ _ _ X pc ls st M => match st with
  | .inr (.inl y) :: .inr (.inl x) :: st => ¬ y = 0 ∧ X (pc + 1) ls (.inr (.inl (x / y)) :: st) M
  | _ => False
def o_lrem : pT := fun _ _ _ _ X pc ls st M => match st with
  | .inr (.inl y) :: .inr (.inl x) :: st => ¬ y = 0 ∧ X (pc + 1) ls (.inr (.inl (x - x / y * y)) :: st) M
  | _ => False
def o_land : pT := fun _ _ _ _ X pc ls st M => match st with
  | .inr (.inl y) :: .inr (.inl x) :: st => X (pc + 1) ls (.inr (.inl (x &&& y)) :: st) M
  | _ => False
def o_lor : pT := fun _ _ _ _ X pc ls st M => match st with
  | .inr (.inl y) :: .inr (.inl x) :: st => X (pc + 1) ls (.inr (.inl (x ||| y)) :: st) M
  | _ => False
def o_lshl : pT := fun _ _ _ _ X pc ls st M => match st with
  | .inl y :: .inr (.inl x) :: st => X (pc + 1) ls (.inr (.inl (x <<< (y.toInt64 &&& 63))) :: st) M
  | _ => False
def o_lshr : pT := fun _ _ _ _ X pc ls st M => match st with
  | .inl y :: .inr (.inl x) :: st => X (pc + 1) ls (.inr (.inl (x >>> (y.toInt64 &&& 63))) :: st) M
  | _ => False
def o_lushr : pT := fun _ _ _ _ X pc ls st M => match st with
  | .inl y :: .inr (.inl x) :: st => X (pc + 1) ls (.inr (.inl (x.toUInt64 >>> (y.toInt64.toUInt64 &&& Int64.toUInt64 63)).toInt64) :: st) M
  | _ => False
def o_lcmp : pT := fun _ _ _ _ X pc ls st M => match st with
  | .inr (.inl y) :: .inr (.inl x) :: st => X (pc + 1) ls (.inl (lg_cmp x y) :: st) M
  | _ => False
def o_dup : pT := fun _ _ _ _ X pc ls st M => match st with
  | .inl x :: st => X (pc + 1) ls (.inl x :: .inl x :: st) M
  | .inr (.inr x) :: st => X (pc + 1) ls (.inr (.inr x) :: .inr (.inr x) :: st) M
  | _ => False
def o_pop : pT := fun _ _ _ _ X pc ls st M => match st with
  | .inl _ :: st => X (pc + 1) ls st M
  | .inr (.inr _) :: st => X (pc + 1) ls st M
  | _ => False
def o_goto (t : Nat) : pT := fun _ _ _ _ X _ ls st M => X t ls st M
def o_eq0 (t : Nat) : pT := fun _ _ _ _ X pc ls st M => match st with
  | .inl x :: st => (x = 0 → X t ls st M) ∧ (¬ x = 0 → X (pc + 3) ls st M)
  | _ => False
def o_ne0 (t : Nat) : pT := fun _ _ _ _ X pc ls st M => match st with
  | .inl x :: st => (¬ x = 0 → X t ls st M) ∧ (x = 0 → X (pc + 3) ls st M)
  | _ => False
def o_lt0 (t : Nat) : pT := fun _ _ _ _ X pc ls st M => match st with
  | .inl x :: st => (x < 0 → X t ls st M) ∧ (¬ x < 0 → X (pc + 3) ls st M)
  | _ => False
def o_ge0 (t : Nat) : pT := fun _ _ _ _ X pc ls st M => match st with
  | .inl x :: st => (0 ≤ x → X t ls st M) ∧ (¬ 0 ≤ x → X (pc + 3) ls st M)
  | _ => False
def o_gt0 (t : Nat) : pT := fun _ _ _ _ X pc ls st M => match st with
  | .inl x :: st => (0 < x → X t ls st M) ∧ (¬ 0 < x → X (pc + 3) ls st M)
  | _ => False
def o_le0 (t : Nat) : pT := fun _ _ _ _ X pc ls st M => match st with
  | .inl x :: st => (x ≤ 0 → X t ls st M) ∧ (¬ x ≤ 0 → X (pc + 3) ls st M)
  | _ => False
def o_ieq (t : Nat) : pT := fun _ _ _ _ X pc ls st M => match st with
  | .inl y :: .inl x :: st => (x = y → X t ls st M) ∧ (¬ x = y → X (pc + 3) ls st M)
  | _ => False
def o_ine (t : Nat) : pT := fun _ _ _ _ X pc ls st M => match st with
  | .inl y :: .inl x :: st => (¬ x = y → X t ls st M) ∧ (x = y → X (pc + 3) ls st M)
  | _ => False
def o_ilt (t : Nat) : pT := fun _ _ _ _ X pc ls st M => match st with
  | .inl y :: .inl x :: st => (x < y → X t ls st M) ∧ (¬ x < y → X (pc + 3) ls st M)
  | _ => False
def o_ige (t : Nat) : pT := fun _ _ _ _ X pc ls st M => match st with
  | .inl y :: .inl x :: st => (y ≤ x → X t ls st M) ∧ (¬ y ≤ x → X (pc + 3) ls st M)
  | _ => False
def o_igt (t : Nat) : pT := fun _ _ _ _ X pc ls st M => match st with
  | .inl y :: .inl x :: st => (y < x → X t ls st M) ∧ (¬ y < x → X (pc + 3) ls st M)
  | _ => False
def o_ile (t : Nat) : pT := fun _ _ _ _ X pc ls st M => match st with
  | .inl y :: .inl x :: st => (x ≤ y → X t ls st M) ∧ (¬ x ≤ y → X (pc + 3) ls st M)
  | _ => False
def o_inul (t : Nat) : pT := fun _ _ _ _ X pc ls st M => match st with
  | .inr (.inr none) :: st => X t ls st M
  | .inr (.inr (some _)) :: st => X (pc + 3) ls st M
  | _ => False
def o_inn (t : Nat) : pT := fun _ _ _ _ X pc ls st M => match st with
  | .inr (.inr none) :: st => X (pc + 3) ls st M
  | .inr (.inr (some _)) :: st => X t ls st M
  | _ => False
def p_sw (Y : Nat → Prop) (x : Int32) : List (Int32 × Nat) → Nat → Prop
  | [], d => Y d
  | q :: r, d => (x = q.1 → Y q.2) ∧ (¬ x = q.1 → p_sw Y x r d)
def o_sw (l : List (Int32 × Nat)) (d : Nat) : pT := fun _ _ _ _ X _ ls st M => match st with
  | .inl x :: st => p_sw (fun t => X t ls st M) x l d
  | _ => False
-- cells
def o_gi (c k : Nat) : pT := fun _ _ _ _ X pc ls st M => match st with
  | .inr (.inr (some a)) :: st => match p_is M a c 0 with
    | true => X (pc + 3) ls (.inl (M.1 a k) :: st) M
    | false => False
  | _ => False
def o_gr (c k : Nat) : pT := fun _ _ _ _ X pc ls st M => match st with
  | .inr (.inr (some a)) :: st => match p_is M a c (k + 1) with
    | true => match p_rf a k with
      | some b => X (pc + 3) ls (.inr (.inr (some b)) :: st) M
      | none => False
    | false => False
  | _ => False
def o_pi (c k : Nat) : pT := fun _ _ _ _ X pc ls st M => match st with
  | .inl x :: .inr (.inr (some a)) :: st => match p_is M a c 0 with
    | true => X (pc + 3) ls st (p_wr M a k x)
    | false => False
  | _ => False
def o_pr (c k : Nat) : pT := fun _ _ _ _ X pc ls st M => match st with
  | .inr (.inr (some b)) :: .inr (.inr (some a)) :: st => match p_is M a c 0 && (p_nr a (M.2.2.2 a - 1) (k - (M.2.2.2 a - 1)) && Nat.ble (M.2.2.2 a) (k + 1)) with
    | true => p_rf a k = some b ∧ X (pc + 3) ls st (p_fl M a (k + 2))
    | false => False
  | _ => False
def o_len : pT := fun _ _ _ _ X pc ls st M => match st with
  | .inr (.inr (some a)) :: st => match Nat.ble 9 (p_kd a) && (Nat.ble (p_kd a) 11 && Nat.blt 0 (M.2.2.2 a)) with
    | true => X (pc + 1) ls (.inl (Int32.ofNat (p_ln a)) :: st) M
    | false => False
  | _ => False
def o_ia : pT := fun _ _ _ _ X pc ls st M => match st with
  | .inl i :: .inr (.inr (some a)) :: st => match p_is M a 9 0 with
    | true => vp_in i (p_ln a) ∧ X (pc + 1) ls (.inl (M.1 a i.toNatClampNeg) :: st) M
    | false => False
  | _ => False
def o_ist : pT := fun _ _ _ _ X pc ls st M => match st with
  | .inl x :: .inl i :: .inr (.inr (some a)) :: st => match p_is M a 9 0 with
    | true => vp_in i (p_ln a) ∧ X (pc + 1) ls st (p_wr M a i.toNatClampNeg x)
    | false => False
  | _ => False
def o_aa (kd : Nat) : pT := fun _ _ _ _ X pc ls st M => match st with
  | .inl i :: .inr (.inr (some a)) :: st => match p_is M a kd 0 with
    | true => vp_in i (p_ln a) ∧ X (pc + 1) ls (.inr (.inr (M.2.1 a i.toNatClampNeg)) :: st) M
    | false => False
  | _ => False
def o_ast (kd ce : Nat) : pT := fun _ _ _ _ X pc ls st M => match st with
  | .inr (.inr (some b)) :: .inl i :: .inr (.inr (some a)) :: st => match p_is M a kd 0 && p_is M b ce 0 with
    | true => vp_in i (p_ln a) ∧ X (pc + 1) ls st (p_wq M a i.toNatClampNeg (some b))
    | false => False
  | _ => False
def o_new (c : Nat) : pT := fun _ _ _ _ X pc ls st M => match p_go p_all M.2.2.1 with
  | some a => match Nat.beq (p_kd a) c with
    | true => X (pc + 3) ls (.inr (.inr (some a)) :: st) (p_mk M a)
    | false => False
  | none => False
def o_na (kd n : Nat) : pT := fun _ _ _ _ X pc ls st M => match st with
  | .inl x :: st => match p_go p_all M.2.2.1 with
    | some a => match Nat.beq (p_kd a) kd with
      | true => (Int32.ofNat (p_ln a) = x) ∧ X (pc + n) ls (.inr (.inr (some a)) :: st) (p_mk M a)
      | false => False
    | none => False
  | _ => False
/-- the receiver of a call: a cell of the class; of a static method (99) none -/
def p_rc (M : pM) (c : Nat) (as : pST) : Bool := match Nat.beq c 99 with
  | true => true
  | false => match as with
    | .inr (.inr (some a)) :: _ => p_is M a c 0
    | _ => false
def o_cv (c k n : Nat) : pT := fun C d _ _ X pc ls st M => match p_pop n st [] with
  | some (as, st) => match p_rc M c as with
    | true => C d k M as M.2.2.1 (fun M v => match v with
      | none => X (pc + 3) ls st M
      | _ => False)
    | false => False
  | none => False
def o_ci (c k n : Nat) : pT := fun C d _ _ X pc ls st M => match p_pop n st [] with
  | some (as, st) => match p_rc M c as with
    | true => C d k M as M.2.2.1 (fun M v => match v with
      | some (.inl x) => X (pc + 3) ls (.inl x :: st) M
      | _ => False)
    | false => False
  | none => False
def o_cl (c k n : Nat) : pT := fun C d _ _ X pc ls st M => match p_pop n st [] with
  | some (as, st) => match p_rc M c as with
    | true => C d k M as M.2.2.1 (fun M v => match v with
      | some (.inr (.inl x)) => X (pc + 3) ls (.inr (.inl x) :: st) M
      | _ => False)
    | false => False
  | none => False
def o_cr (c k n : Nat) : pT := fun C d _ _ X pc ls st M => match p_pop n st [] with
  | some (as, st) => match p_rc M c as with
    | true => C d k M as M.2.2.1 (fun M v => match v with
      | some (.inr (.inr x)) => X (pc + 3) ls (.inr (.inr x) :: st) M
      | _ => False)
    | false => False
  | none => False
/-- a constructor: it makes cells up to number e -/
def o_cn (c k n : Nat) : pT := fun C d _ _ X pc ls st M => match p_pop n st [] with
  | some (as, st) => match p_rc M c as with
    | true => ∃ e, M.2.2.1 ≤ e ∧ C d k M as e (fun M v => match v with
      | none => X (pc + 3) ls st M
      | _ => False)
    | false => False
  | none => False
def o_oi : pT := fun _ _ _ _ X pc ls st M => match st with
  | .inr (.inr (some _)) :: st => X (pc + 3) ls st M
  | _ => False
def o_cp : pT := fun _ _ _ _ X pc ls st M => match st with
  | .inl n :: .inl dp :: .inr (.inr (some a)) :: .inl sp :: .inr (.inr (some b)) :: st => match p_is M a 9 0 && p_is M b 9 0 with
    | true => (¬ sp < 0 ∧ ¬ dp < 0 ∧ ¬ n < 0 ∧ sp.toNatClampNeg + n.toNatClampNeg ≤ p_ln b ∧ dp.toNatClampNeg + n.toNatClampNeg ≤ p_ln a) ∧ X (pc + 3) ls st (p_row M a (va_cpy (M.1 b) (M.1 a) sp.toNatClampNeg dp.toNatClampNeg n.toNatClampNeg))
    | false => False
  | _ => False
-- the literal, the script
def o_sk : pT := fun _ _ _ _ X pc ls st M => X (pc + 2) ls (.inr (.inr (some (aS 40))) :: st) M
def o_sl : pT := fun _ _ _ _ X pc ls st M => match st with
  | .inr (.inr (some a)) :: st => match Nat.beq (p_kd a) 13 with
    | true => X (pc + 3) ls (.inl (Int32.ofNat p_lit.length) :: st) M
    | false => False
  | _ => False
def o_sc : pT := fun _ _ _ _ X pc ls st M => match st with
  | .inl i :: .inr (.inr (some a)) :: st => match Nat.beq (p_kd a) 13 with
    | true => vp_in i p_lit.length ∧ X (pc + 3) ls (.inl (p_lit.getD i.toNatClampNeg 0) :: st) M
    | false => False
  | _ => False
def o_zl : pT := fun _ _ _ _ X pc ls st M => match st with
  | .inr (.inr (some a)) :: st => match Nat.beq (p_kd a) 12 with
    | true => X (pc + 1) ls (.inl (Int32.ofNat (M.2.2.2 a - 1)) :: st) M
    | false => False
  | _ => False
def o_za : pT := fun _ _ _ _ X pc ls st M => match st with
  | .inl i :: .inr (.inr (some a)) :: st => match Nat.beq (p_kd a) 12 with
    | true => vp_in i (M.2.2.2 a - 1) ∧ X (pc + 1) ls (.inl (M.1 a i.toNatClampNeg) :: st) M
    | false => False
  | _ => False
-- returns
def o_vr : pT := fun _ _ n Q _ _ _ st M => match st with
  | [] => match Nat.beq M.2.2.1 n with
    | true => Q M none
    | false => False
  | _ => False
def o_ir : pT := fun _ _ n Q _ _ _ st M => match st with
  | [.inl x] => match Nat.beq M.2.2.1 n with
    | true => Q M (some (.inl x))
    | false => False
  | _ => False
def o_zr : pT := fun _ _ n Q _ _ _ st M => match st with
  | [.inl x] => match Nat.beq M.2.2.1 n with
    | true => (x = 0 ∨ x = 1) ∧ Q M (some (.inl x))
    | false => False
  | _ => False
def o_lr : pT := fun _ _ n Q _ _ _ st M => match st with
  | [.inr (.inl x)] => match Nat.beq M.2.2.1 n with
    | true => Q M (some (.inr (.inl x)))
    | false => False
  | _ => False
def o_ar : pT := fun _ _ n Q _ _ _ st M => match st with
  | [.inr (.inr x)] => match Nat.beq M.2.2.1 n with
    | true => Q M (some (.inr (.inr x)))
    | false => False
  | _ => False
def p_nth : List pT → Nat → pT
  | [], _ => o_x
  | t :: _, 0 => t
  | _ :: l, n + 1 => p_nth l n
/-- a walk of the code tb is closed under its instructions -/
def p_Cl (C : pC) (tb : List pT) (d n : Nat) (Q : pQ) (Z : pX) : Prop := ∀ (pc : Nat) (ls : pLS) (st : pST) (M : pM), p_nth tb pc C d n Q Z pc ls st M → Z pc ls st M
