/-! SOUNDNESS of the logic over the machine: the world of the cells, the locals, one row an instruction. w: the tables' numbers (classes, slots), the array classes, the address of each cell. -/
abbrev pW : Type := ((Nat → ClassId) × (Nat → Nat → Nat)) × ((Nat → ClassId) × (pA → Nat))
def q_v (w : pW) : pV → Value
  | .inl x => .int x
  | .inr (.inl x) => .long x
  | .inr (.inr r) => va_rf (r.map w.2.2)
def p_nf : List Nat := [4, 4, 10, 4, 2, 3, 4, 8, 35]
def q_f (w : pW) (M : pM) (a : pA) (k : Nat) : Value := match p_rf a k with
  | some q => .ref (w.2.2 q)
  | none => .int (M.1 a k)
def q_E (w : pW) (M : pM) (a : pA) : va_E := match Nat.blt (p_kd a) 9 with
  | true => .inr (p_kd a, (List.range (p_g p_nf (p_kd a))).map (q_f w M a))
  | false => match Nat.beq (p_kd a) 9 with
    | true => .inl (w.2.1 0, p_ln a, .inl (M.1 a))
    | false => .inl (w.2.1 (p_kd a - 9), p_ln a, .inr (.inr (.inr (.inr (fun i => (M.2 a i).map w.2.2)))))
def q_cl : List pA := (List.range 18).map aS ++ ((List.range 84).map (fun n => aR (Fin.ofNat 12 (n / 7)) (n % 7)) ++ (List.range 9).map (fun n => aI (Fin.ofNat 9 n)))
def q_md : List pA := (List.range 21).map (fun n => aS (n + 18))
def q_as (b : Bool) : List pA := q_cl ++ (match b with | true => q_md | false => [])
def q_ix : pA → Nat
  | .inl s => match Nat.blt s 18 with
    | true => s
    | false => s + 93
  | .inr (.inl r) => 18 + (7 * r.1.val + r.2)
  | .inr (.inr i) => 102 + i.val
theorem q_ix_1 : ∀ s, s < 18 → (q_as false)[q_ix (aS s)]? = some (aS s) := by decide +kernel
theorem q_ix_2 : ∀ s, s < 39 → (q_as true)[q_ix (aS s)]? = some (aS s) := by decide +kernel
theorem q_ix_3 : ∀ (b : Bool) (j : Fin 12) (c : Fin 7), (q_as b)[q_ix (aR j c.val)]? = some (aR j c.val) := by decide +kernel
theorem q_ix_4 : ∀ (b : Bool) (i : Fin 9), (q_as b)[q_ix (aI i)]? = some (aI i) := by decide +kernel
theorem q_ix_ok (b : Bool) (a : pA) (h : p_al b a = true) : (q_as b)[q_ix a]? = some a := by
  rcases a with s | ⟨⟨j, c⟩ | i⟩
  · cases b
    · have h' : s < 18 := by simpa [p_al] using h
      exact q_ix_1 s h'
    · have h' : s < 18 ∨ s < 39 := by simpa [p_al] using h
      exact q_ix_2 s (by omega)
  · have h' : c < 7 := by simpa [p_al] using h
    exact q_ix_3 b j ⟨c, h'⟩
  · exact q_ix_4 b i
theorem q_as_1 : ∀ (b : Bool) (k : Fin 132), (match (q_as b)[k.val]? with | some a => p_al b a && Nat.beq (q_ix a) k.val | none => true) = true := by decide +kernel
theorem q_as_2 : ∀ b : Bool, (q_as b).length ≤ 132 := by decide +kernel
theorem q_as_ok {b : Bool} {k : Nat} {a : pA} (h : (q_as b)[k]? = some a) : p_al b a = true ∧ q_ix a = k := by
  have hk : k < 132 := Nat.lt_of_lt_of_le (List.getElem?_eq_some_iff.mp h).1 (q_as_2 b)
  have h1 := q_as_1 b ⟨k, hk⟩
  simp only [h, Bool.and_eq_true] at h1
  exact ⟨h1.1, Nat.eq_of_beq_eq_true h1.2⟩
def q_ws (b : Bool) (w : pW) (M : pM) : va_W := (q_as b).map (fun a => (w.2.2 a, q_E w M a))
/-- the heap holds the memory -/
def q_H (b : Bool) (w : pW) (M : pM) (H : Heap) : Prop := ∀ a, p_al b a = true → va_at w.1 vwCl (w.2.2 a, q_E w M a) H
/-- the addresses are apart -/
def q_J (b : Bool) (w : pW) : Prop := ∀ a a', p_al b a = true → p_al b a' = true → w.2.2 a = w.2.2 a' → a = a'
def q_A (b : Bool) (w : pW) : Nat → Prop := fun q => ∃ a, p_al b a = true ∧ q = w.2.2 a
theorem q_of {b : Bool} {w : pW} {M : pM} {k : Nat} {q : Nat × va_E} (h : (q_ws b w M)[k]? = some q) : ∃ a, p_al b a = true ∧ q_ix a = k ∧ q = (w.2.2 a, q_E w M a) := by
  rw [q_ws, List.getElem?_map] at h
  cases e : (q_as b)[k]? with
  | none => rw [e] at h; cases h
  | some a =>
    rw [e] at h
    exact ⟨a, (q_as_ok e).1, (q_as_ok e).2, (Option.some.inj h).symm⟩
theorem q_H.P {b : Bool} {w : pW} {M : pM} {H : Heap} (h : q_H b w M H) : va_P w.1 vwCl (q_ws b w M) H := by
  intro k q hq
  obtain ⟨a, h1, -, rfl⟩ := q_of hq
  exact h a h1
theorem q_at {b : Bool} {w : pW} (M : pM) {a : pA} (h : p_al b a = true) : (q_ws b w M)[q_ix a]? = some (w.2.2 a, q_E w M a) := by
  rw [q_ws, List.getElem?_map, q_ix_ok b a h]
  rfl
theorem q_ix_inj {b : Bool} {a a' : pA} (h : p_al b a = true) (h' : p_al b a' = true) (e : q_ix a = q_ix a') : a = a' := by
  have h1 := q_ix_ok b a h
  rw [e, q_ix_ok b a' h'] at h1
  exact (Option.some.inj h1).symm
theorem q_D {b : Bool} {w : pW} {M : pM} (hJ : q_J b w) : va_D (q_A b w) (q_ws b w M) := by
  refine ⟨fun i j p q hi hj e => ?_, fun k q hq => ?_⟩
  · obtain ⟨a, h1, h2, rfl⟩ := q_of hi
    obtain ⟨a', h1', h2', rfl⟩ := q_of hj
    have := hJ a a' h1 h1' e
    subst this
    exact h2.symm.trans h2'
  · obtain ⟨a, h1, h2, rfl⟩ := q_of hq
    exact ⟨a, h1, rfl⟩
theorem q_set {b : Bool} {w : pW} {M M' : pM} {H1 : Heap} {a : pA} {E : va_E} (ha : p_al b a = true) (h : va_P w.1 vwCl ((q_ws b w M).set (q_ix a) (w.2.2 a, E)) H1) (hE : q_E w M' a = E) (hM : ∀ a', a' ≠ a → q_E w M' a' = q_E w M a') : q_H b w M' H1 := by
  intro a' ha'
  have hl : q_ix a < (q_ws b w M).length := (List.getElem?_eq_some_iff.mp (q_at (w := w) M ha)).1
  by_cases e : a' = a
  · subst e
    rw [hE]
    exact h (q_ix a') _ (by rw [List.getElem?_set_self hl])
  · rw [hM a' e]
    refine h (q_ix a') _ ?_
    rw [List.getElem?_set_ne (fun q => e (q_ix_inj ha' ha q.symm))]
    exact q_at M ha'
theorem q_E_cg {w : pW} {M M' : pM} {a : pA} (h1 : M'.1 a = M.1 a) (h2 : M'.2 a = M.2 a) : q_E w M' a = q_E w M a := by
  have e : q_f w M' a = q_f w M a := by
    funext k
    simp only [q_f, h1]
  simp only [q_E, e, h1, h2]
theorem p_row_ne {M : pM} {a b : pA} {r : Nat → Int32} (h : b ≠ a) : (p_row M a r).1 b = M.1 b := by
  simp only [p_row, p_eq_ne h]
theorem p_row_eq {M : pM} {a : pA} {r : Nat → Int32} : (p_row M a r).1 a = r := by
  simp only [p_row, p_eq_rf]
theorem p_wq_ne {M : pM} {a b : pA} {k : Nat} {x : Option pA} (h : b ≠ a) : (p_wq M a k x).2 b = M.2 b := by
  simp only [p_wq, p_eq_ne h]
theorem p_wq_eq {M : pM} {a : pA} {k : Nat} {x : Option pA} : (p_wq M a k x).2 a = va_up (M.2 a) k x := by
  simp only [p_wq, p_eq_rf]
theorem q_obj {b : Bool} {w : pW} {a : pA} {ci : Nat} (M : pM) (h : p_is b a ci = true) (hc : ci < 9) : p_al b a = true ∧ q_E w M a = .inr (ci, (List.range (p_g p_nf ci)).map (q_f w M a)) := by
  simp only [p_is, Bool.and_eq_true] at h
  have e : p_kd a = ci := Nat.eq_of_beq_eq_true h.1
  refine ⟨h.2, ?_⟩
  simp only [q_E, e, show Nat.blt ci 9 = true from by simp [hc]]
theorem q_ints {b : Bool} {w : pW} {a : pA} (M : pM) (h : p_is b a 9 = true) : p_al b a = true ∧ q_E w M a = .inl (w.2.1 0, p_ln a, .inl (M.1 a)) := by
  simp only [p_is, Bool.and_eq_true] at h
  have e : p_kd a = 9 := Nat.eq_of_beq_eq_true h.1
  refine ⟨h.2, ?_⟩
  simp only [q_E, e]
  rfl
theorem p_blt_f {n m : Nat} (h : m < n) : Nat.blt n m = false := by
  cases e : Nat.blt n m with
  | false => rfl
  | true =>
    have := Nat.le_of_ble_eq_true e
    omega
theorem p_beq_f {n m : Nat} (h : n ≠ m) : Nat.beq n m = false := by
  cases e : Nat.beq n m with
  | false => rfl
  | true => exact absurd (Nat.eq_of_beq_eq_true e) h
theorem q_refs {b : Bool} {w : pW} {a : pA} {kd : Nat} (M : pM) (h : p_is b a kd = true) (hk : 9 < kd) : p_al b a = true ∧ q_E w M a = .inl (w.2.1 (kd - 9), p_ln a, .inr (.inr (.inr (.inr (fun i => (M.2 a i).map w.2.2))))) := by
  simp only [p_is, Bool.and_eq_true] at h
  have e : p_kd a = kd := Nat.eq_of_beq_eq_true h.1
  refine ⟨h.2, ?_⟩
  simp only [q_E, e, p_blt_f hk, p_beq_f (Nat.ne_of_gt hk)]
-- locals
def q_lv (w : pW) : Nat → pLS → List (Nat × Value)
  | _, [] => []
  | i, none :: l => q_lv w (i + 1) l
  | i, some v :: l => (i, q_v w v) :: q_lv w (i + 1) l
theorem q_lv_mem {w : pW} : ∀ (ls : pLS) (k : Nat) (q : Nat × Value), q ∈ q_lv w k ls ↔ ∃ n u, p_lg ls n = some u ∧ q = (k + n, q_v w u) := by
  intro ls
  induction ls with
  | nil =>
    intro k q
    simp [q_lv, p_lg]
  | cons x l ih =>
    intro k q
    have key : (∃ n u, p_lg (x :: l) n = some u ∧ q = (k + n, q_v w u)) ↔ (∃ u, x = some u ∧ q = (k, q_v w u)) ∨ ∃ n u, p_lg l n = some u ∧ q = (k + 1 + n, q_v w u) := by
      constructor
      · rintro ⟨n, u, h1, h2⟩
        cases n with
        | zero => exact Or.inl ⟨u, h1, h2⟩
        | succ n => exact Or.inr ⟨n, u, h1, by rw [h2]; congr 1; omega⟩
      · rintro (⟨u, h1, h2⟩ | ⟨n, u, h1, h2⟩)
        · exact ⟨0, u, h1, h2⟩
        · exact ⟨n + 1, u, h1, by rw [h2]; congr 1; omega⟩
    rw [key]
    cases x with
    | none => simp [q_lv, ih]
    | some v => simp [q_lv, ih]
theorem q_get {w : pW} {la : Array Slot} {nL : Nat} {ls : pLS} (h : lv_has la nL (q_lv w 0 ls)) {i : Nat} {v : pV} (hi : p_lg ls i = some v) : la[i]? = some (.val (q_v w v)) :=
  h.2.2 (i, q_v w v) ((q_lv_mem ls 0 _).mpr ⟨i, v, hi, by rw [Nat.zero_add]⟩)
theorem p_lg_ls : ∀ (ls : pLS) (i n : Nat) (x : Option pV), p_lg (p_ls ls i x) n = if n = i ∧ i < p_len ls then x else p_lg ls n := by
  intro ls
  induction ls with
  | nil =>
    intro i n x
    simp [p_ls, p_lg, p_len]
  | cons y l ih =>
    intro i n x
    cases i with
    | zero =>
      cases n with
      | zero => simp [p_ls, p_lg, p_len]
      | succ n => simp [p_ls, p_lg]
    | succ i =>
      cases n with
      | zero => simp [p_ls, p_lg]
      | succ n => simp [p_ls, p_lg, p_len, ih]
theorem p_len_ls : ∀ (ls : pLS) (i : Nat) (x : Option pV), p_len (p_ls ls i x) = p_len ls := by
  intro ls
  induction ls with
  | nil => intro i x; rfl
  | cons y l ih =>
    intro i x
    cases i with
    | zero => rfl
    | succ i => simp [p_ls, p_len, ih]
theorem q_cat2 {w : pW} {u : pV} (h : (q_v w u).category = 2) : ∃ x, u = .inr (.inl x) := by
  rcases u with x | x | x
  · cases h
  · exact ⟨x, rfl⟩
  · cases x <;> cases h
theorem p_lw_lt {ls : pLS} {i : Nat} (h : p_lw ls i = true) : i < p_len ls := by
  cases i with
  | zero => simpa [p_lw] using h
  | succ i =>
    simp only [p_lw, Bool.and_eq_true] at h
    simpa using h.1
theorem p_lw_no {ls : pLS} {n : Nat} {x : Int64} (h : p_lw ls (n + 1) = true) (hn : p_lg ls n = some (.inr (.inl x))) : False := by
  simp [p_lw, hn] at h
theorem q_sto {w : pW} {la : Array Slot} {nL i : Nat} {ls : pLS} {v : pV} (hw : p_lw ls i = true) (h : lv_has la nL ((i, q_v w v) :: (q_lv w 0 ls).filter (fun q => !(q.1 == i) && !(q.1 + 1 == i && q.2.category == 2)))) : lv_has la nL (q_lv w 0 (p_ls ls i (some v))) := by
  refine ⟨h.1, h.2.1, fun q hq => h.2.2 q ?_⟩
  obtain ⟨n, u, h1, rfl⟩ := (q_lv_mem _ 0 q).mp hq
  rw [p_lg_ls] at h1
  split at h1
  · rename_i e
    cases h1
    rw [e.1, Nat.zero_add]
    exact List.mem_cons_self
  · rename_i e
    have hne : n ≠ i := fun q => e ⟨q, p_lw_lt hw⟩
    refine List.mem_cons_of_mem _ (List.mem_filter.mpr ⟨(q_lv_mem _ 0 _).mpr ⟨n, u, h1, rfl⟩, ?_⟩)
    rw [Nat.zero_add]
    have : ¬ (n + 1 = i ∧ (q_v w u).category = 2) := by
      rintro ⟨e1, e2⟩
      obtain ⟨x, rfl⟩ := q_cat2 e2
      subst e1
      exact p_lw_no hw h1
    simp only [Bool.and_eq_true, Bool.not_eq_true', beq_eq_false_iff_ne, Bool.and_eq_false_iff]
    refine ⟨hne, ?_⟩
    by_cases e1 : n + 1 = i
    · exact Or.inr fun e2 => this ⟨e1, e2⟩
    · exact Or.inl e1
theorem q_stoL {w : pW} {la : Array Slot} {nL i : Nat} {ls : pLS} {x : Int64} (hw : p_lw ls i = true) (hi : i + 1 < p_len ls) (h : lv_has la nL ((i, Value.long x) :: (q_lv w 0 ls).filter (fun q => !(q.1 == i) && (!(q.1 == i + 1) && !(q.1 + 1 == i && q.2.category == 2))))) : lv_has la nL (q_lv w 0 (p_ls (p_ls ls i (some (.inr (.inl x)))) (i + 1) none)) := by
  refine ⟨h.1, h.2.1, fun q hq => h.2.2 q ?_⟩
  obtain ⟨n, u, h1, rfl⟩ := (q_lv_mem _ 0 q).mp hq
  rw [p_lg_ls, p_lg_ls, p_len_ls] at h1
  split at h1
  · cases h1
  · rename_i e0
    have hne1 : n ≠ i + 1 := fun q => e0 ⟨q, hi⟩
    split at h1
    · rename_i e
      cases h1
      rw [e.1, Nat.zero_add]
      exact List.mem_cons_self
    · rename_i e
      have hne : n ≠ i := fun q => e ⟨q, p_lw_lt hw⟩
      refine List.mem_cons_of_mem _ (List.mem_filter.mpr ⟨(q_lv_mem _ 0 _).mpr ⟨n, u, h1, rfl⟩, ?_⟩)
      rw [Nat.zero_add]
      have : ¬ (n + 1 = i ∧ (q_v w u).category = 2) := by
        rintro ⟨e1, e2⟩
        obtain ⟨x, rfl⟩ := q_cat2 e2
        subst e1
        exact p_lw_no hw h1
      simp only [Bool.and_eq_true, Bool.not_eq_true', beq_eq_false_iff_ne, Bool.and_eq_false_iff]
      refine ⟨hne, hne1, ?_⟩
      by_cases e1 : n + 1 = i
      · exact Or.inr fun e2 => this ⟨e1, e2⟩
      · exact Or.inl e1
theorem q_ini {w : pW} : ∀ (as : pST) (n k : Nat), p_cat as ≤ n → p_len (p_ini n as) = n ∧ ∀ q ∈ q_lv w k (p_ini n as), q ∈ lv_args k (as.map (q_v w)) := by
  intro as
  induction as with
  | nil =>
    intro n
    induction n with
    | zero => intro k _; exact ⟨rfl, fun q hq => by cases hq⟩
    | succ n ih =>
      intro k _
      obtain ⟨h1, h2⟩ := ih (k + 1) (Nat.zero_le _)
      exact ⟨by simp [p_ini, p_len, h1], fun q hq => by have := h2 q hq; simp [lv_args] at this⟩
  | cons v l ih =>
    intro n k h
    rcases v with x | x | x
    · cases n with
      | zero => simp [p_cat] at h
      | succ n =>
        obtain ⟨h1, h2⟩ := ih n (k + 1) (by simp [p_cat] at h; omega)
        refine ⟨by simp [p_ini, p_len, h1], fun q hq => ?_⟩
        simp only [p_ini, q_lv, List.mem_cons] at hq
        rcases hq with rfl | hq
        · exact List.mem_cons_self
        · exact List.mem_cons_of_mem _ (h2 q hq)
    · cases n with
      | zero => simp [p_cat] at h
      | succ n =>
        cases n with
        | zero => simp [p_cat] at h
        | succ n =>
          obtain ⟨h1, h2⟩ := ih n (k + 2) (by simp [p_cat] at h; omega)
          refine ⟨by simp [p_ini, p_len, h1], fun q hq => ?_⟩
          simp only [p_ini, q_lv, List.mem_cons] at hq
          rcases hq with rfl | hq
          · exact List.mem_cons_self
          · exact List.mem_cons_of_mem _ (h2 q hq)
    · cases n with
      | zero => cases x <;> simp [p_cat] at h
      | succ n =>
        obtain ⟨h1, h2⟩ := ih n (k + 1) (by cases x <;> simp [p_cat] at h <;> omega)
        refine ⟨by simp [p_ini, p_len, h1], fun q hq => ?_⟩
        simp only [p_ini, q_lv, List.mem_cons] at hq
        rcases hq with rfl | hq
        · cases x <;> exact List.mem_cons_self
        · cases x <;> exact List.mem_cons_of_mem _ (h2 q hq)
theorem q_cat {w : pW} : ∀ st : pST, ((st.map (q_v w)).map fun v => v.category).sum = p_cat st := by
  intro st
  induction st with
  | nil => rfl
  | cons v l ih =>
    rw [List.map_cons, List.map_cons, List.sum_cons, ih]
    rcases v with x | x | _ | x <;> exact Nat.add_comm _ _
theorem q_sl {w : pW} : ∀ st : pST, (lg_sl (st.map (q_v w))).length = p_cat st := by
  intro st
  induction st with
  | nil => rfl
  | cons v l ih =>
    have e : lg_sl ((v :: l).map (q_v w)) = (if (q_v w v).category = 2 then [.val (q_v w v), .second] else [.val (q_v w v)]) ++ lg_sl (l.map (q_v w)) := rfl
    rw [e, List.length_append, ih]
    rcases v with x | x | _ | x <;> exact Nat.add_comm _ _
theorem p_pop_spec : ∀ (n : Nat) (st acc as st' : pST), p_pop n st acc = some (as, st') → ∃ pre, st = pre ++ st' ∧ pre.length = n ∧ as = pre.reverse ++ acc := by
  intro n
  induction n with
  | zero =>
    intro st acc as st' h
    cases h
    exact ⟨[], rfl, rfl, rfl⟩
  | succ n ih =>
    intro st acc as st' h
    cases st with
    | nil => cases h
    | cons v st =>
      obtain ⟨pre, h1, h2, h3⟩ := ih st (v :: acc) as st' h
      exact ⟨v :: pre, by rw [h1]; rfl, by simp [h2], by rw [h3]; simp⟩

-- the walk's setting
def p_nst : Cond → Bool
  | .fieldLinkNest .. => true
  | .methodLinkNest .. => true
  | _ => false
def p_N : List Cond := lw_tbl.filter p_nst
theorem p_inN {z : Cond} (i : Nat) (h : lw_tbl[i]? = some z) (hg : p_nst z = true) : z ∈ p_N := List.mem_filter.mpr ⟨List.mem_of_getElem? h, hg⟩
theorem p_N_tab {z : Cond} (h : z ∈ p_N) : z.onTables = true := by
  have := (List.mem_filter.mp h).2
  cases z <;> first | rfl | cases this
theorem p_N_warm {z : Cond} (h : z ∈ p_N) {s U : State} (hW : s.WarmedH U.vm) (hz : va_Nw z s) : va_Nw z U := by
  have := (List.mem_filter.mp h).2
  cases z <;> first | exact va_Nw.warmF hW hz | exact va_Nw.warmM hW hz | cases this
def q_K (w : pW) (U : State) : Prop := va_K w.1 vwCl [(w.2.1 0, .int), (w.2.1 1, .object RX1), (w.2.1 2, .object RX2)] U
def q_U (b : Bool) (w : pW) (M : pM) (U : State) : Prop := q_H b w M U.heap ∧ q_K w U ∧ ∀ z ∈ p_N, va_Nw z U
def q_Qc (b : Bool) (w : pW) (Q : pQ) : Array Value → State → Outcome → State → Prop := fun _ st oc t => (∃ M v, oc = .returned (Option.map (q_v w) v) ∧ Q M v ∧ q_H b w M t.heap) ∧ va_F (q_A b w) st t
def p_rm (d : Nat) : Room := { frames := d, cells := 0, slots := 0, locals := 64 * d }
def q_X (b : Bool) (w : pW) (p : Program) (s : State) (m : MethodId) (args : Array Value) (c : Code) (own : String) (cc : ByteArray) (nL : Nat) (R : Room) (d cells slots : Nat) : Prop :=
  p.tables.exec = Jvm.exec ∧ c.code = cc ∧ c.maxLocals = nL ∧ s.vm.findClass own = some m.cls ∧ (∀ z ∈ p_T, z.before args s = true) ∧ (∀ z ∈ p_N, va_Nw z s) ∧ q_K w s ∧ q_J b w ∧ d ≤ R.frames ∧ 64 * d ≤ R.locals ∧ cells ≤ R.cells ∧ slots ≤ R.slots
def q_Z (b : Bool) (w : pW) (p : Program) (l : Launch) (e : Env) (R : Room) (s : State) (m : MethodId) (args : Array Value) (below : List Frame) (meth : Method) (c : Code) (nL cells slots : Nat) (Qw : State → Prop) : pX := fun pc ls st M =>
  ∀ (H : Heap) (locs : List Loc) (la : Array Slot), q_H b w M H → va_S (q_A b w) s.heap H locs → lv_has la nL (q_lv w 0 ls) → p_len ls = nL → W p l e R s m args below meth c H locs cells slots Qw (F0 m pc la (st.map (q_v w)))
def p_sd (b : Bool) (C : pC) (d : Nat) (Q : pQ) (Z : pX) (t : pT) (pc : Nat) : Prop := ∀ (ls : pLS) (st : pST) (M : pM), t b C d Q Z pc ls st M → Z pc ls st M
theorem p_cn {b : Bool} {C : pC} {d : Nat} {Q : pQ} {Z : pX} {n : Nat} : ∀ pc, p_sd b C d Q Z (p_nth [] pc) (n + pc) := fun _ _ _ _ h => False.elim h
theorem p_cc {b : Bool} {C : pC} {d : Nat} {Q : pQ} {Z : pX} {n : Nat} {t : pT} {l : List pT} (h0 : p_sd b C d Q Z t n) (h1 : ∀ pc, p_sd b C d Q Z (p_nth l pc) (n + 1 + pc)) : ∀ pc, p_sd b C d Q Z (p_nth (t :: l) pc) (n + pc) := by
  intro pc
  cases pc with
  | zero => exact h0
  | succ k =>
    have := h1 k
    rw [show n + 1 + k = n + (k + 1) by omega] at this
    exact this
theorem p_c0 {b : Bool} {C : pC} {d : Nat} {Q : pQ} {Z : pX} {tb : List pT} (h : ∀ pc, p_sd b C d Q Z (p_nth tb pc) (0 + pc)) : p_Cl b C tb d Q Z := by
  intro pc ls st M k
  have := h pc
  rw [Nat.zero_add] at this
  exact this ls st M k
section Snd
variable {b : Bool} {w : pW} {p : Program} {l : Launch} {e : Env} {R : Room} {s : State} {m : MethodId} {args : Array Value} {below : List Frame} {meth : Method} {c : Code} {own : String} {cc : ByteArray} {nL cells slots pc : Nat} {Qw : State → Prop} {C : pC} {d : Nat} {Q : pQ}
theorem s_x : p_sd b C d Q (q_Z b w p l e R s m args below meth c nL cells slots Qw) o_x pc := fun _ _ _ h => False.elim h
theorem s_ic1 (K : q_X b w p s m args c own cc nL R d cells slots) {n : Int} {v : Int32} (hd : decode cc pc = .ok (.iconst n, 1)) (hv : Int32.ofInt n = v) : (p_sd b C d Q (q_Z b w p l e R s m args below meth c nL cells slots Qw) (o_ic v 1) pc) := by
  intro ls st M h H locs la hH hS hl hn
  exact lv_iconst K.1 K.2.1 hd hv (h H locs la hH hS hl hn)
theorem s_ic2 (K : q_X b w p s m args c own cc nL R d cells slots) {n : Int} {v : Int32} (hd : decode cc pc = .ok (.bipush n, 2)) (hv : (Int8.ofInt n).toInt32 = v) : (p_sd b C d Q (q_Z b w p l e R s m args below meth c nL cells slots Qw) (o_ic v 2) pc) := by
  intro ls st M h H locs la hH hS hl hn
  exact lv_bipush K.1 K.2.1 hd hv (h H locs la hH hS hl hn)
theorem s_ic3 (K : q_X b w p s m args c own cc nL R d cells slots) {n : Int} {v : Int32} (hd : decode cc pc = .ok (.sipush n, 3)) (hv : (Int16.ofInt n).toInt32 = v) : (p_sd b C d Q (q_Z b w p l e R s m args below meth c nL cells slots Qw) (o_ic v 3) pc) := by
  intro ls st M h H locs la hH hS hl hn
  exact lv_sipush K.1 K.2.1 hd hv (h H locs la hH hS hl hn)
theorem s_ldc (K : q_X b w p s m args c own cc nL R d cells slots) {i : Nat} {v : Int32} (hd : decode cc pc = .ok (.ldc i, 2)) (hw : Cond.constant own i v ∈ p_T) : (p_sd b C d Q (q_Z b w p l e R s m args below meth c nL cells slots Qw) (o_ic v 2) pc) := by
  intro ls st M h H locs la hH hS hl hn
  exact lv_ldc K.1 K.2.1 K.2.2.2.1 (K.2.2.2.2.1 _ hw) hd (h H locs la hH hS hl hn)
theorem s_ldcw (K : q_X b w p s m args c own cc nL R d cells slots) {i : Nat} {v : Int32} (hd : decode cc pc = .ok (.ldc_w i, 3)) (hw : Cond.constant own i v ∈ p_T) : (p_sd b C d Q (q_Z b w p l e R s m args below meth c nL cells slots Qw) (o_ic v 3) pc) := by
  intro ls st M h H locs la hH hS hl hn
  exact lv_ldcw K.1 K.2.1 K.2.2.2.1 (K.2.2.2.2.1 _ hw) hd (h H locs la hH hS hl hn)
theorem s_ldc2 (K : q_X b w p s m args c own cc nL R d cells slots) {i : Nat} {v : Int64} (hd : decode cc pc = .ok (.ldc2_w i, 3)) (hw : Cond.constantLong own i v ∈ p_T) : (p_sd b C d Q (q_Z b w p l e R s m args below meth c nL cells slots Qw) (o_lc v 3) pc) := by
  intro ls st M h H locs la hH hS hl hn
  exact lv_ldc2 K.1 K.2.1 K.2.2.2.1 (K.2.2.2.2.1 _ hw) hd (h H locs la hH hS hl hn)
theorem s_lc (K : q_X b w p s m args c own cc nL R d cells slots) {n : Fin 2} {v : Int64} (hd : decode cc pc = .ok (.lconst n, 1)) (hv : Int64.ofNat (n : Nat) = v) : (p_sd b C d Q (q_Z b w p l e R s m args below meth c nL cells slots Qw) (o_lc v 1) pc) := by
  intro ls st M h H locs la hH hS hl hn
  exact lv_lconst K.1 K.2.1 hd hv (h H locs la hH hS hl hn)
theorem s_nu (K : q_X b w p s m args c own cc nL R d cells slots) (hd : decode cc pc = .ok (.aconst_null, 1)) : (p_sd b C d Q (q_Z b w p l e R s m args below meth c nL cells slots Qw) (o_nu) pc) := by
  intro ls st M h H locs la hH hS hl hn
  exact lv_null K.1 K.2.1 hd (h H locs la hH hS hl hn)
theorem s_il1 (K : q_X b w p s m args c own cc nL R d cells slots) {k : Fin 4} {i : Nat} (hd : decode cc pc = .ok (.iload_n k, 1)) (hi : (k : Nat) = i) : (p_sd b C d Q (q_Z b w p l e R s m args below meth c nL cells slots Qw) (o_il i 1) pc) := by
  intro ls st M h H locs la hH hS hl hn
  dsimp only [o_il] at h
  generalize e1 : p_lg ls i = y at h
  rcases y with _ | x | x | x <;> first | exact False.elim h | exact lv_iload_n K.1 K.2.1 hd hi (q_get hl e1) (h H locs la hH hS hl hn)
theorem s_il2 (K : q_X b w p s m args c own cc nL R d cells slots) {i : Nat} (hd : decode cc pc = .ok (.iload i, 2)) : (p_sd b C d Q (q_Z b w p l e R s m args below meth c nL cells slots Qw) (o_il i 2) pc) := by
  intro ls st M h H locs la hH hS hl hn
  dsimp only [o_il] at h
  generalize e1 : p_lg ls i = y at h
  rcases y with _ | x | x | x <;> first | exact False.elim h | exact lv_iload K.1 K.2.1 hd (q_get hl e1) (h H locs la hH hS hl hn)
theorem s_ll1 (K : q_X b w p s m args c own cc nL R d cells slots) {k : Fin 4} {i : Nat} (hd : decode cc pc = .ok (.lload_n k, 1)) (hi : (k : Nat) = i) : (p_sd b C d Q (q_Z b w p l e R s m args below meth c nL cells slots Qw) (o_ll i 1) pc) := by
  intro ls st M h H locs la hH hS hl hn
  dsimp only [o_ll] at h
  generalize e1 : p_lg ls i = y at h
  rcases y with _ | x | x | x <;> first | exact False.elim h | exact lv_lload_n K.1 K.2.1 hd hi (q_get hl e1) (h H locs la hH hS hl hn)
theorem s_ll2 (K : q_X b w p s m args c own cc nL R d cells slots) {i : Nat} (hd : decode cc pc = .ok (.lload i, 2)) : (p_sd b C d Q (q_Z b w p l e R s m args below meth c nL cells slots Qw) (o_ll i 2) pc) := by
  intro ls st M h H locs la hH hS hl hn
  dsimp only [o_ll] at h
  generalize e1 : p_lg ls i = y at h
  rcases y with _ | x | x | x <;> first | exact False.elim h | exact lv_lload K.1 K.2.1 hd (q_get hl e1) (h H locs la hH hS hl hn)
theorem s_al1 (K : q_X b w p s m args c own cc nL R d cells slots) {k : Fin 4} {i : Nat} (hd : decode cc pc = .ok (.aload_n k, 1)) (hi : (k : Nat) = i) : (p_sd b C d Q (q_Z b w p l e R s m args below meth c nL cells slots Qw) (o_al i 1) pc) := by
  intro ls st M h H locs la hH hS hl hn
  dsimp only [o_al] at h
  generalize e1 : p_lg ls i = y at h
  rcases y with _ | x | x | _ | x <;> first | exact False.elim h | exact lv_aload_nN K.1 K.2.1 hd hi (q_get hl e1) (h H locs la hH hS hl hn) | exact lv_aload_n K.1 K.2.1 hd hi (q_get hl e1) (h H locs la hH hS hl hn)
theorem s_al2 (K : q_X b w p s m args c own cc nL R d cells slots) {i : Nat} (hd : decode cc pc = .ok (.aload i, 2)) : (p_sd b C d Q (q_Z b w p l e R s m args below meth c nL cells slots Qw) (o_al i 2) pc) := by
  intro ls st M h H locs la hH hS hl hn
  dsimp only [o_al] at h
  generalize e1 : p_lg ls i = y at h
  rcases y with _ | x | x | _ | x <;> first | exact False.elim h | exact lv_aloadN K.1 K.2.1 hd (q_get hl e1) (h H locs la hH hS hl hn) | exact lv_aload K.1 K.2.1 hd (q_get hl e1) (h H locs la hH hS hl hn)
theorem s_is1 (K : q_X b w p s m args c own cc nL R d cells slots) {k : Fin 4} {i : Nat} (hd : decode cc pc = .ok (.istore_n k, 1)) (hi : (k : Nat) = i) : (p_sd b C d Q (q_Z b w p l e R s m args below meth c nL cells slots Qw) (o_is i 1) pc) := by
  intro ls st M h H locs la hH hS hl hn
  rcases st with _ | ⟨x | x, st⟩ <;> first | exact False.elim h | skip
  all_goals
    dsimp only [o_is] at h
    generalize e1 : p_lw ls i = y at h
    cases y <;> first | exact False.elim h | skip
    have hi9 : i < nL := by rw [← hn]; exact p_lw_lt e1
    first
      | exact lv_istore_n K.1 K.2.1 hd hi hl hi9 rfl (fun la9 h9 => h H locs la9 hH hS (q_sto e1 h9) (by rw [p_len_ls]; exact hn))
theorem s_is2 (K : q_X b w p s m args c own cc nL R d cells slots) {i : Nat} (hd : decode cc pc = .ok (.istore i, 2)) : (p_sd b C d Q (q_Z b w p l e R s m args below meth c nL cells slots Qw) (o_is i 2) pc) := by
  intro ls st M h H locs la hH hS hl hn
  rcases st with _ | ⟨x | x, st⟩ <;> first | exact False.elim h | skip
  all_goals
    dsimp only [o_is] at h
    generalize e1 : p_lw ls i = y at h
    cases y <;> first | exact False.elim h | skip
    have hi9 : i < nL := by rw [← hn]; exact p_lw_lt e1
    first
      | exact lv_istore K.1 K.2.1 hd hl hi9 rfl (fun la9 h9 => h H locs la9 hH hS (q_sto e1 h9) (by rw [p_len_ls]; exact hn))
theorem s_as1 (K : q_X b w p s m args c own cc nL R d cells slots) {k : Fin 4} {i : Nat} (hd : decode cc pc = .ok (.astore_n k, 1)) (hi : (k : Nat) = i) : (p_sd b C d Q (q_Z b w p l e R s m args below meth c nL cells slots Qw) (o_as i 1) pc) := by
  intro ls st M h H locs la hH hS hl hn
  rcases st with _ | ⟨x | x | _ | x, st⟩ <;> first | exact False.elim h | skip
  all_goals
    dsimp only [o_as] at h
    generalize e1 : p_lw ls i = y at h
    cases y <;> first | exact False.elim h | skip
    have hi9 : i < nL := by rw [← hn]; exact p_lw_lt e1
    first
      | exact lv_astore_nN K.1 K.2.1 hd hi hl hi9 rfl (fun la9 h9 => h H locs la9 hH hS (q_sto e1 h9) (by rw [p_len_ls]; exact hn))
      | exact lv_astore_n K.1 K.2.1 hd hi hl hi9 rfl (fun la9 h9 => h H locs la9 hH hS (q_sto e1 h9) (by rw [p_len_ls]; exact hn))
theorem s_as2 (K : q_X b w p s m args c own cc nL R d cells slots) {i : Nat} (hd : decode cc pc = .ok (.astore i, 2)) : (p_sd b C d Q (q_Z b w p l e R s m args below meth c nL cells slots Qw) (o_as i 2) pc) := by
  intro ls st M h H locs la hH hS hl hn
  rcases st with _ | ⟨x | x | _ | x, st⟩ <;> first | exact False.elim h | skip
  all_goals
    dsimp only [o_as] at h
    generalize e1 : p_lw ls i = y at h
    cases y <;> first | exact False.elim h | skip
    have hi9 : i < nL := by rw [← hn]; exact p_lw_lt e1
    first
      | exact lv_astoreN K.1 K.2.1 hd hl hi9 rfl (fun la9 h9 => h H locs la9 hH hS (q_sto e1 h9) (by rw [p_len_ls]; exact hn))
      | exact lv_astore K.1 K.2.1 hd hl hi9 rfl (fun la9 h9 => h H locs la9 hH hS (q_sto e1 h9) (by rw [p_len_ls]; exact hn))
theorem s_lst1 (K : q_X b w p s m args c own cc nL R d cells slots) {k : Fin 4} {i : Nat} (hd : decode cc pc = .ok (.lstore_n k, 1)) (hi : (k : Nat) = i) : (p_sd b C d Q (q_Z b w p l e R s m args below meth c nL cells slots Qw) (o_lst i 1) pc) := by
  intro ls st M h H locs la hH hS hl hn
  rcases st with _ | ⟨x | x | x, st⟩ <;> first | exact False.elim h | skip
  dsimp only [o_lst] at h
  generalize e1 : (p_lw ls i && Nat.blt (i + 1) (p_len ls)) = y at h
  cases y <;> first | exact False.elim h | skip
  simp only [Bool.and_eq_true] at e1
  have hi8 : i + 1 < p_len ls := by simpa using e1.2
  have hi9 : i + 1 < nL := by rw [← hn]; exact hi8
  exact lv_lstore_n K.1 K.2.1 hd hi hl hi9 rfl (fun la9 h9 => h H locs la9 hH hS (q_stoL e1.1 hi8 h9) (by rw [p_len_ls, p_len_ls]; exact hn))
theorem s_lst2 (K : q_X b w p s m args c own cc nL R d cells slots) {i : Nat} (hd : decode cc pc = .ok (.lstore i, 2)) : (p_sd b C d Q (q_Z b w p l e R s m args below meth c nL cells slots Qw) (o_lst i 2) pc) := by
  intro ls st M h H locs la hH hS hl hn
  rcases st with _ | ⟨x | x | x, st⟩ <;> first | exact False.elim h | skip
  dsimp only [o_lst] at h
  generalize e1 : (p_lw ls i && Nat.blt (i + 1) (p_len ls)) = y at h
  cases y <;> first | exact False.elim h | skip
  simp only [Bool.and_eq_true] at e1
  have hi8 : i + 1 < p_len ls := by simpa using e1.2
  have hi9 : i + 1 < nL := by rw [← hn]; exact hi8
  exact lv_lstore K.1 K.2.1 hd hl hi9 rfl (fun la9 h9 => h H locs la9 hH hS (q_stoL e1.1 hi8 h9) (by rw [p_len_ls, p_len_ls]; exact hn))
theorem s_ii (K : q_X b w p s m args c own cc nL R d cells slots) {i : Nat} {n : Int} {v : Int32} (hd : decode cc pc = .ok (.iinc i n, 3)) (hv : Int32.ofInt n = v) : (p_sd b C d Q (q_Z b w p l e R s m args below meth c nL cells slots Qw) (o_ii i v) pc) := by
  intro ls st M h H locs la hH hS hl hn
  dsimp only [o_ii] at h
  generalize e0 : p_lg ls i = z at h
  rcases z with _ | x | x <;> first | exact False.elim h | skip
  generalize e1 : p_lw ls i = y at h
  cases y <;> first | exact False.elim h | skip
  have hi9 : i < nL := by rw [← hn]; exact p_lw_lt e1
  obtain ⟨k9, hk9⟩ := List.getElem?_of_mem ((q_lv_mem (w := w) ls 0 (i, .int x)).mpr ⟨i, .inl x, e0, by rw [Nat.zero_add]; rfl⟩)
  subst hv
  exact lv_iinc K.1 K.2.1 hd hl hk9 rfl hi9 rfl (fun la9 h9 => h H locs la9 hH hS (q_sto (v := .inl _) e1 h9) (by rw [p_len_ls]; exact hn))
theorem s_add (K : q_X b w p s m args c own cc nL R d cells slots) (hd : decode cc pc = .ok (.iadd, 1)) : (p_sd b C d Q (q_Z b w p l e R s m args below meth c nL cells slots Qw) (o_add) pc) := by
  intro ls st M h H locs la hH hS hl hn
  rcases st with _ | ⟨y | y, _ | ⟨x | x, st⟩⟩ <;> first | exact False.elim h | exact lv_iadd K.1 K.2.1 hd (h H locs la hH hS hl hn)
theorem s_sub (K : q_X b w p s m args c own cc nL R d cells slots) (hd : decode cc pc = .ok (.isub, 1)) : (p_sd b C d Q (q_Z b w p l e R s m args below meth c nL cells slots Qw) (o_sub) pc) := by
  intro ls st M h H locs la hH hS hl hn
  rcases st with _ | ⟨y | y, _ | ⟨x | x, st⟩⟩ <;> first | exact False.elim h | exact lv_isub K.1 K.2.1 hd (h H locs la hH hS hl hn)
theorem s_mul (K : q_X b w p s m args c own cc nL R d cells slots) (hd : decode cc pc = .ok (.imul, 1)) : (p_sd b C d Q (q_Z b w p l e R s m args below meth c nL cells slots Qw) (o_mul) pc) := by
  intro ls st M h H locs la hH hS hl hn
  rcases st with _ | ⟨y | y, _ | ⟨x | x, st⟩⟩ <;> first | exact False.elim h | exact lv_imul K.1 K.2.1 hd (h H locs la hH hS hl hn)
theorem s_and (K : q_X b w p s m args c own cc nL R d cells slots) (hd : decode cc pc = .ok (.iand, 1)) : (p_sd b C d Q (q_Z b w p l e R s m args below meth c nL cells slots Qw) (o_and) pc) := by
  intro ls st M h H locs la hH hS hl hn
  rcases st with _ | ⟨y | y, _ | ⟨x | x, st⟩⟩ <;> first | exact False.elim h | exact lv_iand K.1 K.2.1 hd (h H locs la hH hS hl hn)
theorem s_or (K : q_X b w p s m args c own cc nL R d cells slots) (hd : decode cc pc = .ok (.ior, 1)) : (p_sd b C d Q (q_Z b w p l e R s m args below meth c nL cells slots Qw) (o_or) pc) := by
  intro ls st M h H locs la hH hS hl hn
  rcases st with _ | ⟨y | y, _ | ⟨x | x, st⟩⟩ <;> first | exact False.elim h | exact lv_ior K.1 K.2.1 hd (h H locs la hH hS hl hn)
theorem s_xor (K : q_X b w p s m args c own cc nL R d cells slots) (hd : decode cc pc = .ok (.ixor, 1)) : (p_sd b C d Q (q_Z b w p l e R s m args below meth c nL cells slots Qw) (o_xor) pc) := by
  intro ls st M h H locs la hH hS hl hn
  rcases st with _ | ⟨y | y, _ | ⟨x | x, st⟩⟩ <;> first | exact False.elim h | exact lv_ixor K.1 K.2.1 hd (h H locs la hH hS hl hn)
theorem s_shl (K : q_X b w p s m args c own cc nL R d cells slots) (hd : decode cc pc = .ok (.ishl, 1)) : (p_sd b C d Q (q_Z b w p l e R s m args below meth c nL cells slots Qw) (o_shl) pc) := by
  intro ls st M h H locs la hH hS hl hn
  rcases st with _ | ⟨y | y, _ | ⟨x | x, st⟩⟩ <;> first | exact False.elim h | exact lv_ishl K.1 K.2.1 hd (h H locs la hH hS hl hn)
theorem s_shr (K : q_X b w p s m args c own cc nL R d cells slots) (hd : decode cc pc = .ok (.ishr, 1)) : (p_sd b C d Q (q_Z b w p l e R s m args below meth c nL cells slots Qw) (o_shr) pc) := by
  intro ls st M h H locs la hH hS hl hn
  rcases st with _ | ⟨y | y, _ | ⟨x | x, st⟩⟩ <;> first | exact False.elim h | exact lv_ishr K.1 K.2.1 hd (h H locs la hH hS hl hn)
theorem s_ushr (K : q_X b w p s m args c own cc nL R d cells slots) (hd : decode cc pc = .ok (.iushr, 1)) : (p_sd b C d Q (q_Z b w p l e R s m args below meth c nL cells slots Qw) (o_ushr) pc) := by
  intro ls st M h H locs la hH hS hl hn
  rcases st with _ | ⟨y | y, _ | ⟨x | x, st⟩⟩ <;> first | exact False.elim h | exact lv_iushr K.1 K.2.1 hd rfl (h H locs la hH hS hl hn)
theorem s_div (K : q_X b w p s m args c own cc nL R d cells slots) (hd : decode cc pc = .ok (.idiv, 1)) : (p_sd b C d Q (q_Z b w p l e R s m args below meth c nL cells slots Qw) (o_div) pc) := by
  intro ls st M h H locs la hH hS hl hn
  rcases st with _ | ⟨y | y, _ | ⟨x | x, st⟩⟩ <;> first | exact False.elim h | exact lv_idiv K.1 K.2.1 hd h.1 (h.2 H locs la hH hS hl hn)
theorem s_rem (K : q_X b w p s m args c own cc nL R d cells slots) (hd : decode cc pc = .ok (.irem, 1)) : (p_sd b C d Q (q_Z b w p l e R s m args below meth c nL cells slots Qw) (o_rem) pc) := by
  intro ls st M h H locs la hH hS hl hn
  rcases st with _ | ⟨y | y, _ | ⟨x | x, st⟩⟩ <;> first | exact False.elim h | exact lv_irem K.1 K.2.1 hd h.1 (h.2 H locs la hH hS hl hn)
theorem s_ladd (K : q_X b w p s m args c own cc nL R d cells slots) (hd : decode cc pc = .ok (.ladd, 1)) : (p_sd b C d Q (q_Z b w p l e R s m args below meth c nL cells slots Qw) (o_ladd) pc) := by
  intro ls st M h H locs la hH hS hl hn
  rcases st with _ | ⟨y | y | y, _ | ⟨x | x | x, st⟩⟩ <;> first | exact False.elim h | exact lv_ladd K.1 K.2.1 hd (h H locs la hH hS hl hn)
theorem s_lsub (K : q_X b w p s m args c own cc nL R d cells slots) (hd : decode cc pc = .ok (.lsub, 1)) : (p_sd b C d Q (q_Z b w p l e R s m args below meth c nL cells slots Qw) (o_lsub) pc) := by
  intro ls st M h H locs la hH hS hl hn
  rcases st with _ | ⟨y | y | y, _ | ⟨x | x | x, st⟩⟩ <;> first | exact False.elim h | exact lv_lsub K.1 K.2.1 hd (h H locs la hH hS hl hn)
theorem s_lmul (K : q_X b w p s m args c own cc nL R d cells slots) (hd : decode cc pc = .ok (.lmul, 1)) : (p_sd b C d Q (q_Z b w p l e R s m args below meth c nL cells slots Qw) (o_lmul) pc) := by
  intro ls st M h H locs la hH hS hl hn
  rcases st with _ | ⟨y | y | y, _ | ⟨x | x | x, st⟩⟩ <;> first | exact False.elim h | exact lv_lmul K.1 K.2.1 hd (h H locs la hH hS hl hn)
theorem s_land (K : q_X b w p s m args c own cc nL R d cells slots) (hd : decode cc pc = .ok (.land, 1)) : (p_sd b C d Q (q_Z b w p l e R s m args below meth c nL cells slots Qw) (o_land) pc) := by
  intro ls st M h H locs la hH hS hl hn
  rcases st with _ | ⟨y | y | y, _ | ⟨x | x | x, st⟩⟩ <;> first | exact False.elim h | exact lv_land K.1 K.2.1 hd (h H locs la hH hS hl hn)
theorem s_lor (K : q_X b w p s m args c own cc nL R d cells slots) (hd : decode cc pc = .ok (.lor, 1)) : (p_sd b C d Q (q_Z b w p l e R s m args below meth c nL cells slots Qw) (o_lor) pc) := by
  intro ls st M h H locs la hH hS hl hn
  rcases st with _ | ⟨y | y | y, _ | ⟨x | x | x, st⟩⟩ <;> first | exact False.elim h | exact lv_lor K.1 K.2.1 hd (h H locs la hH hS hl hn)
theorem s_ldiv (K : q_X b w p s m args c own cc nL R d cells slots) (hd : decode cc pc = .ok (.ldiv, 1)) : (p_sd b C d Q (q_Z b w p l e R s m args below meth c nL cells slots Qw) (o_ldiv) pc) := by
  intro ls st M h H locs la hH hS hl hn
  rcases st with _ | ⟨y | y | y, _ | ⟨x | x | x, st⟩⟩ <;> first | exact False.elim h | exact lv_ldiv K.1 K.2.1 hd h.1 (h.2 H locs la hH hS hl hn)
theorem s_lrem (K : q_X b w p s m args c own cc nL R d cells slots) (hd : decode cc pc = .ok (.lrem, 1)) : (p_sd b C d Q (q_Z b w p l e R s m args below meth c nL cells slots Qw) (o_lrem) pc) := by
  intro ls st M h H locs la hH hS hl hn
  rcases st with _ | ⟨y | y | y, _ | ⟨x | x | x, st⟩⟩ <;> first | exact False.elim h | exact lv_lrem K.1 K.2.1 hd h.1 (h.2 H locs la hH hS hl hn)
theorem s_lcmp (K : q_X b w p s m args c own cc nL R d cells slots) (hd : decode cc pc = .ok (.lcmp, 1)) : (p_sd b C d Q (q_Z b w p l e R s m args below meth c nL cells slots Qw) (o_lcmp) pc) := by
  intro ls st M h H locs la hH hS hl hn
  rcases st with _ | ⟨y | y | y, _ | ⟨x | x | x, st⟩⟩ <;> first | exact False.elim h | exact W.lcmp K.1 K.2.1 hd (h H locs la hH hS hl hn)
theorem s_lshl (K : q_X b w p s m args c own cc nL R d cells slots) (hd : decode cc pc = .ok (.lshl, 1)) : (p_sd b C d Q (q_Z b w p l e R s m args below meth c nL cells slots Qw) (o_lshl) pc) := by
  intro ls st M h H locs la hH hS hl hn
  rcases st with _ | ⟨y | y, _ | ⟨x | x | x, st⟩⟩ <;> first | exact False.elim h | exact lv_lshl K.1 K.2.1 hd rfl (h H locs la hH hS hl hn)
theorem s_lshr (K : q_X b w p s m args c own cc nL R d cells slots) (hd : decode cc pc = .ok (.lshr, 1)) : (p_sd b C d Q (q_Z b w p l e R s m args below meth c nL cells slots Qw) (o_lshr) pc) := by
  intro ls st M h H locs la hH hS hl hn
  rcases st with _ | ⟨y | y, _ | ⟨x | x | x, st⟩⟩ <;> first | exact False.elim h | exact lv_lshr K.1 K.2.1 hd rfl (h H locs la hH hS hl hn)
theorem s_lushr (K : q_X b w p s m args c own cc nL R d cells slots) (hd : decode cc pc = .ok (.lushr, 1)) : (p_sd b C d Q (q_Z b w p l e R s m args below meth c nL cells slots Qw) (o_lushr) pc) := by
  intro ls st M h H locs la hH hS hl hn
  rcases st with _ | ⟨y | y, _ | ⟨x | x | x, st⟩⟩ <;> first | exact False.elim h | exact lv_lushr K.1 K.2.1 hd rfl (h H locs la hH hS hl hn)
theorem s_i2l (K : q_X b w p s m args c own cc nL R d cells slots) (hd : decode cc pc = .ok (.i2l, 1)) : (p_sd b C d Q (q_Z b w p l e R s m args below meth c nL cells slots Qw) (o_i2l) pc) := by
  intro ls st M h H locs la hH hS hl hn
  rcases st with _ | ⟨x | x, st⟩ <;> first | exact False.elim h | exact lv_i2l K.1 K.2.1 hd rfl (h H locs la hH hS hl hn)
theorem s_l2i (K : q_X b w p s m args c own cc nL R d cells slots) (hd : decode cc pc = .ok (.l2i, 1)) : (p_sd b C d Q (q_Z b w p l e R s m args below meth c nL cells slots Qw) (o_l2i) pc) := by
  intro ls st M h H locs la hH hS hl hn
  rcases st with _ | ⟨x | x | x, st⟩ <;> first | exact False.elim h | exact lv_l2i K.1 K.2.1 hd rfl (h H locs la hH hS hl hn)
theorem s_dup (K : q_X b w p s m args c own cc nL R d cells slots) (hd : decode cc pc = .ok (.dup, 1)) : (p_sd b C d Q (q_Z b w p l e R s m args below meth c nL cells slots Qw) (o_dup) pc) := by
  intro ls st M h H locs la hH hS hl hn
  rcases st with _ | ⟨x | x | _ | x, st⟩ <;> first | exact False.elim h | exact lv_dup K.1 K.2.1 hd rfl (h H locs la hH hS hl hn)
theorem s_pop (K : q_X b w p s m args c own cc nL R d cells slots) (hd : decode cc pc = .ok (.pop, 1)) : (p_sd b C d Q (q_Z b w p l e R s m args below meth c nL cells slots Qw) (o_pop) pc) := by
  intro ls st M h H locs la hH hS hl hn
  rcases st with _ | ⟨x | x | _ | x, st⟩ <;> first | exact False.elim h | exact lv_pop K.1 K.2.1 hd rfl (h H locs la hH hS hl hn)
theorem s_goto (K : q_X b w p s m args c own cc nL R d cells slots) {off : Int} {t : Nat} (hd : decode cc pc = .ok (.goto off, 3)) (ht : (pc : Int) + off = (t : Int)) : (p_sd b C d Q (q_Z b w p l e R s m args below meth c nL cells slots Qw) (o_goto t) pc) := by
  intro ls st M h H locs la hH hS hl hn
  exact lv_goto K.1 K.2.1 hd ht (h H locs la hH hS hl hn)
theorem s_eq0 (K : q_X b w p s m args c own cc nL R d cells slots) {off : Int} {t : Nat} (hd : decode cc pc = .ok (.ifCond .eq off, 3)) (ht : (pc : Int) + off = (t : Int)) : (p_sd b C d Q (q_Z b w p l e R s m args below meth c nL cells slots Qw) (o_eq0 t) pc) := by
  intro ls st M h H locs la hH hS hl hn
  rcases st with _ | ⟨x | x, st⟩ <;> first | exact False.elim h | exact lv_if_eq K.1 K.2.1 hd ht (fun c9 => h.1 c9 H locs la hH hS hl hn) (fun c9 => h.2 c9 H locs la hH hS hl hn)
theorem s_ieq (K : q_X b w p s m args c own cc nL R d cells slots) {off : Int} {t : Nat} (hd : decode cc pc = .ok (.if_icmp .eq off, 3)) (ht : (pc : Int) + off = (t : Int)) : (p_sd b C d Q (q_Z b w p l e R s m args below meth c nL cells slots Qw) (o_ieq t) pc) := by
  intro ls st M h H locs la hH hS hl hn
  rcases st with _ | ⟨y | y, _ | ⟨x | x, st⟩⟩ <;> first | exact False.elim h | exact lv_icmp_eq K.1 K.2.1 hd ht (fun c9 => h.1 c9 H locs la hH hS hl hn) (fun c9 => h.2 c9 H locs la hH hS hl hn)
theorem s_ne0 (K : q_X b w p s m args c own cc nL R d cells slots) {off : Int} {t : Nat} (hd : decode cc pc = .ok (.ifCond .ne off, 3)) (ht : (pc : Int) + off = (t : Int)) : (p_sd b C d Q (q_Z b w p l e R s m args below meth c nL cells slots Qw) (o_ne0 t) pc) := by
  intro ls st M h H locs la hH hS hl hn
  rcases st with _ | ⟨x | x, st⟩ <;> first | exact False.elim h | exact lv_if_ne K.1 K.2.1 hd ht (fun c9 => h.1 c9 H locs la hH hS hl hn) (fun c9 => h.2 c9 H locs la hH hS hl hn)
theorem s_ine (K : q_X b w p s m args c own cc nL R d cells slots) {off : Int} {t : Nat} (hd : decode cc pc = .ok (.if_icmp .ne off, 3)) (ht : (pc : Int) + off = (t : Int)) : (p_sd b C d Q (q_Z b w p l e R s m args below meth c nL cells slots Qw) (o_ine t) pc) := by
  intro ls st M h H locs la hH hS hl hn
  rcases st with _ | ⟨y | y, _ | ⟨x | x, st⟩⟩ <;> first | exact False.elim h | exact lv_icmp_ne K.1 K.2.1 hd ht (fun c9 => h.1 c9 H locs la hH hS hl hn) (fun c9 => h.2 c9 H locs la hH hS hl hn)
theorem s_lt0 (K : q_X b w p s m args c own cc nL R d cells slots) {off : Int} {t : Nat} (hd : decode cc pc = .ok (.ifCond .lt off, 3)) (ht : (pc : Int) + off = (t : Int)) : (p_sd b C d Q (q_Z b w p l e R s m args below meth c nL cells slots Qw) (o_lt0 t) pc) := by
  intro ls st M h H locs la hH hS hl hn
  rcases st with _ | ⟨x | x, st⟩ <;> first | exact False.elim h | exact lv_if_lt K.1 K.2.1 hd ht (fun c9 => h.1 c9 H locs la hH hS hl hn) (fun c9 => h.2 c9 H locs la hH hS hl hn)
theorem s_ilt (K : q_X b w p s m args c own cc nL R d cells slots) {off : Int} {t : Nat} (hd : decode cc pc = .ok (.if_icmp .lt off, 3)) (ht : (pc : Int) + off = (t : Int)) : (p_sd b C d Q (q_Z b w p l e R s m args below meth c nL cells slots Qw) (o_ilt t) pc) := by
  intro ls st M h H locs la hH hS hl hn
  rcases st with _ | ⟨y | y, _ | ⟨x | x, st⟩⟩ <;> first | exact False.elim h | exact lv_icmp_lt K.1 K.2.1 hd ht (fun c9 => h.1 c9 H locs la hH hS hl hn) (fun c9 => h.2 c9 H locs la hH hS hl hn)
theorem s_ge0 (K : q_X b w p s m args c own cc nL R d cells slots) {off : Int} {t : Nat} (hd : decode cc pc = .ok (.ifCond .ge off, 3)) (ht : (pc : Int) + off = (t : Int)) : (p_sd b C d Q (q_Z b w p l e R s m args below meth c nL cells slots Qw) (o_ge0 t) pc) := by
  intro ls st M h H locs la hH hS hl hn
  rcases st with _ | ⟨x | x, st⟩ <;> first | exact False.elim h | exact lv_if_ge K.1 K.2.1 hd ht (fun c9 => h.1 c9 H locs la hH hS hl hn) (fun c9 => h.2 c9 H locs la hH hS hl hn)
theorem s_ige (K : q_X b w p s m args c own cc nL R d cells slots) {off : Int} {t : Nat} (hd : decode cc pc = .ok (.if_icmp .ge off, 3)) (ht : (pc : Int) + off = (t : Int)) : (p_sd b C d Q (q_Z b w p l e R s m args below meth c nL cells slots Qw) (o_ige t) pc) := by
  intro ls st M h H locs la hH hS hl hn
  rcases st with _ | ⟨y | y, _ | ⟨x | x, st⟩⟩ <;> first | exact False.elim h | exact lv_icmp_ge K.1 K.2.1 hd ht (fun c9 => h.1 c9 H locs la hH hS hl hn) (fun c9 => h.2 c9 H locs la hH hS hl hn)
theorem s_gt0 (K : q_X b w p s m args c own cc nL R d cells slots) {off : Int} {t : Nat} (hd : decode cc pc = .ok (.ifCond .gt off, 3)) (ht : (pc : Int) + off = (t : Int)) : (p_sd b C d Q (q_Z b w p l e R s m args below meth c nL cells slots Qw) (o_gt0 t) pc) := by
  intro ls st M h H locs la hH hS hl hn
  rcases st with _ | ⟨x | x, st⟩ <;> first | exact False.elim h | exact lv_if_gt K.1 K.2.1 hd ht (fun c9 => h.1 c9 H locs la hH hS hl hn) (fun c9 => h.2 c9 H locs la hH hS hl hn)
theorem s_igt (K : q_X b w p s m args c own cc nL R d cells slots) {off : Int} {t : Nat} (hd : decode cc pc = .ok (.if_icmp .gt off, 3)) (ht : (pc : Int) + off = (t : Int)) : (p_sd b C d Q (q_Z b w p l e R s m args below meth c nL cells slots Qw) (o_igt t) pc) := by
  intro ls st M h H locs la hH hS hl hn
  rcases st with _ | ⟨y | y, _ | ⟨x | x, st⟩⟩ <;> first | exact False.elim h | exact lv_icmp_gt K.1 K.2.1 hd ht (fun c9 => h.1 c9 H locs la hH hS hl hn) (fun c9 => h.2 c9 H locs la hH hS hl hn)
theorem s_le0 (K : q_X b w p s m args c own cc nL R d cells slots) {off : Int} {t : Nat} (hd : decode cc pc = .ok (.ifCond .le off, 3)) (ht : (pc : Int) + off = (t : Int)) : (p_sd b C d Q (q_Z b w p l e R s m args below meth c nL cells slots Qw) (o_le0 t) pc) := by
  intro ls st M h H locs la hH hS hl hn
  rcases st with _ | ⟨x | x, st⟩ <;> first | exact False.elim h | exact lv_if_le K.1 K.2.1 hd ht (fun c9 => h.1 c9 H locs la hH hS hl hn) (fun c9 => h.2 c9 H locs la hH hS hl hn)
theorem s_ile (K : q_X b w p s m args c own cc nL R d cells slots) {off : Int} {t : Nat} (hd : decode cc pc = .ok (.if_icmp .le off, 3)) (ht : (pc : Int) + off = (t : Int)) : (p_sd b C d Q (q_Z b w p l e R s m args below meth c nL cells slots Qw) (o_ile t) pc) := by
  intro ls st M h H locs la hH hS hl hn
  rcases st with _ | ⟨y | y, _ | ⟨x | x, st⟩⟩ <;> first | exact False.elim h | exact lv_icmp_le K.1 K.2.1 hd ht (fun c9 => h.1 c9 H locs la hH hS hl hn) (fun c9 => h.2 c9 H locs la hH hS hl hn)
theorem s_inul (K : q_X b w p s m args c own cc nL R d cells slots) {off : Int} {t : Nat} (hd : decode cc pc = .ok (.ifnull off, 3)) (ht : (pc : Int) + off = (t : Int)) : (p_sd b C d Q (q_Z b w p l e R s m args below meth c nL cells slots Qw) (o_inul t) pc) := by
  intro ls st M h H locs la hH hS hl hn
  rcases st with _ | ⟨x | x | _ | x, st⟩ <;> first | exact False.elim h | exact lv_ifnullN K.1 K.2.1 hd ht (h H locs la hH hS hl hn) | exact lv_ifnull K.1 K.2.1 hd (h H locs la hH hS hl hn)
theorem s_inn (K : q_X b w p s m args c own cc nL R d cells slots) {off : Int} {t : Nat} (hd : decode cc pc = .ok (.ifnonnull off, 3)) (ht : (pc : Int) + off = (t : Int)) : (p_sd b C d Q (q_Z b w p l e R s m args below meth c nL cells slots Qw) (o_inn t) pc) := by
  intro ls st M h H locs la hH hS hl hn
  rcases st with _ | ⟨x | x | _ | x, st⟩ <;> first | exact False.elim h | exact lv_ifnonnullN K.1 K.2.1 hd (h H locs la hH hS hl hn) | exact lv_ifnonnull K.1 K.2.1 hd ht (h H locs la hH hS hl hn)
theorem q_look {Y : Nat → Prop} {x : Int32} {dd : Int} {dt : Nat} {P : Prop} : ∀ (ps : List (Int × Int)) (tl : List (Int32 × Nat)), ps.length = tl.length → (∀ i : Nat, ∀ (a : Int × Int) (q : Int32 × Nat), ps[i]? = some a → tl[i]? = some q → q.1.toInt = a.1 ∧ (pc : Int) + a.2 = (q.2 : Int)) → (pc : Int) + dd = (dt : Int) → p_sw Y x tl dt → (∀ (off : Int) (tgt : Nat), Op.lookupswitch.offset ps dd x.toInt = off → (pc : Int) + off = (tgt : Int) → Y tgt → P) → P := by
  intro ps
  induction ps with
  | nil =>
    intro tl hlen _ hd h k
    cases tl with
    | nil => exact k dd dt rfl hd h
    | cons _ _ => cases hlen
  | cons a ps ih =>
    intro tl hlen hq hd h k
    cases tl with
    | nil => cases hlen
    | cons q tl =>
      obtain ⟨h1, h2⟩ := hq 0 a q rfl rfl
      by_cases ex : x = q.1
      · refine k a.2 q.2 ?_ h2 (h.1 ex)
        obtain ⟨a1, a2⟩ := a
        rw [Op.lookupswitch.offset_cons, if_pos (by rw [ex]; exact h1.symm)]
      · refine ih tl (Nat.succ.inj hlen) (fun i a q ha hb => hq (i + 1) a q ha hb) hd (h.2 ex) (fun off tgt e1 e2 y => k off tgt ?_ e2 y)
        obtain ⟨a1, a2⟩ := a
        rw [lv_osw ex h1]
        exact e1
theorem s_lsw (K : q_X b w p s m args c own cc nL R d cells slots) {dd : Int} {ps : Array (Int × Int)} {len : Nat} {tl : List (Int32 × Nat)} {dt : Nat} (hd : decode cc pc = .ok (.lookupswitch dd ps, len)) (hp : (ps.toList.zip (ps.toList.drop 1)).all (fun (a, next) => a.1 < next.1) = true) (hlen : ps.toList.length = tl.length) (hq : ∀ i : Nat, ∀ (a : Int × Int) (q : Int32 × Nat), ps.toList[i]? = some a → tl[i]? = some q → q.1.toInt = a.1 ∧ (pc : Int) + a.2 = (q.2 : Int)) (hdt : (pc : Int) + dd = (dt : Int)) : (p_sd b C d Q (q_Z b w p l e R s m args below meth c nL cells slots Qw) (o_sw tl dt) pc) := by
  intro ls st M h H locs la hH hS hl hn
  rcases st with _ | ⟨x | x, st⟩ <;> first | exact False.elim h | skip
  exact q_look ps.toList tl hlen hq hdt h (fun off tgt e1 e2 y => lv_lookup K.1 K.2.1 hd hp e1 e2 (y H locs la hH hS hl hn))
theorem q_tab {Y : Nat → Prop} {x : Int32} {dt : Nat} {P : Prop} : ∀ (os : List Int) (tl : List (Int32 × Nat)) (lo : Int), os.length = tl.length → (∀ i : Nat, ∀ (a : Int) (q : Int32 × Nat), os[i]? = some a → tl[i]? = some q → q.1.toInt = lo + i ∧ (pc : Int) + a = (q.2 : Int)) → p_sw Y x tl dt → ((x.toInt < lo ∨ lo + os.length ≤ x.toInt) → Y dt → P) → (∀ (i : Nat) (off : Int) (tgt : Nat), x.toInt = lo + i → os[i]? = some off → (pc : Int) + off = (tgt : Int) → Y tgt → P) → P := by
  intro os
  induction os with
  | nil =>
    intro tl lo hlen _ h k1 k2
    cases tl with
    | nil => exact k1 (by simp; omega) h
    | cons _ _ => cases hlen
  | cons a os ih =>
    intro tl lo hlen hq h k1 k2
    cases tl with
    | nil => cases hlen
    | cons q tl =>
      obtain ⟨h1, h2⟩ := hq 0 a q rfl rfl
      by_cases ex : x = q.1
      · exact k2 0 a q.2 (by rw [ex]; exact h1) rfl h2 (h.1 ex)
      · have ne : ¬ x.toInt = lo := fun z => ex (Int32.toInt_inj.mp (by rw [h1, z]; simp))
        refine ih tl (lo + 1) (Nat.succ.inj hlen) (fun i a q ha hb => ?_) (h.2 ex) (fun z y => k1 ?_ y) (fun i off tgt e1 e2 e3 y => k2 (i + 1) off tgt (by rw [e1]; push_cast; omega) e2 e3 y)
        · have := hq (i + 1) a q ha hb
          refine ⟨by rw [this.1]; push_cast; omega, this.2⟩
        · simp only [List.length_cons]
          push_cast
          omega
theorem s_tsw (K : q_X b w p s m args c own cc nL R d cells slots) {dd lo hi : Int} {os : Array Int} {len : Nat} {tl : List (Int32 × Nat)} {dt : Nat} (hd : decode cc pc = .ok (.tableswitch dd lo hi os, len)) (hlen : os.toList.length = tl.length) (hhi : lo + os.toList.length = hi + 1) (hq : ∀ i : Nat, ∀ (a : Int) (q : Int32 × Nat), os.toList[i]? = some a → tl[i]? = some q → q.1.toInt = lo + i ∧ (pc : Int) + a = (q.2 : Int)) (hdt : (pc : Int) + dd = (dt : Int)) : (p_sd b C d Q (q_Z b w p l e R s m args below meth c nL cells slots Qw) (o_sw tl dt) pc) := by
  intro ls st M h H locs la hH hS hl hn
  rcases st with _ | ⟨x | x, st⟩ <;> first | exact False.elim h | skip
  have hl9 : ∀ (i : Nat) (off : Int), os.toList[i]? = some off → i < os.toList.length := fun i off h => (List.getElem?_eq_some_iff.mp h).1
  refine q_tab os.toList tl lo hlen hq h (fun z y => lv_tableOut K.1 K.2.1 hd (by omega) hdt (y H locs la hH hS hl hn)) (fun i off tgt e1 e2 e3 y => ?_)
  have := hl9 i off e2
  refine lv_tableIn (off := off) K.1 K.2.1 hd (by omega) (by omega) ?_ e3 (y H locs la hH hS hl hn)
  rw [show (x.toInt - lo).toNat = i by omega, ← Array.getElem?_toList]
  exact e2
theorem s_gi (K : q_X b w p s m args c own cc nL R d cells slots) {ci k idx : Nat} {ref Cn host : String} {T : u_T} {N : Nat} (hd : decode cc pc = .ok (.getfield idx, 3)) (hc : vwCl[ci]? = some (Cn, T, N)) (hc9 : ci < 9) (hN : p_g p_nf ci = N) (hin : ∀ z ∈ u_ws Cn T N, z ∈ p_T) (hk : k < N) (hlk : Cond.fieldLink own idx ref (T k).2.1 (T k).2.2.1 ∈ p_T) (href : (T k).1 = ref) : (p_sd b C d Q (q_Z b w p l e R s m args below meth c nL cells slots Qw) (o_gi ci k) pc) := by
  intro ls st M h H locs la hH hS hl hn
  rcases st with _ | ⟨x | x | _ | a, st⟩ <;> first | exact False.elim h | skip
  dsimp only [o_gi] at h
  generalize e1 : p_is b a ci = y at h
  cases y <;> first | exact False.elim h | skip
  generalize e2 : p_rf a k = z at h
  cases z <;> first | exact False.elim h | skip
  obtain ⟨ha, hE⟩ := q_obj (w := w) M e1 hc9
  have he := q_at (w := w) M ha
  rw [hE, hN] at he
  exact va_get (v := q_f w M a k) K.1 K.2.1 K.2.2.2.2.1 hin K.2.2.2.1 K.2.2.2.2.2.2.1 hH.P (q_ix a) he hc k hk (K.2.2.2.2.1 _ hlk) (fun _ h9 => by rw [← href]; exact h9) (by simp [hk]) hd (by simp only [q_f, e2]; exact (h H locs la hH hS hl hn))
theorem s_gr (K : q_X b w p s m args c own cc nL R d cells slots) {ci k idx : Nat} {ref Cn host : String} {T : u_T} {N : Nat} (hd : decode cc pc = .ok (.getfield idx, 3)) (hc : vwCl[ci]? = some (Cn, T, N)) (hc9 : ci < 9) (hN : p_g p_nf ci = N) (hin : ∀ z ∈ u_ws Cn T N, z ∈ p_T) (hk : k < N) (hlk : Cond.fieldLink own idx ref (T k).2.1 (T k).2.2.1 ∈ p_T) (href : (T k).1 = ref) : (p_sd b C d Q (q_Z b w p l e R s m args below meth c nL cells slots Qw) (o_gr ci k) pc) := by
  intro ls st M h H locs la hH hS hl hn
  rcases st with _ | ⟨x | x | _ | a, st⟩ <;> first | exact False.elim h | skip
  dsimp only [o_gr] at h
  generalize e1 : p_is b a ci = y at h
  cases y <;> first | exact False.elim h | skip
  generalize e2 : p_rf a k = z at h
  cases z <;> first | exact False.elim h | skip
  obtain ⟨ha, hE⟩ := q_obj (w := w) M e1 hc9
  have he := q_at (w := w) M ha
  rw [hE, hN] at he
  exact va_get (v := q_f w M a k) K.1 K.2.1 K.2.2.2.2.1 hin K.2.2.2.1 K.2.2.2.2.2.2.1 hH.P (q_ix a) he hc k hk (K.2.2.2.2.1 _ hlk) (fun _ h9 => by rw [← href]; exact h9) (by simp [hk]) hd (by simp only [q_f, e2]; exact (h H locs la hH hS hl hn))
theorem s_pi (K : q_X b w p s m args c own cc nL R d cells slots) {ci k idx : Nat} {ref Cn host : String} {T : u_T} {N : Nat} (hd : decode cc pc = .ok (.putfield idx, 3)) (hc : vwCl[ci]? = some (Cn, T, N)) (hc9 : ci < 9) (hN : p_g p_nf ci = N) (hin : ∀ z ∈ u_ws Cn T N, z ∈ p_T) (hk : k < N) (hlk : Cond.fieldLink own idx ref (T k).2.1 (T k).2.2.1 ∈ p_T) (href : (T k).1 = ref) (hfin : (T k).2.2.2 = false) (ty0 : Nat → FieldType) (hty : ∀ k, k < N → parseFieldDescriptor (T k).2.2.1 = some (ty0 k)) (hnm : ∀ a, a < N → ∀ b, b < N → a ≠ b → (T a).2.1 ≠ (T b).2.1) (hti : ty0 k = .int) : (p_sd b C d Q (q_Z b w p l e R s m args below meth c nL cells slots Qw) (o_pi ci k) pc) := by
  intro ls st M h H locs la hH hS hl hn
  rcases st with _ | ⟨x | x, _ | ⟨z | z | _ | a, st⟩⟩ <;> first | exact False.elim h | skip
  dsimp only [o_pi] at h
  generalize e1 : p_is b a ci = y at h
  cases y <;> first | exact False.elim h | skip
  generalize e2 : p_rf a k = z at h
  cases z <;> first | exact False.elim h | skip
  obtain ⟨ha, hE⟩ := q_obj (w := w) M e1 hc9
  have he := q_at (w := w) M ha
  rw [hE, hN] at he
  refine va_put (v := .int x) (ty := .int) K.1 K.2.1 K.2.2.2.2.1 hin ty0 hty hnm K.2.2.2.1 K.2.2.2.2.2.2.1 hH.P (q_D K.2.2.2.2.2.2.2.1) hS (q_ix a) he hc k hk (K.2.2.2.2.1 _ hlk) (fun _ h9 => by rw [← href]; exact h9) hfin (by rw [hty k hk, hti]) rfl rfl (by simp [hk]) hd (fun H1 locs1 hP1 _ hS1 => h H1 locs1 la (q_set ha hP1 ?_ (fun a9 h9 => q_E_cg (p_row_ne h9) rfl)) hS1 hl hn)
  obtain ⟨-, hE2⟩ := q_obj (w := w) (p_wr M a k x) e1 hc9
  rw [hE2, hN]
  congr 2
  apply List.ext_getElem?
  intro i
  rw [List.getElem?_set]
  simp only [List.getElem?_map, List.length_map, List.length_range]
  by_cases hi : k = i
  · subst hi
    simp [hk, q_f, e2, p_wr, p_row_eq, upd]
  · rw [if_neg hi]
    cases hr : (List.range N)[i]? with
    | none => rfl
    | some j =>
      have hj : j = i := by
        have := (List.getElem?_eq_some_iff.mp hr).2
        simpa using this.symm
      subst hj
      simp only [Option.map_some, q_f, p_wr, p_row_eq, upd, if_neg (show ¬ j = k from fun q => hi q.symm)]
theorem s_giN (K : q_X b w p s m args c own cc nL R d cells slots) {ci k idx : Nat} {ref Cn host : String} {T : u_T} {N : Nat} (hd : decode cc pc = .ok (.getfield idx, 3)) (hc : vwCl[ci]? = some (Cn, T, N)) (hc9 : ci < 9) (hN : p_g p_nf ci = N) (hin : ∀ z ∈ u_ws Cn T N, z ∈ p_T) (hk : k < N) (hlk : Cond.fieldLinkNest own idx ref (T k).2.1 (T k).2.2.1 host ∈ p_N) (href : (T k).1 = ref) : (p_sd b C d Q (q_Z b w p l e R s m args below meth c nL cells slots Qw) (o_gi ci k) pc) := by
  intro ls st M h H locs la hH hS hl hn
  rcases st with _ | ⟨x | x | _ | a, st⟩ <;> first | exact False.elim h | skip
  dsimp only [o_gi] at h
  generalize e1 : p_is b a ci = y at h
  cases y <;> first | exact False.elim h | skip
  generalize e2 : p_rf a k = z at h
  cases z <;> first | exact False.elim h | skip
  obtain ⟨ha, hE⟩ := q_obj (w := w) M e1 hc9
  have he := q_at (w := w) M ha
  rw [hE, hN] at he
  exact va_getN (v := q_f w M a k) K.1 K.2.1 K.2.2.2.2.1 hin K.2.2.2.1 K.2.2.2.2.2.2.1 hH.P (q_ix a) he hc k hk (va_Nw.use rfl (K.2.2.2.2.2.1 _ hlk)) (fun _ h9 => by rw [← href]; exact h9) (by simp [hk]) hd (by simp only [q_f, e2]; exact (h H locs la hH hS hl hn))
theorem s_grN (K : q_X b w p s m args c own cc nL R d cells slots) {ci k idx : Nat} {ref Cn host : String} {T : u_T} {N : Nat} (hd : decode cc pc = .ok (.getfield idx, 3)) (hc : vwCl[ci]? = some (Cn, T, N)) (hc9 : ci < 9) (hN : p_g p_nf ci = N) (hin : ∀ z ∈ u_ws Cn T N, z ∈ p_T) (hk : k < N) (hlk : Cond.fieldLinkNest own idx ref (T k).2.1 (T k).2.2.1 host ∈ p_N) (href : (T k).1 = ref) : (p_sd b C d Q (q_Z b w p l e R s m args below meth c nL cells slots Qw) (o_gr ci k) pc) := by
  intro ls st M h H locs la hH hS hl hn
  rcases st with _ | ⟨x | x | _ | a, st⟩ <;> first | exact False.elim h | skip
  dsimp only [o_gr] at h
  generalize e1 : p_is b a ci = y at h
  cases y <;> first | exact False.elim h | skip
  generalize e2 : p_rf a k = z at h
  cases z <;> first | exact False.elim h | skip
  obtain ⟨ha, hE⟩ := q_obj (w := w) M e1 hc9
  have he := q_at (w := w) M ha
  rw [hE, hN] at he
  exact va_getN (v := q_f w M a k) K.1 K.2.1 K.2.2.2.2.1 hin K.2.2.2.1 K.2.2.2.2.2.2.1 hH.P (q_ix a) he hc k hk (va_Nw.use rfl (K.2.2.2.2.2.1 _ hlk)) (fun _ h9 => by rw [← href]; exact h9) (by simp [hk]) hd (by simp only [q_f, e2]; exact (h H locs la hH hS hl hn))
theorem s_piN (K : q_X b w p s m args c own cc nL R d cells slots) {ci k idx : Nat} {ref Cn host : String} {T : u_T} {N : Nat} (hd : decode cc pc = .ok (.putfield idx, 3)) (hc : vwCl[ci]? = some (Cn, T, N)) (hc9 : ci < 9) (hN : p_g p_nf ci = N) (hin : ∀ z ∈ u_ws Cn T N, z ∈ p_T) (hk : k < N) (hlk : Cond.fieldLinkNest own idx ref (T k).2.1 (T k).2.2.1 host ∈ p_N) (href : (T k).1 = ref) (hfin : (T k).2.2.2 = false) (ty0 : Nat → FieldType) (hty : ∀ k, k < N → parseFieldDescriptor (T k).2.2.1 = some (ty0 k)) (hnm : ∀ a, a < N → ∀ b, b < N → a ≠ b → (T a).2.1 ≠ (T b).2.1) (hti : ty0 k = .int) : (p_sd b C d Q (q_Z b w p l e R s m args below meth c nL cells slots Qw) (o_pi ci k) pc) := by
  intro ls st M h H locs la hH hS hl hn
  rcases st with _ | ⟨x | x, _ | ⟨z | z | _ | a, st⟩⟩ <;> first | exact False.elim h | skip
  dsimp only [o_pi] at h
  generalize e1 : p_is b a ci = y at h
  cases y <;> first | exact False.elim h | skip
  generalize e2 : p_rf a k = z at h
  cases z <;> first | exact False.elim h | skip
  obtain ⟨ha, hE⟩ := q_obj (w := w) M e1 hc9
  have he := q_at (w := w) M ha
  rw [hE, hN] at he
  refine va_putN (v := .int x) (ty := .int) K.1 K.2.1 K.2.2.2.2.1 hin ty0 hty hnm K.2.2.2.1 K.2.2.2.2.2.2.1 hH.P (q_D K.2.2.2.2.2.2.2.1) hS (q_ix a) he hc k hk (va_Nw.use rfl (K.2.2.2.2.2.1 _ hlk)) (fun _ h9 => by rw [← href]; exact h9) hfin (by rw [hty k hk, hti]) rfl rfl (by simp [hk]) hd (fun H1 locs1 hP1 _ hS1 => h H1 locs1 la (q_set ha hP1 ?_ (fun a9 h9 => q_E_cg (p_row_ne h9) rfl)) hS1 hl hn)
  obtain ⟨-, hE2⟩ := q_obj (w := w) (p_wr M a k x) e1 hc9
  rw [hE2, hN]
  congr 2
  apply List.ext_getElem?
  intro i
  rw [List.getElem?_set]
  simp only [List.getElem?_map, List.length_map, List.length_range]
  by_cases hi : k = i
  · subst hi
    simp [hk, q_f, e2, p_wr, p_row_eq, upd]
  · rw [if_neg hi]
    cases hr : (List.range N)[i]? with
    | none => rfl
    | some j =>
      have hj : j = i := by
        have := (List.getElem?_eq_some_iff.mp hr).2
        simpa using this.symm
      subst hj
      simp only [Option.map_some, q_f, p_wr, p_row_eq, upd, if_neg (show ¬ j = k from fun q => hi q.symm)]
theorem s_len (K : q_X b w p s m args c own cc nL R d cells slots) (hd : decode cc pc = .ok (.arraylength, 1)) : (p_sd b C d Q (q_Z b w p l e R s m args below meth c nL cells slots Qw) (o_len) pc) := by
  intro ls st M h H locs la hH hS hl hn
  rcases st with _ | ⟨x | x | _ | a, st⟩ <;> first | exact False.elim h | skip
  dsimp only [o_len] at h
  generalize e1 : (Nat.ble 9 (p_kd a) && (Nat.ble (p_kd a) 11 && p_al b a)) = y at h
  cases y <;> first | exact False.elim h | skip
  simp only [Bool.and_eq_true] at e1
  obtain ⟨h1, h2, h3⟩ := e1
  have h1 := Nat.le_of_ble_eq_true h1
  have h2 := Nat.le_of_ble_eq_true h2
  have he := q_at (w := w) M h3
  have hc : p_kd a = 9 ∨ p_kd a = 10 ∨ p_kd a = 11 := by omega
  rcases hc with hc | hc | hc
  · rw [(q_ints (b := b) (w := w) M (by simp [p_is, hc, h3])).2] at he
    exact va_alen K.1 K.2.1 K.2.2.2.2.2.2.1 hH.P (q_ix a) 0 he rfl rfl hd (h H locs la hH hS hl hn)
  · rw [(q_refs (b := b) (w := w) (kd := 10) M (by simp [p_is, hc, h3]) (by omega)).2] at he
    exact va_alen K.1 K.2.1 K.2.2.2.2.2.2.1 hH.P (q_ix a) 1 he rfl rfl hd (h H locs la hH hS hl hn)
  · rw [(q_refs (b := b) (w := w) (kd := 11) M (by simp [p_is, hc, h3]) (by omega)).2] at he
    exact va_alen K.1 K.2.1 K.2.2.2.2.2.2.1 hH.P (q_ix a) 2 he rfl rfl hd (h H locs la hH hS hl hn)
theorem s_ia (K : q_X b w p s m args c own cc nL R d cells slots) (hd : decode cc pc = .ok (.iaload, 1)) : (p_sd b C d Q (q_Z b w p l e R s m args below meth c nL cells slots Qw) (o_ia) pc) := by
  intro ls st M h H locs la hH hS hl hn
  rcases st with _ | ⟨i | i, _ | ⟨x | x | _ | a, st⟩⟩ <;> first | exact False.elim h | skip
  dsimp only [o_ia] at h
  generalize e1 : p_is b a 9 = y at h
  cases y <;> first | exact False.elim h | skip
  obtain ⟨ha, hE⟩ := q_ints (w := w) M e1
  have he := q_at (w := w) M ha
  rw [hE] at he
  exact va_iald K.1 K.2.1 K.2.2.2.2.2.2.1 hH.P (q_ix a) 0 he rfl h.1 hd (h.2 H locs la hH hS hl hn)
theorem s_ist (K : q_X b w p s m args c own cc nL R d cells slots) (hd : decode cc pc = .ok (.iastore, 1)) : (p_sd b C d Q (q_Z b w p l e R s m args below meth c nL cells slots Qw) (o_ist) pc) := by
  intro ls st M h H locs la hH hS hl hn
  rcases st with _ | ⟨v | v, _ | ⟨i | i, _ | ⟨x | x | _ | a, st⟩⟩⟩ <;> first | exact False.elim h | skip
  dsimp only [o_ist] at h
  generalize e1 : p_is b a 9 = y at h
  cases y <;> first | exact False.elim h | skip
  obtain ⟨ha, hE⟩ := q_ints (w := w) M e1
  have he := q_at (w := w) M ha
  rw [hE] at he
  refine va_iast K.1 K.2.1 K.2.2.2.2.2.2.1 hH.P (q_D K.2.2.2.2.2.2.2.1) hS (q_ix a) 0 he rfl h.1 hd (fun H1 locs1 hP1 _ hS1 => h.2 H1 locs1 la (q_set ha hP1 ?_ (fun a9 h9 => q_E_cg (p_row_ne h9) rfl)) hS1 hl hn)
  rw [(q_ints (w := w) _ e1).2, p_wr, p_row_eq]
theorem s_aa10 (K : q_X b w p s m args c own cc nL R d cells slots) (hd : decode cc pc = .ok (.aaload, 1)) : (p_sd b C d Q (q_Z b w p l e R s m args below meth c nL cells slots Qw) (o_aa 10) pc) := by
  intro ls st M h H locs la hH hS hl hn
  rcases st with _ | ⟨i | i, _ | ⟨x | x | _ | a, st⟩⟩ <;> first | exact False.elim h | skip
  dsimp only [o_aa] at h
  generalize e1 : p_is b a 10 = y at h
  cases y <;> first | exact False.elim h | skip
  obtain ⟨ha, hE⟩ := q_refs (w := w) M e1 (by omega)
  have he := q_at (w := w) M ha
  rw [hE] at he
  exact va_aldq K.1 K.2.1 K.2.2.2.2.2.2.1 hH.P (q_ix a) 1 he rfl h.1 hd (h.2 H locs la hH hS hl hn)
theorem s_ast10 (K : q_X b w p s m args c own cc nL R d cells slots) (hd : decode cc pc = .ok (.aastore, 1)) : (p_sd b C d Q (q_Z b w p l e R s m args below meth c nL cells slots Qw) (o_ast 10 1) pc) := by
  intro ls st M h H locs la hH hS hl hn
  rcases st with _ | ⟨v | v | _ | q, _ | ⟨i | i, _ | ⟨x | x | _ | a, st⟩⟩⟩ <;> first | exact False.elim h | skip
  dsimp only [o_ast] at h
  generalize e1 : (p_is b a 10 && p_is b q 1) = y at h
  cases y <;> first | exact False.elim h | skip
  simp only [Bool.and_eq_true] at e1
  obtain ⟨ha, hE⟩ := q_refs (w := w) M e1.1 (by omega)
  obtain ⟨hq, hEq⟩ := q_obj (w := w) M e1.2 (by omega)
  have he := q_at (w := w) M ha
  rw [hE] at he
  have heq := q_at (w := w) M hq
  rw [hEq] at heq
  refine va_astq K.1 K.2.1 K.2.2.2.2.2.2.1 hH.P (q_D K.2.2.2.2.2.2.2.1) hS (q_ix a) 1 (q_ix q) 1 he rfl heq rfl h.1 hd (fun H1 locs1 hP1 _ hS1 => h.2 H1 locs1 la (q_set ha hP1 ?_ (fun a9 h9 => q_E_cg rfl (p_wq_ne h9))) hS1 hl hn)
  have e5 : (fun j => ((va_up (M.2 a) i.toNatClampNeg (some q)) j).map w.2.2) = va_up (fun j => (M.2 a j).map w.2.2) i.toNatClampNeg (some (w.2.2 q)) := by
    funext j
    by_cases hj : j = i.toNatClampNeg
    · simp [va_up, hj]
    · simp [va_up, hj]
  rw [(q_refs (w := w) _ e1.1 (by omega)).2, p_wq_eq, e5]
theorem s_aa11 (K : q_X b w p s m args c own cc nL R d cells slots) (hd : decode cc pc = .ok (.aaload, 1)) : (p_sd b C d Q (q_Z b w p l e R s m args below meth c nL cells slots Qw) (o_aa 11) pc) := by
  intro ls st M h H locs la hH hS hl hn
  rcases st with _ | ⟨i | i, _ | ⟨x | x | _ | a, st⟩⟩ <;> first | exact False.elim h | skip
  dsimp only [o_aa] at h
  generalize e1 : p_is b a 11 = y at h
  cases y <;> first | exact False.elim h | skip
  obtain ⟨ha, hE⟩ := q_refs (w := w) M e1 (by omega)
  have he := q_at (w := w) M ha
  rw [hE] at he
  exact va_aldq K.1 K.2.1 K.2.2.2.2.2.2.1 hH.P (q_ix a) 2 he rfl h.1 hd (h.2 H locs la hH hS hl hn)
theorem s_ast11 (K : q_X b w p s m args c own cc nL R d cells slots) (hd : decode cc pc = .ok (.aastore, 1)) : (p_sd b C d Q (q_Z b w p l e R s m args below meth c nL cells slots Qw) (o_ast 11 2) pc) := by
  intro ls st M h H locs la hH hS hl hn
  rcases st with _ | ⟨v | v | _ | q, _ | ⟨i | i, _ | ⟨x | x | _ | a, st⟩⟩⟩ <;> first | exact False.elim h | skip
  dsimp only [o_ast] at h
  generalize e1 : (p_is b a 11 && p_is b q 2) = y at h
  cases y <;> first | exact False.elim h | skip
  simp only [Bool.and_eq_true] at e1
  obtain ⟨ha, hE⟩ := q_refs (w := w) M e1.1 (by omega)
  obtain ⟨hq, hEq⟩ := q_obj (w := w) M e1.2 (by omega)
  have he := q_at (w := w) M ha
  rw [hE] at he
  have heq := q_at (w := w) M hq
  rw [hEq] at heq
  refine va_astq K.1 K.2.1 K.2.2.2.2.2.2.1 hH.P (q_D K.2.2.2.2.2.2.2.1) hS (q_ix a) 2 (q_ix q) 2 he rfl heq rfl h.1 hd (fun H1 locs1 hP1 _ hS1 => h.2 H1 locs1 la (q_set ha hP1 ?_ (fun a9 h9 => q_E_cg rfl (p_wq_ne h9))) hS1 hl hn)
  have e5 : (fun j => ((va_up (M.2 a) i.toNatClampNeg (some q)) j).map w.2.2) = va_up (fun j => (M.2 a j).map w.2.2) i.toNatClampNeg (some (w.2.2 q)) := by
    funext j
    by_cases hj : j = i.toNatClampNeg
    · simp [va_up, hj]
    · simp [va_up, hj]
  rw [(q_refs (w := w) _ e1.1 (by omega)).2, p_wq_eq, e5]
end Snd
