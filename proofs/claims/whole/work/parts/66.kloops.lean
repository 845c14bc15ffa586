/-! constructors with loops: Search (a row of eight irons), Shelf (a row of rooms) -/
abbrev kQ (f : Nat → Option Nat) : (Nat → Int32) ⊕ (Nat → Int64) ⊕ (Nat → UInt32) ⊕ (Nat → UInt64) ⊕ (Nat → Option Nat) := .inr (.inr (.inr (.inr f)))
def rwF (n : Nat) (g : Nat → Nat) : Nat → Option Nat := fun j => if j < n then some (g j) else none
theorem rwF_up {n : Nat} {g : Nat → Nat} {q : Nat} : va_up (rwF n g) n (some q) = rwF (n + 1) (fun j => if j = n then q else g j) := by
  funext j
  simp only [va_up, rwF]
  by_cases e : j = n
  · rw [if_pos e, if_pos (by omega), if_pos e]
  · rw [if_neg e]
    by_cases h : j < n
    · rw [if_pos h, if_pos (by omega), if_neg e]
    · rw [if_neg h, if_neg (by omega)]
def irL (n : Nat) (g : Nat → Nat) : va_W := (List.range n).map (fun j => (g j, .inr (1, irV)))
def roL (cA : Nat → ClassId) (n : Nat) (g : Nat → Nat → Nat) : va_W := (List.range n).flatMap (fun j => rmW cA (g j))
theorem irL_up {n : Nat} {g : Nat → Nat} {q : Nat} : irL n g ++ [(q, .inr (1, irV))] = irL (n + 1) (fun j => if j = n then q else g j) := by
  simp only [irL, List.range_succ, List.map_append, List.map_cons, List.map_nil, if_true]
  congr 1
  refine List.map_congr_left (fun j hj => ?_)
  rw [if_neg (by have := List.mem_range.mp hj; omega)]
theorem roL_up {cA : Nat → ClassId} {n : Nat} {g : Nat → Nat → Nat} {h : Nat → Nat} : roL cA n g ++ rmW cA h = roL cA (n + 1) (fun j => if j = n then h else g j) := by
  have e : ∀ L : List Nat, (∀ j ∈ L, j < n) → L.flatMap (fun j => rmW cA (g j)) = L.flatMap (fun j => rmW cA (if j = n then h else g j)) := by
    intro L
    induction L with
    | nil => intro _; rfl
    | cons a L ih =>
      intro hL
      have ha := hL a List.mem_cons_self
      rw [List.flatMap_cons, List.flatMap_cons, ih (fun j hj => hL j (List.mem_cons_of_mem _ hj)), if_neg (by omega)]
  simp only [roL, List.range_succ, List.flatMap_append, List.flatMap_cons, List.flatMap_nil, List.append_nil, if_true]
  rw [e _ (fun j hj => List.mem_range.mp hj)]
section Kop
variable {p : Program} {l : Launch} {e : Env} {R : Room} {s : State} {m : MethodId} {args : Array Value} {below : List Frame} {meth : Method} {c : Code} {own : String} {cc : ByteArray} {nL cells slots pc : Nat} {Q : State → Prop} {D : va_G} {cA : Nat → ClassId} {A : Nat → Prop} {ws : va_W} {H : Heap} {locs : List Loc} {ls : Array Slot} {rest : List Value}
theorem k_get (K : k_X D cA p s m args c own cc nL) {a : Nat} {ci : Nat} {fs : List Value} (hW : k_W A s D ((a, .inr (ci, fs)) :: ws) H locs) {T : u_T} {N index : Nat} (hcl : vwCl[ci]? = some (own, T, N)) (hin : ∀ z ∈ u_ws own T N, z ∈ p_T) (k : Nat) (hk : k < N) (w1 : Cond.fieldLink own index own (T k).2.1 (T k).2.2.1 ∈ p_T) (hT : (T k).1 = own) {v : Value} (hv : fs[k]? = some v) (hdg : decode cc pc = .ok (.getfield index, 3))
    (kk : W p l e R s m args below meth c H locs cells slots Q (F0 m (pc + 3) ls (v :: rest))) : W p l e R s m args below meth c H locs cells slots Q (F0 m pc ls (.ref a :: rest)) := by
  obtain ⟨hx, hb, hml, hown, hts, hK, hN, -⟩ := K
  exact va_get (ref := own) (C := own) (T := T) (N := N) hx hb hts hin hown hK hW.1 0 rfl hcl k hk (hts _ w1) (fun x h9 => by rw [← hT]; exact h9) hv hdg kk
end Kop
set_option maxHeartbeats 4000000 in
set_option maxRecDepth 100000 in
theorem k_X3 (l : Launch) (D : va_G) (cA : Nat → ClassId) (h0 : Nat) : k_Met l D cA yX3_init cX3_init 2 { frames := 2, cells := 11, slots := 54, locals := 64 } [.ref h0] [(h0, .inr (3, [.null, .null, .null, .int 0]))] (fun w1 => ∃ g gi : Nat → Nat, g 0 = h0 ∧ w1 = (g 0, .inr (3, [.ref (g 1), .ref (g 2), .ref (g 3), .int 0])) :: (g 1, .inl (cA 1, 8, kQ (rwF 8 gi))) :: (g 2, kI cA 7) :: (g 3, kI cA 7) :: irL 8 gi) 11 54 := by
  refine k_in rfl (Nat.le_of_ble_eq_true rfl) (fun p e s m args below meth c K hr hk hin ls hl hA hW => ?_)
  obtain ⟨A, hAe⟩ : ∃ A, A = va_A [(h0, .inr (3, [.null, .null, .null, .int 0]))] s.heap.size := ⟨_, rfl⟩
  rw [← hAe] at hA hW
  have hl : lv_has ls 2 [(0, .ref h0)] := hl
  have hx := K.1
  have hb := K.2.1
  refine lv_aload_n hx hb dX3_init_0 rfl (lv_at hl 0 rfl) ?_
  refine k_obj K hl.1 u_o_X3 (Nat.le_of_ble_eq_true rfl) (Nat.le_of_ble_eq_true rfl) rfl dX3_init_1 ?_
  refine lv_aload_n hx hb dX3_init_4 rfl (lv_at hl 0 rfl) ?_
  refine lv_bipush (v := nI 8) hx hb dX3_init_5 (by decide) ?_
  refine k_newq (k := 1) K hA hW 8 rfl (by omega) rfl u_k_X3_9 K.2.2.2.2.2.2.2.1 (Nat.le_of_ble_eq_true rfl) (Nat.le_of_ble_eq_true rfl) dX3_init_7 (fun r H hW => ?_)
  have hW : k_W A s D ((h0, .inr (3, [.null, .null, .null, .int 0])) :: [(r, .inl (cA 1, 8, kQ (fun _ => none)))]) H _ := hW
  refine k_putF K hW rfl inX3 tyX3 tyX3_ok nmX3 0 (by decide) u_f_X3_11 rfl rfl hin ⟨rfl, rfl⟩ (Nat.le_of_ble_eq_true rfl) dX3_init_10 (fun H locs hW => ?_)
  have hW : k_W A s D ((h0, .inr (3, [.ref r, .null, .null, .int 0])) :: [(r, .inl (cA 1, 8, kQ (fun _ => none)))]) H _ := hW
  refine lv_aload_n hx hb dX3_init_13 rfl (lv_at hl 0 rfl) ?_
  refine lv_bipush (v := nI 7) hx hb dX3_init_14 (by decide) ?_
  refine k_newa K hA hW 7 rfl (by omega) (Nat.le_of_ble_eq_true rfl) (Nat.le_of_ble_eq_true rfl) dX3_init_16 (fun q1 H hW => ?_)
  have hW : k_W A s D ((h0, .inr (3, [.ref r, .null, .null, .int 0])) :: [(r, .inl (cA 1, 8, kQ (fun _ => none))), (q1, kI cA 7)]) H _ := hW
  refine k_putF K hW rfl inX3 tyX3 tyX3_ok nmX3 1 (by decide) u_f_X3_17 rfl rfl hin ⟨rfl, rfl⟩ (Nat.le_of_ble_eq_true rfl) dX3_init_18 (fun H locs hW => ?_)
  have hW : k_W A s D ((h0, .inr (3, [.ref r, .ref q1, .null, .int 0])) :: [(r, .inl (cA 1, 8, kQ (fun _ => none))), (q1, kI cA 7)]) H _ := hW
  refine lv_aload_n hx hb dX3_init_21 rfl (lv_at hl 0 rfl) ?_
  refine lv_bipush (v := nI 7) hx hb dX3_init_22 (by decide) ?_
  refine k_newa K hA hW 7 rfl (by omega) (Nat.le_of_ble_eq_true rfl) (Nat.le_of_ble_eq_true rfl) dX3_init_24 (fun q2 H hW => ?_)
  have hW : k_W A s D ((h0, .inr (3, [.ref r, .ref q1, .null, .int 0])) :: [(r, .inl (cA 1, 8, kQ (fun _ => none))), (q1, kI cA 7), (q2, kI cA 7)]) H _ := hW
  refine k_putF K hW rfl inX3 tyX3 tyX3_ok nmX3 2 (by decide) u_f_X3_21 rfl rfl hin ⟨rfl, rfl⟩ (Nat.le_of_ble_eq_true rfl) dX3_init_26 (fun H locs hW => ?_)
  have hW : k_W A s D ((h0, .inr (3, [.ref r, .ref q1, .ref q2, .int 0])) :: (r, .inl (cA 1, 8, kQ (fun _ => none))) :: (q1, kI cA 7) :: (q2, kI cA 7) :: irL 0 (fun _ => 0)) H _ := hW
  refine lv_iconst (v := nI 0) hx hb dX3_init_29 (by decide) ?_
  refine lv_istore_n (lv' := [(1, .int (nI 0)), (0, .ref h0)]) hx hb dX3_init_30 rfl hl (by decide) rfl (fun ls hl => ?_)
  have loop : ∀ (k i : Nat) (gi : Nat → Nat) (H : Heap) (locs : List Loc) (ls : Array Slot), i + k = 8 → lv_has ls 2 [(1, .int (nI i)), (0, .ref h0)] → k_W A s D ((h0, .inr (3, [.ref r, .ref q1, .ref q2, .int 0])) :: (r, .inl (cA 1, 8, kQ (rwF i gi))) :: (q1, kI cA 7) :: (q2, kI cA 7) :: irL i gi) H locs → W p l e { frames := 2, cells := 11, slots := 54, locals := 64 } s m args below meth c H locs (3 + i) (22 + 4 * i) (MQ below (k_post D [(h0, .inr (3, [.null, .null, .null, .int 0]))] s.heap.size (fun w1 => ∃ g gi : Nat → Nat, g 0 = h0 ∧ w1 = (g 0, .inr (3, [.ref (g 1), .ref (g 2), .ref (g 3), .int 0])) :: (g 1, .inl (cA 1, 8, kQ (rwF 8 gi))) :: (g 2, kI cA 7) :: (g 3, kI cA 7) :: irL 8 gi)) args s 11 54 (va_A [(h0, .inr (3, [.null, .null, .null, .int 0]))] s.heap.size)) (F0 m 31 ls []) := by
    intro k
    induction k with
    | zero =>
      intro i gi H locs ls e1 hl hW
      have : i = 8 := by omega
      subst this
      refine lv_iload_n hx hb dX3_init_31 rfl (lv_at hl 0 rfl) ?_
      refine lv_aload_n hx hb dX3_init_32 rfl (lv_at hl 1 rfl) ?_
      refine k_get K hW rfl inX3 0 (by decide) u_f_X3_11 rfl rfl dX3_init_33 ?_
      refine va_alen hx hb K.2.2.2.2.2.1 hW.1 1 1 rfl rfl (v := nI 8) rfl dX3_init_36 ?_
      refine lv_icmp_ge (tgt := 59) hx hb dX3_init_37 (by decide) (fun _ => ?_) (fun c9 => absurd (Int32.le_refl _) c9)
      rw [hAe] at hW
      exact k_vret K hr hk ⟨fun k => match k with | 0 => h0 | 1 => r | 2 => q1 | _ => q2, gi, rfl, rfl⟩ hW dX3_init_59
    | succ k ih =>
      intro i gi H locs ls e1 hl hW
      refine lv_iload_n hx hb dX3_init_31 rfl (lv_at hl 0 rfl) ?_
      refine lv_aload_n hx hb dX3_init_32 rfl (lv_at hl 1 rfl) ?_
      refine k_get K hW rfl inX3 0 (by decide) u_f_X3_11 rfl rfl dX3_init_33 ?_
      refine va_alen hx hb K.2.2.2.2.2.1 hW.1 1 1 rfl rfl (v := nI 8) rfl dX3_init_36 ?_
      refine lv_icmp_ge (tgt := 59) hx hb dX3_init_37 (by decide) (fun c9 => absurd c9 (nI_ge (by omega) (by omega))) (fun _ => ?_)
      refine lv_aload_n hx hb dX3_init_40 rfl (lv_at hl 1 rfl) ?_
      refine k_get K hW rfl inX3 0 (by decide) u_f_X3_11 rfl rfl dX3_init_41 ?_
      refine lv_iload_n hx hb dX3_init_44 rfl (lv_at hl 0 rfl) ?_
      refine k_new K hA hW 1 rfl inX1 tyX1 tyX1_ok u_k_X3_9 u_t_X1 u_n_X1 (fs := irV) (fun j hj => by rcases (show j = 0 ∨ j = 1 ∨ j = 2 ∨ j = 3 by omega) with rfl | rfl | rfl | rfl <;> rfl) (by show 3 + i + 1 ≤ 11; omega) (by show 22 + 4 * i + 4 ≤ 54; omega) dX3_init_45 (fun q H hW => ?_)
      refine lv_dup hx hb dX3_init_48 rfl ?_
      refine k_callN (x := (q, .inr (1, irV))) (As := []) (rest := [.ref q, .int (nI i), .ref r]) (n := 0) K hl.1 hA hW (k_X1 l D cA q) u_c_X1 u_m_X3_24 u_n_X1 u_i_X1 (by decide +kernel) rfl ⟨rfl, rfl⟩ ⟨Nat.le_of_ble_eq_true rfl, Nat.le_of_ble_eq_true rfl⟩ rfl (Nat.le_of_ble_eq_true rfl) ⟨by show 3 + i + 1 + 0 ≤ 11; omega, by show 22 + 4 * i + 4 + 0 ≤ 54; omega⟩ dX3_init_49 (fun w1 H locs hSh hW => ?_)
      subst hSh
      obtain ⟨hP, hD, hS⟩ := hW
      have hlen : (irL i gi).length = i := by simp [irL]
      refine va_astq hx hb K.2.2.2.2.2.1 hP hD hS 1 1 (4 + i) 1 (cA := cA 1) (r := (RX1, TX1, 4)) (vs := irV) (v := q) rfl rfl (by
        rw [Nat.add_comm]
        show (irL i gi ++ [(q, .inr (1, irV))])[i]? = _
        rw [List.getElem?_append_right (by omega), hlen, Nat.sub_self]
        rfl) rfl (vp_in_nI (by omega) (by omega)) dX3_init_52 (fun H1 locs1 hP1 hD1 hS1 => ?_)
      rw [nI_clamp (by omega)] at hP1 hD1
      have e2 : ∀ (f : Nat → Option Nat), (((h0, .inr (3, [.ref r, .ref q1, .ref q2, .int 0])) :: (r, .inl (cA 1, 8, kQ (rwF i gi))) :: (q1, kI cA 7) :: (q2, kI cA 7) :: irL i gi) ++ [(q, .inr (1, irV))] : va_W).set 1 (r, .inl (cA 1, 8, kQ f)) = (h0, .inr (3, [.ref r, .ref q1, .ref q2, .int 0])) :: (r, .inl (cA 1, 8, kQ f)) :: (q1, kI cA 7) :: (q2, kI cA 7) :: (irL i gi ++ [(q, .inr (1, irV))]) := fun f => rfl
      rw [e2, rwF_up, irL_up] at hP1 hD1
      refine lv_iinc (v := nI (i + 1)) (lv' := [(1, .int (nI (i + 1))), (0, .ref h0)]) hx hb dX3_init_53 hl (k := 0) rfl (nI_1 i) (by decide) rfl (fun ls hl => ?_)
      refine lv_goto (tgt := 31) hx hb dX3_init_56 (by decide) ?_
      refine W.widen (k := 3 + (i + 1)) (n := 22 + 4 * (i + 1)) (by omega) (by omega) ?_
      exact ih (i + 1) _ _ _ ls (by omega) hl ⟨hP1, hD1, hS1⟩
  refine W.widen (k := 3 + 0) (n := 22 + 4 * 0) (Nat.le_of_ble_eq_true rfl) (Nat.le_of_ble_eq_true rfl) ?_
  exact loop 8 0 (fun _ => 0) _ _ ls rfl hl (by
    have : (fun _ => none : Nat → Option Nat) = rwF 0 (fun _ => 0) := by funext j; simp [rwF]
    rw [← this]
    exact hW)
theorem u_max : Cond.methodLink RX4 7 Lib.Math.max.name ∈ p_T := p_in 270 (by decide +kernel) rfl
theorem u_maxs : Cond.static Lib.Math.max.name ∈ p_T := p_in 271 (by decide +kernel) rfl
theorem u_maxi : Cond.initialized "java/lang/Math" ∈ p_T := p_in 82 (by decide +kernel) rfl
theorem u_maxc : Cond.code Lib.Math.max.name Lib.Math.max.code 2 (some .int) ∈ p_T := p_in 272 (by decide +kernel) rfl
abbrev shP (cA : Nat → ClassId) (h0 n : Nat) : va_W → Prop := fun w1 => ∃ (g : Nat → Nat) (gr : Nat → Nat → Nat), g 0 = h0 ∧ w1 = (g 0, .inr (4, [.ref (g 1), .int 0])) :: (g 1, .inl (cA 2, n, kQ (rwF n (fun j => gr j 0)))) :: roL cA n gr
set_option maxHeartbeats 4000000 in
set_option maxRecDepth 100000 in
theorem k_X4 (l : Launch) (D : va_G) (cA : Nat → ClassId) (h0 n : Nat) (hn1 : 1 ≤ n) (hn8 : n ≤ 8) : k_Met l D cA yX4_init cX4_init 3 { frames := 2, cells := 1 + 7 * n, slots := n + 48 * n, locals := 64 } [.ref h0, .int (nI n)] [(h0, .inr (4, [.null, .int 0]))] (shP cA h0 n) (1 + 7 * n) (n + 48 * n) := by
  refine k_in rfl (Nat.le_of_ble_eq_true rfl) (fun p e s m args below meth c K hr hk hin ls hl hA hW => ?_)
  obtain ⟨A, hAe⟩ : ∃ A, A = va_A [(h0, .inr (4, [.null, .int 0]))] s.heap.size := ⟨_, rfl⟩
  rw [← hAe] at hA hW
  have hl : lv_has ls 3 [(0, .ref h0), (1, .int (nI n))] := hl
  have hx := K.1
  have hb := K.2.1
  have hts := K.2.2.2.2.1
  refine lv_aload_n hx hb dX4_init_0 rfl (lv_at hl 0 rfl) ?_
  refine k_obj K hl.1 u_o_X4 (Nat.le_of_ble_eq_true rfl) (Nat.le_of_ble_eq_true rfl) rfl dX4_init_1 ?_
  refine lv_aload_n hx hb dX4_init_4 rfl (lv_at hl 0 rfl) ?_
  refine lv_iload_n hx hb dX4_init_5 rfl (lv_at hl 1 rfl) ?_
  refine lv_iconst (v := nI 1) hx hb dX4_init_6 (by decide) ?_
  refine va_mmax hx hb (K.2.2.1.trans hl.1.symm) K.2.2.2.1 (hts _ u_max) (hts _ u_maxs) (hts _ u_maxi) (hts _ u_maxc) (Nat.le_of_ble_eq_true rfl) (Nat.le_of_ble_eq_true rfl) (Nat.zero_le _) (Nat.zero_le _) dX4_init_7 ?_
  rw [if_neg (nI_nlt hn1 (by omega))]
  refine k_newq (k := 2) K hA hW n rfl (by omega) rfl u_k_X4_13 K.2.2.2.2.2.2.2.2 (by show 0 + 1 ≤ 1 + 7 * n; omega) (by show 0 + n ≤ n + 48 * n; omega) dX4_init_10 (fun r H hW => ?_)
  have hW : k_W A s D ((h0, .inr (4, [.null, .int 0])) :: [(r, .inl (cA 2, n, kQ (fun _ => none)))]) H _ := hW
  refine k_putF K hW rfl inX4 tyX4 tyX4_ok nmX4 0 (by decide) u_f_X4_15 rfl rfl hin ⟨rfl, rfl⟩ (Nat.le_of_ble_eq_true rfl) dX4_init_13 (fun H locs hW => ?_)
  have hW : k_W A s D ((h0, .inr (4, [.ref r, .int 0])) :: (r, .inl (cA 2, n, kQ (fun _ => none))) :: roL cA 0 (fun _ _ => 0)) H _ := hW
  refine lv_iconst (v := nI 0) hx hb dX4_init_16 (by decide) ?_
  refine lv_istore_n (lv' := [(2, .int (nI 0)), (0, .ref h0), (1, .int (nI n))]) hx hb dX4_init_17 rfl hl (by decide) rfl (fun ls hl => ?_)
  have loop : ∀ (k i : Nat) (gr : Nat → Nat → Nat) (H : Heap) (locs : List Loc) (ls : Array Slot), i + k = n → lv_has ls 3 [(2, .int (nI i)), (0, .ref h0), (1, .int (nI n))] → k_W A s D ((h0, .inr (4, [.ref r, .int 0])) :: (r, .inl (cA 2, n, kQ (rwF i (fun j => gr j 0)))) :: roL cA i gr) H locs → W p l e { frames := 2, cells := 1 + 7 * n, slots := n + 48 * n, locals := 64 } s m args below meth c H locs (1 + 7 * i) (n + 48 * i) (MQ below (k_post D [(h0, .inr (4, [.null, .int 0]))] s.heap.size (shP cA h0 n)) args s (1 + 7 * n) (n + 48 * n) (va_A [(h0, .inr (4, [.null, .int 0]))] s.heap.size)) (F0 m 18 ls []) := by
    intro k
    induction k with
    | zero =>
      intro i gr H locs ls e1 hl hW
      have : i = n := by omega
      subst this
      refine lv_iload_n hx hb dX4_init_18 rfl (lv_at hl 0 rfl) ?_
      refine lv_aload_n hx hb dX4_init_19 rfl (lv_at hl 1 rfl) ?_
      refine k_get K hW rfl inX4 0 (by decide) u_f_X4_15 rfl rfl dX4_init_20 ?_
      refine va_alen hx hb K.2.2.2.2.2.1 hW.1 1 2 rfl rfl (v := nI i) rfl dX4_init_23 ?_
      refine lv_icmp_ge (tgt := 46) hx hb dX4_init_24 (by decide) (fun _ => ?_) (fun c9 => absurd (Int32.le_refl _) c9)
      rw [hAe] at hW
      exact k_vret K hr hk ⟨fun k => match k with | 0 => h0 | _ => r, gr, rfl, rfl⟩ hW dX4_init_46
    | succ k ih =>
      intro i gr H locs ls e1 hl hW
      refine lv_iload_n hx hb dX4_init_18 rfl (lv_at hl 0 rfl) ?_
      refine lv_aload_n hx hb dX4_init_19 rfl (lv_at hl 1 rfl) ?_
      refine k_get K hW rfl inX4 0 (by decide) u_f_X4_15 rfl rfl dX4_init_20 ?_
      refine va_alen hx hb K.2.2.2.2.2.1 hW.1 1 2 rfl rfl (v := nI n) rfl dX4_init_23 ?_
      refine lv_icmp_ge (tgt := 46) hx hb dX4_init_24 (by decide) (fun c9 => absurd c9 (nI_ge (by omega) (by omega))) (fun _ => ?_)
      refine lv_aload_n hx hb dX4_init_27 rfl (lv_at hl 1 rfl) ?_
      refine k_get K hW rfl inX4 0 (by decide) u_f_X4_15 rfl rfl dX4_init_28 ?_
      refine lv_iload_n hx hb dX4_init_31 rfl (lv_at hl 0 rfl) ?_
      refine k_new K hA hW 2 rfl inX2 tyX2 tyX2_ok u_k_X4_13 u_t_X2 u_n_X2 (fs := [.null, .null, .null, .null, .null, .null, .int 0, .int 0, .int 0, .int 0]) (fun j hj => by rcases (show j = 0 ∨ j = 1 ∨ j = 2 ∨ j = 3 ∨ j = 4 ∨ j = 5 ∨ j = 6 ∨ j = 7 ∨ j = 8 ∨ j = 9 by omega) with rfl | rfl | rfl | rfl | rfl | rfl | rfl | rfl | rfl | rfl <;> rfl) (by show 1 + 7 * i + 1 ≤ 1 + 7 * n; omega) (by show n + 48 * i + 10 ≤ n + 48 * n; omega) dX4_init_32 (fun q H hW => ?_)
      refine lv_dup hx hb dX4_init_35 rfl ?_
      refine k_callN (x := (q, .inr (2, [.null, .null, .null, .null, .null, .null, .int 0, .int 0, .int 0, .int 0]))) (As := []) (rest := [.ref q, .int (nI i), .ref r]) (n := 0) K hl.1 hA hW (k_X2 l D cA q) u_c_X2 u_m_X4_21 u_n_X2 u_i_X2 (by decide +kernel) rfl ⟨rfl, rfl⟩ ⟨Nat.le_of_ble_eq_true rfl, Nat.le_of_ble_eq_true rfl⟩ rfl (Nat.le_of_ble_eq_true rfl) ⟨by show 1 + 7 * i + 1 + 6 ≤ 1 + 7 * n; omega, by show n + 48 * i + 10 + 38 ≤ n + 48 * n; omega⟩ dX4_init_36 (fun w1 H locs hSh hW => ?_)
      obtain ⟨hP, hD, hS⟩ := hW
      obtain ⟨g, hg, rfl⟩ := hSh
      subst hg
      refine va_astq hx hb K.2.2.2.2.2.1 hP hD hS 1 2 (2 + (roL cA i gr).length) 2 (cA := cA 2) (r := (RX2, TX2, 10)) (vs := [.ref (g 1), .ref (g 2), .ref (g 3), .ref (g 4), .ref (g 5), .ref (g 6), .int 0, .int 0, .int 0, .int 0]) (v := g 0) rfl rfl (by
        rw [Nat.add_comm]
        show (roL cA i gr ++ rmW cA g)[(roL cA i gr).length]? = _
        rw [List.getElem?_append_right (Nat.le_refl _), Nat.sub_self]
        rfl) rfl (vp_in_nI (by omega) (by omega)) dX4_init_39 (fun H1 locs1 hP1 hD1 hS1 => ?_)
      rw [nI_clamp (by omega)] at hP1 hD1
      have e2 : ∀ (f : Nat → Option Nat), (((h0, .inr (4, [.ref r, .int 0])) :: (r, .inl (cA 2, n, kQ (rwF i (fun j => gr j 0)))) :: roL cA i gr) ++ rmW cA g : va_W).set 1 (r, .inl (cA 2, n, kQ f)) = (h0, .inr (4, [.ref r, .int 0])) :: (r, .inl (cA 2, n, kQ f)) :: (roL cA i gr ++ rmW cA g) := fun f => rfl
      rw [e2, rwF_up, roL_up] at hP1 hD1
      have e3 : (fun j => if j = i then g 0 else gr j 0) = (fun j => (if j = i then g else gr j) 0) := by
        funext j
        split <;> rfl
      rw [e3] at hP1 hD1
      refine lv_iinc (v := nI (i + 1)) (lv' := [(2, .int (nI (i + 1))), (0, .ref h0), (1, .int (nI n))]) hx hb dX4_init_40 hl (k := 0) rfl (nI_1 i) (by decide) rfl (fun ls hl => ?_)
      refine lv_goto (tgt := 18) hx hb dX4_init_43 (by decide) ?_
      refine W.widen (k := 1 + 7 * (i + 1)) (n := n + 48 * (i + 1)) (by omega) (by omega) ?_
      exact ih (i + 1) _ _ _ ls (by omega) hl ⟨hP1, hD1, hS1⟩
  refine W.widen (k := 1 + 7 * 0) (n := n + 48 * 0) (Nat.le_of_ble_eq_true rfl) (by omega) ?_
  exact loop n 0 (fun _ _ => 0) _ _ ls (Nat.zero_add _) hl (by
    have : (fun _ => none : Nat → Option Nat) = rwF 0 (fun _ => 0) := by funext j; simp [rwF]
    rw [← this]
    exact hW)
