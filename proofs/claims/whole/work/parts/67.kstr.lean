/-! the text of the first room: String.length and String.charAt over it -/
def k_ch : List Int32 := [116, 48, 44, 49, 48, 59, 116, 49, 44, 56, 59, 116, 50, 44, 49, 50, 59, 116, 51, 44, 57, 59, 102, 49, 59, 102, 48, 59, 102, 49, 59, 102, 48, 59, 99, 48, 44, 48, 44, 49, 44, 57, 59, 99, 48, 44, 49, 44, 49, 44, 56, 59, 99, 49, 44, 50, 44, 48, 44, 49, 52, 59, 99, 48, 44, 51, 44, 49, 44, 54, 59, 99, 50, 44, 49, 44, 49, 44, 53, 59, 99, 51, 44, 51, 44, 48, 44, 50, 48, 59, 99, 50, 44, 48, 44, 48, 44, 52, 59]
def k_by (j : Nat) : Int32 := k_ch.getD j 0
def k_St (A : Nat → Prop) (sK sV : Nat) (U : State) (H : Heap) : Prop := va_Z "java/lang/String" "COMPACT_STRINGS" "Z" (.int 1) A U H ∧ va_OF "java/lang/String" "coder" "B" (.int 0) sK A U H ∧ va_OF "java/lang/String" "value" "[B" (.ref sV) sK A U H ∧ va_T .byte sV 99 (fun j => .int (k_by j)) A U H ∧ va_O "java/lang/String" sK A U H ∧ va_Zq "jdk/internal/util/Preconditions" "SIOOBE_FORMATTER" "Ljava/util/function/BiFunction;" A U H
theorem k_St.moved {A : Nat → Prop} {sK sV : Nat} {u U : State} {H : Heap} (hvm : u.vm.Alike U.vm) (h : k_St A sK sV u H) : k_St A sK sV U H := ⟨h.1.moved hvm, h.2.1.moved hvm, h.2.2.1.moved hvm, h.2.2.2.1.moved hvm, h.2.2.2.2.1.moved hvm, h.2.2.2.2.2.moved hvm⟩
theorem k_St.kept {A : Nat → Prop} {sK sV : Nat} {U : State} {H H1 : Heap} (h : k_St A sK sV U H) (hq : ∀ a : Nat, a < H.size → ¬ A a → H1[a]? = H[a]?) : k_St A sK sV U H1 := ⟨h.1.kept hq, h.2.1.kept hq, h.2.2.1.kept hq, h.2.2.2.1.kept hq, h.2.2.2.2.1.kept hq, h.2.2.2.2.2.kept hq⟩
theorem k_St.narrow {A B : Nat → Prop} {sK sV : Nat} {U : State} {H : Heap} (h : k_St A sK sV U H) (hAB : ∀ q, B q → A q) : k_St B sK sV U H := ⟨h.1.narrow hAB, h.2.1.narrow hAB, h.2.2.1.narrow hAB, h.2.2.2.1.narrow hAB, h.2.2.2.2.1.narrow hAB, h.2.2.2.2.2.narrow hAB⟩
abbrev k_F : Nat → Prop := fun _ => False
def k_B (sK sV : Nat) (U : State) : Prop := k_St k_F sK sV U U.heap
def k_R (l : Launch) (y : MethodName) (cb : ByteArray) (ml : Nat) (rt : Option FieldType) (d : Nat) (as : List Value) (v : Option Value) (B : State → Prop) : Prop := Met l y (Cond.code y cb ml rt :: p_T) (p_rm d) (va_Pc as B) (fun _ st oc t => oc = .returned v ∧ t.heap = st.heap) 0 0 k_F
def x_X (p : Program) (s : State) (m : MethodId) (args : Array Value) (c : Code) (own : String) (cc : ByteArray) (nL : Nat) : Prop := p.tables.exec = Jvm.exec ∧ c.code = cc ∧ c.maxLocals = nL ∧ s.vm.findClass own = some m.cls ∧ ∀ z ∈ p_T, z.before args s = true
theorem k_inR {l : Launch} {y : MethodName} {cb : ByteArray} {ml : Nat} {rt : Option FieldType} {d : Nat} {as : List Value} {v : Option Value} {B : State → Prop} (hy : plainName y.cls = true) (hnl : (lg_sl as).length ≤ ml)
    (h : ∀ (p : Program) (e : Env) (s : State) (m : MethodId) (args : Array Value) (below : List Frame) (meth : Method) (c : Code), x_X p s m args c y.cls cb ml → B s → meth.sig.returnType = rt → meth.locks = false → ∀ ls : Array Slot, lv_has ls ml (lv_args 0 as) → W p l e (p_rm d) s m args below meth c s.heap [] 0 0 (MQ below (fun _ st oc t => oc = .returned v ∧ t.heap = st.heap) args s 0 0 k_F) (F0 m 0 ls [])) : k_R l y cb ml rt d as v B := by
  refine Met.ofW (cc := cb) (maxL := ml) (ret := rt) hy rfl ?_
  intro p e s m args below meth c s₁ Bd hml hv
  obtain ⟨rfl, hB⟩ := hv
  have hts := atoms_spec (ws := Cond.code y cb ml rt :: p_T) Bd.pre
  have hown : s.vm.findClass y.cls = some m.cls := findClass_of_methodNamed Bd.named
  rw [lg_entry_eq]
  exact h p e s m _ below meth c ⟨Bd.exec, Bd.bytes, hml, hown, fun z hz => hts z (List.mem_cons_of_mem _ hz)⟩ hB Bd.returns Bd.notSynchronized _ (lv_entry as hnl)
def k_bd (B : State → Prop) : Prop := ∀ (U : State) (g : JFrame) (mk : MethodId) (a : Array Value), B U → B (U.calling g mk a)
theorem k_bB {sK sV : Nat} : k_bd (k_B sK sV) := fun U g mk a h => k_St.moved (u := U) (U := U.calling g mk a) (Vm.Alike.refl U.vm) h
theorem k_bT : k_bd (fun _ => True) := fun _ _ _ _ _ => trivial
theorem k_bf {B : State → Prop} (h : k_bd B) {as : List Value} : FrameBlind (va_Pc as B) := by
  rintro a U g mk ⟨h1, h2⟩
  exact ⟨h1, h U g mk a h2⟩
section Str
variable {p : Program} {l : Launch} {e : Env} {R : Room} {s : State} {m : MethodId} {args : Array Value} {below : List Frame} {meth : Method} {c : Code} {own : String} {cc : ByteArray} {nL cells slots pc : Nat} {Q : State → Prop} {H : Heap} {locs : List Loc} {ls : Array Slot} {rest st0 : List Value}
theorem k_csR {v : Option Value} (hr : va_Run p l e R s m args below meth c H locs cells slots 0 0 (F0 m pc ls st0) rest (fun (st : State) (oc : Outcome) (t : State) => oc = .returned v ∧ t.heap = st.heap) k_F) (kk : W p l e R s m args below meth c H locs cells slots Q (F0 m (pc + 3) ls (v.toList ++ rest))) : W p l e R s m args below meth c H locs cells slots Q (F0 m pc ls st0) := by
  intro T hT X
  obtain ⟨v', st₀, t, T', L, h0, X', hL, e1, e2, ⟨hv, hh⟩, st⟩ := hr T hT X
  cases hv
  obtain ⟨t2, a1, b1⟩ := kk T' (by rw [e1, hh, h0]) (Stand.forget X' (fun q h => (hL q h).elim))
  exact ⟨t2, st t2 a1, b1⟩
theorem k_cV (K : x_X p s m args c own cc nL) (hl : ls.size = nL) {y : MethodName} {cb : ByteArray} {ml n d index : Nat} {rt : Option FieldType} {b : Nat} {As : List Value} {v : Option Value} {B : State → Prop} (hM : k_R l y cb ml rt d (.ref b :: As) v B) (hBd : k_bd B) (w1 : Cond.code y cb ml rt ∈ p_T) (w2 : Cond.methodLink own index y ∈ p_T) (w3 : Cond.instanceMethod y ∈ p_T) (w4 : Cond.selects y.cls y y ∈ p_T) (w5 : Cond.initialized y.cls ∈ p_T) (hy : y.cls ≠ "java/lang/invoke/MethodHandle" ∧ y.cls ≠ "java/lang/invoke/VarHandle" ∧ (parseMethodDescriptor y.desc).map (fun d => d.parameters.length) = some n) (hn : As.length = n) (hR : d + 1 ≤ R.frames ∧ 8 + (ml + 11) + 64 * d ≤ R.locals) (hB : ∀ U : State, U.heap = H → s.WarmedH U.vm → B U) (hO : ∃ cell : Cell, H[b]? = some cell ∧ cell.vm.isStatics = false ∧ s.vm.findClass y.cls = some cell.cls) (hr : (rest.map fun v => v.category).sum ≤ 8) (hc : cells ≤ R.cells ∧ slots ≤ R.slots) (hst : st0 = As.reverse ++ .ref b :: rest) (hdg : decode cc pc = .ok (.invokevirtual index, 3))
    (kk : W p l e R s m args below meth c H locs cells slots Q (F0 m (pc + 3) ls (v.toList ++ rest))) : W p l e R s m args below meth c H locs cells slots Q (F0 m pc ls st0) := by
  obtain ⟨hx, hb, hml, hown, hts⟩ := K
  exact k_csR (va_runV (As := As) (b := b) (C := y.cls) (rest := rest) ⟨hx, hb, hml, hown, hts⟩ hM ⟨callB_of n hts (q_good w1) rfl rfl rfl (hts _ w5) (hts _ w2) hy hR, hts _ w3, hts _ w4⟩ ⟨k_bf hBd, hO, fun U hU hW => ⟨rfl, hB U hU hW⟩⟩ rfl hn hl hst (lv_room hr) hdg hc) kk
theorem k_cS (K : x_X p s m args c own cc nL) (hl : ls.size = nL) {y : MethodName} {cb : ByteArray} {ml n d index : Nat} {rt : Option FieldType} {As : List Value} {v : Option Value} {B : State → Prop} (hM : k_R l y cb ml rt d As v B) (hBd : k_bd B) (w1 : Cond.code y cb ml rt ∈ p_T) (w2 : Cond.methodLink own index y ∈ p_T) (w3 : Cond.static y ∈ p_T) (w5 : Cond.initialized y.cls ∈ p_T) (hy : y.cls ≠ "java/lang/invoke/MethodHandle" ∧ y.cls ≠ "java/lang/invoke/VarHandle" ∧ (parseMethodDescriptor y.desc).map (fun d => d.parameters.length) = some n) (hn : As.length = n) (hR : d + 1 ≤ R.frames ∧ 8 + (ml + 11) + 64 * d ≤ R.locals) (hB : ∀ U : State, U.heap = H → s.WarmedH U.vm → B U) (hr : (rest.map fun v => v.category).sum ≤ 8) (hc : cells ≤ R.cells ∧ slots ≤ R.slots) (hst : st0 = As.reverse ++ rest) (hdg : decode cc pc = .ok (.invokestatic index, 3))
    (kk : W p l e R s m args below meth c H locs cells slots Q (F0 m (pc + 3) ls (v.toList ++ rest))) : W p l e R s m args below meth c H locs cells slots Q (F0 m pc ls st0) := by
  obtain ⟨hx, hb, hml, hown, hts⟩ := K
  exact k_csR (va_runS (As := As) (rest := rest) ⟨hx, hb, hml, hown, hts⟩ hM ⟨callB_of n hts (q_good w1) rfl rfl rfl (hts _ w5) (hts _ w2) hy hR, hts _ w3⟩ ⟨k_bf hBd, fun U hU hW => ⟨rfl, hB U hU hW⟩⟩ rfl hn hl hst (lv_room hr) hdg hc) kk
end Str
theorem k_Bw {sK sV : Nat} {s U : State} (hB : k_B sK sV s) (hU : U.heap = s.heap) (hW : s.WarmedH U.vm) : k_B sK sV U := by
  unfold k_B
  rw [hU]
  exact k_St.moved hW.alike hB
theorem z_c_len : Cond.code yJ0_length_8abf5 cJ0_length_8abf5 1 (some .int) ∈ p_T := p_in 288 (by decide +kernel) rfl
theorem z_c_cod : Cond.code yJ0_coder_7d493 cJ0_coder_7d493 1 (some .byte) ∈ p_T := p_in 292 (by decide +kernel) rfl
theorem z_c_cat : Cond.code yJ0_charAt_5068e cJ0_charAt_5068e 2 (some .char) ∈ p_T := p_in 298 (by decide +kernel) rfl
theorem z_c_lat : Cond.code yJ0_isLatin1_aae02 cJ0_isLatin1_aae02 1 (some .boolean) ∈ p_T := p_in 302 (by decide +kernel) rfl
theorem z_c_lca : Cond.code yJ1_charAt_3b067 cJ1_charAt_3b067 2 (some .char) ∈ p_T := p_in 305 (by decide +kernel) rfl
theorem z_c_chk : Cond.code yJ0_checkIndex_df160 cJ0_checkIndex_df160 2 none ∈ p_T := p_in 308 (by decide +kernel) rfl
theorem z_c_pre : Cond.code yJ3_checkIndex_8e157 cJ3_checkIndex_8e157 3 (some .int) ∈ p_T := p_in 313 (by decide +kernel) rfl
theorem z_m_len : Cond.methodLink RX7 61 yJ0_length_8abf5 ∈ p_T := p_in 285 (by decide +kernel) rfl
theorem z_m_cat : Cond.methodLink RX7 67 yJ0_charAt_5068e ∈ p_T := p_in 295 (by decide +kernel) rfl
theorem z_m_cod : Cond.methodLink RJ0 335 yJ0_coder_7d493 ∈ p_T := p_in 289 (by decide +kernel) rfl
theorem z_m_lat : Cond.methodLink RJ0 492 yJ0_isLatin1_aae02 ∈ p_T := p_in 299 (by decide +kernel) rfl
theorem z_m_lca : Cond.methodLink RJ0 495 yJ1_charAt_3b067 ∈ p_T := p_in 303 (by decide +kernel) rfl
theorem z_m_chk : Cond.methodLink RJ1 9 yJ0_checkIndex_df160 ∈ p_T := p_in 306 (by decide +kernel) rfl
theorem z_m_pre : Cond.methodLink RJ0 1059 yJ3_checkIndex_8e157 ∈ p_T := p_in 311 (by decide +kernel) rfl
theorem z_i_len : Cond.instanceMethod yJ0_length_8abf5 ∈ p_T := p_in 286 (by decide +kernel) rfl
theorem z_i_cod : Cond.instanceMethod yJ0_coder_7d493 ∈ p_T := p_in 290 (by decide +kernel) rfl
theorem z_i_cat : Cond.instanceMethod yJ0_charAt_5068e ∈ p_T := p_in 296 (by decide +kernel) rfl
theorem z_i_lat : Cond.instanceMethod yJ0_isLatin1_aae02 ∈ p_T := p_in 300 (by decide +kernel) rfl
theorem z_s_lca : Cond.static yJ1_charAt_3b067 ∈ p_T := p_in 304 (by decide +kernel) rfl
theorem z_s_chk : Cond.static yJ0_checkIndex_df160 ∈ p_T := p_in 307 (by decide +kernel) rfl
theorem z_s_pre : Cond.static yJ3_checkIndex_8e157 ∈ p_T := p_in 312 (by decide +kernel) rfl
theorem z_e_len : Cond.selects RJ0 yJ0_length_8abf5 yJ0_length_8abf5 ∈ p_T := p_in 287 (by decide +kernel) rfl
theorem z_e_cod : Cond.selects RJ0 yJ0_coder_7d493 yJ0_coder_7d493 ∈ p_T := p_in 291 (by decide +kernel) rfl
theorem z_e_cat : Cond.selects RJ0 yJ0_charAt_5068e yJ0_charAt_5068e ∈ p_T := p_in 297 (by decide +kernel) rfl
theorem z_e_lat : Cond.selects RJ0 yJ0_isLatin1_aae02 yJ0_isLatin1_aae02 ∈ p_T := p_in 301 (by decide +kernel) rfl
theorem z_n_J0 : Cond.initialized RJ0 ∈ p_T := p_in 83 (by decide +kernel) rfl
theorem z_n_J1 : Cond.initialized RJ1 ∈ p_T := p_in 84 (by decide +kernel) rfl
theorem z_n_J3 : Cond.initialized RJ3 ∈ p_T := p_in 85 (by decide +kernel) rfl
theorem z_f_38 : Cond.fieldLink RJ0 38 "java/lang/String" "COMPACT_STRINGS" "Z" ∈ p_T := p_in 293 (by decide +kernel) rfl
theorem z_f_1053 : Cond.fieldLink RJ0 1053 "jdk/internal/util/Preconditions" "SIOOBE_FORMATTER" "Ljava/util/function/BiFunction;" ∈ p_T := p_in 309 (by decide +kernel) rfl
theorem z_f_9 : Cond.fieldLink RJ0 9 "java/lang/String" "value" "[B" ∈ p_T := p_in 1126 (by decide +kernel) rfl
theorem z_f_15 : Cond.fieldLink RJ0 15 "java/lang/String" "coder" "B" ∈ p_T := p_in 1127 (by decide +kernel) rfl

theorem k_O {sK sV : Nat} {s : State} (hB : k_B sK sV s) : ∃ cell : Cell, s.heap[sK]? = some cell ∧ cell.vm.isStatics = false ∧ s.vm.findClass RJ0 = some cell.cls := by
  obtain ⟨cell, h1, h2, h3, -⟩ := hB.2.2.2.2.1
  exact ⟨cell, h1, h2, h3⟩
theorem k_coder (l : Launch) (sK sV d : Nat) : k_R l yJ0_coder_7d493 cJ0_coder_7d493 1 (some .byte) d [.ref sK] (some (.int 0)) (k_B sK sV) := by
  refine k_inR (by decide +kernel) (Nat.le_of_ble_eq_true rfl) (fun p e s m args below meth c K hB hr hk ls hl => ?_)
  obtain ⟨hx, hb, hml, hown, hts⟩ := K
  have hl : lv_has ls 1 [(0, .ref sK)] := hl
  have hS : va_S k_F s.heap s.heap [] := va_S.rf
  refine va_gets hx hb hB.1 hS hown (hts _ z_f_38) (fun _ h => h) dJ0_coder_7d493_0 ?_
  refine lv_if_eq (tgt := 13) hx hb dJ0_coder_7d493_3 (by decide) (fun c9 => absurd c9 (by decide)) (fun _ => ?_)
  refine lv_aload_n hx hb dJ0_coder_7d493_6 rfl (lv_at hl 0 rfl) ?_
  refine vk_getf hx hb hB.2.1 hS hown (hts _ z_f_15) (fun _ h => h) dJ0_coder_7d493_7 ?_
  refine lv_goto (tgt := 14) hx hb dJ0_coder_7d493_10 (by decide) ?_
  exact W.zret hx hb hr (by decide) (fun t ht hW => ⟨rfl, ht⟩) (fun q hq => by cases hq) dJ0_coder_7d493_14 hk
theorem k_len (l : Launch) (sK sV d : Nat) : k_R l yJ0_length_8abf5 cJ0_length_8abf5 1 (some .int) (d + 1) [.ref sK] (some (.int 99)) (k_B sK sV) := by
  refine k_inR (by decide +kernel) (Nat.le_of_ble_eq_true rfl) (fun p e s m args below meth c K hB hr hk ls hl => ?_)
  have K0 := K
  obtain ⟨hx, hb, hml, hown, hts⟩ := K
  have hl : lv_has ls 1 [(0, .ref sK)] := hl
  have hS : va_S k_F s.heap s.heap [] := va_S.rf
  refine lv_aload_n hx hb dJ0_length_8abf5_0 rfl (lv_at hl 0 rfl) ?_
  refine vk_getf hx hb hB.2.2.1 hS hown (hts _ z_f_9) (fun _ h => h) dJ0_length_8abf5_1 ?_
  refine va_tlen hx hb hB.2.2.2.1 hS (v := 99) rfl dJ0_length_8abf5_4 ?_
  refine lv_aload_n hx hb dJ0_length_8abf5_5 rfl (lv_at hl 0 rfl) ?_
  refine k_cV K0 hl.1 (As := []) (n := 0) (rest := [.int 99]) (k_coder l sK sV d) k_bB z_c_cod z_m_cod z_i_cod z_e_cod z_n_J0 (by decide +kernel) rfl ⟨Nat.le_refl _, by show 8 + (1 + 11) + 64 * d ≤ 64 * (d + 1); omega⟩ (fun U hU hW => k_Bw hB hU hW) (k_O hB) (Nat.le_of_ble_eq_true rfl) ⟨Nat.le_refl _, Nat.le_refl _⟩ rfl dJ0_length_8abf5_6 ?_
  refine lv_ishr hx hb dJ0_length_8abf5_9 ?_
  exact W.iret hx hb hr (fun t ht hW => ⟨rfl, ht⟩) (fun q hq => by cases hq) dJ0_length_8abf5_10 hk
theorem k_lat (l : Launch) (sK sV d : Nat) : k_R l yJ0_isLatin1_aae02 cJ0_isLatin1_aae02 1 (some .boolean) d [.ref sK] (some (.int 1)) (k_B sK sV) := by
  refine k_inR (by decide +kernel) (Nat.le_of_ble_eq_true rfl) (fun p e s m args below meth c K hB hr hk ls hl => ?_)
  obtain ⟨hx, hb, hml, hown, hts⟩ := K
  have hl : lv_has ls 1 [(0, .ref sK)] := hl
  have hS : va_S k_F s.heap s.heap [] := va_S.rf
  refine va_gets hx hb hB.1 hS hown (hts _ z_f_38) (fun _ h => h) dJ0_isLatin1_aae02_0 ?_
  refine lv_if_eq (tgt := 17) hx hb dJ0_isLatin1_aae02_3 (by decide) (fun c9 => absurd c9 (by decide)) (fun _ => ?_)
  refine lv_aload_n hx hb dJ0_isLatin1_aae02_6 rfl (lv_at hl 0 rfl) ?_
  refine vk_getf hx hb hB.2.1 hS hown (hts _ z_f_15) (fun _ h => h) dJ0_isLatin1_aae02_7 ?_
  refine lv_if_ne (tgt := 17) hx hb dJ0_isLatin1_aae02_10 (by decide) (fun c9 => absurd rfl c9) (fun _ => ?_)
  refine lv_iconst (v := 1) hx hb dJ0_isLatin1_aae02_13 (by decide) ?_
  refine lv_goto (tgt := 18) hx hb dJ0_isLatin1_aae02_14 (by decide) ?_
  exact W.zret hx hb hr (by decide) (fun t ht hW => ⟨rfl, ht⟩) (fun q hq => by cases hq) dJ0_isLatin1_aae02_18 hk
theorem k_pre3 (l : Launch) (d : Nat) {i n : Nat} (hi : i < n) (hn : n < 2 ^ 31) (v : Value) (hv : v = .null ∨ ∃ t, v = .ref t) : k_R l yJ3_checkIndex_8e157 cJ3_checkIndex_8e157 3 (some .int) d [.int (nI i), .int (nI n), v] (some (.int (nI i))) (fun _ => True) := by
  refine k_inR (by decide +kernel) (by rcases hv with rfl | ⟨t, rfl⟩ <;> exact Nat.le_of_ble_eq_true rfl) (fun p e s m args below meth c K hB hr hk ls hl => ?_)
  obtain ⟨hx, hb, hml, hown, hts⟩ := K
  have hl : lv_has ls 3 [(0, .int (nI i)), (1, .int (nI n)), (2, v)] := hl
  refine lv_iload_n hx hb dJ3_checkIndex_8e157_0 rfl (lv_at hl 0 rfl) ?_
  refine lv_if_lt (tgt := 9) hx hb dJ3_checkIndex_8e157_1 (by decide) (fun c9 => absurd c9 (nI_pos (by omega))) (fun _ => ?_)
  refine lv_iload_n hx hb dJ3_checkIndex_8e157_4 rfl (lv_at hl 0 rfl) ?_
  refine lv_iload_n hx hb dJ3_checkIndex_8e157_5 rfl (lv_at hl 1 rfl) ?_
  refine lv_icmp_lt (tgt := 16) hx hb dJ3_checkIndex_8e157_6 (by decide) (fun _ => ?_) (fun c9 => absurd (nI_lt hi hn) c9)
  refine lv_iload_n hx hb dJ3_checkIndex_8e157_16 rfl (lv_at hl 0 rfl) ?_
  exact W.iret hx hb hr (fun t ht hW => ⟨rfl, ht⟩) (fun q hq => by cases hq) dJ3_checkIndex_8e157_17 hk
theorem k_chk (l : Launch) (sK sV d : Nat) {i n : Nat} (hi : i < n) (hn : n < 2 ^ 31) : k_R l yJ0_checkIndex_df160 cJ0_checkIndex_df160 2 none (d + 1) [.int (nI i), .int (nI n)] none (k_B sK sV) := by
  refine k_inR (by decide +kernel) (Nat.le_of_ble_eq_true rfl) (fun p e s m args below meth c K hB hr hk ls hl => ?_)
  have K0 := K
  obtain ⟨hx, hb, hml, hown, hts⟩ := K
  have hl : lv_has ls 2 [(0, .int (nI i)), (1, .int (nI n))] := hl
  have hS : va_S k_F s.heap s.heap [] := va_S.rf
  have go : ∀ v : Value, (v = .null ∨ ∃ t, v = .ref t) → va_Z "jdk/internal/util/Preconditions" "SIOOBE_FORMATTER" "Ljava/util/function/BiFunction;" v k_F s s.heap → W p l e (p_rm (d + 1)) s m args below meth c s.heap [] 0 0 (MQ below (fun _ st oc t => oc = .returned none ∧ t.heap = st.heap) args s 0 0 k_F) (F0 m 0 ls []) := by
    intro v hv hZ
    refine lv_iload_n hx hb dJ0_checkIndex_df160_0 rfl (lv_at hl 0 rfl) ?_
    refine lv_iload_n hx hb dJ0_checkIndex_df160_1 rfl (lv_at hl 1 rfl) ?_
    refine va_gets hx hb hZ hS hown (hts _ z_f_1053) (fun _ h => h) dJ0_checkIndex_df160_2 ?_
    refine k_cS K0 hl.1 (As := [.int (nI i), .int (nI n), v]) (n := 3) (rest := []) (k_pre3 l d hi hn v hv) k_bT z_c_pre z_m_pre z_s_pre z_n_J3 (by decide +kernel) rfl ⟨Nat.le_refl _, by show 8 + (3 + 11) + 64 * d ≤ 64 * (d + 1); omega⟩ (fun U hU hW => trivial) (Nat.zero_le _) ⟨Nat.le_refl _, Nat.le_refl _⟩ rfl dJ0_checkIndex_df160_5 ?_
    refine lv_pop hx hb dJ0_checkIndex_df160_8 rfl ?_
    exact W.vret hx hb hr (fun t ht hW => ⟨rfl, ht⟩) (fun q hq => by cases hq) dJ0_checkIndex_df160_9 hk
  rcases hB.2.2.2.2.2 with h | ⟨t, h⟩
  · exact go _ (Or.inl rfl) h
  · exact go _ (Or.inr ⟨t, rfl⟩) h
theorem k_by_c : ∀ i : Fin 99, ((k_by i.val &&& 255).toUInt32 % 65536).toInt32 = k_by i.val := by decide +kernel
theorem k_by_n : ∀ i : Fin 99, narrow .char (.int (k_by i.val)) = .int (k_by i.val) := by decide +kernel
theorem k_lca (l : Launch) (sK sV d : Nat) {i : Nat} (hi : i < 99) : k_R l yJ1_charAt_3b067 cJ1_charAt_3b067 2 (some .char) (d + 2) [.ref sV, .int (nI i)] (some (.int (k_by i))) (k_B sK sV) := by
  refine k_inR (by decide +kernel) (Nat.le_of_ble_eq_true rfl) (fun p e s m args below meth c K hB hr hk ls hl => ?_)
  have K0 := K
  obtain ⟨hx, hb, hml, hown, hts⟩ := K
  have hl : lv_has ls 2 [(0, .ref sV), (1, .int (nI i))] := hl
  have hS : va_S k_F s.heap s.heap [] := va_S.rf
  refine lv_iload_n hx hb dJ1_charAt_3b067_0 rfl (lv_at hl 1 rfl) ?_
  refine lv_aload_n hx hb dJ1_charAt_3b067_1 rfl (lv_at hl 0 rfl) ?_
  refine va_tlen hx hb hB.2.2.2.1 hS (v := nI 99) rfl dJ1_charAt_3b067_2 ?_
  refine k_cS K0 hl.1 (As := [.int (nI i), .int (nI 99)]) (n := 2) (rest := []) (k_chk l sK sV d hi (by omega)) k_bB z_c_chk z_m_chk z_s_chk z_n_J0 (by decide +kernel) rfl ⟨Nat.le_refl _, by show 8 + (2 + 11) + 64 * (d + 1) ≤ 64 * (d + 2); omega⟩ (fun U hU hW => k_Bw hB hU hW) (Nat.zero_le _) ⟨Nat.le_refl _, Nat.le_refl _⟩ rfl dJ1_charAt_3b067_3 ?_
  refine lv_aload_n hx hb dJ1_charAt_3b067_6 rfl (lv_at hl 0 rfl) ?_
  refine lv_iload_n hx hb dJ1_charAt_3b067_7 rfl (lv_at hl 1 rfl) ?_
  refine va_tb hx hb hB.2.2.2.1 hS (vp_in_nI hi (by omega)) (v := .int (k_by i)) (by rw [nI_clamp (by omega)]) dJ1_charAt_3b067_8 ?_
  refine lv_sipush (v := 255) hx hb dJ1_charAt_3b067_9 (by decide) ?_
  refine lv_iand hx hb dJ1_charAt_3b067_12 ?_
  refine lv_i2c (v := k_by i) hx hb dJ1_charAt_3b067_13 (k_by_c ⟨i, hi⟩) ?_
  exact W.zret hx hb hr (k_by_n ⟨i, hi⟩) (fun t ht hW => ⟨rfl, ht⟩) (fun q hq => by cases hq) dJ1_charAt_3b067_14 hk
theorem k_cat (l : Launch) (sK sV d : Nat) {i : Nat} (hi : i < 99) : k_R l yJ0_charAt_5068e cJ0_charAt_5068e 2 (some .char) (d + 3) [.ref sK, .int (nI i)] (some (.int (k_by i))) (k_B sK sV) := by
  refine k_inR (by decide +kernel) (Nat.le_of_ble_eq_true rfl) (fun p e s m args below meth c K hB hr hk ls hl => ?_)
  have K0 := K
  obtain ⟨hx, hb, hml, hown, hts⟩ := K
  have hl : lv_has ls 2 [(0, .ref sK), (1, .int (nI i))] := hl
  have hS : va_S k_F s.heap s.heap [] := va_S.rf
  refine lv_aload_n hx hb dJ0_charAt_5068e_0 rfl (lv_at hl 0 rfl) ?_
  refine k_cV K0 hl.1 (As := []) (n := 0) (rest := []) (k_lat l sK sV d) k_bB z_c_lat z_m_lat z_i_lat z_e_lat z_n_J0 (by decide +kernel) rfl ⟨by show d + 1 ≤ d + 3; omega, by show 8 + (1 + 11) + 64 * d ≤ 64 * (d + 3); omega⟩ (fun U hU hW => k_Bw hB hU hW) (k_O hB) (Nat.zero_le _) ⟨Nat.le_refl _, Nat.le_refl _⟩ rfl dJ0_charAt_5068e_1 ?_
  refine lv_if_eq (tgt := 16) hx hb dJ0_charAt_5068e_4 (by decide) (fun c9 => absurd c9 (by decide)) (fun _ => ?_)
  refine lv_aload_n hx hb dJ0_charAt_5068e_7 rfl (lv_at hl 0 rfl) ?_
  refine vk_getf hx hb hB.2.2.1 hS hown (hts _ z_f_9) (fun _ h => h) dJ0_charAt_5068e_8 ?_
  refine lv_iload_n hx hb dJ0_charAt_5068e_11 rfl (lv_at hl 1 rfl) ?_
  refine k_cS K0 hl.1 (As := [.ref sV, .int (nI i)]) (n := 2) (rest := []) (k_lca l sK sV d hi) k_bB z_c_lca z_m_lca z_s_lca z_n_J1 (by decide +kernel) rfl ⟨Nat.le_refl _, by show 8 + (2 + 11) + 64 * (d + 2) ≤ 64 * (d + 3); omega⟩ (fun U hU hW => k_Bw hB hU hW) (Nat.zero_le _) ⟨Nat.le_refl _, Nat.le_refl _⟩ rfl dJ0_charAt_5068e_12 ?_
  exact W.zret hx hb hr (k_by_n ⟨i, hi⟩) (fun t ht hW => ⟨rfl, ht⟩) (fun q hq => by cases hq) dJ0_charAt_5068e_15 hk
