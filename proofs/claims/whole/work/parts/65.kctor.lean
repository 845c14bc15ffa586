theorem u_c_X0 : Cond.code yX0_init cX0_init 1 none ∈ p_T := p_in 179 (by decide +kernel) rfl
theorem u_i_X0 : Cond.instanceMethod yX0_init ∈ p_T := p_in 178 (by decide +kernel) rfl
theorem u_n_X0 : Cond.initialized RX0 ∈ p_T := p_in 77 (by decide +kernel) rfl
theorem u_t_X0 : Cond.instantiable RX0 4 ∈ p_T := p_in 176 (by decide +kernel) rfl
theorem u_c_X1 : Cond.code yX1_init cX1_init 1 none ∈ p_T := p_in 185 (by decide +kernel) rfl
theorem u_i_X1 : Cond.instanceMethod yX1_init ∈ p_T := p_in 184 (by decide +kernel) rfl
theorem u_n_X1 : Cond.initialized RX1 ∈ p_T := p_in 78 (by decide +kernel) rfl
theorem u_t_X1 : Cond.instantiable RX1 4 ∈ p_T := p_in 182 (by decide +kernel) rfl
theorem u_c_X2 : Cond.code yX2_init cX2_init 1 none ∈ p_T := p_in 124 (by decide +kernel) rfl
theorem u_i_X2 : Cond.instanceMethod yX2_init ∈ p_T := p_in 123 (by decide +kernel) rfl
theorem u_n_X2 : Cond.initialized RX2 ∈ p_T := p_in 76 (by decide +kernel) rfl
theorem u_t_X2 : Cond.instantiable RX2 10 ∈ p_T := p_in 121 (by decide +kernel) rfl
theorem u_c_X3 : Cond.code yX3_init cX3_init 2 none ∈ p_T := p_in 227 (by decide +kernel) rfl
theorem u_i_X3 : Cond.instanceMethod yX3_init ∈ p_T := p_in 226 (by decide +kernel) rfl
theorem u_n_X3 : Cond.initialized RX3 ∈ p_T := p_in 79 (by decide +kernel) rfl
theorem u_t_X3 : Cond.instantiable RX3 4 ∈ p_T := p_in 224 (by decide +kernel) rfl
theorem u_c_X4 : Cond.code yX4_init cX4_init 3 none ∈ p_T := p_in 268 (by decide +kernel) rfl
theorem u_i_X4 : Cond.instanceMethod yX4_init ∈ p_T := p_in 267 (by decide +kernel) rfl
theorem u_n_X4 : Cond.initialized RX4 ∈ p_T := p_in 81 (by decide +kernel) rfl
theorem u_t_X4 : Cond.instantiable RX4 2 ∈ p_T := p_in 265 (by decide +kernel) rfl
theorem u_c_X5 : Cond.code yX5_init cX5_init 1 none ∈ p_T := p_in 251 (by decide +kernel) rfl
theorem u_i_X5 : Cond.instanceMethod yX5_init ∈ p_T := p_in 250 (by decide +kernel) rfl
theorem u_n_X5 : Cond.initialized RX5 ∈ p_T := p_in 80 (by decide +kernel) rfl
theorem u_t_X5 : Cond.instantiable RX5 3 ∈ p_T := p_in 248 (by decide +kernel) rfl
theorem u_c_X6 : Cond.code yX6_init cX6_init 1 none ∈ p_T := p_in 103 (by decide +kernel) rfl
theorem u_i_X6 : Cond.instanceMethod yX6_init ∈ p_T := p_in 102 (by decide +kernel) rfl
theorem u_n_X6 : Cond.initialized RX6 ∈ p_T := p_in 75 (by decide +kernel) rfl
theorem u_t_X6 : Cond.instantiable RX6 4 ∈ p_T := p_in 100 (by decide +kernel) rfl
theorem u_c_X7 : Cond.code yX7_init cX7_init 2 none ∈ p_T := p_in 95 (by decide +kernel) rfl
theorem u_i_X7 : Cond.instanceMethod yX7_init ∈ p_T := p_in 94 (by decide +kernel) rfl
theorem u_n_X7 : Cond.initialized RX7 ∈ p_T := p_in 74 (by decide +kernel) rfl
theorem u_t_X7 : Cond.instantiable RX7 8 ∈ p_T := p_in 92 (by decide +kernel) rfl
theorem u_c_X8 : Cond.code yX8_init cX8_init 1 none ∈ p_T := p_in 772 (by decide +kernel) rfl
theorem u_i_X8 : Cond.instanceMethod yX8_init ∈ p_T := p_in 771 (by decide +kernel) rfl
theorem u_n_X8 : Cond.initialized RX8 ∈ p_T := p_in 87 (by decide +kernel) rfl
theorem u_t_X8 : Cond.instantiable RX8 35 ∈ p_T := p_in 769 (by decide +kernel) rfl
theorem u_m_L_9 : Cond.methodLink RL 9 yX7_init ∈ p_T := p_in 93 (by decide +kernel) rfl
theorem u_o_X7 : Cond.methodLink RX7 1 Lib.objectInit ∈ p_T := p_in 96 (by decide +kernel) rfl
theorem u_m_X7_9 : Cond.methodLinkNest RX7 9 yX6_init "PokerEvening" ∈ p_N := p_inN 101 (by decide +kernel) rfl
theorem u_o_X6 : Cond.methodLink RX6 3 Lib.objectInit ∈ p_T := p_in 104 (by decide +kernel) rfl
theorem u_m_X7_18 : Cond.methodLinkNest RX7 18 yX2_init "PokerEvening" ∈ p_N := p_inN 122 (by decide +kernel) rfl
theorem u_o_X2 : Cond.methodLink RX2 3 Lib.objectInit ∈ p_T := p_in 125 (by decide +kernel) rfl
theorem u_m_X7_28 : Cond.methodLinkNest RX7 28 yX0_init "PokerEvening" ∈ p_N := p_inN 177 (by decide +kernel) rfl
theorem u_o_X0 : Cond.methodLink RX0 3 Lib.objectInit ∈ p_T := p_in 180 (by decide +kernel) rfl
theorem u_m_X0_11 : Cond.methodLinkNest RX0 11 yX1_init "PokerEvening" ∈ p_N := p_inN 183 (by decide +kernel) rfl
theorem u_o_X1 : Cond.methodLink RX1 3 Lib.objectInit ∈ p_T := p_in 186 (by decide +kernel) rfl
theorem u_m_X7_35 : Cond.methodLinkNest RX7 35 yX3_init "PokerEvening" ∈ p_N := p_inN 225 (by decide +kernel) rfl
theorem u_o_X3 : Cond.methodLink RX3 3 Lib.objectInit ∈ p_T := p_in 228 (by decide +kernel) rfl
theorem u_m_X3_24 : Cond.methodLinkNest RX3 24 yX1_init "PokerEvening" ∈ p_N := p_inN 231 (by decide +kernel) rfl
theorem u_m_X7_42 : Cond.methodLinkNest RX7 42 yX5_init "PokerEvening" ∈ p_N := p_inN 249 (by decide +kernel) rfl
theorem u_o_X5 : Cond.methodLink RX5 3 Lib.objectInit ∈ p_T := p_in 252 (by decide +kernel) rfl
theorem u_m_X7_49 : Cond.methodLinkNest RX7 49 yX4_init "PokerEvening" ∈ p_N := p_inN 266 (by decide +kernel) rfl
theorem u_o_X4 : Cond.methodLink RX4 1 Lib.objectInit ∈ p_T := p_in 269 (by decide +kernel) rfl
theorem u_m_X4_21 : Cond.methodLinkNest RX4 21 yX2_init "PokerEvening" ∈ p_N := p_inN 275 (by decide +kernel) rfl
theorem u_m_L_12 : Cond.methodLink RL 12 yX8_init ∈ p_T := p_in 770 (by decide +kernel) rfl
theorem u_o_X8 : Cond.methodLink RX8 3 Lib.objectInit ∈ p_T := p_in 773 (by decide +kernel) rfl
theorem u_k_L_7 : Cond.classLink RL 7 RX7 ∈ p_T := p_in 91 (by decide +kernel) rfl
theorem u_k_X7_7 : Cond.classLink RX7 7 RX6 ∈ p_T := p_in 99 (by decide +kernel) rfl
theorem u_k_X7_16 : Cond.classLink RX7 16 RX2 ∈ p_T := p_in 120 (by decide +kernel) rfl
theorem u_k_X7_26 : Cond.classLink RX7 26 RX0 ∈ p_T := p_in 175 (by decide +kernel) rfl
theorem u_k_X0_9 : Cond.classLink RX0 9 RX1 ∈ p_T := p_in 181 (by decide +kernel) rfl
theorem u_k_X7_33 : Cond.classLink RX7 33 RX3 ∈ p_T := p_in 223 (by decide +kernel) rfl
theorem u_k_X3_9 : Cond.classLink RX3 9 RX1 ∈ p_T := p_in 229 (by decide +kernel) rfl
theorem u_k_X7_40 : Cond.classLink RX7 40 RX5 ∈ p_T := p_in 247 (by decide +kernel) rfl
theorem u_k_X7_47 : Cond.classLink RX7 47 RX4 ∈ p_T := p_in 264 (by decide +kernel) rfl
theorem u_k_X4_13 : Cond.classLink RX4 13 RX2 ∈ p_T := p_in 273 (by decide +kernel) rfl
theorem u_k_L_10 : Cond.classLink RL 10 RX8 ∈ p_T := p_in 768 (by decide +kernel) rfl
theorem u_f_X0_12 : Cond.fieldLink RX0 12 RX0 (TX0 0).2.1 (TX0 0).2.2.1 ∈ p_T := p_in 205 (by decide +kernel) rfl
theorem u_f_X0_18 : Cond.fieldLink RX0 18 RX0 (TX0 1).2.1 (TX0 1).2.2.1 ∈ p_T := p_in 207 (by decide +kernel) rfl
theorem u_f_X0_22 : Cond.fieldLink RX0 22 RX0 (TX0 2).2.1 (TX0 2).2.2.1 ∈ p_T := p_in 209 (by decide +kernel) rfl
theorem u_f_X2_9 : Cond.fieldLink RX2 9 RX2 (TX2 0).2.1 (TX2 0).2.2.1 ∈ p_T := p_in 126 (by decide +kernel) rfl
theorem u_f_X2_15 : Cond.fieldLink RX2 15 RX2 (TX2 1).2.1 (TX2 1).2.2.1 ∈ p_T := p_in 129 (by decide +kernel) rfl
theorem u_f_X2_18 : Cond.fieldLink RX2 18 RX2 (TX2 2).2.1 (TX2 2).2.2.1 ∈ p_T := p_in 132 (by decide +kernel) rfl
theorem u_f_X2_21 : Cond.fieldLink RX2 21 RX2 (TX2 3).2.1 (TX2 3).2.2.1 ∈ p_T := p_in 137 (by decide +kernel) rfl
theorem u_f_X2_24 : Cond.fieldLink RX2 24 RX2 (TX2 4).2.1 (TX2 4).2.2.1 ∈ p_T := p_in 139 (by decide +kernel) rfl
theorem u_f_X2_27 : Cond.fieldLink RX2 27 RX2 (TX2 5).2.1 (TX2 5).2.2.1 ∈ p_T := p_in 141 (by decide +kernel) rfl
theorem u_f_X3_11 : Cond.fieldLink RX3 11 RX3 (TX3 0).2.1 (TX3 0).2.2.1 ∈ p_T := p_in 232 (by decide +kernel) rfl
theorem u_f_X3_17 : Cond.fieldLink RX3 17 RX3 (TX3 1).2.1 (TX3 1).2.2.1 ∈ p_T := p_in 233 (by decide +kernel) rfl
theorem u_f_X3_21 : Cond.fieldLink RX3 21 RX3 (TX3 2).2.1 (TX3 2).2.2.1 ∈ p_T := p_in 234 (by decide +kernel) rfl
theorem u_f_X4_15 : Cond.fieldLink RX4 15 RX4 (TX4 0).2.1 (TX4 0).2.2.1 ∈ p_T := p_in 276 (by decide +kernel) rfl
theorem u_f_X5_9 : Cond.fieldLink RX5 9 RX5 (TX5 0).2.1 (TX5 0).2.2.1 ∈ p_T := p_in 253 (by decide +kernel) rfl
theorem u_f_X5_15 : Cond.fieldLink RX5 15 RX5 (TX5 1).2.1 (TX5 1).2.2.1 ∈ p_T := p_in 254 (by decide +kernel) rfl
theorem u_f_X6_9 : Cond.fieldLink RX6 9 RX6 (TX6 0).2.1 (TX6 0).2.2.1 ∈ p_T := p_in 105 (by decide +kernel) rfl
theorem u_f_X6_15 : Cond.fieldLink RX6 15 RX6 (TX6 1).2.1 (TX6 1).2.2.1 ∈ p_T := p_in 106 (by decide +kernel) rfl
theorem u_f_X7_10 : Cond.fieldLink RX7 10 RX7 (TX7 0).2.1 (TX7 0).2.2.1 ∈ p_T := p_in 402 (by decide +kernel) rfl
theorem u_f_X7_19 : Cond.fieldLink RX7 19 RX7 (TX7 1).2.1 (TX7 1).2.2.1 ∈ p_T := p_in 403 (by decide +kernel) rfl
theorem u_f_X7_23 : Cond.fieldLink RX7 23 RX7 (TX7 2).2.1 (TX7 2).2.2.1 ∈ p_T := p_in 404 (by decide +kernel) rfl
theorem u_f_X7_29 : Cond.fieldLink RX7 29 RX7 (TX7 3).2.1 (TX7 3).2.2.1 ∈ p_T := p_in 405 (by decide +kernel) rfl
theorem u_f_X7_36 : Cond.fieldLink RX7 36 RX7 (TX7 4).2.1 (TX7 4).2.2.1 ∈ p_T := p_in 406 (by decide +kernel) rfl
theorem u_f_X7_43 : Cond.fieldLink RX7 43 RX7 (TX7 5).2.1 (TX7 5).2.2.1 ∈ p_T := p_in 407 (by decide +kernel) rfl
theorem u_f_X7_52 : Cond.fieldLink RX7 52 RX7 (TX7 6).2.1 (TX7 6).2.2.1 ∈ p_T := p_in 408 (by decide +kernel) rfl
theorem u_f_X7_56 : Cond.fieldLink RX7 56 RX7 (TX7 7).2.1 (TX7 7).2.2.1 ∈ p_T := p_in 409 (by decide +kernel) rfl
theorem u_f_X8_9 : Cond.fieldLink RX8 9 RX8 (TX8 4).2.1 (TX8 4).2.2.1 ∈ p_T := p_in 786 (by decide +kernel) rfl
theorem u_f_X8_13 : Cond.fieldLink RX8 13 RX8 (TX8 5).2.1 (TX8 5).2.2.1 ∈ p_T := p_in 787 (by decide +kernel) rfl
theorem u_f_X8_16 : Cond.fieldLink RX8 16 RX8 (TX8 6).2.1 (TX8 6).2.2.1 ∈ p_T := p_in 788 (by decide +kernel) rfl
theorem u_f_X8_19 : Cond.fieldLink RX8 19 RX8 (TX8 7).2.1 (TX8 7).2.2.1 ∈ p_T := p_in 789 (by decide +kernel) rfl
theorem u_f_X8_22 : Cond.fieldLink RX8 22 RX8 (TX8 8).2.1 (TX8 8).2.2.1 ∈ p_T := p_in 790 (by decide +kernel) rfl
theorem u_f_X8_25 : Cond.fieldLink RX8 25 RX8 (TX8 9).2.1 (TX8 9).2.2.1 ∈ p_T := p_in 791 (by decide +kernel) rfl
theorem u_f_X8_28 : Cond.fieldLink RX8 28 RX8 (TX8 11).2.1 (TX8 11).2.2.1 ∈ p_T := p_in 793 (by decide +kernel) rfl
theorem u_f_X8_31 : Cond.fieldLink RX8 31 RX8 (TX8 12).2.1 (TX8 12).2.2.1 ∈ p_T := p_in 794 (by decide +kernel) rfl
theorem u_f_X8_34 : Cond.fieldLink RX8 34 RX8 (TX8 13).2.1 (TX8 13).2.2.1 ∈ p_T := p_in 795 (by decide +kernel) rfl
theorem u_f_X8_37 : Cond.fieldLink RX8 37 RX8 (TX8 19).2.1 (TX8 19).2.2.1 ∈ p_T := p_in 801 (by decide +kernel) rfl
theorem u_f_X8_40 : Cond.fieldLink RX8 40 RX8 (TX8 20).2.1 (TX8 20).2.2.1 ∈ p_T := p_in 802 (by decide +kernel) rfl
theorem u_f_X8_43 : Cond.fieldLink RX8 43 RX8 (TX8 21).2.1 (TX8 21).2.2.1 ∈ p_T := p_in 803 (by decide +kernel) rfl
theorem u_f_X8_46 : Cond.fieldLink RX8 46 RX8 (TX8 22).2.1 (TX8 22).2.2.1 ∈ p_T := p_in 804 (by decide +kernel) rfl
theorem u_f_X8_49 : Cond.fieldLink RX8 49 RX8 (TX8 24).2.1 (TX8 24).2.2.1 ∈ p_T := p_in 806 (by decide +kernel) rfl
theorem u_f_X8_52 : Cond.fieldLink RX8 52 RX8 (TX8 25).2.1 (TX8 25).2.2.1 ∈ p_T := p_in 807 (by decide +kernel) rfl
theorem u_f_X8_55 : Cond.fieldLink RX8 55 RX8 (TX8 26).2.1 (TX8 26).2.2.1 ∈ p_T := p_in 808 (by decide +kernel) rfl
theorem u_f_X8_58 : Cond.fieldLink RX8 58 RX8 (TX8 29).2.1 (TX8 29).2.2.1 ∈ p_T := p_in 811 (by decide +kernel) rfl
theorem u_f_X8_61 : Cond.fieldLink RX8 61 RX8 (TX8 31).2.1 (TX8 31).2.2.1 ∈ p_T := p_in 813 (by decide +kernel) rfl
theorem u_f_X8_64 : Cond.fieldLink RX8 64 RX8 (TX8 32).2.1 (TX8 32).2.2.1 ∈ p_T := p_in 814 (by decide +kernel) rfl
theorem u_f_X8_67 : Cond.fieldLink RX8 67 RX8 (TX8 33).2.1 (TX8 33).2.2.1 ∈ p_T := p_in 815 (by decide +kernel) rfl
theorem k_in {l : Launch} {D : va_G} {cA : Nat → ClassId} {y : MethodName} {cb : ByteArray} {ml : Nat} {rm : Room} {as : List Value} {ws : va_W} {Sh : va_W → Prop} {mc ms : Nat} (hy : plainName y.cls = true) (hnl : (lg_sl as).length ≤ ml)
    (h : ∀ (p : Program) (e : Env) (s : State) (m : MethodId) (args : Array Value) (below : List Frame) (meth : Method) (c : Code), k_X D cA p s m args c y.cls cb ml → meth.sig.returnType = none → meth.locks = false → meth.name = y.name → ∀ ls : Array Slot, lv_has ls ml (lv_args 0 as) → (∀ q, s.heap.size ≤ q → va_A ws s.heap.size q) → k_W (va_A ws s.heap.size) s D ws s.heap [] → W p l e rm s m args below meth c s.heap [] 0 0 (MQ below (k_post D ws s.heap.size Sh) args s mc ms (va_A ws s.heap.size)) (F0 m 0 ls [])) : k_Met l D cA y cb ml rm as ws Sh mc ms := by
  intro sz
  refine Met.ofW (cc := cb) (maxL := ml) (ret := none) hy rfl ?_
  intro p e s m args below meth c s₁ B hml hv
  obtain ⟨rfl, hsz, hP, hG, hD0⟩ := hv
  subst hsz
  have hts := atoms_spec (ws := Cond.code y cb ml none :: p_T) B.pre
  have hown : s.vm.findClass y.cls = some m.cls := findClass_of_methodNamed B.named
  rw [lg_entry_eq]
  exact h p e s m _ below meth c ⟨B.exec, B.bytes, hml, hown, fun z hz => hts z (List.mem_cons_of_mem _ hz), hG⟩ B.returns B.notSynchronized (name_of_methodNamed B.named B.method).1 _ (lv_entry as hnl) (fun q h => Or.inr h) ⟨hP, hD0.self, va_S.rf⟩
theorem k_vret {p : Program} {l : Launch} {e : Env} {R : Room} {s : State} {m : MethodId} {args : Array Value} {below : List Frame} {meth : Method} {c : Code} {own : String} {cc : ByteArray} {nL cells slots pc : Nat} {D : va_G} {cA : Nat → ClassId} {ws0 : va_W} {Sh : va_W → Prop} {w1 : va_W} {H : Heap} {locs : List Loc} {ls : Array Slot} {sz : Nat} (K : k_X D cA p s m args c own cc nL) (hr : meth.sig.returnType = none) (hk : meth.locks = false) (hSh : Sh w1) (hW : k_W (va_A ws0 sz) s D w1 H locs) (hdg : decode cc pc = .ok (.return_, 1)) : W p l e R s m args below meth c H locs cells slots (MQ below (k_post D ws0 sz Sh) args s cells slots (va_A ws0 sz)) (F0 m pc ls []) :=
  W.vret K.1 K.2.1 hr (fun t ht hW9 => ⟨⟨w1, rfl, hSh, by rw [ht]; exact hW.1, hW.2.1⟩, hW.2.2.F ht⟩) hW.2.2.2.2 hdg hk
def irV : List Value := [.int 0, .int 0, .int 0, .int 0]
def rmW (cA : Nat → ClassId) (g : Nat → Nat) : va_W := [(g 0, .inr (2, [.ref (g 1), .ref (g 2), .ref (g 3), .ref (g 4), .ref (g 5), .ref (g 6), .int 0, .int 0, .int 0, .int 0])), (g 1, kI cA 5), (g 2, kI cA 5), (g 3, kI cA 7), (g 4, kI cA 7), (g 5, kI cA 7), (g 6, kI cA 7)]
def txW (cA : Nat → ClassId) (g : Nat → Nat) : va_W := [(g 0, .inr (6, [.ref (g 1), .ref (g 2), .int 0, .int 0])), (g 1, kI cA 200), (g 2, kI cA 4)]
def siW (cA : Nat → ClassId) (g : Nat → Nat) : va_W := [(g 0, .inr (5, [.ref (g 1), .ref (g 2), .int 0])), (g 1, kI cA 6), (g 2, kI cA 6)]
def evW (cA : Nat → ClassId) (g : Nat → Nat) : va_W := [(g 0, .inr (0, [.ref (g 1), .ref (g 2), .ref (g 3), .int 0])), (g 1, .inr (1, irV)), (g 2, kI cA 7), (g 3, kI cA 5)]
set_option maxHeartbeats 4000000 in
set_option maxRecDepth 100000 in
theorem k_X1 (l : Launch) (D : va_G) (cA : Nat → ClassId) (h0 : Nat) : k_Met l D cA yX1_init cX1_init 1 { frames := 1, cells := 0, slots := 0, locals := 20 } [.ref h0] [(h0, .inr (1, [.int 0, .int 0, .int 0, .int 0]))] (fun w1 => w1 = [(h0, .inr (1, irV))]) 0 0 := by
  refine k_in rfl (Nat.le_of_ble_eq_true rfl) (fun p e s m args below meth c K hr hk hin ls hl hA hW => ?_)
  obtain ⟨A, hAe⟩ : ∃ A, A = va_A [(h0, .inr (1, [.int 0, .int 0, .int 0, .int 0]))] s.heap.size := ⟨_, rfl⟩
  rw [← hAe] at hA hW
  have hl : lv_has ls 1 [(0, .ref h0)] := hl
  have hx := K.1
  have hb := K.2.1
  refine lv_aload_n hx hb dX1_init_0 rfl (lv_at hl 0 rfl) ?_
  refine k_obj K hl.1 u_o_X1 (Nat.le_of_ble_eq_true rfl) (Nat.le_of_ble_eq_true rfl) rfl dX1_init_1 ?_
  rw [hAe] at hW
  exact k_vret K hr hk (rfl) hW dX1_init_4
set_option maxHeartbeats 4000000 in
set_option maxRecDepth 100000 in
theorem k_X2 (l : Launch) (D : va_G) (cA : Nat → ClassId) (h0 : Nat) : k_Met l D cA yX2_init cX2_init 1 { frames := 1, cells := 6, slots := 38, locals := 20 } [.ref h0] [(h0, .inr (2, [.null, .null, .null, .null, .null, .null, .int 0, .int 0, .int 0, .int 0]))] (fun w1 => ∃ g : Nat → Nat, g 0 = h0 ∧ w1 = rmW cA g) 6 38 := by
  refine k_in rfl (Nat.le_of_ble_eq_true rfl) (fun p e s m args below meth c K hr hk hin ls hl hA hW => ?_)
  obtain ⟨A, hAe⟩ : ∃ A, A = va_A [(h0, .inr (2, [.null, .null, .null, .null, .null, .null, .int 0, .int 0, .int 0, .int 0]))] s.heap.size := ⟨_, rfl⟩
  rw [← hAe] at hA hW
  have hl : lv_has ls 1 [(0, .ref h0)] := hl
  have hx := K.1
  have hb := K.2.1
  refine lv_aload_n hx hb dX2_init_0 rfl (lv_at hl 0 rfl) ?_
  refine k_obj K hl.1 u_o_X2 (Nat.le_of_ble_eq_true rfl) (Nat.le_of_ble_eq_true rfl) rfl dX2_init_1 ?_
  refine lv_aload_n hx hb dX2_init_4 rfl (lv_at hl 0 rfl) ?_
  refine lv_iconst (v := nI 5) hx hb dX2_init_5 (by decide) ?_
  refine k_newa K hA hW 5 rfl (by omega) (Nat.le_of_ble_eq_true rfl) (Nat.le_of_ble_eq_true rfl) dX2_init_6 (fun q6 H hW => ?_)
  have hW : k_W A s D ((h0, .inr (2, [.null, .null, .null, .null, .null, .null, .int 0, .int 0, .int 0, .int 0])) :: [(q6, kI cA 5)]) H _ := hW
  refine W.widen (k := 1) (n := 5) (Nat.le_of_ble_eq_true rfl) (Nat.le_of_ble_eq_true rfl) ?_
  refine k_putF K hW rfl inX2 tyX2 tyX2_ok nmX2 0 (by decide) u_f_X2_9 rfl rfl hin ⟨rfl, rfl⟩ (Nat.le_of_ble_eq_true rfl) dX2_init_8 (fun H locs hW => ?_)
  have hW : k_W A s D ((h0, .inr (2, [.ref q6, .null, .null, .null, .null, .null, .int 0, .int 0, .int 0, .int 0])) :: [(q6, kI cA 5)]) H _ := hW
  refine lv_aload_n hx hb dX2_init_11 rfl (lv_at hl 0 rfl) ?_
  refine lv_iconst (v := nI 5) hx hb dX2_init_12 (by decide) ?_
  refine k_newa K hA hW 5 rfl (by omega) (Nat.le_of_ble_eq_true rfl) (Nat.le_of_ble_eq_true rfl) dX2_init_13 (fun q13 H hW => ?_)
  have hW : k_W A s D ((h0, .inr (2, [.ref q6, .null, .null, .null, .null, .null, .int 0, .int 0, .int 0, .int 0])) :: [(q6, kI cA 5), (q13, kI cA 5)]) H _ := hW
  refine W.widen (k := 2) (n := 10) (Nat.le_of_ble_eq_true rfl) (Nat.le_of_ble_eq_true rfl) ?_
  refine k_putF K hW rfl inX2 tyX2 tyX2_ok nmX2 1 (by decide) u_f_X2_15 rfl rfl hin ⟨rfl, rfl⟩ (Nat.le_of_ble_eq_true rfl) dX2_init_15 (fun H locs hW => ?_)
  have hW : k_W A s D ((h0, .inr (2, [.ref q6, .ref q13, .null, .null, .null, .null, .int 0, .int 0, .int 0, .int 0])) :: [(q6, kI cA 5), (q13, kI cA 5)]) H _ := hW
  refine lv_aload_n hx hb dX2_init_18 rfl (lv_at hl 0 rfl) ?_
  refine lv_bipush (v := nI 7) hx hb dX2_init_19 (by decide) ?_
  refine k_newa K hA hW 7 rfl (by omega) (Nat.le_of_ble_eq_true rfl) (Nat.le_of_ble_eq_true rfl) dX2_init_21 (fun q21 H hW => ?_)
  have hW : k_W A s D ((h0, .inr (2, [.ref q6, .ref q13, .null, .null, .null, .null, .int 0, .int 0, .int 0, .int 0])) :: [(q6, kI cA 5), (q13, kI cA 5), (q21, kI cA 7)]) H _ := hW
  refine W.widen (k := 3) (n := 17) (Nat.le_of_ble_eq_true rfl) (Nat.le_of_ble_eq_true rfl) ?_
  refine k_putF K hW rfl inX2 tyX2 tyX2_ok nmX2 2 (by decide) u_f_X2_18 rfl rfl hin ⟨rfl, rfl⟩ (Nat.le_of_ble_eq_true rfl) dX2_init_23 (fun H locs hW => ?_)
  have hW : k_W A s D ((h0, .inr (2, [.ref q6, .ref q13, .ref q21, .null, .null, .null, .int 0, .int 0, .int 0, .int 0])) :: [(q6, kI cA 5), (q13, kI cA 5), (q21, kI cA 7)]) H _ := hW
  refine lv_aload_n hx hb dX2_init_26 rfl (lv_at hl 0 rfl) ?_
  refine lv_bipush (v := nI 7) hx hb dX2_init_27 (by decide) ?_
  refine k_newa K hA hW 7 rfl (by omega) (Nat.le_of_ble_eq_true rfl) (Nat.le_of_ble_eq_true rfl) dX2_init_29 (fun q29 H hW => ?_)
  have hW : k_W A s D ((h0, .inr (2, [.ref q6, .ref q13, .ref q21, .null, .null, .null, .int 0, .int 0, .int 0, .int 0])) :: [(q6, kI cA 5), (q13, kI cA 5), (q21, kI cA 7), (q29, kI cA 7)]) H _ := hW
  refine W.widen (k := 4) (n := 24) (Nat.le_of_ble_eq_true rfl) (Nat.le_of_ble_eq_true rfl) ?_
  refine k_putF K hW rfl inX2 tyX2 tyX2_ok nmX2 3 (by decide) u_f_X2_21 rfl rfl hin ⟨rfl, rfl⟩ (Nat.le_of_ble_eq_true rfl) dX2_init_31 (fun H locs hW => ?_)
  have hW : k_W A s D ((h0, .inr (2, [.ref q6, .ref q13, .ref q21, .ref q29, .null, .null, .int 0, .int 0, .int 0, .int 0])) :: [(q6, kI cA 5), (q13, kI cA 5), (q21, kI cA 7), (q29, kI cA 7)]) H _ := hW
  refine lv_aload_n hx hb dX2_init_34 rfl (lv_at hl 0 rfl) ?_
  refine lv_bipush (v := nI 7) hx hb dX2_init_35 (by decide) ?_
  refine k_newa K hA hW 7 rfl (by omega) (Nat.le_of_ble_eq_true rfl) (Nat.le_of_ble_eq_true rfl) dX2_init_37 (fun q37 H hW => ?_)
  have hW : k_W A s D ((h0, .inr (2, [.ref q6, .ref q13, .ref q21, .ref q29, .null, .null, .int 0, .int 0, .int 0, .int 0])) :: [(q6, kI cA 5), (q13, kI cA 5), (q21, kI cA 7), (q29, kI cA 7), (q37, kI cA 7)]) H _ := hW
  refine W.widen (k := 5) (n := 31) (Nat.le_of_ble_eq_true rfl) (Nat.le_of_ble_eq_true rfl) ?_
  refine k_putF K hW rfl inX2 tyX2 tyX2_ok nmX2 4 (by decide) u_f_X2_24 rfl rfl hin ⟨rfl, rfl⟩ (Nat.le_of_ble_eq_true rfl) dX2_init_39 (fun H locs hW => ?_)
  have hW : k_W A s D ((h0, .inr (2, [.ref q6, .ref q13, .ref q21, .ref q29, .ref q37, .null, .int 0, .int 0, .int 0, .int 0])) :: [(q6, kI cA 5), (q13, kI cA 5), (q21, kI cA 7), (q29, kI cA 7), (q37, kI cA 7)]) H _ := hW
  refine lv_aload_n hx hb dX2_init_42 rfl (lv_at hl 0 rfl) ?_
  refine lv_bipush (v := nI 7) hx hb dX2_init_43 (by decide) ?_
  refine k_newa K hA hW 7 rfl (by omega) (Nat.le_of_ble_eq_true rfl) (Nat.le_of_ble_eq_true rfl) dX2_init_45 (fun q45 H hW => ?_)
  have hW : k_W A s D ((h0, .inr (2, [.ref q6, .ref q13, .ref q21, .ref q29, .ref q37, .null, .int 0, .int 0, .int 0, .int 0])) :: [(q6, kI cA 5), (q13, kI cA 5), (q21, kI cA 7), (q29, kI cA 7), (q37, kI cA 7), (q45, kI cA 7)]) H _ := hW
  refine W.widen (k := 6) (n := 38) (Nat.le_of_ble_eq_true rfl) (Nat.le_of_ble_eq_true rfl) ?_
  refine k_putF K hW rfl inX2 tyX2 tyX2_ok nmX2 5 (by decide) u_f_X2_27 rfl rfl hin ⟨rfl, rfl⟩ (Nat.le_of_ble_eq_true rfl) dX2_init_47 (fun H locs hW => ?_)
  have hW : k_W A s D ((h0, .inr (2, [.ref q6, .ref q13, .ref q21, .ref q29, .ref q37, .ref q45, .int 0, .int 0, .int 0, .int 0])) :: [(q6, kI cA 5), (q13, kI cA 5), (q21, kI cA 7), (q29, kI cA 7), (q37, kI cA 7), (q45, kI cA 7)]) H _ := hW
  rw [hAe] at hW
  exact k_vret K hr hk (⟨(fun k => match k with | 0 => h0 | 1 => q6 | 2 => q13 | 3 => q21 | 4 => q29 | 5 => q37 | _ => q45), rfl, rfl⟩) hW dX2_init_50
set_option maxHeartbeats 4000000 in
set_option maxRecDepth 100000 in
theorem k_X5 (l : Launch) (D : va_G) (cA : Nat → ClassId) (h0 : Nat) : k_Met l D cA yX5_init cX5_init 1 { frames := 1, cells := 2, slots := 12, locals := 20 } [.ref h0] [(h0, .inr (5, [.null, .null, .int 0]))] (fun w1 => ∃ g : Nat → Nat, g 0 = h0 ∧ w1 = siW cA g) 2 12 := by
  refine k_in rfl (Nat.le_of_ble_eq_true rfl) (fun p e s m args below meth c K hr hk hin ls hl hA hW => ?_)
  obtain ⟨A, hAe⟩ : ∃ A, A = va_A [(h0, .inr (5, [.null, .null, .int 0]))] s.heap.size := ⟨_, rfl⟩
  rw [← hAe] at hA hW
  have hl : lv_has ls 1 [(0, .ref h0)] := hl
  have hx := K.1
  have hb := K.2.1
  refine lv_aload_n hx hb dX5_init_0 rfl (lv_at hl 0 rfl) ?_
  refine k_obj K hl.1 u_o_X5 (Nat.le_of_ble_eq_true rfl) (Nat.le_of_ble_eq_true rfl) rfl dX5_init_1 ?_
  refine lv_aload_n hx hb dX5_init_4 rfl (lv_at hl 0 rfl) ?_
  refine lv_bipush (v := nI 6) hx hb dX5_init_5 (by decide) ?_
  refine k_newa K hA hW 6 rfl (by omega) (Nat.le_of_ble_eq_true rfl) (Nat.le_of_ble_eq_true rfl) dX5_init_7 (fun q7 H hW => ?_)
  have hW : k_W A s D ((h0, .inr (5, [.null, .null, .int 0])) :: [(q7, kI cA 6)]) H _ := hW
  refine W.widen (k := 1) (n := 6) (Nat.le_of_ble_eq_true rfl) (Nat.le_of_ble_eq_true rfl) ?_
  refine k_putF K hW rfl inX5 tyX5 tyX5_ok nmX5 0 (by decide) u_f_X5_9 rfl rfl hin ⟨rfl, rfl⟩ (Nat.le_of_ble_eq_true rfl) dX5_init_9 (fun H locs hW => ?_)
  have hW : k_W A s D ((h0, .inr (5, [.ref q7, .null, .int 0])) :: [(q7, kI cA 6)]) H _ := hW
  refine lv_aload_n hx hb dX5_init_12 rfl (lv_at hl 0 rfl) ?_
  refine lv_bipush (v := nI 6) hx hb dX5_init_13 (by decide) ?_
  refine k_newa K hA hW 6 rfl (by omega) (Nat.le_of_ble_eq_true rfl) (Nat.le_of_ble_eq_true rfl) dX5_init_15 (fun q15 H hW => ?_)
  have hW : k_W A s D ((h0, .inr (5, [.ref q7, .null, .int 0])) :: [(q7, kI cA 6), (q15, kI cA 6)]) H _ := hW
  refine W.widen (k := 2) (n := 12) (Nat.le_of_ble_eq_true rfl) (Nat.le_of_ble_eq_true rfl) ?_
  refine k_putF K hW rfl inX5 tyX5 tyX5_ok nmX5 1 (by decide) u_f_X5_15 rfl rfl hin ⟨rfl, rfl⟩ (Nat.le_of_ble_eq_true rfl) dX5_init_17 (fun H locs hW => ?_)
  have hW : k_W A s D ((h0, .inr (5, [.ref q7, .ref q15, .int 0])) :: [(q7, kI cA 6), (q15, kI cA 6)]) H _ := hW
  rw [hAe] at hW
  exact k_vret K hr hk (⟨(fun k => match k with | 0 => h0 | 1 => q7 | _ => q15), rfl, rfl⟩) hW dX5_init_20
set_option maxHeartbeats 4000000 in
set_option maxRecDepth 100000 in
theorem k_X6 (l : Launch) (D : va_G) (cA : Nat → ClassId) (h0 : Nat) : k_Met l D cA yX6_init cX6_init 1 { frames := 1, cells := 2, slots := 204, locals := 20 } [.ref h0] [(h0, .inr (6, [.null, .null, .int 0, .int 0]))] (fun w1 => ∃ g : Nat → Nat, g 0 = h0 ∧ w1 = txW cA g) 2 204 := by
  refine k_in rfl (Nat.le_of_ble_eq_true rfl) (fun p e s m args below meth c K hr hk hin ls hl hA hW => ?_)
  obtain ⟨A, hAe⟩ : ∃ A, A = va_A [(h0, .inr (6, [.null, .null, .int 0, .int 0]))] s.heap.size := ⟨_, rfl⟩
  rw [← hAe] at hA hW
  have hl : lv_has ls 1 [(0, .ref h0)] := hl
  have hx := K.1
  have hb := K.2.1
  refine lv_aload_n hx hb dX6_init_0 rfl (lv_at hl 0 rfl) ?_
  refine k_obj K hl.1 u_o_X6 (Nat.le_of_ble_eq_true rfl) (Nat.le_of_ble_eq_true rfl) rfl dX6_init_1 ?_
  refine lv_aload_n hx hb dX6_init_4 rfl (lv_at hl 0 rfl) ?_
  refine lv_sipush (v := nI 200) hx hb dX6_init_5 (by decide) ?_
  refine k_newa K hA hW 200 rfl (by omega) (Nat.le_of_ble_eq_true rfl) (Nat.le_of_ble_eq_true rfl) dX6_init_8 (fun q8 H hW => ?_)
  have hW : k_W A s D ((h0, .inr (6, [.null, .null, .int 0, .int 0])) :: [(q8, kI cA 200)]) H _ := hW
  refine W.widen (k := 1) (n := 200) (Nat.le_of_ble_eq_true rfl) (Nat.le_of_ble_eq_true rfl) ?_
  refine k_putF K hW rfl inX6 tyX6 tyX6_ok nmX6 0 (by decide) u_f_X6_9 rfl rfl hin ⟨rfl, rfl⟩ (Nat.le_of_ble_eq_true rfl) dX6_init_10 (fun H locs hW => ?_)
  have hW : k_W A s D ((h0, .inr (6, [.ref q8, .null, .int 0, .int 0])) :: [(q8, kI cA 200)]) H _ := hW
  refine lv_aload_n hx hb dX6_init_13 rfl (lv_at hl 0 rfl) ?_
  refine lv_iconst (v := nI 4) hx hb dX6_init_14 (by decide) ?_
  refine k_newa K hA hW 4 rfl (by omega) (Nat.le_of_ble_eq_true rfl) (Nat.le_of_ble_eq_true rfl) dX6_init_15 (fun q15 H hW => ?_)
  have hW : k_W A s D ((h0, .inr (6, [.ref q8, .null, .int 0, .int 0])) :: [(q8, kI cA 200), (q15, kI cA 4)]) H _ := hW
  refine W.widen (k := 2) (n := 204) (Nat.le_of_ble_eq_true rfl) (Nat.le_of_ble_eq_true rfl) ?_
  refine k_putF K hW rfl inX6 tyX6 tyX6_ok nmX6 1 (by decide) u_f_X6_15 rfl rfl hin ⟨rfl, rfl⟩ (Nat.le_of_ble_eq_true rfl) dX6_init_17 (fun H locs hW => ?_)
  have hW : k_W A s D ((h0, .inr (6, [.ref q8, .ref q15, .int 0, .int 0])) :: [(q8, kI cA 200), (q15, kI cA 4)]) H _ := hW
  rw [hAe] at hW
  exact k_vret K hr hk (⟨(fun k => match k with | 0 => h0 | 1 => q8 | _ => q15), rfl, rfl⟩) hW dX6_init_20
set_option maxHeartbeats 4000000 in
set_option maxRecDepth 100000 in
theorem k_X0 (l : Launch) (D : va_G) (cA : Nat → ClassId) (h0 : Nat) : k_Met l D cA yX0_init cX0_init 1 { frames := 2, cells := 3, slots := 16, locals := 64 } [.ref h0] [(h0, .inr (0, [.null, .null, .null, .int 0]))] (fun w1 => ∃ g : Nat → Nat, g 0 = h0 ∧ w1 = evW cA g) 3 16 := by
  refine k_in rfl (Nat.le_of_ble_eq_true rfl) (fun p e s m args below meth c K hr hk hin ls hl hA hW => ?_)
  obtain ⟨A, hAe⟩ : ∃ A, A = va_A [(h0, .inr (0, [.null, .null, .null, .int 0]))] s.heap.size := ⟨_, rfl⟩
  rw [← hAe] at hA hW
  have hl : lv_has ls 1 [(0, .ref h0)] := hl
  have hx := K.1
  have hb := K.2.1
  refine lv_aload_n hx hb dX0_init_0 rfl (lv_at hl 0 rfl) ?_
  refine k_obj K hl.1 u_o_X0 (Nat.le_of_ble_eq_true rfl) (Nat.le_of_ble_eq_true rfl) rfl dX0_init_1 ?_
  refine lv_aload_n hx hb dX0_init_4 rfl (lv_at hl 0 rfl) ?_
  refine k_new K hA hW 1 rfl inX1 tyX1 tyX1_ok u_k_X0_9 u_t_X1 u_n_X1 (fs := [.int 0, .int 0, .int 0, .int 0]) (fun j hj => by rcases (show j = 0 ∨ j = 1 ∨ j = 2 ∨ j = 3 by omega) with rfl | rfl | rfl | rfl <;> rfl) (Nat.le_of_ble_eq_true rfl) (Nat.le_of_ble_eq_true rfl) dX0_init_5 (fun q5 H hW => ?_)
  refine W.widen (k := 1) (n := 4) (Nat.le_of_ble_eq_true rfl) (Nat.le_of_ble_eq_true rfl) ?_
  refine lv_dup hx hb dX0_init_8 rfl ?_
  refine k_callN (ws := [(h0, .inr (0, [.null, .null, .null, .int 0]))]) (x := (q5, .inr (1, irV))) (As := []) (rest := [.ref q5, .ref h0]) (n := 0) K hl.1 hA hW (k_X1 l D cA q5) u_c_X1 u_m_X0_11 u_n_X1 u_i_X1 (by decide +kernel) rfl ⟨rfl, rfl⟩ ⟨Nat.le_of_ble_eq_true rfl, Nat.le_of_ble_eq_true rfl⟩ rfl (Nat.le_of_ble_eq_true rfl) ⟨Nat.le_of_ble_eq_true rfl, Nat.le_of_ble_eq_true rfl⟩ dX0_init_9 (fun w1 H locs hSh hW => ?_)
  subst hSh
  have hW : k_W A s D ((h0, .inr (0, [.null, .null, .null, .int 0])) :: [(q5, .inr (1, irV))]) H _ := hW
  refine W.widen (k := 1) (n := 4) (Nat.le_of_ble_eq_true rfl) (Nat.le_of_ble_eq_true rfl) ?_
  refine k_putF K hW rfl inX0 tyX0 tyX0_ok nmX0 0 (by decide) u_f_X0_12 rfl rfl hin ⟨rfl, rfl⟩ (Nat.le_of_ble_eq_true rfl) dX0_init_12 (fun H locs hW => ?_)
  have hW : k_W A s D ((h0, .inr (0, [.ref q5, .null, .null, .int 0])) :: [(q5, .inr (1, irV))]) H _ := hW
  refine lv_aload_n hx hb dX0_init_15 rfl (lv_at hl 0 rfl) ?_
  refine lv_bipush (v := nI 7) hx hb dX0_init_16 (by decide) ?_
  refine k_newa K hA hW 7 rfl (by omega) (Nat.le_of_ble_eq_true rfl) (Nat.le_of_ble_eq_true rfl) dX0_init_18 (fun q18 H hW => ?_)
  have hW : k_W A s D ((h0, .inr (0, [.ref q5, .null, .null, .int 0])) :: [(q5, .inr (1, irV)), (q18, kI cA 7)]) H _ := hW
  refine W.widen (k := 2) (n := 11) (Nat.le_of_ble_eq_true rfl) (Nat.le_of_ble_eq_true rfl) ?_
  refine k_putF K hW rfl inX0 tyX0 tyX0_ok nmX0 1 (by decide) u_f_X0_18 rfl rfl hin ⟨rfl, rfl⟩ (Nat.le_of_ble_eq_true rfl) dX0_init_20 (fun H locs hW => ?_)
  have hW : k_W A s D ((h0, .inr (0, [.ref q5, .ref q18, .null, .int 0])) :: [(q5, .inr (1, irV)), (q18, kI cA 7)]) H _ := hW
  refine lv_aload_n hx hb dX0_init_23 rfl (lv_at hl 0 rfl) ?_
  refine lv_iconst (v := nI 5) hx hb dX0_init_24 (by decide) ?_
  refine k_newa K hA hW 5 rfl (by omega) (Nat.le_of_ble_eq_true rfl) (Nat.le_of_ble_eq_true rfl) dX0_init_25 (fun q25 H hW => ?_)
  have hW : k_W A s D ((h0, .inr (0, [.ref q5, .ref q18, .null, .int 0])) :: [(q5, .inr (1, irV)), (q18, kI cA 7), (q25, kI cA 5)]) H _ := hW
  refine W.widen (k := 3) (n := 16) (Nat.le_of_ble_eq_true rfl) (Nat.le_of_ble_eq_true rfl) ?_
  refine k_putF K hW rfl inX0 tyX0 tyX0_ok nmX0 2 (by decide) u_f_X0_22 rfl rfl hin ⟨rfl, rfl⟩ (Nat.le_of_ble_eq_true rfl) dX0_init_27 (fun H locs hW => ?_)
  have hW : k_W A s D ((h0, .inr (0, [.ref q5, .ref q18, .ref q25, .int 0])) :: [(q5, .inr (1, irV)), (q18, kI cA 7), (q25, kI cA 5)]) H _ := hW
  rw [hAe] at hW
  exact k_vret K hr hk ⟨(fun k => match k with | 0 => h0 | 1 => q5 | 2 => q18 | _ => q25), rfl, rfl⟩ hW dX0_init_30
