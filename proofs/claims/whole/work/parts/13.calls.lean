def p_ms : List (MethodName × (ByteArray × Option FieldType)) := [(yX0_hold, cX0_hold, none), (yX0_begin, cX0_begin, none), (yX1_cool, cX1_cool, none), (yX1_copyFrom, cX1_copyFrom, none), (yX1_take, cX1_take, (some .int)), (yX1_heating, cX1_heating, (some .int)), (yX2_clear, cX2_clear, none), (yX2_copyFrom, cX2_copyFrom, none), (yX2_isTeller, cX2_isTeller, (some .boolean)), (yX2_isFact, cX2_isFact, (some .boolean)), (yX2_isClaim, cX2_isClaim, (some .boolean)), (yX2_allowsClaim, cX2_allowsClaim, (some .boolean)), (yX2_worldCount, cX2_worldCount, (some .int)), (yX2_addTeller, cX2_addTeller, (some .boolean)), (yX2_addFact, cX2_addFact, (some .boolean)), (yX2_addClaim, cX2_addClaim, (some .boolean)), (yX2_turnFact, cX2_turnFact, none), (yX2_moveClaim, cX2_moveClaim, none), (yX2_removeClaim, cX2_removeClaim, none), (yX2_isFalse, cX2_isFalse, (some .boolean)), (yX2_falseClaims, cX2_falseClaims, (some .int)), (yX3_run, cX3_run, none), (yX3_look, cX3_look, none), (yX3_tellable, cX3_tellable, (some .int)), (yX3_stageAt, cX3_stageAt, (some (.object "PokerEvening$Iron"))), (yX4_clear, cX4_clear, none), (yX4_push, cX4_push, none), (yX4_popInto, cX4_popInto, (some .boolean)), (yX4_dropOldest, cX4_dropOldest, none), (yX4_roomAt, cX4_roomAt, (some (.object "PokerEvening$Room"))), (yX5_clear, cX5_clear, none), (yX5_note, cX5_note, (some .boolean)), (yX5_agreeWith, cX5_agreeWith, (some .boolean)), (yX6_clear, cX6_clear, none), (yX6_append, cX6_append, (some .boolean)), (yX6_readInto, cX6_readInto, (some .int)), (yX6_readItem, cX6_readItem, (some .boolean)), (yX6_readNumbers, cX6_readNumbers, (some .boolean)), (yX6_isFigure, cX6_isFigure, (some .boolean)), (yX6_peek, cX6_peek, (some .int)), (yX6_take, cX6_take, (some .int)), (yX7_write, cX7_write, (some .int)), (yX7_wipe, cX7_wipe, (some .int)), (yX7_fault, cX7_fault, (some .int)), (yX7_lay, cX7_lay, (some .int)), (yX7_teller, cX7_teller, (some .int)), (yX7_fact, cX7_fact, (some .int)), (yX7_claim, cX7_claim, (some .int)), (yX7_turn, cX7_turn, (some .int)), (yX7_add, cX7_add, (some .int)), (yX7_strike, cX7_strike, (some .int)), (yX7_shift, cX7_shift, (some .int)), (yX7_grip, cX7_grip, (some .int)), (yX7_undo, cX7_undo, (some .int)), (yX7_drops, cX7_drops, (some .int)), (yX7_told, cX7_told, (some .int)), (yX7_hot, cX7_hot, (some .int)), (yX7_hottest, cX7_hottest, (some .int)), (yX7_order, cX7_order, (some .int)), (yX7_leave, cX7_leave, (some .int)), (yX7_holds, cX7_holds, (some .int)), (yX7_seen, cX7_seen, (some .int)), (yX7_forget, cX7_forget, (some .int)), (yX7_worlds, cX7_worlds, (some .int)), (yX7_next, cX7_next, (some .int)), (yX7_kinds, cX7_kinds, (some .int)), (yX7_grips, cX7_grips, (some .int)), (yX7_likely, cX7_likely, (some .int)), (yX7_evenings, cX7_evenings, (some .int)), (yX7_keep, cX7_keep, (some .int)), (yX7_back, cX7_back, (some .int)), (yX7_count, cX7_count, (some .int)), (yX7_goneTonight, cX7_goneTonight, (some .int)), (yX7_fewestLeft, cX7_fewestLeft, (some .int)), (yX7_letsGoWithout, cX7_letsGoWithout, (some .boolean)), (yX7_goneIfHeldBy, cX7_goneIfHeldBy, (some .int)), (yX7_fits, cX7_fits, (some .boolean)), (yX7_fittingWorlds, cX7_fittingWorlds, (some .long)), (yX7_lowestWorld, cX7_lowestWorld, (some .int)), (yX7_isIn, cX7_isIn, (some .boolean)), (yX7_sureFacts, cX7_sureFacts, (some .int)), (yX7_worldsOfDrop, cX7_worldsOfDrop, (some .int)), (yX7_chanceOf, cX7_chanceOf, (some .int)), (yX7_draw, cX7_draw, (some .int)), (yX7_stir, cX7_stir, none), (yX7_greatestDivisor, cX7_greatestDivisor, (some .int)), (yX7_within, cX7_within, (some .boolean)), (yX7_bit, cX7_bit, (some .int)), (yX7_at, cX7_at, (some .int)), (yX7_put, cX7_put, none), (yX7_copyRow, cX7_copyRow, none), (yX7_slide, cX7_slide, none), (yX8_in, cX8_in, (some .boolean)), (yX8_has, cX8_has, (some .boolean)), (yX8_bits, cX8_bits, (some .int)), (yX8_firstTeller, cX8_firstTeller, none), (yX8_sets, cX8_sets, none), (yX8_copies, cX8_copies, none), (yX8_isTeller, cX8_isTeller, (some .boolean)), (yX8_isFact, cX8_isFact, (some .boolean)), (yX8_isClaim, cX8_isClaim, (some .boolean)), (yX8_write, cX8_write, (some .int)), (yX8_wipe, cX8_wipe, (some .int)), (yX8_here, cX8_here, (some .int)), (yX8_isFigure, cX8_isFigure, (some .boolean)), (yX8_number, cX8_number, (some .boolean)), (yX8_readsTeller, cX8_readsTeller, (some .boolean)), (yX8_readsFact, cX8_readsFact, (some .boolean)), (yX8_readsClaim, cX8_readsClaim, (some .boolean)), (yX8_readsItem, cX8_readsItem, (some .boolean)), (yX8_fault, cX8_fault, (some .int)), (yX8_lay, cX8_lay, (some .int)), (yX8_isFalse, cX8_isFalse, (some .boolean)), (yX8_hotter, cX8_hotter, (some .int)), (yX8_evening, cX8_evening, none), (yX8_without, cX8_without, none), (yX8_gone, cX8_gone, (some .int)), (yX8_teller, cX8_teller, (some .int)), (yX8_fact, cX8_fact, (some .int)), (yX8_claim, cX8_claim, (some .int)), (yX8_lays, cX8_lays, none), (yX8_takes, cX8_takes, none), (yX8_notes, cX8_notes, none), (yX8_turn, cX8_turn, (some .int)), (yX8_add, cX8_add, (some .int)), (yX8_strike, cX8_strike, (some .int)), (yX8_shifts, cX8_shifts, none), (yX8_shift, cX8_shift, (some .int)), (yX8_grip, cX8_grip, (some .int)), (yX8_undo, cX8_undo, (some .int)), (yX8_drops, cX8_drops, (some .int)), (yX8_told, cX8_told, (some .int)), (yX8_hot, cX8_hot, (some .int)), (yX8_hottest, cX8_hottest, (some .int)), (yX8_nextRow, cX8_nextRow, (some .boolean)), (yX8_order, cX8_order, (some .int)), (yX8_leave, cX8_leave, (some .int)), (yX8_goneBy, cX8_goneBy, (some .int)), (yX8_holds, cX8_holds, (some .int)), (yX8_seen, cX8_seen, (some .int)), (yX8_forget, cX8_forget, (some .int)), (yX8_isSo, cX8_isSo, (some .boolean)), (yX8_worlds, cX8_worlds, (some .int)), (yX8_next, cX8_next, (some .int)), (yX8_kinds, cX8_kinds, (some .int)), (yX8_grips, cX8_grips, (some .int)), (yX8_common, cX8_common, (some .long)), (yX8_likely, cX8_likely, (some .int)), (yX8_evenings, cX8_evenings, (some .int)), (yX8_keep, cX8_keep, (some .int)), (yX8_back, cX8_back, (some .int)), (yX8_falseMany, cX8_falseMany, (some .int)), (yX8_count, cX8_count, (some .int)), (yJ6_bitCount_0f7a4, cJ6_bitCount_0f7a4, (some .int)), (yJ13_bitCount_95d88, cJ13_bitCount_95d88, (some .int))]
def p_gm : List (MethodName × (ByteArray × Option FieldType)) → Nat → MethodName × (ByteArray × Option FieldType)
  | [], _ => (⟨"", "", ""⟩, ⟨#[]⟩, none)
  | x :: _, 0 => x
  | _ :: l, n + 1 => p_gm l n
/-- a call, over the machine: a contract of the method -/
def q_C (l : Launch) (b : Bool) (w : pW) : pC := fun d k M as Q => Met l (p_gm p_ms k).1 (Cond.code (p_gm p_ms k).1 (p_gm p_ms k).2.1 (p_g p_nls k) (p_gm p_ms k).2.2 :: p_T) (p_rm d) (va_Pc (as.map (q_v w)) (q_U b w M)) (q_Qc b w Q) 0 0 (q_A b w)
theorem q_bl {b : Bool} {w : pW} {M : pM} {av : List Value} : FrameBlind (va_Pc av (q_U b w M)) := by
  rintro a U g mk ⟨h1, h2, h3, h4⟩
  exact ⟨h1, h2, va_K.moved (u := U) (U := U.calling g mk a) (Vm.Alike.refl U.vm) h3, fun z hz => va_Nw.same (u := U) (U := U.calling g mk a) (p_N_tab hz) rfl (h4 z hz)⟩
theorem q_good {y : MethodName} {cb : ByteArray} {ml : Nat} {rt : Option FieldType} (h : Cond.code y cb ml rt ∈ p_T) : GoodIn p_T (Cond.code y cb ml rt :: p_T) := by
  intro z hz
  rcases List.mem_cons.mp hz with rfl | hz
  · exact ⟨h, good_of_word (List.mem_filter.mp h).2⟩
  · exact ⟨hz, good_of_word (List.mem_filter.mp hz).2⟩
theorem q_rc {b : Bool} {ci : Nat} {as : pST} (hc : ci < 9) (h : p_rc b ci as = true) : ∃ a as', as = .inr (.inr (some a)) :: as' ∧ p_is b a ci = true := by
  simp only [p_rc, p_beq_f (show ci ≠ 99 by omega)] at h
  rcases as with _ | ⟨x | x | _ | a, as⟩ <;> first | cases h | exact ⟨a, as, rfl, h⟩
section Cal
variable {b : Bool} {w : pW} {p : Program} {l : Launch} {e : Env} {R : Room} {s : State} {m : MethodId} {args : Array Value} {below : List Frame} {meth : Method} {c : Code} {own : String} {cc : ByteArray} {nL cells slots pc : Nat} {Qw : State → Prop} {C : pC} {d : Nat} {Q : pQ}
theorem q_pre {H : Heap} {M : pM} (K : q_X b w p s m args c own cc nL R d cells slots) (hH : q_H b w M H) (av : List Value) : ∀ U : State, U.heap = H → s.WarmedH U.vm → va_Pc av (q_U b w M) av.toArray U :=
  fun _ hU hW => ⟨rfl, by rw [hU]; exact hH, va_K.moved hW.alike K.2.2.2.2.2.2.1, fun z hz => p_N_warm hz hW (K.2.2.2.2.2.1 z hz)⟩
theorem q_go {H : Heap} {locs : List Loc} {la : Array Slot} {st0 : List Value} {rest : pST} {a : Array Value} {Q' : pQ} (hr : va_Run p l e R s m args below meth c H locs cells slots 0 0 (F0 m pc la st0) (rest.map (q_v w)) (q_Qc b w Q' a) (q_A b w)) (hS : va_S (q_A b w) s.heap H locs)
    (kk : ∀ (M' : pM) (v : Option pV) (H1 : Heap) (locs1 : List Loc), Q' M' v → q_H b w M' H1 → va_S (q_A b w) s.heap H1 locs1 → W p l e R s m args below meth c H1 locs1 cells slots Qw (F0 m (pc + 3) la ((p_psh v rest).map (q_v w)))) : W p l e R s m args below meth c H locs cells slots Qw (F0 m pc la st0) := by
  intro T hT X
  obtain ⟨v, st₀, t, T', L, h0, X', hL, e1, e2, ⟨⟨M', v', hv, hp, hb⟩, hz, hk⟩, st⟩ := hr T hT X
  rw [h0] at hz hk
  have hv : v = Option.map (q_v w) v' := by cases hv; rfl
  subst hv
  obtain ⟨t2, a1, b1⟩ := kk M' v' T'.heap (locs ++ L) hp (by rw [e1]; exact hb)
    ⟨Nat.le_trans hS.1 (by rw [e1]; exact hz), fun q h1 h2 => by rw [e1, hk q (Nat.lt_of_lt_of_le h1 hS.1) h2]; exact hS.2.1 q h1 h2, fun q hq => by
      rcases List.mem_append.mp hq with h | h
      · exact hS.2.2 q h
      · exact hL q h⟩ T' rfl X'
  cases v' <;> exact ⟨t2, st t2 a1, b1⟩
theorem s_cV (K : q_X b w p s m args c own cc nL R d cells slots) {ci : Nat} {T : u_T} {N : Nat} {k n idx : Nat} {y : MethodName} {cb : ByteArray} {rt : Option FieldType} {ml : Nat} (hd : decode cc pc = .ok (.invokevirtual idx, 3)) (hm : p_gm p_ms k = (y, cb, rt)) (hml : p_g p_nls k = ml) (w1 : Cond.code y cb ml rt ∈ p_T) (w2 : Cond.methodLink own idx y ∈ p_T) (w3 : Cond.instanceMethod y ∈ p_T) (w4 : Cond.selects y.cls y y ∈ p_T) (w5 : Cond.initialized y.cls ∈ p_T) (hy : y.cls ≠ "java/lang/invoke/MethodHandle" ∧ y.cls ≠ "java/lang/invoke/VarHandle" ∧ (parseMethodDescriptor y.desc).map (fun d => d.parameters.length) = some n) (hml9 : ml ≤ 40) (hcl : vwCl[ci]? = some (y.cls, T, N)) (hc9 : ci < 9) : p_sd b (q_C l b w) d Q (q_Z b w p l e R s m args below meth c nL cells slots Qw) (o_call ci k (n + 1)) pc := by
  intro ls st M h H locs la hH hS hl hn
  dsimp only [o_call] at h
  generalize e1 : p_pop (n + 1) st [] = z at h
  rcases z with _ | ⟨as, st'⟩ <;> first | exact False.elim h | skip
  dsimp only at h
  generalize e2 : (p_rc b ci as && Nat.ble (p_cat st') 8) = y9 at h
  cases y9 <;> first | exact False.elim h | skip
  obtain ⟨d', hd', h⟩ := h
  simp only [Bool.and_eq_true] at e2
  obtain ⟨e2, e3⟩ := e2
  obtain ⟨pre, hp1, hp2, hp3⟩ := p_pop_spec _ _ _ _ _ e1
  rw [List.append_nil] at hp3
  have hpre : pre = as.reverse := by rw [hp3, List.reverse_reverse]
  have h8 : ((st'.map (q_v w)).map fun v => v.category).sum ≤ 8 := by rw [q_cat]; exact Nat.le_of_ble_eq_true e3
  have hM : Met l y (Cond.code y cb ml rt :: p_T) (p_rm d') (va_Pc (as.map (q_v w)) (q_U b w M)) (q_Qc b w (fun M v => q_Z b w p l e R s m args below meth c nL cells slots Qw (pc + 3) ls (p_psh v st') M)) 0 0 (q_A b w) := by
    have h7 := h
    simp only [q_C, hm, hml] at h7
    exact h7
  obtain ⟨f1, f2, f3, f4⟩ : d ≤ R.frames ∧ 64 * d ≤ R.locals ∧ cells ≤ R.cells ∧ slots ≤ R.slots := K.2.2.2.2.2.2.2.2
  have hR : (p_rm d').frames + 1 ≤ R.frames ∧ 8 + (ml + 11) + (p_rm d').locals ≤ R.locals := by
    show d' + 1 ≤ R.frames ∧ 8 + (ml + 11) + 64 * d' ≤ R.locals
    omega
  have hts := K.2.2.2.2.1
  obtain ⟨a, as', rfl, hrc⟩ := q_rc hc9 e2
  obtain ⟨ha, hE⟩ := q_obj (w := w) M hrc hc9
  have he := q_at (w := w) M ha
  rw [hE] at he
  have hlen : (as'.map (q_v w)).length = n := by
    rw [hpre] at hp2
    simp at hp2
    simpa using hp2
  have hst : st.map (q_v w) = (as'.map (q_v w)).reverse ++ .ref (w.2.2 a) :: st'.map (q_v w) := by
    rw [hp1, hpre]
    simp [q_v, va_rf]
  exact q_go (va_runV (As := as'.map (q_v w)) (b := w.2.2 a) (C := y.cls) (rest := st'.map (q_v w)) ⟨K.1, K.2.1, K.2.2.1, K.2.2.2.1, hts⟩ hM ⟨(callB_of n hts (q_good w1) rfl rfl rfl (hts _ w5) (hts _ w2) hy hR), hts _ w3, hts _ w4⟩ ⟨q_bl, va_recv K.2.2.2.2.2.2.1 hH.P hcl he, q_pre K hH _⟩ rfl hlen hl.1 hst (lv_room h8) hd ⟨f3, f4⟩) hS (fun M' v H1 locs1 hz hH1 hS1 => hz H1 locs1 la hH1 hS1 hl hn)
theorem s_cS (K : q_X b w p s m args c own cc nL R d cells slots) {k n idx : Nat} {y : MethodName} {cb : ByteArray} {rt : Option FieldType} {ml : Nat} (hd : decode cc pc = .ok (.invokestatic idx, 3)) (hm : p_gm p_ms k = (y, cb, rt)) (hml : p_g p_nls k = ml) (w1 : Cond.code y cb ml rt ∈ p_T) (w2 : Cond.methodLink own idx y ∈ p_T) (w3 : Cond.static y ∈ p_T) (w5 : Cond.initialized y.cls ∈ p_T) (hy : y.cls ≠ "java/lang/invoke/MethodHandle" ∧ y.cls ≠ "java/lang/invoke/VarHandle" ∧ (parseMethodDescriptor y.desc).map (fun d => d.parameters.length) = some n) (hml9 : ml ≤ 40) : p_sd b (q_C l b w) d Q (q_Z b w p l e R s m args below meth c nL cells slots Qw) (o_call 99 k n) pc := by
  intro ls st M h H locs la hH hS hl hn
  dsimp only [o_call] at h
  generalize e1 : p_pop n st [] = z at h
  rcases z with _ | ⟨as, st'⟩ <;> first | exact False.elim h | skip
  dsimp only at h
  generalize e2 : (p_rc b 99 as && Nat.ble (p_cat st') 8) = y9 at h
  cases y9 <;> first | exact False.elim h | skip
  obtain ⟨d', hd', h⟩ := h
  simp only [Bool.and_eq_true] at e2
  obtain ⟨e2, e3⟩ := e2
  obtain ⟨pre, hp1, hp2, hp3⟩ := p_pop_spec _ _ _ _ _ e1
  rw [List.append_nil] at hp3
  have hpre : pre = as.reverse := by rw [hp3, List.reverse_reverse]
  have h8 : ((st'.map (q_v w)).map fun v => v.category).sum ≤ 8 := by rw [q_cat]; exact Nat.le_of_ble_eq_true e3
  have hM : Met l y (Cond.code y cb ml rt :: p_T) (p_rm d') (va_Pc (as.map (q_v w)) (q_U b w M)) (q_Qc b w (fun M v => q_Z b w p l e R s m args below meth c nL cells slots Qw (pc + 3) ls (p_psh v st') M)) 0 0 (q_A b w) := by
    have h7 := h
    simp only [q_C, hm, hml] at h7
    exact h7
  obtain ⟨f1, f2, f3, f4⟩ : d ≤ R.frames ∧ 64 * d ≤ R.locals ∧ cells ≤ R.cells ∧ slots ≤ R.slots := K.2.2.2.2.2.2.2.2
  have hR : (p_rm d').frames + 1 ≤ R.frames ∧ 8 + (ml + 11) + (p_rm d').locals ≤ R.locals := by
    show d' + 1 ≤ R.frames ∧ 8 + (ml + 11) + 64 * d' ≤ R.locals
    omega
  have hts := K.2.2.2.2.1
  have hlen : (as.map (q_v w)).length = n := by
    rw [hpre] at hp2
    simpa using hp2
  have hst : st.map (q_v w) = (as.map (q_v w)).reverse ++ st'.map (q_v w) := by
    rw [hp1, hpre]
    simp
  exact q_go (va_runS (As := as.map (q_v w)) (rest := st'.map (q_v w)) ⟨K.1, K.2.1, K.2.2.1, K.2.2.2.1, hts⟩ hM ⟨(callB_of n hts (q_good w1) rfl rfl rfl (hts _ w5) (hts _ w2) hy hR), hts _ w3⟩ ⟨q_bl, q_pre K hH _⟩ rfl hlen hl.1 hst (lv_room h8) hd ⟨f3, f4⟩) hS (fun M' v H1 locs1 hz hH1 hS1 => hz H1 locs1 la hH1 hS1 hl hn)
theorem s_cVN (K : q_X b w p s m args c own cc nL R d cells slots) {host : String} {ci : Nat} {T : u_T} {N : Nat} {k n idx : Nat} {y : MethodName} {cb : ByteArray} {rt : Option FieldType} {ml : Nat} (hd : decode cc pc = .ok (.invokevirtual idx, 3)) (hm : p_gm p_ms k = (y, cb, rt)) (hml : p_g p_nls k = ml) (w1 : Cond.code y cb ml rt ∈ p_T) (w2 : Cond.methodLinkNest own idx y host ∈ p_N) (w3 : Cond.instanceMethod y ∈ p_T) (w4 : Cond.selects y.cls y y ∈ p_T) (w5 : Cond.initialized y.cls ∈ p_T) (hy : y.cls ≠ "java/lang/invoke/MethodHandle" ∧ y.cls ≠ "java/lang/invoke/VarHandle" ∧ (parseMethodDescriptor y.desc).map (fun d => d.parameters.length) = some n) (hml9 : ml ≤ 40) (hcl : vwCl[ci]? = some (y.cls, T, N)) (hc9 : ci < 9) : p_sd b (q_C l b w) d Q (q_Z b w p l e R s m args below meth c nL cells slots Qw) (o_call ci k (n + 1)) pc := by
  intro ls st M h H locs la hH hS hl hn
  dsimp only [o_call] at h
  generalize e1 : p_pop (n + 1) st [] = z at h
  rcases z with _ | ⟨as, st'⟩ <;> first | exact False.elim h | skip
  dsimp only at h
  generalize e2 : (p_rc b ci as && Nat.ble (p_cat st') 8) = y9 at h
  cases y9 <;> first | exact False.elim h | skip
  obtain ⟨d', hd', h⟩ := h
  simp only [Bool.and_eq_true] at e2
  obtain ⟨e2, e3⟩ := e2
  obtain ⟨pre, hp1, hp2, hp3⟩ := p_pop_spec _ _ _ _ _ e1
  rw [List.append_nil] at hp3
  have hpre : pre = as.reverse := by rw [hp3, List.reverse_reverse]
  have h8 : ((st'.map (q_v w)).map fun v => v.category).sum ≤ 8 := by rw [q_cat]; exact Nat.le_of_ble_eq_true e3
  have hM : Met l y (Cond.code y cb ml rt :: p_T) (p_rm d') (va_Pc (as.map (q_v w)) (q_U b w M)) (q_Qc b w (fun M v => q_Z b w p l e R s m args below meth c nL cells slots Qw (pc + 3) ls (p_psh v st') M)) 0 0 (q_A b w) := by
    have h7 := h
    simp only [q_C, hm, hml] at h7
    exact h7
  obtain ⟨f1, f2, f3, f4⟩ : d ≤ R.frames ∧ 64 * d ≤ R.locals ∧ cells ≤ R.cells ∧ slots ≤ R.slots := K.2.2.2.2.2.2.2.2
  have hR : (p_rm d').frames + 1 ≤ R.frames ∧ 8 + (ml + 11) + (p_rm d').locals ≤ R.locals := by
    show d' + 1 ≤ R.frames ∧ 8 + (ml + 11) + 64 * d' ≤ R.locals
    omega
  have hts := K.2.2.2.2.1
  obtain ⟨a, as', rfl, hrc⟩ := q_rc hc9 e2
  obtain ⟨ha, hE⟩ := q_obj (w := w) M hrc hc9
  have he := q_at (w := w) M ha
  rw [hE] at he
  have hlen : (as'.map (q_v w)).length = n := by
    rw [hpre] at hp2
    simp at hp2
    simpa using hp2
  have hst : st.map (q_v w) = (as'.map (q_v w)).reverse ++ .ref (w.2.2 a) :: st'.map (q_v w) := by
    rw [hp1, hpre]
    simp [q_v, va_rf]
  exact q_go (va_runVN (As := as'.map (q_v w)) (b := w.2.2 a) (C := y.cls) (rest := st'.map (q_v w)) ⟨K.1, K.2.1, K.2.2.1, K.2.2.2.1, hts⟩ hM ⟨(va_cnB n hts (q_good w1) rfl rfl rfl (K.2.2.2.2.2.1 _ w2) (hts _ w5) hy hR), hts _ w3, hts _ w4⟩ ⟨q_bl, va_recv K.2.2.2.2.2.2.1 hH.P hcl he, q_pre K hH _⟩ rfl hlen hl.1 hst (lv_room h8) hd ⟨f3, f4⟩) hS (fun M' v H1 locs1 hz hH1 hS1 => hz H1 locs1 la hH1 hS1 hl hn)
theorem s_cSN (K : q_X b w p s m args c own cc nL R d cells slots) {host : String} {k n idx : Nat} {y : MethodName} {cb : ByteArray} {rt : Option FieldType} {ml : Nat} (hd : decode cc pc = .ok (.invokestatic idx, 3)) (hm : p_gm p_ms k = (y, cb, rt)) (hml : p_g p_nls k = ml) (w1 : Cond.code y cb ml rt ∈ p_T) (w2 : Cond.methodLinkNest own idx y host ∈ p_N) (w3 : Cond.static y ∈ p_T) (w5 : Cond.initialized y.cls ∈ p_T) (hy : y.cls ≠ "java/lang/invoke/MethodHandle" ∧ y.cls ≠ "java/lang/invoke/VarHandle" ∧ (parseMethodDescriptor y.desc).map (fun d => d.parameters.length) = some n) (hml9 : ml ≤ 40) : p_sd b (q_C l b w) d Q (q_Z b w p l e R s m args below meth c nL cells slots Qw) (o_call 99 k n) pc := by
  intro ls st M h H locs la hH hS hl hn
  dsimp only [o_call] at h
  generalize e1 : p_pop n st [] = z at h
  rcases z with _ | ⟨as, st'⟩ <;> first | exact False.elim h | skip
  dsimp only at h
  generalize e2 : (p_rc b 99 as && Nat.ble (p_cat st') 8) = y9 at h
  cases y9 <;> first | exact False.elim h | skip
  obtain ⟨d', hd', h⟩ := h
  simp only [Bool.and_eq_true] at e2
  obtain ⟨e2, e3⟩ := e2
  obtain ⟨pre, hp1, hp2, hp3⟩ := p_pop_spec _ _ _ _ _ e1
  rw [List.append_nil] at hp3
  have hpre : pre = as.reverse := by rw [hp3, List.reverse_reverse]
  have h8 : ((st'.map (q_v w)).map fun v => v.category).sum ≤ 8 := by rw [q_cat]; exact Nat.le_of_ble_eq_true e3
  have hM : Met l y (Cond.code y cb ml rt :: p_T) (p_rm d') (va_Pc (as.map (q_v w)) (q_U b w M)) (q_Qc b w (fun M v => q_Z b w p l e R s m args below meth c nL cells slots Qw (pc + 3) ls (p_psh v st') M)) 0 0 (q_A b w) := by
    have h7 := h
    simp only [q_C, hm, hml] at h7
    exact h7
  obtain ⟨f1, f2, f3, f4⟩ : d ≤ R.frames ∧ 64 * d ≤ R.locals ∧ cells ≤ R.cells ∧ slots ≤ R.slots := K.2.2.2.2.2.2.2.2
  have hR : (p_rm d').frames + 1 ≤ R.frames ∧ 8 + (ml + 11) + (p_rm d').locals ≤ R.locals := by
    show d' + 1 ≤ R.frames ∧ 8 + (ml + 11) + 64 * d' ≤ R.locals
    omega
  have hts := K.2.2.2.2.1
  have hlen : (as.map (q_v w)).length = n := by
    rw [hpre] at hp2
    simpa using hp2
  have hst : st.map (q_v w) = (as.map (q_v w)).reverse ++ st'.map (q_v w) := by
    rw [hp1, hpre]
    simp
  exact q_go (va_runSN (As := as.map (q_v w)) (rest := st'.map (q_v w)) ⟨K.1, K.2.1, K.2.2.1, K.2.2.2.1, hts⟩ hM ⟨(va_cnB n hts (q_good w1) rfl rfl rfl (K.2.2.2.2.2.1 _ w2) (hts _ w5) hy hR), hts _ w3, trivial⟩ ⟨q_bl, q_pre K hH _⟩ rfl hlen hl.1 hst (lv_room h8) hd ⟨f3, f4⟩) hS (fun M' v H1 locs1 hz hH1 hS1 => hz H1 locs1 la hH1 hS1 hl hn)
theorem s_cp (K : q_X b w p s m args c own cc nL R d cells slots) {idx : Nat} (hd : decode cc pc = .ok (.invokestatic idx, 3)) (w1 : Cond.methodLink own idx arraycopyName ∈ p_T) (w2 : Cond.native arraycopyName ∈ p_T) (w3 : Cond.static arraycopyName ∈ p_T) (w4 : Cond.initialized "java/lang/System" ∈ p_T) : p_sd b C d Q (q_Z b w p l e R s m args below meth c nL cells slots Qw) o_cp pc := by
  intro ls st M h H locs la hH hS hl hn
  rcases st with _ | ⟨n | n, _ | ⟨dp | dp, _ | ⟨a | a | _ | a, _ | ⟨sp | sp, _ | ⟨q | q | _ | q, st⟩⟩⟩⟩⟩ <;> first | exact False.elim h | skip
  dsimp only [o_cp] at h
  generalize e1 : (p_is b a 9 && (p_is b q 9 && Nat.ble (p_cat st) 8)) = y at h
  cases y <;> first | exact False.elim h | skip
  simp only [Bool.and_eq_true] at e1
  obtain ⟨e1, e2, e3⟩ := e1
  obtain ⟨ha, hE⟩ := q_ints (w := w) M e1
  obtain ⟨hq, hEq⟩ := q_ints (w := w) M e2
  have he := q_at (w := w) M ha
  rw [hE] at he
  have heq := q_at (w := w) M hq
  rw [hEq] at heq
  have h8 : ((st.map (q_v w)).map fun v => v.category).sum ≤ 8 := by rw [q_cat]; exact Nat.le_of_ble_eq_true e3
  obtain ⟨⟨h0, h1, h2, h3, h4, h5⟩, h⟩ := h
  obtain ⟨f1, f2, f3, f4⟩ : d ≤ R.frames ∧ 64 * d ≤ R.locals ∧ cells ≤ R.cells ∧ slots ≤ R.slots := K.2.2.2.2.2.2.2.2
  have hnf : nativeFrameWords "java/lang/System" "arraycopy" 5 ≤ 45 := by decide +kernel
  have hts := K.2.2.2.2.1
  refine va_copyi K.1 K.2.1 (K.2.2.1.trans hl.1.symm) K.2.2.2.1 (hts _ w1) (hts _ w2) (hts _ w3) (hts _ w4) K.2.2.2.2.2.2.1 hH.P (q_D K.2.2.2.2.2.2.2.1) hS (q_ix q) (q_ix a) 0 0 heq he rfl rfl rfl h1 h2 h3 h4 h5 (fun _ _ => rfl) (by omega) (by omega) hd (fun H1 locs1 hP1 _ hS1 => h H1 locs1 la (q_set ha hP1 ?_ (fun a9 h9 => q_E_cg (p_row_ne h9) rfl)) hS1 hl hn)
  rw [(q_ints (w := w) _ e1).2, p_row_eq]
theorem s_mmax (K : q_X b w p s m args c own cc nL R d cells slots) {idx : Nat} (hd : decode cc pc = .ok (.invokestatic idx, 3)) (w1 : Cond.methodLink own idx Lib.Math.max.name ∈ p_T) (w2 : Cond.static Lib.Math.max.name ∈ p_T) (w3 : Cond.initialized "java/lang/Math" ∈ p_T) (w4 : Cond.code Lib.Math.max.name Lib.Math.max.code 2 (some .int) ∈ p_T) : p_sd b C d Q (q_Z b w p l e R s m args below meth c nL cells slots Qw) o_mmax pc := by
  intro ls st M h H locs la hH hS hl hn
  rcases st with _ | ⟨y | y, _ | ⟨x | x, st⟩⟩ <;> first | exact False.elim h | skip
  dsimp only [o_mmax] at h
  generalize e1 : Nat.ble (p_cat st) 8 = z at h
  cases z <;> first | exact False.elim h | skip
  have h8 : ((st.map (q_v w)).map fun v => v.category).sum ≤ 8 := by rw [q_cat]; exact Nat.le_of_ble_eq_true e1
  obtain ⟨h0, h⟩ := h
  obtain ⟨f1, f2, f3, f4⟩ : d ≤ R.frames ∧ 64 * d ≤ R.locals ∧ cells ≤ R.cells ∧ slots ≤ R.slots := K.2.2.2.2.2.2.2.2
  have hts := K.2.2.2.2.1
  exact va_mmax K.1 K.2.1 (K.2.2.1.trans hl.1.symm) K.2.2.2.1 (hts _ w1) (hts _ w2) (hts _ w3) (hts _ w4) (by omega) (by omega) f3 f4 hd (h H locs la hH hS hl hn)
theorem s_mmin (K : q_X b w p s m args c own cc nL R d cells slots) {idx : Nat} (hd : decode cc pc = .ok (.invokestatic idx, 3)) (w1 : Cond.methodLink own idx Lib.Math.min.name ∈ p_T) (w2 : Cond.static Lib.Math.min.name ∈ p_T) (w3 : Cond.initialized "java/lang/Math" ∈ p_T) (w4 : Cond.code Lib.Math.min.name Lib.Math.min.code 2 (some .int) ∈ p_T) : p_sd b C d Q (q_Z b w p l e R s m args below meth c nL cells slots Qw) o_mmin pc := by
  intro ls st M h H locs la hH hS hl hn
  rcases st with _ | ⟨y | y, _ | ⟨x | x, st⟩⟩ <;> first | exact False.elim h | skip
  dsimp only [o_mmin] at h
  generalize e1 : Nat.ble (p_cat st) 8 = z at h
  cases z <;> first | exact False.elim h | skip
  have h8 : ((st.map (q_v w)).map fun v => v.category).sum ≤ 8 := by rw [q_cat]; exact Nat.le_of_ble_eq_true e1
  obtain ⟨h0, h⟩ := h
  obtain ⟨f1, f2, f3, f4⟩ : d ≤ R.frames ∧ 64 * d ≤ R.locals ∧ cells ≤ R.cells ∧ slots ≤ R.slots := K.2.2.2.2.2.2.2.2
  have hts := K.2.2.2.2.1
  exact va_mmin K.1 K.2.1 (K.2.2.1.trans hl.1.symm) K.2.2.2.1 (hts _ w1) (hts _ w2) (hts _ w3) (hts _ w4) (by omega) (by omega) f3 f4 hd (h H locs la hH hS hl hn)
theorem s_vr (K : q_X b w p s m args c own cc nL R d cells slots) (hd : decode cc pc = .ok (.return_, 1)) (hr : meth.sig.returnType = none) (hk : meth.locks = false) : p_sd b C d Q (q_Z b w p l e R s m args below meth c nL cells slots (MQ below (q_Qc b w Q) args s cells slots (q_A b w))) o_vr pc := by
  intro ls st M h H locs la hH hS hl hn
  rcases st with _ | ⟨x, st⟩ <;> first | exact False.elim h | skip
  exact W.vret K.1 K.2.1 hr (fun t ht hW => ⟨⟨M, none, rfl, h, by rw [ht]; exact hH⟩, hS.F ht⟩) hS.2.2 hd hk
theorem s_ir (K : q_X b w p s m args c own cc nL R d cells slots) (hd : decode cc pc = .ok (.ireturn, 1)) (hr : meth.sig.returnType = some .int) (hk : meth.locks = false) : p_sd b C d Q (q_Z b w p l e R s m args below meth c nL cells slots (MQ below (q_Qc b w Q) args s cells slots (q_A b w))) o_ir pc := by
  intro ls st M h H locs la hH hS hl hn
  rcases st with _ | ⟨x | x, _ | ⟨y, st⟩⟩ <;> first | exact False.elim h | skip
  exact W.iret K.1 K.2.1 hr (fun t ht hW => ⟨⟨M, some (.inl x), rfl, h, by rw [ht]; exact hH⟩, hS.F ht⟩) hS.2.2 hd hk
theorem s_zr (K : q_X b w p s m args c own cc nL R d cells slots) (hd : decode cc pc = .ok (.ireturn, 1)) (hr : meth.sig.returnType = some .boolean) (hk : meth.locks = false) : p_sd b C d Q (q_Z b w p l e R s m args below meth c nL cells slots (MQ below (q_Qc b w Q) args s cells slots (q_A b w))) o_zr pc := by
  intro ls st M h H locs la hH hS hl hn
  rcases st with _ | ⟨x | x, _ | ⟨y, st⟩⟩ <;> first | exact False.elim h | skip
  have h9 : narrow .boolean (.int x) = .int x := by rcases h.1 with rfl | rfl <;> rfl
  exact W.zret K.1 K.2.1 hr h9 (fun t ht hW => ⟨⟨M, some (.inl x), rfl, h.2, by rw [ht]; exact hH⟩, hS.F ht⟩) hS.2.2 hd hk
theorem s_lr (K : q_X b w p s m args c own cc nL R d cells slots) (hd : decode cc pc = .ok (.lreturn, 1)) (hr : meth.sig.returnType = some .long) (hk : meth.locks = false) : p_sd b C d Q (q_Z b w p l e R s m args below meth c nL cells slots (MQ below (q_Qc b w Q) args s cells slots (q_A b w))) o_lr pc := by
  intro ls st M h H locs la hH hS hl hn
  rcases st with _ | ⟨x | x | x, _ | ⟨y, st⟩⟩ <;> first | exact False.elim h | skip
  exact W.lret K.1 K.2.1 hr (fun t ht hW => ⟨⟨M, some (.inr (.inl x)), rfl, h, by rw [ht]; exact hH⟩, hS.F ht⟩) hS.2.2 hd hk
theorem s_ar (K : q_X b w p s m args c own cc nL R d cells slots) (hd : decode cc pc = .ok (.areturn, 1)) {rn : String} (hr : meth.sig.returnType = some (.object rn)) (hk : meth.locks = false) : p_sd b C d Q (q_Z b w p l e R s m args below meth c nL cells slots (MQ below (q_Qc b w Q) args s cells slots (q_A b w))) o_ar pc := by
  intro ls st M h H locs la hH hS hl hn
  rcases st with _ | ⟨x | x | x, _ | ⟨y, st⟩⟩ <;> first | exact False.elim h | skip
  exact W.aret K.1 K.2.1 hr (Or.inl ⟨_, rfl⟩) (by cases x with | none => exact Or.inl rfl | some a => exact Or.inr ⟨_, rfl⟩) (fun t ht hW => ⟨⟨M, some (.inr (.inr x)), rfl, h, by rw [ht]; exact hH⟩, hS.F ht⟩) hS.2.2 hd hk
theorem s_zl (K : q_X b w p s m args c own cc nL R d cells slots) {L : Nat} {xs : Nat → Int32} (hd : decode cc pc = .ok (.arraylength, 1)) (hX : va_X (w.2.2 (aS 39)) L xs s s.heap) (hb : w.2.2 (aS 39) < s.heap.size) (hA : ¬ q_A b w (w.2.2 (aS 39))) : p_sd b C d Q (q_Z b w p l e R s m args below meth c nL cells slots Qw) (o_zl L) pc := by
  intro ls st M h H locs la hH hS hl hn
  rcases st with _ | ⟨x | x | _ | a, st⟩ <;> first | exact False.elim h | skip
  dsimp only [o_zl] at h
  generalize e1 : p_eq a (aS 39) = y at h
  cases y <;> first | exact False.elim h | skip
  have e2 := p_eq_iff.mp e1
  subst e2
  exact va_slen K.1 K.2.1 hX hb hA hS hd (h H locs la hH hS hl hn)
theorem s_za (K : q_X b w p s m args c own cc nL R d cells slots) {L : Nat} {xs : Nat → Int32} (hd : decode cc pc = .ok (.iaload, 1)) (hX : va_X (w.2.2 (aS 39)) L xs s s.heap) (hb : w.2.2 (aS 39) < s.heap.size) (hA : ¬ q_A b w (w.2.2 (aS 39))) : p_sd b C d Q (q_Z b w p l e R s m args below meth c nL cells slots Qw) (o_za xs L) pc := by
  intro ls st M h H locs la hH hS hl hn
  rcases st with _ | ⟨i | i, _ | ⟨x | x | _ | a, st⟩⟩ <;> first | exact False.elim h | skip
  dsimp only [o_za] at h
  generalize e1 : p_eq a (aS 39) = y at h
  cases y <;> first | exact False.elim h | skip
  have e2 := p_eq_iff.mp e1
  subst e2
  exact va_sld K.1 K.2.1 hX hb hA hS h.1 hd (h.2 H locs la hH hS hl hn)
end Cal
theorem q_in {l : Launch} {b : Bool} {w : pW} (hJ : q_J b w) {k d : Nat} {M : pM} {as : pST} {Q : pQ} {y : MethodName} {cb : ByteArray} {rt : Option FieldType} {ml : Nat} {tb : List pT} (hm : p_gm p_ms k = (y, cb, rt)) (hml : p_g p_nls k = ml) (hy : plainName y.cls = true) (hcat : p_cat as ≤ ml)
    (hcl : ∀ (p : Program) (e : Env) (s : State) (m : MethodId) (args : Array Value) (below : List Frame) (meth : Method) (c : Code), q_X b w p s m args c y.cls cb ml (p_rm d) d 0 0 → meth.sig.returnType = rt → meth.locks = false → p_Cl b (q_C l b w) tb d Q (q_Z b w p l e (p_rm d) s m args below meth c ml 0 0 (MQ below (q_Qc b w Q) args s 0 0 (q_A b w))))
    (h : ∀ Z : pX, p_Cl b (q_C l b w) tb d Q Z → Z 0 (p_ini ml as) [] M) : q_C l b w d k M as Q := by
  simp only [q_C, hm, hml]
  refine Met.ofW (cc := cb) (maxL := ml) (ret := rt) hy rfl ?_
  intro p e s m args below meth c s₁ B hmax hv
  obtain ⟨rfl, hH, hK, hN⟩ := hv
  have hts := atoms_spec (ws := Cond.code y cb ml rt :: p_T) B.pre
  have hown : s.vm.findClass y.cls = some m.cls := findClass_of_methodNamed B.named
  rw [lg_entry_eq]
  have X : q_X b w p s m (as.map (q_v w)).toArray c y.cls cb ml (p_rm d) d 0 0 := ⟨B.exec, B.bytes, hmax, hown, fun z hz => hts z (List.mem_cons_of_mem _ hz), hN, hK, hJ, Nat.le_refl _, Nat.le_refl _, Nat.le_refl _, Nat.le_refl _⟩
  have hl := lv_entry (as.map (q_v w)) (n := ml) (by rw [q_sl]; exact hcat)
  obtain ⟨i1, i2⟩ := q_ini (w := w) as ml 0 hcat
  exact h _ (hcl p e s m _ below meth c X B.returns B.notSynchronized) s.heap [] _ hH va_S.rf ⟨hl.1, hl.2.1, fun q hq => hl.2.2 q (i2 q hq)⟩ i1
theorem p_nat {P : Nat → Prop} (n : Nat) (h0 : P n) (h1 : ∀ k, P (n + 1 + k)) : ∀ k, P (n + k) := by
  intro k
  cases k with
  | zero => exact h0
  | succ k =>
    have := h1 k
    rwa [show n + 1 + k = n + (k + 1) by omega] at this
theorem p_gt_out : ∀ (l : List (List pT)) (k : Nat), p_gt l (l.length + k) = [] := by
  intro l
  induction l with
  | nil => intro k; rfl
  | cons t l ih =>
    intro k
    rw [show (t :: l).length + k = (l.length + k) + 1 by simp; omega]
    exact ih k
