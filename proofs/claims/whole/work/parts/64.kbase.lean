/-! CONSTRUCTORS, at the kit's level: a world is a list of cells, new ones behind; the array classes are known ahead -/
def k_TY (cA : Nat → ClassId) : List (ClassId × FieldType) := [(cA 0, .int), (cA 1, .object RX1), (cA 2, .object RX2)]
def k_G (D : va_G) (cA : Nat → ClassId) (U : State) : Prop := va_K D vwCl (k_TY cA) U ∧ (∀ z ∈ p_N, va_Nw z U) ∧ va_AO RX1 U ∧ va_AO RX2 U
def k_pre (D : va_G) (cA : Nat → ClassId) (as : List Value) (ws : va_W) (sz : Nat) : Array Value → State → Prop := va_Pc as (fun U => U.heap.size = sz ∧ va_P D vwCl ws U.heap ∧ k_G D cA U ∧ va_D (fun _ => True) ws)
def k_post (D : va_G) (ws : va_W) (sz : Nat) (Sh : va_W → Prop) : Array Value → State → Outcome → State → Prop := va_Qv (fun ws1 : va_W => Sh ws1) (fun ws1 t => va_P D vwCl ws1 t.heap ∧ va_D (va_A ws sz) ws1) (va_A ws sz)
def k_Met (l : Launch) (D : va_G) (cA : Nat → ClassId) (y : MethodName) (cb : ByteArray) (ml : Nat) (rm : Room) (as : List Value) (ws : va_W) (Sh : va_W → Prop) (mc ms : Nat) : Prop := ∀ sz, Met l y (Cond.code y cb ml none :: p_T) rm (k_pre D cA as ws sz) (k_post D ws sz Sh) mc ms (va_A ws sz)
theorem k_G.moved {D : va_G} {cA : Nat → ClassId} {s U : State} (hW : s.WarmedH U.vm) (h : k_G D cA s) : k_G D cA U := ⟨va_K.moved hW.alike h.1, fun z hz => p_N_warm hz hW (h.2.1 z hz), va_AO.moved hW.alike h.2.2.1, va_AO.moved hW.alike h.2.2.2⟩
theorem k_bl {D : va_G} {cA : Nat → ClassId} {as : List Value} {ws : va_W} {sz : Nat} : FrameBlind (k_pre D cA as ws sz) := by
  rintro a U g mk ⟨h1, h2, h3, ⟨h4, h5, h6, h7⟩, h8⟩
  exact ⟨h1, h2, h3, ⟨va_K.moved (u := U) (U := U.calling g mk a) (Vm.Alike.refl U.vm) h4, fun z hz => va_Nw.same (u := U) (U := U.calling g mk a) (p_N_tab hz) rfl (h5 z hz), va_AO.moved (u := U) (U := U.calling g mk a) (Vm.Alike.refl U.vm) h6, va_AO.moved (u := U) (U := U.calling g mk a) (Vm.Alike.refl U.vm) h7⟩, h8⟩
def k_X (D : va_G) (cA : Nat → ClassId) (p : Program) (s : State) (m : MethodId) (args : Array Value) (c : Code) (own : String) (cc : ByteArray) (nL : Nat) : Prop := p.tables.exec = Jvm.exec ∧ c.code = cc ∧ c.maxLocals = nL ∧ s.vm.findClass own = some m.cls ∧ (∀ z ∈ p_T, z.before args s = true) ∧ k_G D cA s
def k_W (A : Nat → Prop) (s : State) (D : va_G) (ws : va_W) (H : Heap) (locs : List Loc) : Prop := va_P D vwCl ws H ∧ va_D A ws ∧ va_S A s.heap H locs
def kI (cA : Nat → ClassId) (N : Nat) : va_E := .inl (cA 0, N, .inl (fun _ => 0))
theorem k_join {A : Nat → Prop} {D : va_G} {W0 w1 : va_W} {x : Nat × va_E} {H H1 : Heap} (hP : va_P D vwCl (W0 ++ [x]) H) (hD : va_D A (W0 ++ [x])) (hF : ∀ q, va_A [x] H.size q → A q) (hk : ∀ q, q < H.size → ¬ va_A [x] H.size q → H1[q]? = H[q]?) (hP1 : va_P D vwCl w1 H1) (hD1 : va_D (va_A [x] H.size) w1) : va_P D vwCl (W0 ++ w1) H1 ∧ va_D A (W0 ++ w1) := by
  have apart : ∀ (i : Nat) (q : Nat × va_E), W0[i]? = some q → q.1 < H.size ∧ ¬ va_A [x] H.size q.1 := by
    intro i q hq
    have hi : i < W0.length := (List.getElem?_eq_some_iff.mp hq).1
    have h2 : (W0 ++ [x])[i]? = some q := by rw [List.getElem?_append_left hi]; exact hq
    have hlt := (hP i q h2).lt
    refine ⟨hlt, fun h => ?_⟩
    rcases h with ⟨k, e, h⟩ | h
    · have hk0 : k = 0 := by
        have := (List.getElem?_eq_some_iff.mp h).1
        simp at this
        exact this
      subst hk0
      have h3 : (W0 ++ [x])[W0.length]? = some (q.1, e) := by rw [List.getElem?_append_right (Nat.le_refl _), Nat.sub_self]; exact h
      have := hD.1 i W0.length q (q.1, e) h2 h3 rfl
      omega
    · omega
  refine ⟨va_P.app (fun i q hq => ?_) hP1, va_D.app ⟨fun i j a b ha hb e => ?_, fun i q hq => ?_⟩ (hD1.weaken (fun _ q _ h => hF q.1 h)) (fun i j a b ha hb e => ?_)⟩
  · have hi : i < W0.length := (List.getElem?_eq_some_iff.mp hq).1
    obtain ⟨g1, g2⟩ := apart i q hq
    exact (hP i q (by rw [List.getElem?_append_left hi]; exact hq)).kept (hk q.1 g1 g2)
  · have hi : i < W0.length := (List.getElem?_eq_some_iff.mp ha).1
    have hj : j < W0.length := (List.getElem?_eq_some_iff.mp hb).1
    exact hD.1 i j a b (by rw [List.getElem?_append_left hi]; exact ha) (by rw [List.getElem?_append_left hj]; exact hb) e
  · have hi : i < W0.length := (List.getElem?_eq_some_iff.mp hq).1
    exact hD.2 i q (by rw [List.getElem?_append_left hi]; exact hq)
  · exact (apart i a ha).2 (by rw [e]; exact hD1.2 j b hb)
section Kon
variable {p : Program} {l : Launch} {e : Env} {R : Room} {s : State} {m : MethodId} {args : Array Value} {below : List Frame} {meth : Method} {c : Code} {own : String} {cc : ByteArray} {nL cells slots pc : Nat} {Q : State → Prop} {D : va_G} {cA : Nat → ClassId} {A : Nat → Prop} {ws : va_W} {H : Heap} {locs : List Loc} {ls : Array Slot} {rest : List Value}
theorem k_newa (K : k_X D cA p s m args c own cc nL) (hA : ∀ q, s.heap.size ≤ q → A q) (hW : k_W A s D ws H locs) {n : Int32} (N : Nat) (hn : n = nI N) (h5 : N ≤ 1000) (hc : cells + 1 ≤ R.cells) (hs : slots + N ≤ R.slots) (hdg : decode cc pc = .ok (.newarray .int, 2))
    (kk : ∀ (q : Nat) (H1 : Heap), k_W A s D (ws ++ [(q, kI cA N)]) H1 locs → W p l e R s m args below meth c H1 locs (cells + 1) (slots + N) Q (F0 m (pc + 2) ls (.ref q :: rest))) : W p l e R s m args below meth c H locs cells slots Q (F0 m pc ls (.int n :: rest)) := by
  obtain ⟨hx, hb, hml, hown, hts, hK, hN, hO⟩ := K
  obtain ⟨hP, hD, hS⟩ := hW
  subst hn
  refine va_newa (atype := .int) (a0 := (N, .inl (fun _ => 0))) hx hb (hts (.arrayClass .int) (p_in 119 (by decide +kernel) rfl)) rfl hK hP hD hS hA (fun _ => rfl) (nI_pos (by omega)) (nI_clamp (by omega)) (by show N * 4 ≤ 536870912; omega) hc hs hdg (fun q cB H1 hK1 hP1 hD1 hS1 => ?_)
  have e1 : va_RA s cB .int := (hK1.2 3 (cB, .int) rfl).2
  have e2 : va_RA s (cA 0) .int := (hK.2 0 (cA 0, .int) rfl).2
  have e3 : cB = cA 0 := Option.some.inj ((show s.vm.findClass _ = some cB from e1).symm.trans e2)
  subst e3
  exact kk q H1 ⟨hP1, hD1, hS1⟩
theorem k_newq (K : k_X D cA p s m args c own cc nL) (hA : ∀ q, s.heap.size ≤ q → A q) (hW : k_W A s D ws H locs) {n : Int32} (N : Nat) (hn : n = nI N) (h5 : N ≤ 1000) {C : String} {index k : Nat} (hk : (k_TY cA)[k]? = some (cA k, .object C)) (hlink : Cond.classLink own index C ∈ p_T) (hO : va_AO C s) (hc : cells + 1 ≤ R.cells) (hs : slots + N ≤ R.slots) (hdg : decode cc pc = .ok (.anewarray index, 3))
    (kk : ∀ (q : Nat) (H1 : Heap), k_W A s D (ws ++ [(q, .inl (cA k, N, .inr (.inr (.inr (.inr (fun _ => none))))))]) H1 locs → W p l e R s m args below meth c H1 locs (cells + 1) (slots + N) Q (F0 m (pc + 3) ls (.ref q :: rest))) : W p l e R s m args below meth c H locs cells slots Q (F0 m pc ls (.int n :: rest)) := by
  obtain ⟨hx, hb, hml, hown, hts, hK, hN, -⟩ := K
  obtain ⟨hP, hD, hS⟩ := hW
  subst hn
  refine va_newq hx hb hown (hts _ hlink) hO hK hP hD hS hA (nI_pos (by omega)) (nI_clamp (by omega)) (by omega) hc hs hdg (fun q cB H1 hK1 hP1 hD1 hS1 => ?_)
  obtain ⟨kA, comp, a1, a2, a3, a4⟩ := (hK1.2 3 (cB, .object C) rfl).2
  obtain ⟨kB, comp2, b1, b2, b3, b4⟩ := (hK.2 k (cA k, .object C) hk).2
  have e3 : cB = cA k := Option.some.inj (a4.symm.trans b4)
  subst e3
  exact kk q H1 ⟨hP1, hD1, hS1⟩
theorem k_new (K : k_X D cA p s m args c own cc nL) (hA : ∀ q, s.heap.size ≤ q → A q) (hW : k_W A s D ws H locs) {C : String} {T : u_T} {N index : Nat} (ci : Nat) (hcl : vwCl[ci]? = some (C, T, N)) (hin : ∀ z ∈ u_ws C T N, z ∈ p_T) (ty : Nat → FieldType) (hty : ∀ k, k < N → parseFieldDescriptor (T k).2.2.1 = some (ty k)) (w1 : Cond.classLink own index C ∈ p_T) (w2 : Cond.instantiable C N ∈ p_T) (w3 : Cond.initialized C ∈ p_T) {fs : List Value} (hfs : ∀ j, j < N → defaultValue (ty j) = vp_V fs j) (hc : cells + 1 ≤ R.cells) (hs : slots + N ≤ R.slots) (hdg : decode cc pc = .ok (.new index, 3))
    (kk : ∀ (q : Nat) (H1 : Heap), k_W A s D (ws ++ [(q, .inr (ci, fs))]) H1 locs → W p l e R s m args below meth c H1 locs (cells + 1) (slots + N) Q (F0 m (pc + 3) ls (.ref q :: rest))) : W p l e R s m args below meth c H locs cells slots Q (F0 m pc ls rest) := by
  obtain ⟨hx, hb, hml, hown, hts, hK, hN, -⟩ := K
  obtain ⟨hP, hD, hS⟩ := hW
  exact va_new (ci := ci) hx hb hts hin ty hty hown (hts _ w1) (hts _ w2) (hts _ w3) hK hP hD hS hA hcl hfs hc hs hdg (fun q H1 hP1 hD1 hS1 => kk q H1 ⟨hP1, hD1, hS1⟩)
/-- a final field of the object itself, which is the world's first cell -/
theorem k_putF (K : k_X D cA p s m args c own cc nL) {a : Nat} {ci : Nat} {fs : List Value} (hW : k_W A s D ((a, .inr (ci, fs)) :: ws) H locs) {T : u_T} {N index : Nat} (hcl : vwCl[ci]? = some (own, T, N)) (hin : ∀ z ∈ u_ws own T N, z ∈ p_T) (ty : Nat → FieldType) (hty : ∀ k, k < N → parseFieldDescriptor (T k).2.2.1 = some (ty k)) (hnm : ∀ a, a < N → ∀ b, b < N → a ≠ b → (T a).2.1 ≠ (T b).2.1) (k : Nat) (hk : k < N) (w1 : Cond.fieldLink own index own (T k).2.1 (T k).2.2.1 ∈ p_T) (hT : (T k).1 = own) (hfin : (T k).2.2.2 = true) (hname : meth.name = "<init>") {q : Nat} (hr : narrow (ty k) (.ref q) = .ref q ∧ fits (ty k) (.ref q) = true) (hl : k < fs.length) (hdg : decode cc pc = .ok (.putfield index, 3))
    (kk : ∀ (H1 : Heap) (locs1 : List Loc), k_W A s D ((a, .inr (ci, fs.set k (.ref q))) :: ws) H1 locs1 → W p l e R s m args below meth c H1 locs1 cells slots Q (F0 m (pc + 3) ls rest)) : W p l e R s m args below meth c H locs cells slots Q (F0 m pc ls (.ref q :: .ref a :: rest)) := by
  obtain ⟨hx, hb, hml, hown, hts, hK, hN, -⟩ := K
  obtain ⟨hP, hD, hS⟩ := hW
  exact va_putF (D := D) (ci := ci) (v := .ref q) (ty := ty k) (C := own) (T := T) (N := N) (ref := own) hx hb hts hin ty hty hnm hown hK hP hD hS 0 rfl hcl k hk (hts _ w1) (fun x h9 => by rw [← hT]; exact h9) hfin hname hT (hty k hk) hr.1 hr.2 hl hdg (fun H1 locs1 hP1 hD1 hS1 => kk H1 locs1 ⟨hP1, hD1, hS1⟩)
theorem k_obj (K : k_X D cA p s m args c own cc nL) (hl : ls.size = nL) {a idx : Nat} (w1 : Cond.methodLink own idx Lib.objectInit ∈ p_T) (hf : 1 ≤ R.frames) (h2 : 20 ≤ R.locals) (hrest : rest = []) (hdg : decode cc pc = .ok (.invokespecial idx, 3)) (kk : W p l e R s m args below meth c H locs cells slots Q (F0 m (pc + 3) ls rest)) : W p l e R s m args below meth c H locs cells slots Q (F0 m pc ls (.ref a :: rest)) := by
  obtain ⟨hx, hb, hml, hown, hts, -⟩ := K
  subst hrest
  refine W.objInit hx hb hown (hts _ w1) (hts (.instanceMethod Lib.objectInit) (p_in 97 (by decide +kernel) rfl)) (hts (.code Lib.objectInit ⟨#[0xb1]⟩ 1 none) (p_in 98 (by decide +kernel) rfl)) rfl (by rw [hml]; exact hl) rfl hdg hf (by show 2 * 0 + 0 + 12 ≤ _; omega) ?_
  exact kk
/-- a nest mate's constructor, on the world's last cell -/
theorem k_callN (K : k_X D cA p s m args c own cc nL) (hl : ls.size = nL) (hA : ∀ q, s.heap.size ≤ q → A q) {x : Nat × va_E} (hW : k_W A s D (ws ++ [x]) H locs) {y : MethodName} {cb : ByteArray} {ml mc ms index n : Nat} {host : String} {rm : Room} {As : List Value} {Sh : va_W → Prop} (hM : k_Met l D cA y cb ml rm (.ref x.1 :: As) [x] Sh mc ms) (w1 : Cond.code y cb ml none ∈ p_T) (w2 : Cond.methodLinkNest own index y host ∈ p_N) (w3 : Cond.initialized y.cls ∈ p_T) (w4 : Cond.instanceMethod y ∈ p_T) (hy : y.cls ≠ "java/lang/invoke/MethodHandle" ∧ y.cls ≠ "java/lang/invoke/VarHandle" ∧ (parseMethodDescriptor y.desc).map (fun d => d.parameters.length) = some n) (hyn : y.name = "<init>") (hrm : rm.cells = mc ∧ rm.slots = ms) (hR : rm.frames + 1 ≤ R.frames ∧ 8 + (ml + 11) + rm.locals ≤ R.locals) (hn : As.length = n) (hr : (rest.map fun v => v.category).sum ≤ 8) (hc : cells + mc ≤ R.cells ∧ slots + ms ≤ R.slots) (hdg : decode cc pc = .ok (.invokespecial index, 3))
    (kk : ∀ (w1 : va_W) (H1 : Heap) (locs1 : List Loc), Sh w1 → k_W A s D (ws ++ w1) H1 locs1 → W p l e R s m args below meth c H1 locs1 (cells + mc) (slots + ms) Q (F0 m (pc + 3) ls rest)) : W p l e R s m args below meth c H locs cells slots Q (F0 m pc ls (As.reverse ++ .ref x.1 :: rest)) := by
  obtain ⟨hx, hb, hml, hown, hts, hG⟩ := K
  obtain ⟨hP, hD, hS⟩ := hW
  have hlast : (ws ++ [x])[ws.length]? = some x := by rw [List.getElem?_append_right (Nat.le_refl _), Nat.sub_self]; rfl
  have hPx : va_P D vwCl [x] H := fun k q hk => by
    have : k = 0 := by
      have := (List.getElem?_eq_some_iff.mp hk).1
      simp at this
      exact this
    subst this
    cases hk
    exact hP _ _ hlast
  have hFc : ∀ q, va_A [x] H.size q → A q := by
    rintro q (⟨k, e, h⟩ | h)
    · have : k = 0 := by
        have := (List.getElem?_eq_some_iff.mp h).1
        simp at this
        exact this
      subst this
      have h9 : x = (q, e) := Option.some.inj h
      have := hD.2 _ _ hlast
      rw [h9] at this
      exact this
    · exact hA q (Nat.le_trans hS.1 h)
  have hDx : va_D (fun _ => True) [x] := ⟨fun i j a b ha hb _ => by
    have h1 := (List.getElem?_eq_some_iff.mp ha).1
    have h2 := (List.getElem?_eq_some_iff.mp hb).1
    simp at h1 h2
    omega, fun _ _ _ => trivial⟩
  refine va_callv (va_runIN (As := As) (b := x.1) (rest := rest) ⟨hx, hb, hml, hown, hts⟩ (hM H.size) ⟨va_cnB n hts (q_good w1) rfl hrm.1 hrm.2 (hG.2.1 _ w2) (hts _ w3) hy hR, hyn, hts _ w4⟩ ⟨k_bl, fun U hU hW => ⟨rfl, by rw [hU], by rw [hU]; exact hPx, hG.moved hW, hDx⟩⟩ rfl hn hl rfl (lv_room hr) hdg hc) hS (fun q _ h => hFc q h) hFc (fun w1 t H1 locs1 ht hvm hw hB hz1 hk1 hS1 => ?_)
  obtain ⟨hP1, hD1⟩ := hB
  rw [ht] at hP1
  obtain ⟨j1, j2⟩ := k_join hP hD hFc hk1 hP1 hD1
  exact kk w1 H1 locs1 hw ⟨j1, j2, hS1⟩
end Kon
