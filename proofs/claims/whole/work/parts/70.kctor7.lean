theorem W_loc {p : Program} {l : Launch} {e : Env} {R : Room} {s : State} {m : MethodId} {args : Array Value} {below : List Frame} {meth : Method} {c : Code} {H : Heap} {locs locs' : List Loc} {cells slots : Nat} {Q : State → Prop} {g : JFrame} (h : ∀ y ∈ locs, y.base < s.heap.size → y ∈ locs') (k : W p l e R s m args below meth c H locs' cells slots Q g) : W p l e R s m args below meth c H locs cells slots Q g :=
  fun T hT X => k T hT { X with same := X.same.weaken (fun y hy hlt => h y hy hlt) (Nat.le_refl _) (Nat.le_refl _) }
abbrev e7 : va_E := .inr (7, [.null, .null, .null, .null, .null, .null, .null, .null])
def k_tx : String := "t0,10;t1,8;t2,12;t3,9;f1;f0;f1;f0;c0,0,1,9;c0,1,1,8;c1,2,0,14;c0,3,1,6;c2,1,1,5;c3,3,0,20;c2,0,0,4;"
def k_pre7 (D : va_G) (cA : Nat → ClassId) (h0 sK sV sz : Nat) : Array Value → State → Prop := va_Pc [.ref h0] (fun U => U.heap.size = sz ∧ va_P D vwCl [(h0, e7)] U.heap ∧ k_G D cA U ∧ va_D (fun _ => True) [(h0, e7)] ∧ k_St (va_A [(h0, e7)] sz) sK sV U U.heap ∧ vk_R RX7 59 k_tx sK U)
def k_post7 (D : va_G) (cA : Nat → ClassId) (h0 sz : Nat) : Array Value → State → Outcome → State → Prop := fun _ st oc t => (oc = .returned none ∧ ∃ (ad : pA → Nat) (M : pM), q_H false (D, cA, ad) M t.heap ∧ q_J false (D, cA, ad) ∧ (∀ a, p_al false a = true → va_A [(h0, e7)] sz (ad a)) ∧ ad (aS 0) = h0 ∧ cS M S0 ∧ M.2 = M0.2) ∧ va_F (va_A [(h0, e7)] sz) st t
def rm7 : Room := { frames := 20, cells := 110, slots := 891, locals := 1280 }
theorem k_bl7 {D : va_G} {cA : Nat → ClassId} {h0 sK sV sz : Nat} : FrameBlind (k_pre7 D cA h0 sK sV sz) := by
  rintro a U g mk ⟨h1, h2, h3, ⟨h4, h5, h6, h7⟩, h8, h9, h10⟩
  exact ⟨h1, h2, h3, ⟨va_K.moved (u := U) (U := U.calling g mk a) (Vm.Alike.refl U.vm) h4, fun z hz => va_Nw.same (u := U) (U := U.calling g mk a) (p_N_tab hz) rfl (h5 z hz), va_AO.moved (u := U) (U := U.calling g mk a) (Vm.Alike.refl U.vm) h6, va_AO.moved (u := U) (U := U.calling g mk a) (Vm.Alike.refl U.vm) h7⟩, h8, k_St.moved (u := U) (U := U.calling g mk a) (Vm.Alike.refl U.vm) h9, vk_R.same (u := U) (U := U.calling g mk a) rfl h10⟩
set_option maxHeartbeats 8000000 in
set_option maxRecDepth 100000 in
theorem k_X7 (l : Launch) (D : va_G) (cA : Nat → ClassId) (h0 sK sV sz : Nat) : Met l yX7_init (Cond.code yX7_init cX7_init 2 none :: p_T) rm7 (k_pre7 D cA h0 sK sV sz) (k_post7 D cA h0 sz) 110 891 (va_A [(h0, e7)] sz) := by
  refine Met.ofW (cc := cX7_init) (maxL := 2) (ret := none) (by decide +kernel) rfl ?_
  intro p e s m args below meth c s₁ B hml hv
  obtain ⟨rfl, hsz, hP, hG, hD0, hSt, hvR⟩ := hv
  subst hsz
  have hts := atoms_spec (ws := Cond.code yX7_init cX7_init 2 none :: p_T) B.pre
  have hown : s.vm.findClass RX7 = some m.cls := findClass_of_methodNamed B.named
  have hin : meth.name = "<init>" := (name_of_methodNamed B.named B.method).1
  have hr := B.returns
  have hk := B.notSynchronized
  have K : k_X D cA p s m _ c RX7 cX7_init 2 := ⟨B.exec, B.bytes, hml, hown, fun z hz => hts z (List.mem_cons_of_mem _ hz), hG⟩
  have hl := lv_entry [.ref h0] (n := 2) (Nat.le_of_ble_eq_true rfl)
  rw [lg_entry_eq]
  generalize (lg_sl [.ref h0] ++ List.replicate (2 - (lg_sl [.ref h0]).length) Slot.unset).toArray = ls at hl ⊢
  have hl : lv_has ls 2 [(0, .ref h0)] := hl
  obtain ⟨A, hAe⟩ : ∃ A, A = va_A [(h0, e7)] s.heap.size := ⟨_, rfl⟩
  have hA : ∀ q, s.heap.size ≤ q → A q := fun q h => by rw [hAe]; exact Or.inr h
  have hW : k_W A s D [(h0, e7)] s.heap [] := by rw [hAe]; exact ⟨hP, hD0.self, va_S.rf⟩
  have hx := K.1
  have hb := K.2.1
  refine lv_aload_n hx hb dX7_init_0 rfl (lv_at hl 0 rfl) ?_
  refine k_obj K hl.1 u_o_X7 (Nat.le_of_ble_eq_true rfl) (Nat.le_of_ble_eq_true rfl) rfl dX7_init_1 ?_
  have hW : k_W A s D ((h0, .inr (7, [.null, .null, .null, .null, .null, .null, .null, .null])) :: []) _ _ := hW
  refine lv_aload_n hx hb dX7_init_4 rfl (lv_at hl 0 rfl) ?_
  refine k_new K hA hW 6 rfl inX6 tyX6 tyX6_ok u_k_X7_7 u_t_X6 u_n_X6 (fs := [.null, .null, .int 0, .int 0]) (fun j hj => by rcases (show j = 0 ∨ j = 1 ∨ j = 2 ∨ j = 3 by omega) with rfl | rfl | rfl | rfl <;> rfl) (Nat.le_of_ble_eq_true rfl) (Nat.le_of_ble_eq_true rfl) dX7_init_5 (fun q0 H hW => ?_)
  refine W.widen (k := 1) (n := 4) (Nat.le_of_ble_eq_true rfl) (Nat.le_of_ble_eq_true rfl) ?_
  refine lv_dup hx hb dX7_init_8 rfl ?_
  refine k_callN (ws := (h0, .inr (7, [.null, .null, .null, .null, .null, .null, .null, .null])) :: []) (x := (q0, .inr (6, [.null, .null, .int 0, .int 0]))) (As := []) (rest := [.ref q0, .ref h0]) (n := 0) K hl.1 hA hW (k_X6 l D cA q0) u_c_X6 u_m_X7_9 u_n_X6 u_i_X6 (by decide +kernel) rfl ⟨rfl, rfl⟩ ⟨Nat.le_of_ble_eq_true rfl, Nat.le_of_ble_eq_true rfl⟩ rfl (Nat.le_of_ble_eq_true rfl) ⟨Nat.le_of_ble_eq_true rfl, Nat.le_of_ble_eq_true rfl⟩ dX7_init_9 (fun w1 H locs hSh hW => ?_)
  refine W.widen (k := 3) (n := 208) (Nat.le_of_ble_eq_true rfl) (Nat.le_of_ble_eq_true rfl) ?_
  obtain ⟨gx, hg0, rfl⟩ := hSh
  have hW : k_W A s D ((h0, .inr (7, [.null, .null, .null, .null, .null, .null, .null, .null])) :: txW cA gx) _ _ := hW
  refine k_putF K hW rfl inX7 tyX7 tyX7_ok nmX7 0 (by decide) u_f_X7_10 rfl rfl hin ⟨rfl, rfl⟩ (Nat.le_of_ble_eq_true rfl) dX7_init_12 (fun H locs hW => ?_)
  have hW : k_W A s D ((h0, .inr (7, [.ref q0, .null, .null, .null, .null, .null, .null, .null])) :: (txW cA gx)) _ _ := hW
  refine lv_aload_n hx hb dX7_init_15 rfl (lv_at hl 0 rfl) ?_
  refine k_new K hA hW 2 rfl inX2 tyX2 tyX2_ok u_k_X7_16 u_t_X2 u_n_X2 (fs := [.null, .null, .null, .null, .null, .null, .int 0, .int 0, .int 0, .int 0]) (fun j hj => by rcases (show j = 0 ∨ j = 1 ∨ j = 2 ∨ j = 3 ∨ j = 4 ∨ j = 5 ∨ j = 6 ∨ j = 7 ∨ j = 8 ∨ j = 9 by omega) with rfl | rfl | rfl | rfl | rfl | rfl | rfl | rfl | rfl | rfl <;> rfl) (Nat.le_of_ble_eq_true rfl) (Nat.le_of_ble_eq_true rfl) dX7_init_16 (fun q1 H hW => ?_)
  refine W.widen (k := 4) (n := 218) (Nat.le_of_ble_eq_true rfl) (Nat.le_of_ble_eq_true rfl) ?_
  refine lv_dup hx hb dX7_init_19 rfl ?_
  refine k_callN (ws := (h0, .inr (7, [.ref q0, .null, .null, .null, .null, .null, .null, .null])) :: (txW cA gx)) (x := (q1, .inr (2, [.null, .null, .null, .null, .null, .null, .int 0, .int 0, .int 0, .int 0]))) (As := []) (rest := [.ref q1, .ref h0]) (n := 0) K hl.1 hA hW (k_X2 l D cA q1) u_c_X2 u_m_X7_18 u_n_X2 u_i_X2 (by decide +kernel) rfl ⟨rfl, rfl⟩ ⟨Nat.le_of_ble_eq_true rfl, Nat.le_of_ble_eq_true rfl⟩ rfl (Nat.le_of_ble_eq_true rfl) ⟨Nat.le_of_ble_eq_true rfl, Nat.le_of_ble_eq_true rfl⟩ dX7_init_20 (fun w1 H locs hSh hW => ?_)
  refine W.widen (k := 10) (n := 256) (Nat.le_of_ble_eq_true rfl) (Nat.le_of_ble_eq_true rfl) ?_
  obtain ⟨r0, hg1, rfl⟩ := hSh
  have hW : k_W A s D ((h0, .inr (7, [.ref q0, .null, .null, .null, .null, .null, .null, .null])) :: (txW cA gx ++ rmW cA r0)) _ _ := hW
  refine k_putF K hW rfl inX7 tyX7 tyX7_ok nmX7 1 (by decide) u_f_X7_19 rfl rfl hin ⟨rfl, rfl⟩ (Nat.le_of_ble_eq_true rfl) dX7_init_23 (fun H locs hW => ?_)
  have hW : k_W A s D ((h0, .inr (7, [.ref q0, .ref q1, .null, .null, .null, .null, .null, .null])) :: ((txW cA gx ++ rmW cA r0))) _ _ := hW
  refine lv_aload_n hx hb dX7_init_26 rfl (lv_at hl 0 rfl) ?_
  refine k_new K hA hW 2 rfl inX2 tyX2 tyX2_ok u_k_X7_16 u_t_X2 u_n_X2 (fs := [.null, .null, .null, .null, .null, .null, .int 0, .int 0, .int 0, .int 0]) (fun j hj => by rcases (show j = 0 ∨ j = 1 ∨ j = 2 ∨ j = 3 ∨ j = 4 ∨ j = 5 ∨ j = 6 ∨ j = 7 ∨ j = 8 ∨ j = 9 by omega) with rfl | rfl | rfl | rfl | rfl | rfl | rfl | rfl | rfl | rfl <;> rfl) (Nat.le_of_ble_eq_true rfl) (Nat.le_of_ble_eq_true rfl) dX7_init_27 (fun q2 H hW => ?_)
  refine W.widen (k := 11) (n := 266) (Nat.le_of_ble_eq_true rfl) (Nat.le_of_ble_eq_true rfl) ?_
  refine lv_dup hx hb dX7_init_30 rfl ?_
  refine k_callN (ws := (h0, .inr (7, [.ref q0, .ref q1, .null, .null, .null, .null, .null, .null])) :: ((txW cA gx ++ rmW cA r0))) (x := (q2, .inr (2, [.null, .null, .null, .null, .null, .null, .int 0, .int 0, .int 0, .int 0]))) (As := []) (rest := [.ref q2, .ref h0]) (n := 0) K hl.1 hA hW (k_X2 l D cA q2) u_c_X2 u_m_X7_18 u_n_X2 u_i_X2 (by decide +kernel) rfl ⟨rfl, rfl⟩ ⟨Nat.le_of_ble_eq_true rfl, Nat.le_of_ble_eq_true rfl⟩ rfl (Nat.le_of_ble_eq_true rfl) ⟨Nat.le_of_ble_eq_true rfl, Nat.le_of_ble_eq_true rfl⟩ dX7_init_31 (fun w1 H locs hSh hW => ?_)
  refine W.widen (k := 17) (n := 304) (Nat.le_of_ble_eq_true rfl) (Nat.le_of_ble_eq_true rfl) ?_
  obtain ⟨r1, hg2, rfl⟩ := hSh
  have hW : k_W A s D ((h0, .inr (7, [.ref q0, .ref q1, .null, .null, .null, .null, .null, .null])) :: ((txW cA gx ++ rmW cA r0) ++ rmW cA r1)) _ _ := hW
  refine k_putF K hW rfl inX7 tyX7 tyX7_ok nmX7 2 (by decide) u_f_X7_23 rfl rfl hin ⟨rfl, rfl⟩ (Nat.le_of_ble_eq_true rfl) dX7_init_34 (fun H locs hW => ?_)
  have hW : k_W A s D ((h0, .inr (7, [.ref q0, .ref q1, .ref q2, .null, .null, .null, .null, .null])) :: (((txW cA gx ++ rmW cA r0) ++ rmW cA r1))) _ _ := hW
  refine lv_aload_n hx hb dX7_init_37 rfl (lv_at hl 0 rfl) ?_
  refine k_new K hA hW 0 rfl inX0 tyX0 tyX0_ok u_k_X7_26 u_t_X0 u_n_X0 (fs := [.null, .null, .null, .int 0]) (fun j hj => by rcases (show j = 0 ∨ j = 1 ∨ j = 2 ∨ j = 3 by omega) with rfl | rfl | rfl | rfl <;> rfl) (Nat.le_of_ble_eq_true rfl) (Nat.le_of_ble_eq_true rfl) dX7_init_38 (fun q3 H hW => ?_)
  refine W.widen (k := 18) (n := 308) (Nat.le_of_ble_eq_true rfl) (Nat.le_of_ble_eq_true rfl) ?_
  refine lv_dup hx hb dX7_init_41 rfl ?_
  refine k_callN (ws := (h0, .inr (7, [.ref q0, .ref q1, .ref q2, .null, .null, .null, .null, .null])) :: (((txW cA gx ++ rmW cA r0) ++ rmW cA r1))) (x := (q3, .inr (0, [.null, .null, .null, .int 0]))) (As := []) (rest := [.ref q3, .ref h0]) (n := 0) K hl.1 hA hW (k_X0 l D cA q3) u_c_X0 u_m_X7_28 u_n_X0 u_i_X0 (by decide +kernel) rfl ⟨rfl, rfl⟩ ⟨Nat.le_of_ble_eq_true rfl, Nat.le_of_ble_eq_true rfl⟩ rfl (Nat.le_of_ble_eq_true rfl) ⟨Nat.le_of_ble_eq_true rfl, Nat.le_of_ble_eq_true rfl⟩ dX7_init_42 (fun w1 H locs hSh hW => ?_)
  refine W.widen (k := 21) (n := 324) (Nat.le_of_ble_eq_true rfl) (Nat.le_of_ble_eq_true rfl) ?_
  obtain ⟨ge, hg3, rfl⟩ := hSh
  have hW : k_W A s D ((h0, .inr (7, [.ref q0, .ref q1, .ref q2, .null, .null, .null, .null, .null])) :: (((txW cA gx ++ rmW cA r0) ++ rmW cA r1) ++ evW cA ge)) _ _ := hW
  refine k_putF K hW rfl inX7 tyX7 tyX7_ok nmX7 3 (by decide) u_f_X7_29 rfl rfl hin ⟨rfl, rfl⟩ (Nat.le_of_ble_eq_true rfl) dX7_init_45 (fun H locs hW => ?_)
  have hW : k_W A s D ((h0, .inr (7, [.ref q0, .ref q1, .ref q2, .ref q3, .null, .null, .null, .null])) :: ((((txW cA gx ++ rmW cA r0) ++ rmW cA r1) ++ evW cA ge))) _ _ := hW
  refine lv_aload_n hx hb dX7_init_48 rfl (lv_at hl 0 rfl) ?_
  refine k_new K hA hW 3 rfl inX3 tyX3 tyX3_ok u_k_X7_33 u_t_X3 u_n_X3 (fs := [.null, .null, .null, .int 0]) (fun j hj => by rcases (show j = 0 ∨ j = 1 ∨ j = 2 ∨ j = 3 by omega) with rfl | rfl | rfl | rfl <;> rfl) (Nat.le_of_ble_eq_true rfl) (Nat.le_of_ble_eq_true rfl) dX7_init_49 (fun q4 H hW => ?_)
  refine W.widen (k := 22) (n := 328) (Nat.le_of_ble_eq_true rfl) (Nat.le_of_ble_eq_true rfl) ?_
  refine lv_dup hx hb dX7_init_52 rfl ?_
  refine k_callN (ws := (h0, .inr (7, [.ref q0, .ref q1, .ref q2, .ref q3, .null, .null, .null, .null])) :: ((((txW cA gx ++ rmW cA r0) ++ rmW cA r1) ++ evW cA ge))) (x := (q4, .inr (3, [.null, .null, .null, .int 0]))) (As := []) (rest := [.ref q4, .ref h0]) (n := 0) K hl.1 hA hW (k_X3 l D cA q4) u_c_X3 u_m_X7_35 u_n_X3 u_i_X3 (by decide +kernel) rfl ⟨rfl, rfl⟩ ⟨Nat.le_of_ble_eq_true rfl, Nat.le_of_ble_eq_true rfl⟩ rfl (Nat.le_of_ble_eq_true rfl) ⟨Nat.le_of_ble_eq_true rfl, Nat.le_of_ble_eq_true rfl⟩ dX7_init_53 (fun w1 H locs hSh hW => ?_)
  refine W.widen (k := 33) (n := 382) (Nat.le_of_ble_eq_true rfl) (Nat.le_of_ble_eq_true rfl) ?_
  obtain ⟨gs, gi, hg4, rfl⟩ := hSh
  have hW : k_W A s D ((h0, .inr (7, [.ref q0, .ref q1, .ref q2, .ref q3, .null, .null, .null, .null])) :: ((((txW cA gx ++ rmW cA r0) ++ rmW cA r1) ++ evW cA ge) ++ ((gs 0, .inr (3, [.ref (gs 1), .ref (gs 2), .ref (gs 3), .int 0])) :: (gs 1, .inl (cA 1, 8, kQ (rwF 8 gi))) :: (gs 2, kI cA 7) :: (gs 3, kI cA 7) :: irL 8 gi))) _ _ := hW
  refine k_putF K hW rfl inX7 tyX7 tyX7_ok nmX7 4 (by decide) u_f_X7_36 rfl rfl hin ⟨rfl, rfl⟩ (Nat.le_of_ble_eq_true rfl) dX7_init_56 (fun H locs hW => ?_)
  have hW : k_W A s D ((h0, .inr (7, [.ref q0, .ref q1, .ref q2, .ref q3, .ref q4, .null, .null, .null])) :: (((((txW cA gx ++ rmW cA r0) ++ rmW cA r1) ++ evW cA ge) ++ ((gs 0, .inr (3, [.ref (gs 1), .ref (gs 2), .ref (gs 3), .int 0])) :: (gs 1, .inl (cA 1, 8, kQ (rwF 8 gi))) :: (gs 2, kI cA 7) :: (gs 3, kI cA 7) :: irL 8 gi)))) _ _ := hW
  refine lv_aload_n hx hb dX7_init_59 rfl (lv_at hl 0 rfl) ?_
  refine k_new K hA hW 5 rfl inX5 tyX5 tyX5_ok u_k_X7_40 u_t_X5 u_n_X5 (fs := [.null, .null, .int 0]) (fun j hj => by rcases (show j = 0 ∨ j = 1 ∨ j = 2 by omega) with rfl | rfl | rfl <;> rfl) (Nat.le_of_ble_eq_true rfl) (Nat.le_of_ble_eq_true rfl) dX7_init_60 (fun q5 H hW => ?_)
  refine W.widen (k := 34) (n := 385) (Nat.le_of_ble_eq_true rfl) (Nat.le_of_ble_eq_true rfl) ?_
  refine lv_dup hx hb dX7_init_63 rfl ?_
  refine k_callN (ws := (h0, .inr (7, [.ref q0, .ref q1, .ref q2, .ref q3, .ref q4, .null, .null, .null])) :: (((((txW cA gx ++ rmW cA r0) ++ rmW cA r1) ++ evW cA ge) ++ ((gs 0, .inr (3, [.ref (gs 1), .ref (gs 2), .ref (gs 3), .int 0])) :: (gs 1, .inl (cA 1, 8, kQ (rwF 8 gi))) :: (gs 2, kI cA 7) :: (gs 3, kI cA 7) :: irL 8 gi)))) (x := (q5, .inr (5, [.null, .null, .int 0]))) (As := []) (rest := [.ref q5, .ref h0]) (n := 0) K hl.1 hA hW (k_X5 l D cA q5) u_c_X5 u_m_X7_42 u_n_X5 u_i_X5 (by decide +kernel) rfl ⟨rfl, rfl⟩ ⟨Nat.le_of_ble_eq_true rfl, Nat.le_of_ble_eq_true rfl⟩ rfl (Nat.le_of_ble_eq_true rfl) ⟨Nat.le_of_ble_eq_true rfl, Nat.le_of_ble_eq_true rfl⟩ dX7_init_64 (fun w1 H locs hSh hW => ?_)
  refine W.widen (k := 36) (n := 397) (Nat.le_of_ble_eq_true rfl) (Nat.le_of_ble_eq_true rfl) ?_
  obtain ⟨gg, hg5, rfl⟩ := hSh
  have hW : k_W A s D ((h0, .inr (7, [.ref q0, .ref q1, .ref q2, .ref q3, .ref q4, .null, .null, .null])) :: (((((txW cA gx ++ rmW cA r0) ++ rmW cA r1) ++ evW cA ge) ++ ((gs 0, .inr (3, [.ref (gs 1), .ref (gs 2), .ref (gs 3), .int 0])) :: (gs 1, .inl (cA 1, 8, kQ (rwF 8 gi))) :: (gs 2, kI cA 7) :: (gs 3, kI cA 7) :: irL 8 gi)) ++ siW cA gg)) _ _ := hW
  refine k_putF K hW rfl inX7 tyX7 tyX7_ok nmX7 5 (by decide) u_f_X7_43 rfl rfl hin ⟨rfl, rfl⟩ (Nat.le_of_ble_eq_true rfl) dX7_init_67 (fun H locs hW => ?_)
  have hW : k_W A s D ((h0, .inr (7, [.ref q0, .ref q1, .ref q2, .ref q3, .ref q4, .ref q5, .null, .null])) :: ((((((txW cA gx ++ rmW cA r0) ++ rmW cA r1) ++ evW cA ge) ++ ((gs 0, .inr (3, [.ref (gs 1), .ref (gs 2), .ref (gs 3), .int 0])) :: (gs 1, .inl (cA 1, 8, kQ (rwF 8 gi))) :: (gs 2, kI cA 7) :: (gs 3, kI cA 7) :: irL 8 gi)) ++ siW cA gg))) _ _ := hW
  refine lv_aload_n hx hb dX7_init_70 rfl (lv_at hl 0 rfl) ?_
  refine k_new K hA hW 4 rfl inX4 tyX4 tyX4_ok u_k_X7_47 u_t_X4 u_n_X4 (fs := [.null, .int 0]) (fun j hj => by rcases (show j = 0 ∨ j = 1 by omega) with rfl | rfl <;> rfl) (Nat.le_of_ble_eq_true rfl) (Nat.le_of_ble_eq_true rfl) dX7_init_71 (fun q6 H hW => ?_)
  refine W.widen (k := 37) (n := 399) (Nat.le_of_ble_eq_true rfl) (Nat.le_of_ble_eq_true rfl) ?_
  refine lv_dup hx hb dX7_init_74 rfl ?_
  refine lv_bipush (v := nI 8) hx hb dX7_init_75 (by decide) ?_
  refine k_callN (ws := (h0, .inr (7, [.ref q0, .ref q1, .ref q2, .ref q3, .ref q4, .ref q5, .null, .null])) :: ((((((txW cA gx ++ rmW cA r0) ++ rmW cA r1) ++ evW cA ge) ++ ((gs 0, .inr (3, [.ref (gs 1), .ref (gs 2), .ref (gs 3), .int 0])) :: (gs 1, .inl (cA 1, 8, kQ (rwF 8 gi))) :: (gs 2, kI cA 7) :: (gs 3, kI cA 7) :: irL 8 gi)) ++ siW cA gg))) (x := (q6, .inr (4, [.null, .int 0]))) (As := [.int (nI 8)]) (rest := [.ref q6, .ref h0]) (n := 1) K hl.1 hA hW (k_X4 l D cA q6 8 (by omega) (by omega)) u_c_X4 u_m_X7_49 u_n_X4 u_i_X4 (by decide +kernel) rfl ⟨rfl, rfl⟩ ⟨Nat.le_of_ble_eq_true rfl, Nat.le_of_ble_eq_true rfl⟩ rfl (Nat.le_of_ble_eq_true rfl) ⟨Nat.le_of_ble_eq_true rfl, Nat.le_of_ble_eq_true rfl⟩ dX7_init_77 (fun w1 H locs hSh hW => ?_)
  refine W.widen (k := 94) (n := 791) (Nat.le_of_ble_eq_true rfl) (Nat.le_of_ble_eq_true rfl) ?_
  obtain ⟨gp, rp, hg6, rfl⟩ := hSh
  have hW : k_W A s D ((h0, .inr (7, [.ref q0, .ref q1, .ref q2, .ref q3, .ref q4, .ref q5, .null, .null])) :: ((((((txW cA gx ++ rmW cA r0) ++ rmW cA r1) ++ evW cA ge) ++ ((gs 0, .inr (3, [.ref (gs 1), .ref (gs 2), .ref (gs 3), .int 0])) :: (gs 1, .inl (cA 1, 8, kQ (rwF 8 gi))) :: (gs 2, kI cA 7) :: (gs 3, kI cA 7) :: irL 8 gi)) ++ siW cA gg) ++ ((gp 0, .inr (4, [.ref (gp 1), .int 0])) :: (gp 1, .inl (cA 2, 8, kQ (rwF 8 (fun j => rp j 0)))) :: roL cA 8 rp))) _ _ := hW
  refine k_putF K hW rfl inX7 tyX7 tyX7_ok nmX7 6 (by decide) u_f_X7_52 rfl rfl hin ⟨rfl, rfl⟩ (Nat.le_of_ble_eq_true rfl) dX7_init_80 (fun H locs hW => ?_)
  have hW : k_W A s D ((h0, .inr (7, [.ref q0, .ref q1, .ref q2, .ref q3, .ref q4, .ref q5, .ref q6, .null])) :: (((((((txW cA gx ++ rmW cA r0) ++ rmW cA r1) ++ evW cA ge) ++ ((gs 0, .inr (3, [.ref (gs 1), .ref (gs 2), .ref (gs 3), .int 0])) :: (gs 1, .inl (cA 1, 8, kQ (rwF 8 gi))) :: (gs 2, kI cA 7) :: (gs 3, kI cA 7) :: irL 8 gi)) ++ siW cA gg) ++ ((gp 0, .inr (4, [.ref (gp 1), .int 0])) :: (gp 1, .inl (cA 2, 8, kQ (rwF 8 (fun j => rp j 0)))) :: roL cA 8 rp)))) _ _ := hW
  refine lv_aload_n hx hb dX7_init_83 rfl (lv_at hl 0 rfl) ?_
  refine k_new K hA hW 4 rfl inX4 tyX4 tyX4_ok u_k_X7_47 u_t_X4 u_n_X4 (fs := [.null, .int 0]) (fun j hj => by rcases (show j = 0 ∨ j = 1 by omega) with rfl | rfl <;> rfl) (Nat.le_of_ble_eq_true rfl) (Nat.le_of_ble_eq_true rfl) dX7_init_84 (fun q7 H hW => ?_)
  refine W.widen (k := 95) (n := 793) (Nat.le_of_ble_eq_true rfl) (Nat.le_of_ble_eq_true rfl) ?_
  refine lv_dup hx hb dX7_init_87 rfl ?_
  refine lv_iconst (v := nI 2) hx hb dX7_init_88 (by decide) ?_
  refine k_callN (ws := (h0, .inr (7, [.ref q0, .ref q1, .ref q2, .ref q3, .ref q4, .ref q5, .ref q6, .null])) :: (((((((txW cA gx ++ rmW cA r0) ++ rmW cA r1) ++ evW cA ge) ++ ((gs 0, .inr (3, [.ref (gs 1), .ref (gs 2), .ref (gs 3), .int 0])) :: (gs 1, .inl (cA 1, 8, kQ (rwF 8 gi))) :: (gs 2, kI cA 7) :: (gs 3, kI cA 7) :: irL 8 gi)) ++ siW cA gg) ++ ((gp 0, .inr (4, [.ref (gp 1), .int 0])) :: (gp 1, .inl (cA 2, 8, kQ (rwF 8 (fun j => rp j 0)))) :: roL cA 8 rp)))) (x := (q7, .inr (4, [.null, .int 0]))) (As := [.int (nI 2)]) (rest := [.ref q7, .ref h0]) (n := 1) K hl.1 hA hW (k_X4 l D cA q7 2 (by omega) (by omega)) u_c_X4 u_m_X7_49 u_n_X4 u_i_X4 (by decide +kernel) rfl ⟨rfl, rfl⟩ ⟨Nat.le_of_ble_eq_true rfl, Nat.le_of_ble_eq_true rfl⟩ rfl (Nat.le_of_ble_eq_true rfl) ⟨Nat.le_of_ble_eq_true rfl, Nat.le_of_ble_eq_true rfl⟩ dX7_init_89 (fun w1 H locs hSh hW => ?_)
  refine W.widen (k := 110) (n := 891) (Nat.le_of_ble_eq_true rfl) (Nat.le_of_ble_eq_true rfl) ?_
  obtain ⟨gk, rk, hg7, rfl⟩ := hSh
  have hW : k_W A s D ((h0, .inr (7, [.ref q0, .ref q1, .ref q2, .ref q3, .ref q4, .ref q5, .ref q6, .null])) :: (((((((txW cA gx ++ rmW cA r0) ++ rmW cA r1) ++ evW cA ge) ++ ((gs 0, .inr (3, [.ref (gs 1), .ref (gs 2), .ref (gs 3), .int 0])) :: (gs 1, .inl (cA 1, 8, kQ (rwF 8 gi))) :: (gs 2, kI cA 7) :: (gs 3, kI cA 7) :: irL 8 gi)) ++ siW cA gg) ++ ((gp 0, .inr (4, [.ref (gp 1), .int 0])) :: (gp 1, .inl (cA 2, 8, kQ (rwF 8 (fun j => rp j 0)))) :: roL cA 8 rp)) ++ ((gk 0, .inr (4, [.ref (gk 1), .int 0])) :: (gk 1, .inl (cA 2, 2, kQ (rwF 2 (fun j => rk j 0)))) :: roL cA 2 rk))) _ _ := hW
  refine k_putF K hW rfl inX7 tyX7 tyX7_ok nmX7 7 (by decide) u_f_X7_56 rfl rfl hin ⟨rfl, rfl⟩ (Nat.le_of_ble_eq_true rfl) dX7_init_92 (fun H locs hW => ?_)
  have hW : k_W A s D ((h0, .inr (7, [.ref q0, .ref q1, .ref q2, .ref q3, .ref q4, .ref q5, .ref q6, .ref q7])) :: (((((((txW cA gx ++ rmW cA r0) ++ rmW cA r1) ++ evW cA ge) ++ ((gs 0, .inr (3, [.ref (gs 1), .ref (gs 2), .ref (gs 3), .int 0])) :: (gs 1, .inl (cA 1, 8, kQ (rwF 8 gi))) :: (gs 2, kI cA 7) :: (gs 3, kI cA 7) :: irL 8 gi)) ++ siW cA gg) ++ ((gp 0, .inr (4, [.ref (gp 1), .int 0])) :: (gp 1, .inl (cA 2, 8, kQ (rwF 8 (fun j => rp j 0)))) :: roL cA 8 rp)) ++ ((gk 0, .inr (4, [.ref (gk 1), .int 0])) :: (gk 1, .inl (cA 2, 2, kQ (rwF 2 (fun j => rk j 0)))) :: roL cA 2 rk))) _ _ := hW
  obtain ⟨hP9, hD9, hS9⟩ := hW
  rw [← hg0, ← hg1, ← hg2, ← hg3, ← hg4, ← hg5, ← hg6, ← hg7, asm (D := D)] at hP9 hD9
  obtain ⟨ad, ead⟩ : ∃ ad, ad = adC h0 gx r0 r1 ge gs gi gg gp rp gk rk := ⟨_, rfl⟩
  have ea0 : ad (aS 0) = h0 := by rw [ead]; rfl
  rw [← ead] at hP9 hD9
  obtain ⟨hH9, hJ9, hA9⟩ := q_of_ws (b := false) (w := (D, cA, ad)) ordL_al hP9 hD9
  have hqA : ∀ q, q_A false (D, cA, ad) q → A q := by
    rintro q ⟨a, ha, rfl⟩
    exact hA9 a ha
  have X : q_X false (D, cA, ad) p s m _ c RX7 cX7_init 2 rm7 20 110 891 := ⟨hx, hb, hml, hown, fun z hz => hts z (List.mem_cons_of_mem _ hz), hG.2.1, hG.1, hJ9, Nat.le_refl _, Nat.le_refl _, Nat.le_refl _, Nat.le_refl _⟩
  have K9 : x_X p s m _ c RX7 cX7_init 2 := ⟨hx, hb, hml, hown, fun z hz => hts z (List.mem_cons_of_mem _ hz)⟩
  rw [← hAe] at hSt
  have hB9 : ∀ (H : Heap) (locs : List Loc), va_S (q_A false (D, cA, ad)) s.heap H locs → (∀ U : State, U.heap = H → s.WarmedH U.vm → k_B sK sV U) ∧ ∃ cell : Cell, H[sK]? = some cell ∧ cell.vm.isStatics = false ∧ s.vm.findClass RJ0 = some cell.cls := by
    intro H locs hS
    have hk9 : k_St A sK sV s H := hSt.kept (fun a h1 h2 => hS.2.1 a h1 (fun z => h2 (hqA a z)))
    refine ⟨fun U hU hW => ?_, ?_⟩
    · unfold k_B
      rw [hU]
      exact (k_St.moved hW.alike hk9).narrow (fun _ h => h.elim)
    · obtain ⟨cell, h1, h2, h3, -⟩ := hk9.2.2.2.2.1
      exact ⟨cell, h1, h2, h3⟩
  have fin := k7_tail (C := q_C l false (D, cA, ad)) (q_Lg hJ9) (d := 20) (Q := fun _ _ => True) (Z := q_Z false (D, cA, ad) p l e rm7 s m _ below meth c 2 110 891 (MQ below (k_post7 D cA h0 s.heap.size) [Value.ref h0].toArray s 110 891 (va_A [(h0, e7)] s.heap.size))) (by omega) (cl_X7_init X) (fun ls st M hst hz H locs la hH hS hl hn => by
      refine va_ldcS hx hb hown hvR dX7_init_98 ?_
      refine k_cV K9 hl.1 (As := []) (n := 0) (rest := st.map (q_v (D, cA, ad))) (k_len l sK sV 0) k_bB z_c_len z_m_len z_i_len z_e_len z_n_J0 (by decide +kernel) rfl ⟨Nat.le_of_ble_eq_true rfl, Nat.le_of_ble_eq_true rfl⟩ (hB9 H locs hS).1 (hB9 H locs hS).2 (by rw [q_cat]; exact Nat.le_of_ble_eq_true hst) ⟨Nat.le_refl _, Nat.le_refl _⟩ rfl dX7_init_100 ?_
      exact hz H locs la hH hS hl hn) (fun ls st M i hg hi hst hz H locs la hH hS hl hn => by
      refine va_ldcS hx hb hown hvR dX7_init_110 ?_
      refine lv_iload_n hx hb dX7_init_112 rfl (q_get hl hg) ?_
      refine k_cV K9 hl.1 (As := [.int (nI i)]) (n := 1) (rest := st.map (q_v (D, cA, ad))) (k_cat l sK sV 0 hi) k_bB z_c_cat z_m_cat z_i_cat z_e_cat z_n_J0 (by decide +kernel) rfl ⟨Nat.le_of_ble_eq_true rfl, Nat.le_of_ble_eq_true rfl⟩ (hB9 H locs hS).1 (hB9 H locs hS).2 (by rw [q_cat]; have := Nat.le_of_ble_eq_true hst; omega) ⟨Nat.le_refl _, Nat.le_refl _⟩ rfl dX7_init_113 ?_
      exact hz H locs la hH hS hl hn) (fun M ls hcS hM2 H locs la hH hS hl hn => by
      refine W.vret hx hb hr (fun t ht hW => ⟨⟨rfl, ad, M, by rw [ht]; exact hH, hJ9, fun a ha => by rw [← hAe]; exact hA9 a ha, ea0, hcS, hM2⟩, ?_⟩) (fun q hq => by rw [← hAe]; exact hqA _ (hS.2.2 q hq)) dX7_init_145 hk
      rw [← hAe]
      exact ⟨by rw [ht]; exact hS.1, fun q h1 h2 => by rw [ht]; exact hS.2.1 q h1 (fun z => h2 (hqA q z))⟩)
  refine W_loc (locs' := _root_.List.filter (fun y => decide (y.base < s.heap.size)) _) (fun y hy hlt => List.mem_filter.mpr ⟨hy, decide_eq_true hlt⟩) ?_
  refine fin _ _ ls hH9 ⟨hS9.1, fun q h1 h2 => hS9.2.1 q h1 (fun z => h2 ?_), fun y hy => ?_⟩ ⟨hl.1, hl.2.1, fun q hq => ?_⟩ rfl
  · rw [hAe] at z
    rcases z with ⟨k, e, z⟩ | z
    · have hk0 : k = 0 := by
        have := (List.getElem?_eq_some_iff.mp z).1
        simp at this
        exact this
      subst hk0
      have hq : q = h0 := (congrArg Prod.fst (Option.some.inj z)).symm
      exact ⟨aS 0, rfl, by rw [hq]; exact ea0.symm⟩
    · omega
  · obtain ⟨hy1, hy2⟩ := List.mem_filter.mp hy
    have hy2 : y.base < s.heap.size := of_decide_eq_true hy2
    have z := hS9.2.2 y hy1
    rw [hAe] at z
    rcases z with ⟨k, e, z⟩ | z
    · have hk0 : k = 0 := by
        have := (List.getElem?_eq_some_iff.mp z).1
        simp at this
        exact this
      subst hk0
      have hq : y.base = h0 := (congrArg Prod.fst (Option.some.inj z)).symm
      exact ⟨aS 0, rfl, by rw [hq]; exact ea0.symm⟩
    · exact absurd hy2 (Nat.not_lt.mpr z)
  · have e9 : q_lv (D, cA, ad) 0 [some (vR (aS 0)), none] = [(0, .ref (ad (aS 0)))] := rfl
    rw [e9, ea0] at hq
    exact hl.2.2 q hq
