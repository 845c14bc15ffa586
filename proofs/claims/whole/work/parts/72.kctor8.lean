abbrev e8 : va_E := .inr (8, [.int 0, .int 0, .int 0, .int 0, .null, .null, .null, .null, .null, .null, .int 0, .null, .null, .null, .int 0, .int 0, .int 0, .int 0, .int 0, .null, .null, .null, .null, .int 0, .null, .null, .null, .int 0, .int 0, .null, .int 0, .null, .null, .null, .int 0])
/-- what the model's constructor may change: the class's cells (it doesn't), the object, new cells -/
def k_A8 (w : pW) (h0 sz : Nat) : Nat → Prop := fun q => q_A false w q ∨ va_A [(h0, e8)] sz q
def k_pre8 (D : va_G) (cA : Nat → ClassId) (ad : pA → Nat) (M : pM) (h0 sz : Nat) : Array Value → State → Prop := va_Pc [.ref h0] (fun U => U.heap.size = sz ∧ va_P D vwCl [(h0, e8)] U.heap ∧ k_G D cA U ∧ va_D (fun _ => True) [(h0, e8)] ∧ q_H false (D, cA, ad) M U.heap)
def k_post8 (D : va_G) (cA : Nat → ClassId) (ad : pA → Nat) (xb h0 sz : Nat) : Array Value → State → Outcome → State → Prop := fun _ st oc t => (oc = .returned none ∧ ∃ (ad' : pA → Nat) (M' : pM), (∀ a, p_al false a = true → ad' a = ad a) ∧ q_H true (D, cA, ad') M' t.heap ∧ q_J true (D, cA, ad') ∧ (∀ a, p_al true a = true → k_A8 (D, cA, ad) h0 sz (ad' a)) ∧ ad' (aS 18) = h0 ∧ ad' (aS 39) = xb ∧ cS M' S0 ∧ mS M' S0) ∧ va_F (k_A8 (D, cA, ad) h0 sz) st t
def rm8 : Room := { frames := 20, cells := 20, slots := 712, locals := 1280 }
theorem k_bl8 {D : va_G} {cA : Nat → ClassId} {ad : pA → Nat} {M : pM} {h0 sz : Nat} : FrameBlind (k_pre8 D cA ad M h0 sz) := by
  rintro a U g mk ⟨h1, h2, h3, ⟨h4, h5, h6, h7⟩, h8, h9⟩
  exact ⟨h1, h2, h3, ⟨va_K.moved (u := U) (U := U.calling g mk a) (Vm.Alike.refl U.vm) h4, fun z hz => va_Nw.same (u := U) (U := U.calling g mk a) (p_N_tab hz) rfl (h5 z hz), va_AO.moved (u := U) (U := U.calling g mk a) (Vm.Alike.refl U.vm) h6, va_AO.moved (u := U) (U := U.calling g mk a) (Vm.Alike.refl U.vm) h7⟩, h8, h9⟩
set_option maxHeartbeats 8000000 in
set_option maxRecDepth 100000 in
theorem k_X8 (l : Launch) (D : va_G) (cA : Nat → ClassId) (ad : pA → Nat) (M : pM) (xb h0 sz : Nat) (hM2 : M.2 = M0.2) (hcS : cS M S0) (hJ : q_J false (D, cA, ad)) (hne : ∀ a, p_al false a = true → ad a ≠ h0) : Met l yX8_init (Cond.code yX8_init cX8_init 1 none :: p_T) rm8 (k_pre8 D cA ad M h0 sz) (k_post8 D cA ad xb h0 sz) 20 712 (k_A8 (D, cA, ad) h0 sz) := by
  refine Met.ofW (cc := cX8_init) (maxL := 1) (ret := none) (by decide +kernel) rfl ?_
  intro p e s m args below meth c s₁ B hml hv
  obtain ⟨rfl, hsz, hP, hG, hD0, hH⟩ := hv
  subst hsz
  have hts := atoms_spec (ws := Cond.code yX8_init cX8_init 1 none :: p_T) B.pre
  have hown : s.vm.findClass RX8 = some m.cls := findClass_of_methodNamed B.named
  have hin : meth.name = "<init>" := (name_of_methodNamed B.named B.method).1
  have hr := B.returns
  have hk := B.notSynchronized
  have K : k_X D cA p s m _ c RX8 cX8_init 1 := ⟨B.exec, B.bytes, hml, hown, fun z hz => hts z (List.mem_cons_of_mem _ hz), hG⟩
  have hl := lv_entry [.ref h0] (n := 1) (Nat.le_of_ble_eq_true rfl)
  rw [lg_entry_eq]
  generalize (lg_sl [.ref h0] ++ List.replicate (1 - (lg_sl [.ref h0]).length) Slot.unset).toArray = ls at hl ⊢
  have hl : lv_has ls 1 [(0, .ref h0)] := hl
  obtain ⟨A, hAe⟩ : ∃ A, A = va_A [(h0, e8)] s.heap.size := ⟨_, rfl⟩
  have hA : ∀ q, s.heap.size ≤ q → A q := fun q h => by rw [hAe]; exact Or.inr h
  have hW : k_W A s D [(h0, e8)] s.heap [] := by rw [hAe]; exact ⟨hP, hD0.self, va_S.rf⟩
  have hx := K.1
  have hb := K.2.1
  refine lv_aload_n hx hb dX8_init_0 rfl (lv_at hl 0 rfl) ?_
  refine k_obj K hl.1 u_o_X8 (Nat.le_of_ble_eq_true rfl) (Nat.le_of_ble_eq_true rfl) rfl dX8_init_1 ?_
  refine lv_aload_n hx hb dX8_init_4 rfl (lv_at hl 0 rfl) ?_
  refine lv_iconst (v := nI 5) hx hb dX8_init_5 (by decide) ?_
  refine k_newa K hA hW 5 rfl (by omega) (Nat.le_of_ble_eq_true rfl) (Nat.le_of_ble_eq_true rfl) dX8_init_6 (fun q6 H hW => ?_)
  have hW : k_W A s D ((h0, .inr (8, [.int 0, .int 0, .int 0, .int 0, .null, .null, .null, .null, .null, .null, .int 0, .null, .null, .null, .int 0, .int 0, .int 0, .int 0, .int 0, .null, .null, .null, .null, .int 0, .null, .null, .null, .int 0, .int 0, .null, .int 0, .null, .null, .null, .int 0])) :: [(q6, kI cA 5)]) H _ := hW
  refine W.widen (k := 1) (n := 5) (Nat.le_of_ble_eq_true rfl) (Nat.le_of_ble_eq_true rfl) ?_
  refine k_putF K hW rfl inX8 tyX8 tyX8_ok nmX8 4 (by decide) u_f_X8_9 rfl rfl hin ⟨rfl, rfl⟩ (Nat.le_of_ble_eq_true rfl) dX8_init_8 (fun H locs hW => ?_)
  have hW : k_W A s D ((h0, .inr (8, [.int 0, .int 0, .int 0, .int 0, .ref q6, .null, .null, .null, .null, .null, .int 0, .null, .null, .null, .int 0, .int 0, .int 0, .int 0, .int 0, .null, .null, .null, .null, .int 0, .null, .null, .null, .int 0, .int 0, .null, .int 0, .null, .null, .null, .int 0])) :: [(q6, kI cA 5)]) H _ := hW
  refine lv_aload_n hx hb dX8_init_11 rfl (lv_at hl 0 rfl) ?_
  refine lv_iconst (v := nI 5) hx hb dX8_init_12 (by decide) ?_
  refine k_newa K hA hW 5 rfl (by omega) (Nat.le_of_ble_eq_true rfl) (Nat.le_of_ble_eq_true rfl) dX8_init_13 (fun q13 H hW => ?_)
  have hW : k_W A s D ((h0, .inr (8, [.int 0, .int 0, .int 0, .int 0, .ref q6, .null, .null, .null, .null, .null, .int 0, .null, .null, .null, .int 0, .int 0, .int 0, .int 0, .int 0, .null, .null, .null, .null, .int 0, .null, .null, .null, .int 0, .int 0, .null, .int 0, .null, .null, .null, .int 0])) :: [(q6, kI cA 5), (q13, kI cA 5)]) H _ := hW
  refine W.widen (k := 2) (n := 10) (Nat.le_of_ble_eq_true rfl) (Nat.le_of_ble_eq_true rfl) ?_
  refine k_putF K hW rfl inX8 tyX8 tyX8_ok nmX8 5 (by decide) u_f_X8_13 rfl rfl hin ⟨rfl, rfl⟩ (Nat.le_of_ble_eq_true rfl) dX8_init_15 (fun H locs hW => ?_)
  have hW : k_W A s D ((h0, .inr (8, [.int 0, .int 0, .int 0, .int 0, .ref q6, .ref q13, .null, .null, .null, .null, .int 0, .null, .null, .null, .int 0, .int 0, .int 0, .int 0, .int 0, .null, .null, .null, .null, .int 0, .null, .null, .null, .int 0, .int 0, .null, .int 0, .null, .null, .null, .int 0])) :: [(q6, kI cA 5), (q13, kI cA 5)]) H _ := hW
  refine lv_aload_n hx hb dX8_init_18 rfl (lv_at hl 0 rfl) ?_
  refine lv_bipush (v := nI 8) hx hb dX8_init_19 (by decide) ?_
  refine k_newa K hA hW 8 rfl (by omega) (Nat.le_of_ble_eq_true rfl) (Nat.le_of_ble_eq_true rfl) dX8_init_21 (fun q21 H hW => ?_)
  have hW : k_W A s D ((h0, .inr (8, [.int 0, .int 0, .int 0, .int 0, .ref q6, .ref q13, .null, .null, .null, .null, .int 0, .null, .null, .null, .int 0, .int 0, .int 0, .int 0, .int 0, .null, .null, .null, .null, .int 0, .null, .null, .null, .int 0, .int 0, .null, .int 0, .null, .null, .null, .int 0])) :: [(q6, kI cA 5), (q13, kI cA 5), (q21, kI cA 8)]) H _ := hW
  refine W.widen (k := 3) (n := 18) (Nat.le_of_ble_eq_true rfl) (Nat.le_of_ble_eq_true rfl) ?_
  refine k_putF K hW rfl inX8 tyX8 tyX8_ok nmX8 6 (by decide) u_f_X8_16 rfl rfl hin ⟨rfl, rfl⟩ (Nat.le_of_ble_eq_true rfl) dX8_init_23 (fun H locs hW => ?_)
  have hW : k_W A s D ((h0, .inr (8, [.int 0, .int 0, .int 0, .int 0, .ref q6, .ref q13, .ref q21, .null, .null, .null, .int 0, .null, .null, .null, .int 0, .int 0, .int 0, .int 0, .int 0, .null, .null, .null, .null, .int 0, .null, .null, .null, .int 0, .int 0, .null, .int 0, .null, .null, .null, .int 0])) :: [(q6, kI cA 5), (q13, kI cA 5), (q21, kI cA 8)]) H _ := hW
  refine lv_aload_n hx hb dX8_init_26 rfl (lv_at hl 0 rfl) ?_
  refine lv_bipush (v := nI 8) hx hb dX8_init_27 (by decide) ?_
  refine k_newa K hA hW 8 rfl (by omega) (Nat.le_of_ble_eq_true rfl) (Nat.le_of_ble_eq_true rfl) dX8_init_29 (fun q29 H hW => ?_)
  have hW : k_W A s D ((h0, .inr (8, [.int 0, .int 0, .int 0, .int 0, .ref q6, .ref q13, .ref q21, .null, .null, .null, .int 0, .null, .null, .null, .int 0, .int 0, .int 0, .int 0, .int 0, .null, .null, .null, .null, .int 0, .null, .null, .null, .int 0, .int 0, .null, .int 0, .null, .null, .null, .int 0])) :: [(q6, kI cA 5), (q13, kI cA 5), (q21, kI cA 8), (q29, kI cA 8)]) H _ := hW
  refine W.widen (k := 4) (n := 26) (Nat.le_of_ble_eq_true rfl) (Nat.le_of_ble_eq_true rfl) ?_
  refine k_putF K hW rfl inX8 tyX8 tyX8_ok nmX8 7 (by decide) u_f_X8_19 rfl rfl hin ⟨rfl, rfl⟩ (Nat.le_of_ble_eq_true rfl) dX8_init_31 (fun H locs hW => ?_)
  have hW : k_W A s D ((h0, .inr (8, [.int 0, .int 0, .int 0, .int 0, .ref q6, .ref q13, .ref q21, .ref q29, .null, .null, .int 0, .null, .null, .null, .int 0, .int 0, .int 0, .int 0, .int 0, .null, .null, .null, .null, .int 0, .null, .null, .null, .int 0, .int 0, .null, .int 0, .null, .null, .null, .int 0])) :: [(q6, kI cA 5), (q13, kI cA 5), (q21, kI cA 8), (q29, kI cA 8)]) H _ := hW
  refine lv_aload_n hx hb dX8_init_34 rfl (lv_at hl 0 rfl) ?_
  refine lv_bipush (v := nI 8) hx hb dX8_init_35 (by decide) ?_
  refine k_newa K hA hW 8 rfl (by omega) (Nat.le_of_ble_eq_true rfl) (Nat.le_of_ble_eq_true rfl) dX8_init_37 (fun q37 H hW => ?_)
  have hW : k_W A s D ((h0, .inr (8, [.int 0, .int 0, .int 0, .int 0, .ref q6, .ref q13, .ref q21, .ref q29, .null, .null, .int 0, .null, .null, .null, .int 0, .int 0, .int 0, .int 0, .int 0, .null, .null, .null, .null, .int 0, .null, .null, .null, .int 0, .int 0, .null, .int 0, .null, .null, .null, .int 0])) :: [(q6, kI cA 5), (q13, kI cA 5), (q21, kI cA 8), (q29, kI cA 8), (q37, kI cA 8)]) H _ := hW
  refine W.widen (k := 5) (n := 34) (Nat.le_of_ble_eq_true rfl) (Nat.le_of_ble_eq_true rfl) ?_
  refine k_putF K hW rfl inX8 tyX8 tyX8_ok nmX8 8 (by decide) u_f_X8_22 rfl rfl hin ⟨rfl, rfl⟩ (Nat.le_of_ble_eq_true rfl) dX8_init_39 (fun H locs hW => ?_)
  have hW : k_W A s D ((h0, .inr (8, [.int 0, .int 0, .int 0, .int 0, .ref q6, .ref q13, .ref q21, .ref q29, .ref q37, .null, .int 0, .null, .null, .null, .int 0, .int 0, .int 0, .int 0, .int 0, .null, .null, .null, .null, .int 0, .null, .null, .null, .int 0, .int 0, .null, .int 0, .null, .null, .null, .int 0])) :: [(q6, kI cA 5), (q13, kI cA 5), (q21, kI cA 8), (q29, kI cA 8), (q37, kI cA 8)]) H _ := hW
  refine lv_aload_n hx hb dX8_init_42 rfl (lv_at hl 0 rfl) ?_
  refine lv_bipush (v := nI 8) hx hb dX8_init_43 (by decide) ?_
  refine k_newa K hA hW 8 rfl (by omega) (Nat.le_of_ble_eq_true rfl) (Nat.le_of_ble_eq_true rfl) dX8_init_45 (fun q45 H hW => ?_)
  have hW : k_W A s D ((h0, .inr (8, [.int 0, .int 0, .int 0, .int 0, .ref q6, .ref q13, .ref q21, .ref q29, .ref q37, .null, .int 0, .null, .null, .null, .int 0, .int 0, .int 0, .int 0, .int 0, .null, .null, .null, .null, .int 0, .null, .null, .null, .int 0, .int 0, .null, .int 0, .null, .null, .null, .int 0])) :: [(q6, kI cA 5), (q13, kI cA 5), (q21, kI cA 8), (q29, kI cA 8), (q37, kI cA 8), (q45, kI cA 8)]) H _ := hW
  refine W.widen (k := 6) (n := 42) (Nat.le_of_ble_eq_true rfl) (Nat.le_of_ble_eq_true rfl) ?_
  refine k_putF K hW rfl inX8 tyX8 tyX8_ok nmX8 9 (by decide) u_f_X8_25 rfl rfl hin ⟨rfl, rfl⟩ (Nat.le_of_ble_eq_true rfl) dX8_init_47 (fun H locs hW => ?_)
  have hW : k_W A s D ((h0, .inr (8, [.int 0, .int 0, .int 0, .int 0, .ref q6, .ref q13, .ref q21, .ref q29, .ref q37, .ref q45, .int 0, .null, .null, .null, .int 0, .int 0, .int 0, .int 0, .int 0, .null, .null, .null, .null, .int 0, .null, .null, .null, .int 0, .int 0, .null, .int 0, .null, .null, .null, .int 0])) :: [(q6, kI cA 5), (q13, kI cA 5), (q21, kI cA 8), (q29, kI cA 8), (q37, kI cA 8), (q45, kI cA 8)]) H _ := hW
  refine lv_aload_n hx hb dX8_init_50 rfl (lv_at hl 0 rfl) ?_
  refine lv_bipush (v := nI 6) hx hb dX8_init_51 (by decide) ?_
  refine k_newa K hA hW 6 rfl (by omega) (Nat.le_of_ble_eq_true rfl) (Nat.le_of_ble_eq_true rfl) dX8_init_53 (fun q53 H hW => ?_)
  have hW : k_W A s D ((h0, .inr (8, [.int 0, .int 0, .int 0, .int 0, .ref q6, .ref q13, .ref q21, .ref q29, .ref q37, .ref q45, .int 0, .null, .null, .null, .int 0, .int 0, .int 0, .int 0, .int 0, .null, .null, .null, .null, .int 0, .null, .null, .null, .int 0, .int 0, .null, .int 0, .null, .null, .null, .int 0])) :: [(q6, kI cA 5), (q13, kI cA 5), (q21, kI cA 8), (q29, kI cA 8), (q37, kI cA 8), (q45, kI cA 8), (q53, kI cA 6)]) H _ := hW
  refine W.widen (k := 7) (n := 48) (Nat.le_of_ble_eq_true rfl) (Nat.le_of_ble_eq_true rfl) ?_
  refine k_putF K hW rfl inX8 tyX8 tyX8_ok nmX8 11 (by decide) u_f_X8_28 rfl rfl hin ⟨rfl, rfl⟩ (Nat.le_of_ble_eq_true rfl) dX8_init_55 (fun H locs hW => ?_)
  have hW : k_W A s D ((h0, .inr (8, [.int 0, .int 0, .int 0, .int 0, .ref q6, .ref q13, .ref q21, .ref q29, .ref q37, .ref q45, .int 0, .ref q53, .null, .null, .int 0, .int 0, .int 0, .int 0, .int 0, .null, .null, .null, .null, .int 0, .null, .null, .null, .int 0, .int 0, .null, .int 0, .null, .null, .null, .int 0])) :: [(q6, kI cA 5), (q13, kI cA 5), (q21, kI cA 8), (q29, kI cA 8), (q37, kI cA 8), (q45, kI cA 8), (q53, kI cA 6)]) H _ := hW
  refine lv_aload_n hx hb dX8_init_58 rfl (lv_at hl 0 rfl) ?_
  refine lv_bipush (v := nI 6) hx hb dX8_init_59 (by decide) ?_
  refine k_newa K hA hW 6 rfl (by omega) (Nat.le_of_ble_eq_true rfl) (Nat.le_of_ble_eq_true rfl) dX8_init_61 (fun q61 H hW => ?_)
  have hW : k_W A s D ((h0, .inr (8, [.int 0, .int 0, .int 0, .int 0, .ref q6, .ref q13, .ref q21, .ref q29, .ref q37, .ref q45, .int 0, .ref q53, .null, .null, .int 0, .int 0, .int 0, .int 0, .int 0, .null, .null, .null, .null, .int 0, .null, .null, .null, .int 0, .int 0, .null, .int 0, .null, .null, .null, .int 0])) :: [(q6, kI cA 5), (q13, kI cA 5), (q21, kI cA 8), (q29, kI cA 8), (q37, kI cA 8), (q45, kI cA 8), (q53, kI cA 6), (q61, kI cA 6)]) H _ := hW
  refine W.widen (k := 8) (n := 54) (Nat.le_of_ble_eq_true rfl) (Nat.le_of_ble_eq_true rfl) ?_
  refine k_putF K hW rfl inX8 tyX8 tyX8_ok nmX8 12 (by decide) u_f_X8_31 rfl rfl hin ⟨rfl, rfl⟩ (Nat.le_of_ble_eq_true rfl) dX8_init_63 (fun H locs hW => ?_)
  have hW : k_W A s D ((h0, .inr (8, [.int 0, .int 0, .int 0, .int 0, .ref q6, .ref q13, .ref q21, .ref q29, .ref q37, .ref q45, .int 0, .ref q53, .ref q61, .null, .int 0, .int 0, .int 0, .int 0, .int 0, .null, .null, .null, .null, .int 0, .null, .null, .null, .int 0, .int 0, .null, .int 0, .null, .null, .null, .int 0])) :: [(q6, kI cA 5), (q13, kI cA 5), (q21, kI cA 8), (q29, kI cA 8), (q37, kI cA 8), (q45, kI cA 8), (q53, kI cA 6), (q61, kI cA 6)]) H _ := hW
  refine lv_aload_n hx hb dX8_init_66 rfl (lv_at hl 0 rfl) ?_
  refine lv_sipush (v := nI 200) hx hb dX8_init_67 (by decide) ?_
  refine k_newa K hA hW 200 rfl (by omega) (Nat.le_of_ble_eq_true rfl) (Nat.le_of_ble_eq_true rfl) dX8_init_70 (fun q70 H hW => ?_)
  have hW : k_W A s D ((h0, .inr (8, [.int 0, .int 0, .int 0, .int 0, .ref q6, .ref q13, .ref q21, .ref q29, .ref q37, .ref q45, .int 0, .ref q53, .ref q61, .null, .int 0, .int 0, .int 0, .int 0, .int 0, .null, .null, .null, .null, .int 0, .null, .null, .null, .int 0, .int 0, .null, .int 0, .null, .null, .null, .int 0])) :: [(q6, kI cA 5), (q13, kI cA 5), (q21, kI cA 8), (q29, kI cA 8), (q37, kI cA 8), (q45, kI cA 8), (q53, kI cA 6), (q61, kI cA 6), (q70, kI cA 200)]) H _ := hW
  refine W.widen (k := 9) (n := 254) (Nat.le_of_ble_eq_true rfl) (Nat.le_of_ble_eq_true rfl) ?_
  refine k_putF K hW rfl inX8 tyX8 tyX8_ok nmX8 13 (by decide) u_f_X8_34 rfl rfl hin ⟨rfl, rfl⟩ (Nat.le_of_ble_eq_true rfl) dX8_init_72 (fun H locs hW => ?_)
  have hW : k_W A s D ((h0, .inr (8, [.int 0, .int 0, .int 0, .int 0, .ref q6, .ref q13, .ref q21, .ref q29, .ref q37, .ref q45, .int 0, .ref q53, .ref q61, .ref q70, .int 0, .int 0, .int 0, .int 0, .int 0, .null, .null, .null, .null, .int 0, .null, .null, .null, .int 0, .int 0, .null, .int 0, .null, .null, .null, .int 0])) :: [(q6, kI cA 5), (q13, kI cA 5), (q21, kI cA 8), (q29, kI cA 8), (q37, kI cA 8), (q45, kI cA 8), (q53, kI cA 6), (q61, kI cA 6), (q70, kI cA 200)]) H _ := hW
  refine lv_aload_n hx hb dX8_init_75 rfl (lv_at hl 0 rfl) ?_
  refine lv_iconst (v := nI 5) hx hb dX8_init_76 (by decide) ?_
  refine k_newa K hA hW 5 rfl (by omega) (Nat.le_of_ble_eq_true rfl) (Nat.le_of_ble_eq_true rfl) dX8_init_77 (fun q77 H hW => ?_)
  have hW : k_W A s D ((h0, .inr (8, [.int 0, .int 0, .int 0, .int 0, .ref q6, .ref q13, .ref q21, .ref q29, .ref q37, .ref q45, .int 0, .ref q53, .ref q61, .ref q70, .int 0, .int 0, .int 0, .int 0, .int 0, .null, .null, .null, .null, .int 0, .null, .null, .null, .int 0, .int 0, .null, .int 0, .null, .null, .null, .int 0])) :: [(q6, kI cA 5), (q13, kI cA 5), (q21, kI cA 8), (q29, kI cA 8), (q37, kI cA 8), (q45, kI cA 8), (q53, kI cA 6), (q61, kI cA 6), (q70, kI cA 200), (q77, kI cA 5)]) H _ := hW
  refine W.widen (k := 10) (n := 259) (Nat.le_of_ble_eq_true rfl) (Nat.le_of_ble_eq_true rfl) ?_
  refine k_putF K hW rfl inX8 tyX8 tyX8_ok nmX8 19 (by decide) u_f_X8_37 rfl rfl hin ⟨rfl, rfl⟩ (Nat.le_of_ble_eq_true rfl) dX8_init_79 (fun H locs hW => ?_)
  have hW : k_W A s D ((h0, .inr (8, [.int 0, .int 0, .int 0, .int 0, .ref q6, .ref q13, .ref q21, .ref q29, .ref q37, .ref q45, .int 0, .ref q53, .ref q61, .ref q70, .int 0, .int 0, .int 0, .int 0, .int 0, .ref q77, .null, .null, .null, .int 0, .null, .null, .null, .int 0, .int 0, .null, .int 0, .null, .null, .null, .int 0])) :: [(q6, kI cA 5), (q13, kI cA 5), (q21, kI cA 8), (q29, kI cA 8), (q37, kI cA 8), (q45, kI cA 8), (q53, kI cA 6), (q61, kI cA 6), (q70, kI cA 200), (q77, kI cA 5)]) H _ := hW
  refine lv_aload_n hx hb dX8_init_82 rfl (lv_at hl 0 rfl) ?_
  refine lv_iconst (v := nI 5) hx hb dX8_init_83 (by decide) ?_
  refine k_newa K hA hW 5 rfl (by omega) (Nat.le_of_ble_eq_true rfl) (Nat.le_of_ble_eq_true rfl) dX8_init_84 (fun q84 H hW => ?_)
  have hW : k_W A s D ((h0, .inr (8, [.int 0, .int 0, .int 0, .int 0, .ref q6, .ref q13, .ref q21, .ref q29, .ref q37, .ref q45, .int 0, .ref q53, .ref q61, .ref q70, .int 0, .int 0, .int 0, .int 0, .int 0, .ref q77, .null, .null, .null, .int 0, .null, .null, .null, .int 0, .int 0, .null, .int 0, .null, .null, .null, .int 0])) :: [(q6, kI cA 5), (q13, kI cA 5), (q21, kI cA 8), (q29, kI cA 8), (q37, kI cA 8), (q45, kI cA 8), (q53, kI cA 6), (q61, kI cA 6), (q70, kI cA 200), (q77, kI cA 5), (q84, kI cA 5)]) H _ := hW
  refine W.widen (k := 11) (n := 264) (Nat.le_of_ble_eq_true rfl) (Nat.le_of_ble_eq_true rfl) ?_
  refine k_putF K hW rfl inX8 tyX8 tyX8_ok nmX8 20 (by decide) u_f_X8_40 rfl rfl hin ⟨rfl, rfl⟩ (Nat.le_of_ble_eq_true rfl) dX8_init_86 (fun H locs hW => ?_)
  have hW : k_W A s D ((h0, .inr (8, [.int 0, .int 0, .int 0, .int 0, .ref q6, .ref q13, .ref q21, .ref q29, .ref q37, .ref q45, .int 0, .ref q53, .ref q61, .ref q70, .int 0, .int 0, .int 0, .int 0, .int 0, .ref q77, .ref q84, .null, .null, .int 0, .null, .null, .null, .int 0, .int 0, .null, .int 0, .null, .null, .null, .int 0])) :: [(q6, kI cA 5), (q13, kI cA 5), (q21, kI cA 8), (q29, kI cA 8), (q37, kI cA 8), (q45, kI cA 8), (q53, kI cA 6), (q61, kI cA 6), (q70, kI cA 200), (q77, kI cA 5), (q84, kI cA 5)]) H _ := hW
  refine lv_aload_n hx hb dX8_init_89 rfl (lv_at hl 0 rfl) ?_
  refine lv_bipush (v := nI 6) hx hb dX8_init_90 (by decide) ?_
  refine k_newa K hA hW 6 rfl (by omega) (Nat.le_of_ble_eq_true rfl) (Nat.le_of_ble_eq_true rfl) dX8_init_92 (fun q92 H hW => ?_)
  have hW : k_W A s D ((h0, .inr (8, [.int 0, .int 0, .int 0, .int 0, .ref q6, .ref q13, .ref q21, .ref q29, .ref q37, .ref q45, .int 0, .ref q53, .ref q61, .ref q70, .int 0, .int 0, .int 0, .int 0, .int 0, .ref q77, .ref q84, .null, .null, .int 0, .null, .null, .null, .int 0, .int 0, .null, .int 0, .null, .null, .null, .int 0])) :: [(q6, kI cA 5), (q13, kI cA 5), (q21, kI cA 8), (q29, kI cA 8), (q37, kI cA 8), (q45, kI cA 8), (q53, kI cA 6), (q61, kI cA 6), (q70, kI cA 200), (q77, kI cA 5), (q84, kI cA 5), (q92, kI cA 6)]) H _ := hW
  refine W.widen (k := 12) (n := 270) (Nat.le_of_ble_eq_true rfl) (Nat.le_of_ble_eq_true rfl) ?_
  refine k_putF K hW rfl inX8 tyX8 tyX8_ok nmX8 21 (by decide) u_f_X8_43 rfl rfl hin ⟨rfl, rfl⟩ (Nat.le_of_ble_eq_true rfl) dX8_init_94 (fun H locs hW => ?_)
  have hW : k_W A s D ((h0, .inr (8, [.int 0, .int 0, .int 0, .int 0, .ref q6, .ref q13, .ref q21, .ref q29, .ref q37, .ref q45, .int 0, .ref q53, .ref q61, .ref q70, .int 0, .int 0, .int 0, .int 0, .int 0, .ref q77, .ref q84, .ref q92, .null, .int 0, .null, .null, .null, .int 0, .int 0, .null, .int 0, .null, .null, .null, .int 0])) :: [(q6, kI cA 5), (q13, kI cA 5), (q21, kI cA 8), (q29, kI cA 8), (q37, kI cA 8), (q45, kI cA 8), (q53, kI cA 6), (q61, kI cA 6), (q70, kI cA 200), (q77, kI cA 5), (q84, kI cA 5), (q92, kI cA 6)]) H _ := hW
  refine lv_aload_n hx hb dX8_init_97 rfl (lv_at hl 0 rfl) ?_
  refine lv_bipush (v := nI 28) hx hb dX8_init_98 (by decide) ?_
  refine k_newa K hA hW 28 rfl (by omega) (Nat.le_of_ble_eq_true rfl) (Nat.le_of_ble_eq_true rfl) dX8_init_100 (fun q100 H hW => ?_)
  have hW : k_W A s D ((h0, .inr (8, [.int 0, .int 0, .int 0, .int 0, .ref q6, .ref q13, .ref q21, .ref q29, .ref q37, .ref q45, .int 0, .ref q53, .ref q61, .ref q70, .int 0, .int 0, .int 0, .int 0, .int 0, .ref q77, .ref q84, .ref q92, .null, .int 0, .null, .null, .null, .int 0, .int 0, .null, .int 0, .null, .null, .null, .int 0])) :: [(q6, kI cA 5), (q13, kI cA 5), (q21, kI cA 8), (q29, kI cA 8), (q37, kI cA 8), (q45, kI cA 8), (q53, kI cA 6), (q61, kI cA 6), (q70, kI cA 200), (q77, kI cA 5), (q84, kI cA 5), (q92, kI cA 6), (q100, kI cA 28)]) H _ := hW
  refine W.widen (k := 13) (n := 298) (Nat.le_of_ble_eq_true rfl) (Nat.le_of_ble_eq_true rfl) ?_
  refine k_putF K hW rfl inX8 tyX8 tyX8_ok nmX8 22 (by decide) u_f_X8_46 rfl rfl hin ⟨rfl, rfl⟩ (Nat.le_of_ble_eq_true rfl) dX8_init_102 (fun H locs hW => ?_)
  have hW : k_W A s D ((h0, .inr (8, [.int 0, .int 0, .int 0, .int 0, .ref q6, .ref q13, .ref q21, .ref q29, .ref q37, .ref q45, .int 0, .ref q53, .ref q61, .ref q70, .int 0, .int 0, .int 0, .int 0, .int 0, .ref q77, .ref q84, .ref q92, .ref q100, .int 0, .null, .null, .null, .int 0, .int 0, .null, .int 0, .null, .null, .null, .int 0])) :: [(q6, kI cA 5), (q13, kI cA 5), (q21, kI cA 8), (q29, kI cA 8), (q37, kI cA 8), (q45, kI cA 8), (q53, kI cA 6), (q61, kI cA 6), (q70, kI cA 200), (q77, kI cA 5), (q84, kI cA 5), (q92, kI cA 6), (q100, kI cA 28)]) H _ := hW
  refine lv_aload_n hx hb dX8_init_105 rfl (lv_at hl 0 rfl) ?_
  refine lv_bipush (v := nI 8) hx hb dX8_init_106 (by decide) ?_
  refine k_newa K hA hW 8 rfl (by omega) (Nat.le_of_ble_eq_true rfl) (Nat.le_of_ble_eq_true rfl) dX8_init_108 (fun q108 H hW => ?_)
  have hW : k_W A s D ((h0, .inr (8, [.int 0, .int 0, .int 0, .int 0, .ref q6, .ref q13, .ref q21, .ref q29, .ref q37, .ref q45, .int 0, .ref q53, .ref q61, .ref q70, .int 0, .int 0, .int 0, .int 0, .int 0, .ref q77, .ref q84, .ref q92, .ref q100, .int 0, .null, .null, .null, .int 0, .int 0, .null, .int 0, .null, .null, .null, .int 0])) :: [(q6, kI cA 5), (q13, kI cA 5), (q21, kI cA 8), (q29, kI cA 8), (q37, kI cA 8), (q45, kI cA 8), (q53, kI cA 6), (q61, kI cA 6), (q70, kI cA 200), (q77, kI cA 5), (q84, kI cA 5), (q92, kI cA 6), (q100, kI cA 28), (q108, kI cA 8)]) H _ := hW
  refine W.widen (k := 14) (n := 306) (Nat.le_of_ble_eq_true rfl) (Nat.le_of_ble_eq_true rfl) ?_
  refine k_putF K hW rfl inX8 tyX8 tyX8_ok nmX8 24 (by decide) u_f_X8_49 rfl rfl hin ⟨rfl, rfl⟩ (Nat.le_of_ble_eq_true rfl) dX8_init_110 (fun H locs hW => ?_)
  have hW : k_W A s D ((h0, .inr (8, [.int 0, .int 0, .int 0, .int 0, .ref q6, .ref q13, .ref q21, .ref q29, .ref q37, .ref q45, .int 0, .ref q53, .ref q61, .ref q70, .int 0, .int 0, .int 0, .int 0, .int 0, .ref q77, .ref q84, .ref q92, .ref q100, .int 0, .ref q108, .null, .null, .int 0, .int 0, .null, .int 0, .null, .null, .null, .int 0])) :: [(q6, kI cA 5), (q13, kI cA 5), (q21, kI cA 8), (q29, kI cA 8), (q37, kI cA 8), (q45, kI cA 8), (q53, kI cA 6), (q61, kI cA 6), (q70, kI cA 200), (q77, kI cA 5), (q84, kI cA 5), (q92, kI cA 6), (q100, kI cA 28), (q108, kI cA 8)]) H _ := hW
  refine lv_aload_n hx hb dX8_init_113 rfl (lv_at hl 0 rfl) ?_
  refine lv_iconst (v := nI 5) hx hb dX8_init_114 (by decide) ?_
  refine k_newa K hA hW 5 rfl (by omega) (Nat.le_of_ble_eq_true rfl) (Nat.le_of_ble_eq_true rfl) dX8_init_115 (fun q115 H hW => ?_)
  have hW : k_W A s D ((h0, .inr (8, [.int 0, .int 0, .int 0, .int 0, .ref q6, .ref q13, .ref q21, .ref q29, .ref q37, .ref q45, .int 0, .ref q53, .ref q61, .ref q70, .int 0, .int 0, .int 0, .int 0, .int 0, .ref q77, .ref q84, .ref q92, .ref q100, .int 0, .ref q108, .null, .null, .int 0, .int 0, .null, .int 0, .null, .null, .null, .int 0])) :: [(q6, kI cA 5), (q13, kI cA 5), (q21, kI cA 8), (q29, kI cA 8), (q37, kI cA 8), (q45, kI cA 8), (q53, kI cA 6), (q61, kI cA 6), (q70, kI cA 200), (q77, kI cA 5), (q84, kI cA 5), (q92, kI cA 6), (q100, kI cA 28), (q108, kI cA 8), (q115, kI cA 5)]) H _ := hW
  refine W.widen (k := 15) (n := 311) (Nat.le_of_ble_eq_true rfl) (Nat.le_of_ble_eq_true rfl) ?_
  refine k_putF K hW rfl inX8 tyX8 tyX8_ok nmX8 25 (by decide) u_f_X8_52 rfl rfl hin ⟨rfl, rfl⟩ (Nat.le_of_ble_eq_true rfl) dX8_init_117 (fun H locs hW => ?_)
  have hW : k_W A s D ((h0, .inr (8, [.int 0, .int 0, .int 0, .int 0, .ref q6, .ref q13, .ref q21, .ref q29, .ref q37, .ref q45, .int 0, .ref q53, .ref q61, .ref q70, .int 0, .int 0, .int 0, .int 0, .int 0, .ref q77, .ref q84, .ref q92, .ref q100, .int 0, .ref q108, .ref q115, .null, .int 0, .int 0, .null, .int 0, .null, .null, .null, .int 0])) :: [(q6, kI cA 5), (q13, kI cA 5), (q21, kI cA 8), (q29, kI cA 8), (q37, kI cA 8), (q45, kI cA 8), (q53, kI cA 6), (q61, kI cA 6), (q70, kI cA 200), (q77, kI cA 5), (q84, kI cA 5), (q92, kI cA 6), (q100, kI cA 28), (q108, kI cA 8), (q115, kI cA 5)]) H _ := hW
  refine lv_aload_n hx hb dX8_init_120 rfl (lv_at hl 0 rfl) ?_
  refine lv_bipush (v := nI 8) hx hb dX8_init_121 (by decide) ?_
  refine k_newa K hA hW 8 rfl (by omega) (Nat.le_of_ble_eq_true rfl) (Nat.le_of_ble_eq_true rfl) dX8_init_123 (fun q123 H hW => ?_)
  have hW : k_W A s D ((h0, .inr (8, [.int 0, .int 0, .int 0, .int 0, .ref q6, .ref q13, .ref q21, .ref q29, .ref q37, .ref q45, .int 0, .ref q53, .ref q61, .ref q70, .int 0, .int 0, .int 0, .int 0, .int 0, .ref q77, .ref q84, .ref q92, .ref q100, .int 0, .ref q108, .ref q115, .null, .int 0, .int 0, .null, .int 0, .null, .null, .null, .int 0])) :: [(q6, kI cA 5), (q13, kI cA 5), (q21, kI cA 8), (q29, kI cA 8), (q37, kI cA 8), (q45, kI cA 8), (q53, kI cA 6), (q61, kI cA 6), (q70, kI cA 200), (q77, kI cA 5), (q84, kI cA 5), (q92, kI cA 6), (q100, kI cA 28), (q108, kI cA 8), (q115, kI cA 5), (q123, kI cA 8)]) H _ := hW
  refine W.widen (k := 16) (n := 319) (Nat.le_of_ble_eq_true rfl) (Nat.le_of_ble_eq_true rfl) ?_
  refine k_putF K hW rfl inX8 tyX8 tyX8_ok nmX8 26 (by decide) u_f_X8_55 rfl rfl hin ⟨rfl, rfl⟩ (Nat.le_of_ble_eq_true rfl) dX8_init_125 (fun H locs hW => ?_)
  have hW : k_W A s D ((h0, .inr (8, [.int 0, .int 0, .int 0, .int 0, .ref q6, .ref q13, .ref q21, .ref q29, .ref q37, .ref q45, .int 0, .ref q53, .ref q61, .ref q70, .int 0, .int 0, .int 0, .int 0, .int 0, .ref q77, .ref q84, .ref q92, .ref q100, .int 0, .ref q108, .ref q115, .ref q123, .int 0, .int 0, .null, .int 0, .null, .null, .null, .int 0])) :: [(q6, kI cA 5), (q13, kI cA 5), (q21, kI cA 8), (q29, kI cA 8), (q37, kI cA 8), (q45, kI cA 8), (q53, kI cA 6), (q61, kI cA 6), (q70, kI cA 200), (q77, kI cA 5), (q84, kI cA 5), (q92, kI cA 6), (q100, kI cA 28), (q108, kI cA 8), (q115, kI cA 5), (q123, kI cA 8)]) H _ := hW
  refine lv_aload_n hx hb dX8_init_128 rfl (lv_at hl 0 rfl) ?_
  refine lv_sipush (v := nI 280) hx hb dX8_init_129 (by decide) ?_
  refine k_newa K hA hW 280 rfl (by omega) (Nat.le_of_ble_eq_true rfl) (Nat.le_of_ble_eq_true rfl) dX8_init_132 (fun q132 H hW => ?_)
  have hW : k_W A s D ((h0, .inr (8, [.int 0, .int 0, .int 0, .int 0, .ref q6, .ref q13, .ref q21, .ref q29, .ref q37, .ref q45, .int 0, .ref q53, .ref q61, .ref q70, .int 0, .int 0, .int 0, .int 0, .int 0, .ref q77, .ref q84, .ref q92, .ref q100, .int 0, .ref q108, .ref q115, .ref q123, .int 0, .int 0, .null, .int 0, .null, .null, .null, .int 0])) :: [(q6, kI cA 5), (q13, kI cA 5), (q21, kI cA 8), (q29, kI cA 8), (q37, kI cA 8), (q45, kI cA 8), (q53, kI cA 6), (q61, kI cA 6), (q70, kI cA 200), (q77, kI cA 5), (q84, kI cA 5), (q92, kI cA 6), (q100, kI cA 28), (q108, kI cA 8), (q115, kI cA 5), (q123, kI cA 8), (q132, kI cA 280)]) H _ := hW
  refine W.widen (k := 17) (n := 599) (Nat.le_of_ble_eq_true rfl) (Nat.le_of_ble_eq_true rfl) ?_
  refine k_putF K hW rfl inX8 tyX8 tyX8_ok nmX8 29 (by decide) u_f_X8_58 rfl rfl hin ⟨rfl, rfl⟩ (Nat.le_of_ble_eq_true rfl) dX8_init_134 (fun H locs hW => ?_)
  have hW : k_W A s D ((h0, .inr (8, [.int 0, .int 0, .int 0, .int 0, .ref q6, .ref q13, .ref q21, .ref q29, .ref q37, .ref q45, .int 0, .ref q53, .ref q61, .ref q70, .int 0, .int 0, .int 0, .int 0, .int 0, .ref q77, .ref q84, .ref q92, .ref q100, .int 0, .ref q108, .ref q115, .ref q123, .int 0, .int 0, .ref q132, .int 0, .null, .null, .null, .int 0])) :: [(q6, kI cA 5), (q13, kI cA 5), (q21, kI cA 8), (q29, kI cA 8), (q37, kI cA 8), (q45, kI cA 8), (q53, kI cA 6), (q61, kI cA 6), (q70, kI cA 200), (q77, kI cA 5), (q84, kI cA 5), (q92, kI cA 6), (q100, kI cA 28), (q108, kI cA 8), (q115, kI cA 5), (q123, kI cA 8), (q132, kI cA 280)]) H _ := hW
  refine lv_aload_n hx hb dX8_init_137 rfl (lv_at hl 0 rfl) ?_
  refine lv_bipush (v := nI 8) hx hb dX8_init_138 (by decide) ?_
  refine k_newa K hA hW 8 rfl (by omega) (Nat.le_of_ble_eq_true rfl) (Nat.le_of_ble_eq_true rfl) dX8_init_140 (fun q140 H hW => ?_)
  have hW : k_W A s D ((h0, .inr (8, [.int 0, .int 0, .int 0, .int 0, .ref q6, .ref q13, .ref q21, .ref q29, .ref q37, .ref q45, .int 0, .ref q53, .ref q61, .ref q70, .int 0, .int 0, .int 0, .int 0, .int 0, .ref q77, .ref q84, .ref q92, .ref q100, .int 0, .ref q108, .ref q115, .ref q123, .int 0, .int 0, .ref q132, .int 0, .null, .null, .null, .int 0])) :: [(q6, kI cA 5), (q13, kI cA 5), (q21, kI cA 8), (q29, kI cA 8), (q37, kI cA 8), (q45, kI cA 8), (q53, kI cA 6), (q61, kI cA 6), (q70, kI cA 200), (q77, kI cA 5), (q84, kI cA 5), (q92, kI cA 6), (q100, kI cA 28), (q108, kI cA 8), (q115, kI cA 5), (q123, kI cA 8), (q132, kI cA 280), (q140, kI cA 8)]) H _ := hW
  refine W.widen (k := 18) (n := 607) (Nat.le_of_ble_eq_true rfl) (Nat.le_of_ble_eq_true rfl) ?_
  refine k_putF K hW rfl inX8 tyX8 tyX8_ok nmX8 31 (by decide) u_f_X8_61 rfl rfl hin ⟨rfl, rfl⟩ (Nat.le_of_ble_eq_true rfl) dX8_init_142 (fun H locs hW => ?_)
  have hW : k_W A s D ((h0, .inr (8, [.int 0, .int 0, .int 0, .int 0, .ref q6, .ref q13, .ref q21, .ref q29, .ref q37, .ref q45, .int 0, .ref q53, .ref q61, .ref q70, .int 0, .int 0, .int 0, .int 0, .int 0, .ref q77, .ref q84, .ref q92, .ref q100, .int 0, .ref q108, .ref q115, .ref q123, .int 0, .int 0, .ref q132, .int 0, .ref q140, .null, .null, .int 0])) :: [(q6, kI cA 5), (q13, kI cA 5), (q21, kI cA 8), (q29, kI cA 8), (q37, kI cA 8), (q45, kI cA 8), (q53, kI cA 6), (q61, kI cA 6), (q70, kI cA 200), (q77, kI cA 5), (q84, kI cA 5), (q92, kI cA 6), (q100, kI cA 28), (q108, kI cA 8), (q115, kI cA 5), (q123, kI cA 8), (q132, kI cA 280), (q140, kI cA 8)]) H _ := hW
  refine lv_aload_n hx hb dX8_init_145 rfl (lv_at hl 0 rfl) ?_
  refine lv_bipush (v := nI 35) hx hb dX8_init_146 (by decide) ?_
  refine k_newa K hA hW 35 rfl (by omega) (Nat.le_of_ble_eq_true rfl) (Nat.le_of_ble_eq_true rfl) dX8_init_148 (fun q148 H hW => ?_)
  have hW : k_W A s D ((h0, .inr (8, [.int 0, .int 0, .int 0, .int 0, .ref q6, .ref q13, .ref q21, .ref q29, .ref q37, .ref q45, .int 0, .ref q53, .ref q61, .ref q70, .int 0, .int 0, .int 0, .int 0, .int 0, .ref q77, .ref q84, .ref q92, .ref q100, .int 0, .ref q108, .ref q115, .ref q123, .int 0, .int 0, .ref q132, .int 0, .ref q140, .null, .null, .int 0])) :: [(q6, kI cA 5), (q13, kI cA 5), (q21, kI cA 8), (q29, kI cA 8), (q37, kI cA 8), (q45, kI cA 8), (q53, kI cA 6), (q61, kI cA 6), (q70, kI cA 200), (q77, kI cA 5), (q84, kI cA 5), (q92, kI cA 6), (q100, kI cA 28), (q108, kI cA 8), (q115, kI cA 5), (q123, kI cA 8), (q132, kI cA 280), (q140, kI cA 8), (q148, kI cA 35)]) H _ := hW
  refine W.widen (k := 19) (n := 642) (Nat.le_of_ble_eq_true rfl) (Nat.le_of_ble_eq_true rfl) ?_
  refine k_putF K hW rfl inX8 tyX8 tyX8_ok nmX8 32 (by decide) u_f_X8_64 rfl rfl hin ⟨rfl, rfl⟩ (Nat.le_of_ble_eq_true rfl) dX8_init_150 (fun H locs hW => ?_)
  have hW : k_W A s D ((h0, .inr (8, [.int 0, .int 0, .int 0, .int 0, .ref q6, .ref q13, .ref q21, .ref q29, .ref q37, .ref q45, .int 0, .ref q53, .ref q61, .ref q70, .int 0, .int 0, .int 0, .int 0, .int 0, .ref q77, .ref q84, .ref q92, .ref q100, .int 0, .ref q108, .ref q115, .ref q123, .int 0, .int 0, .ref q132, .int 0, .ref q140, .ref q148, .null, .int 0])) :: [(q6, kI cA 5), (q13, kI cA 5), (q21, kI cA 8), (q29, kI cA 8), (q37, kI cA 8), (q45, kI cA 8), (q53, kI cA 6), (q61, kI cA 6), (q70, kI cA 200), (q77, kI cA 5), (q84, kI cA 5), (q92, kI cA 6), (q100, kI cA 28), (q108, kI cA 8), (q115, kI cA 5), (q123, kI cA 8), (q132, kI cA 280), (q140, kI cA 8), (q148, kI cA 35)]) H _ := hW
  refine lv_aload_n hx hb dX8_init_153 rfl (lv_at hl 0 rfl) ?_
  refine lv_bipush (v := nI 70) hx hb dX8_init_154 (by decide) ?_
  refine k_newa K hA hW 70 rfl (by omega) (Nat.le_of_ble_eq_true rfl) (Nat.le_of_ble_eq_true rfl) dX8_init_156 (fun q156 H hW => ?_)
  have hW : k_W A s D ((h0, .inr (8, [.int 0, .int 0, .int 0, .int 0, .ref q6, .ref q13, .ref q21, .ref q29, .ref q37, .ref q45, .int 0, .ref q53, .ref q61, .ref q70, .int 0, .int 0, .int 0, .int 0, .int 0, .ref q77, .ref q84, .ref q92, .ref q100, .int 0, .ref q108, .ref q115, .ref q123, .int 0, .int 0, .ref q132, .int 0, .ref q140, .ref q148, .null, .int 0])) :: [(q6, kI cA 5), (q13, kI cA 5), (q21, kI cA 8), (q29, kI cA 8), (q37, kI cA 8), (q45, kI cA 8), (q53, kI cA 6), (q61, kI cA 6), (q70, kI cA 200), (q77, kI cA 5), (q84, kI cA 5), (q92, kI cA 6), (q100, kI cA 28), (q108, kI cA 8), (q115, kI cA 5), (q123, kI cA 8), (q132, kI cA 280), (q140, kI cA 8), (q148, kI cA 35), (q156, kI cA 70)]) H _ := hW
  refine W.widen (k := 20) (n := 712) (Nat.le_of_ble_eq_true rfl) (Nat.le_of_ble_eq_true rfl) ?_
  refine k_putF K hW rfl inX8 tyX8 tyX8_ok nmX8 33 (by decide) u_f_X8_67 rfl rfl hin ⟨rfl, rfl⟩ (Nat.le_of_ble_eq_true rfl) dX8_init_158 (fun H locs hW => ?_)
  have hW : k_W A s D ((h0, .inr (8, [.int 0, .int 0, .int 0, .int 0, .ref q6, .ref q13, .ref q21, .ref q29, .ref q37, .ref q45, .int 0, .ref q53, .ref q61, .ref q70, .int 0, .int 0, .int 0, .int 0, .int 0, .ref q77, .ref q84, .ref q92, .ref q100, .int 0, .ref q108, .ref q115, .ref q123, .int 0, .int 0, .ref q132, .int 0, .ref q140, .ref q148, .ref q156, .int 0])) :: [(q6, kI cA 5), (q13, kI cA 5), (q21, kI cA 8), (q29, kI cA 8), (q37, kI cA 8), (q45, kI cA 8), (q53, kI cA 6), (q61, kI cA 6), (q70, kI cA 200), (q77, kI cA 5), (q84, kI cA 5), (q92, kI cA 6), (q100, kI cA 28), (q108, kI cA 8), (q115, kI cA 5), (q123, kI cA 8), (q132, kI cA 280), (q140, kI cA 8), (q148, kI cA 35), (q156, kI cA 70)]) H _ := hW
  obtain ⟨hP9, hD9, hS9⟩ := hW
  obtain ⟨g, eg⟩ : ∃ g : Nat → Nat, g = (fun k => match k with | 0 => q6 | 1 => q13 | 2 => q21 | 3 => q29 | 4 => q37 | 5 => q45 | 6 => q53 | 7 => q61 | 8 => q70 | 9 => q77 | 10 => q84 | 11 => q92 | 12 => q100 | 13 => q108 | 14 => q115 | 15 => q123 | 16 => q132 | 17 => q140 | 18 => q148 | 19 => q156 | _ => xb) := ⟨_, rfl⟩
  have asm8 : ((h0, .inr (8, [.int 0, .int 0, .int 0, .int 0, .ref q6, .ref q13, .ref q21, .ref q29, .ref q37, .ref q45, .int 0, .ref q53, .ref q61, .ref q70, .int 0, .int 0, .int 0, .int 0, .int 0, .ref q77, .ref q84, .ref q92, .ref q100, .int 0, .ref q108, .ref q115, .ref q123, .int 0, .int 0, .ref q132, .int 0, .ref q140, .ref q148, .ref q156, .int 0])) :: [(q6, kI cA 5), (q13, kI cA 5), (q21, kI cA 8), (q29, kI cA 8), (q37, kI cA 8), (q45, kI cA 8), (q53, kI cA 6), (q61, kI cA 6), (q70, kI cA 200), (q77, kI cA 5), (q84, kI cA 5), (q92, kI cA 6), (q100, kI cA 28), (q108, kI cA 8), (q115, kI cA 5), (q123, kI cA 8), (q132, kI cA 280), (q140, kI cA 8), (q148, kI cA 35), (q156, kI cA 70)] : va_W) = ordM.map (fun a => (adM ad h0 g a, q_E (D, cA, adM ad h0 g) (M8 M) a)) := by rw [eg]; rfl
  rw [asm8] at hP9 hD9
  have hlow : ∀ a, p_al false a = true → ad a < s.heap.size := fun a ha => (hH a ha).lt
  have hn : ∀ a, p_al false a = true → ¬ A (ad a) := by
    intro a ha z
    rw [hAe] at z
    rcases z with ⟨k, e, z⟩ | z
    · have hk0 : k = 0 := by
        have := (List.getElem?_eq_some_iff.mp z).1
        simp at this
        exact this
      subst hk0
      exact hne a ha (congrArg Prod.fst (Option.some.inj z)).symm
    · exact absurd (hlow a ha) (Nat.not_lt.mpr z)
  have hHc : ∀ (H : Heap) (locs : List Loc), va_S A s.heap H locs → q_H false (D, cA, ad) M H := fun H locs hS a ha => (hH a ha).kept (hS.2.1 _ (hlow a ha) (hn a ha))
  obtain ⟨hH8, hJ8, hA8⟩ := q_both hM2 (hHc _ _ hS9) hJ hn hP9 hD9
  obtain ⟨ad', ead⟩ : ∃ ad', ad' = adM ad h0 g := ⟨_, rfl⟩
  have ea : ad' (aS 18) = h0 := by rw [ead]; rfl
  have ex9 : ad' (aS 39) = xb := by rw [ead, eg]; rfl
  have elo : ∀ a, p_al false a = true → ad' a = ad a := fun a ha => by rw [ead]; exact adM_lo ha
  rw [← ead] at hH8 hJ8 hA8
  have hA9 : ∀ a, p_al true a = true → k_A8 (D, cA, ad) h0 s.heap.size (ad' a) := by
    intro a ha
    rcases ordM_al a ha with z | z
    · exact Or.inl ⟨a, z, elo a z⟩
    · refine Or.inr ?_
      rw [← hAe]
      exact hA8 a z
  have hqA : ∀ q, q_A true (D, cA, ad') q → k_A8 (D, cA, ad) h0 s.heap.size q := by
    rintro q ⟨a, ha, rfl⟩
    exact hA9 a ha
  have X : q_X true (D, cA, ad') p s m _ c RX8 cX8_init 1 rm8 20 20 712 := ⟨hx, hb, hml, hown, fun z hz => hts z (List.mem_cons_of_mem _ hz), hG.2.1, hG.1, hJ8, Nat.le_refl _, Nat.le_refl _, Nat.le_refl _, Nat.le_refl _⟩
  have fin := k8_tail (C := q_C l true (D, cA, ad')) (q_Lg hJ8) (d := 20) (Q := fun _ _ => True) (Z := q_Z true (D, cA, ad') p l e rm8 s m _ below meth c 1 20 712 (MQ below (k_post8 D cA ad xb h0 s.heap.size) [Value.ref h0].toArray s 20 712 (k_A8 (D, cA, ad) h0 s.heap.size))) (by omega) (cl_X8_init X) hcS (fun M' h1 h2 H locs la hH hS hl hn => by
      refine W.vret hx hb hr (fun t ht hW => ⟨⟨rfl, ad', M', elo, by rw [ht]; exact hH, hJ8, hA9, ea, ex9, h1, h2⟩, ?_⟩) (fun q hq => hqA _ (hS.2.2 q hq)) dX8_init_274 hk
      exact ⟨by rw [ht]; exact hS.1, fun q h1 h2 => by rw [ht]; exact hS.2.1 q h1 (fun z => h2 (hqA q z))⟩)
  refine W_loc (locs' := _root_.List.filter (fun y => decide (y.base < s.heap.size)) _) (fun y hy hlt => List.mem_filter.mpr ⟨hy, decide_eq_true hlt⟩) ?_
  refine fin _ _ ls hH8 ⟨hS9.1, fun q h1 h2 => hS9.2.1 q h1 (fun z => h2 ?_), fun y hy => ?_⟩ ⟨hl.1, hl.2.1, fun q hq => ?_⟩ rfl
  · rw [hAe] at z
    rcases z with ⟨k, e, z⟩ | z
    · have hk0 : k = 0 := by
        have := (List.getElem?_eq_some_iff.mp z).1
        simp at this
        exact this
      subst hk0
      have hq : q = h0 := (congrArg Prod.fst (Option.some.inj z)).symm
      exact ⟨aS 18, rfl, by rw [hq]; exact ea.symm⟩
    · omega
  · obtain ⟨hy1, hy2⟩ := List.mem_filter.mp hy
    have hy2 : y.base < s.heap.size := of_decide_eq_true hy2
    have z := hS9.2.2 y hy1
    rw [hAe] at z
    rcases z with ⟨k, e, z⟩ | z
    · have hk0 : k = 0 := by
        have := (List.getElem?_eq_some_iff.mp z).1
        simp at this
        exact this
      subst hk0
      have hq : y.base = h0 := (congrArg Prod.fst (Option.some.inj z)).symm
      exact ⟨aS 18, rfl, by rw [hq]; exact ea.symm⟩
    · exact absurd hy2 (Nat.not_lt.mpr z)
  · have e9 : q_lv (D, cA, ad') 0 [some (vR (aS 18))] = [(0, .ref (ad' (aS 18)))] := rfl
    rw [e9, ea] at hq
    exact hl.2.2 q hq
