/-! THE LAW, from its entry -/
set_option maxRecDepth 100000 in
set_option maxHeartbeats 40000000 in
theorem whole_start {p : Program} {e : Env} {s : State} {m : MethodId} {below : List Frame} {meth : Method} {c : Code} (l : Launch) (hflags : l.flags = flags0) {b L : Nat} {xs : Nat → Int32} (hL : L ≤ 320) (C0 : lw_At p s m meth c b L xs) : W p l e room_1 s m #[Value.ref b] below meth c s.heap [] 0 0 (lw_Z below #[Value.ref b] s) (entryFrame m ([Value.ref b] : List Value).toArray 4) := by
  obtain ⟨hx, hb, hr, hml, hown, hts, hX, hbl, hlocks, hgv⟩ := id C0
  obtain ⟨D, cA, hG⟩ := st_G hts
  obtain ⟨A, hAe⟩ : ∃ A : Nat → Prop, A = fun q => s.heap.size ≤ q := ⟨_, rfl⟩
  have hA : ∀ q, s.heap.size ≤ q → A q := fun q h => by rw [hAe]; exact h
  have hAn : ∀ q, A q → s.heap.size ≤ q := fun q h => by rw [hAe] at h; exact h
  obtain ⟨sK, sV, hSt, hvR⟩ := st_S (A := A) hts hgv (fun a h z => absurd h (Nat.not_lt.mpr (hAn a z)))
  have hT : ∀ w ∈ p_T, w.before #[Value.ref b] s = true := fun z hz => hts z (List.mem_filter.mp hz).1
  have hown : s.vm.findClass RL = some m.cls := hown
  have hb : c.code = cL_law := hb
  have K : k_X D cA p s m #[Value.ref b] c RL cL_law 4 := ⟨hx, hb, hml, hown, hT, hG⟩
  have hW0 : k_W A s D [] s.heap [] := ⟨fun k q h => by simp at h, ⟨fun i j p q h => by simp at h, fun k q h => by simp at h⟩, va_S.rf⟩
  have hl := lv_entry [.ref b] (n := 4) (Nat.le_of_ble_eq_true rfl)
  rw [lg_entry_eq]
  generalize (lg_sl [.ref b] ++ List.replicate (4 - (lg_sl [.ref b]).length) Slot.unset).toArray = ls at hl ⊢
  have hl : lv_has ls 4 [(0, .ref b)] := hl
  have one : ∀ {x : Nat × va_E} {k : Nat} {y : Nat × va_E}, [x][k]? = some y → y = x := by
    intro x k y h
    have hk0 : k = 0 := by
      have := (List.getElem?_eq_some_iff.mp h).1
      simp at this
      exact this
    subst hk0
    exact (Option.some.inj h).symm
  have oneD : ∀ x : Nat × va_E, va_D (fun _ => True) [x] := fun x => ⟨fun i j a b ha hb _ => by
    have h1 := (List.getElem?_eq_some_iff.mp ha).1
    have h2 := (List.getElem?_eq_some_iff.mp hb).1
    simp at h1 h2
    omega, fun _ _ _ => trivial⟩
  refine k_new K hA hW0 7 rfl inX7 tyX7 tyX7_ok u_k_L_7 u_t_X7 u_n_X7 (fs := [.null, .null, .null, .null, .null, .null, .null, .null]) (fun j hj => by rcases (show j = 0 ∨ j = 1 ∨ j = 2 ∨ j = 3 ∨ j = 4 ∨ j = 5 ∨ j = 6 ∨ j = 7 by omega) with rfl | rfl | rfl | rfl | rfl | rfl | rfl | rfl <;> rfl) (Nat.le_of_ble_eq_true rfl) (Nat.le_of_ble_eq_true rfl) dL_law_0 (fun q0 H hW => ?_)
  refine W.widen (k := 1) (n := 8) (Nat.le_of_ble_eq_true rfl) (Nat.le_of_ble_eq_true rfl) ?_
  refine lv_dup hx hb dL_law_3 rfl ?_
  obtain ⟨hP0, hD0, hS0⟩ := hW
  have hP0 : va_P D vwCl [(q0, e7)] H := hP0
  have hD0 : va_D A [(q0, e7)] := hD0
  have hF7 : ∀ q, va_A [(q0, e7)] H.size q → A q := by
    rintro q (⟨k, e, h⟩ | h)
    · have h9 := one h
      have := hD0.2 0 (q0, e7) rfl
      rw [show q = q0 from congrArg Prod.fst h9]
      exact this
    · exact hA q (Nat.le_trans hS0.1 h)
  refine k_go (A0 := A) (fun H1 => ∃ (ad : pA → Nat) (M : pM), q_H false (D, cA, ad) M H1 ∧ q_J false (D, cA, ad) ∧ (∀ a, p_al false a = true → va_A [(q0, e7)] H.size (ad a)) ∧ ad (aS 0) = q0 ∧ cS M S0 ∧ M.2 = M0.2) (va_runI (As := []) (b := q0) (rest := [.ref q0]) ⟨hx, hb, hml, hown, hT⟩ (k_X7 l D cA q0 sK sV H.size) ⟨callB_of 0 hT (q_good u_c_X7) rfl rfl rfl (hT _ u_n_X7) (hT _ u_m_L_9) (by decide +kernel) ⟨Nat.le_of_ble_eq_true rfl, Nat.le_of_ble_eq_true rfl⟩, rfl, hT _ u_i_X7⟩ ⟨k_bl7, fun U hU hW => ⟨rfl, by rw [hU], by rw [hU]; exact hP0, hG.moved hW, oneD _, by rw [hU]; exact (k_St.moved hW.alike (hSt.kept hS0.2.1)).narrow hF7, vk_R.warm hW hvR⟩⟩ rfl rfl hl.1 rfl (lv_room (Nat.le_of_ble_eq_true rfl)) dL_law_4 ⟨Nat.le_of_ble_eq_true rfl, Nat.le_of_ble_eq_true rfl⟩) (fun st oc t h => h) hS0 hF7 (fun H1 locs1 hGG hS1 _ _ => ?_)
  obtain ⟨ad, M, hH, hJ, hadA, hq0, hcS, hM2⟩ := hGG
  refine W.widen (k := 111) (n := 899) (Nat.le_of_ble_eq_true rfl) (Nat.le_of_ble_eq_true rfl) ?_
  refine lv_astore_n (lv' := [(1, .ref q0), (0, .ref b)]) hx hb dL_law_7 rfl hl (by decide) rfl (fun ls hl => ?_)
  have hadA2 : ∀ a, p_al false a = true → A (ad a) := fun a ha => hF7 _ (hadA a ha)
  have hD1 : va_D A (q_ws false (D, cA, ad) M) := (q_D hJ).weaken (fun k q hk h => by
    obtain ⟨a, ha, e⟩ := h
    rw [e]
    exact hadA2 a ha)
  refine k_new K hA (ws := q_ws false (D, cA, ad) M) ⟨hH.P, hD1, hS1⟩ 8 rfl inX8 tyX8 tyX8_ok u_k_L_10 u_t_X8 u_n_X8 (fs := [.int 0, .int 0, .int 0, .int 0, .null, .null, .null, .null, .null, .null, .int 0, .null, .null, .null, .int 0, .int 0, .int 0, .int 0, .int 0, .null, .null, .null, .null, .int 0, .null, .null, .null, .int 0, .int 0, .null, .int 0, .null, .null, .null, .int 0]) (fun j hj => by rcases (show j = 0 ∨ j = 1 ∨ j = 2 ∨ j = 3 ∨ j = 4 ∨ j = 5 ∨ j = 6 ∨ j = 7 ∨ j = 8 ∨ j = 9 ∨ j = 10 ∨ j = 11 ∨ j = 12 ∨ j = 13 ∨ j = 14 ∨ j = 15 ∨ j = 16 ∨ j = 17 ∨ j = 18 ∨ j = 19 ∨ j = 20 ∨ j = 21 ∨ j = 22 ∨ j = 23 ∨ j = 24 ∨ j = 25 ∨ j = 26 ∨ j = 27 ∨ j = 28 ∨ j = 29 ∨ j = 30 ∨ j = 31 ∨ j = 32 ∨ j = 33 ∨ j = 34 by omega) with rfl | rfl | rfl | rfl | rfl | rfl | rfl | rfl | rfl | rfl | rfl | rfl | rfl | rfl | rfl | rfl | rfl | rfl | rfl | rfl | rfl | rfl | rfl | rfl | rfl | rfl | rfl | rfl | rfl | rfl | rfl | rfl | rfl | rfl | rfl <;> rfl) (Nat.le_of_ble_eq_true rfl) (Nat.le_of_ble_eq_true rfl) dL_law_8 (fun q1 H2 hW2 => ?_)
  refine W.widen (k := 112) (n := 934) (Nat.le_of_ble_eq_true rfl) (Nat.le_of_ble_eq_true rfl) ?_
  refine lv_dup hx hb dL_law_11 rfl ?_
  obtain ⟨hP2, hD2, hS2⟩ := hW2
  have hlt : ∀ a, p_al false a = true → q_ix a < (q_ws false (D, cA, ad) M).length := fun a ha => (List.getElem?_eq_some_iff.mp (q_at (w := (D, cA, ad)) M ha)).1
  have hat : ∀ a, p_al false a = true → (q_ws false (D, cA, ad) M ++ [(q1, e8)])[q_ix a]? = some (ad a, q_E (D, cA, ad) M a) := fun a ha => by
    rw [List.getElem?_append_left (hlt a ha)]
    exact q_at (w := (D, cA, ad)) M ha
  have hlast : (q_ws false (D, cA, ad) M ++ [(q1, e8)])[(q_ws false (D, cA, ad) M).length]? = some (q1, e8) := by rw [List.getElem?_append_right (Nat.le_refl _), Nat.sub_self]; rfl
  have hH2 : q_H false (D, cA, ad) M H2 := fun a ha => hP2 _ _ (hat a ha)
  have hne : ∀ a, p_al false a = true → ad a ≠ q1 := fun a ha e => by
    have := hD2.1 _ _ _ _ (hat a ha) hlast e
    have := hlt a ha
    omega
  have hPx : va_P D vwCl [(q1, e8)] H2 := fun k q hk => by
    rw [one hk]
    exact hP2 _ _ hlast
  have hF8 : ∀ q, k_A8 (D, cA, ad) q1 H2.size q → A q := by
    rintro q (⟨a, ha, rfl⟩ | ⟨k, e, h⟩ | h)
    · exact hadA2 a ha
    · rw [show q = q1 from congrArg Prod.fst (one h)]
      exact hD2.2 _ _ hlast
    · exact hA q (Nat.le_trans hS2.1 h)
  refine k_go (A0 := A) (fun H3 => ∃ (ad' : pA → Nat) (M' : pM), (∀ a, p_al false a = true → ad' a = ad a) ∧ q_H true (D, cA, ad') M' H3 ∧ q_J true (D, cA, ad') ∧ (∀ a, p_al true a = true → k_A8 (D, cA, ad) q1 H2.size (ad' a)) ∧ ad' (aS 18) = q1 ∧ ad' (aS 39) = b ∧ cS M' S0 ∧ mS M' S0) (va_runI (As := []) (b := q1) (rest := [.ref q1]) ⟨hx, hb, hml, hown, hT⟩ (k_X8 l D cA ad M b q1 H2.size hM2 hcS hJ hne) ⟨callB_of 0 hT (q_good u_c_X8) rfl rfl rfl (hT _ u_n_X8) (hT _ u_m_L_12) (by decide +kernel) ⟨Nat.le_of_ble_eq_true rfl, Nat.le_of_ble_eq_true rfl⟩, rfl, hT _ u_i_X8⟩ ⟨k_bl8, fun U hU hW => ⟨rfl, by rw [hU], by rw [hU]; exact hPx, hG.moved hW, oneD _, by rw [hU]; exact hH2⟩⟩ rfl rfl hl.1 rfl (lv_room (Nat.le_of_ble_eq_true rfl)) dL_law_12 ⟨Nat.le_of_ble_eq_true rfl, Nat.le_of_ble_eq_true rfl⟩) (fun st oc t h => h) hS2 hF8 (fun H3 locs3 hGG hS3 _ _ => ?_)
  obtain ⟨ad', M', elo, hH3, hJ3, hA3, e18, e39, hc3, hm3⟩ := hGG
  refine lv_astore_n (lv' := [(2, .ref q1), (1, .ref q0), (0, .ref b)]) hx hb dL_law_15 rfl hl (by decide) rfl (fun ls hl => ?_)
  refine W.widen (k := 600000) (n := 7302250) (Nat.le_of_ble_eq_true rfl) (Nat.le_of_ble_eq_true rfl) ?_
  refine va_forget (fun q hq => hAn _ (hS3.2.2 q hq)) ?_
  have e0 : ad' (aS 0) = q0 := (elo (aS 0) rfl).trans hq0
  have hqA : ∀ q, q_A true (D, cA, ad') q → s.heap.size ≤ q := by
    rintro q ⟨a, ha, rfl⟩
    exact hAn _ (hF8 _ (hA3 a ha))
  have X : q_X true (D, cA, ad') p s m #[Value.ref b] c RL cL_law 4 room_1 20 600000 7302250 := ⟨hx, hb, hml, hown, hT, hG.2.1, hG.1, hJ3, Nat.le_of_ble_eq_true rfl, Nat.le_of_ble_eq_true rfl, Nat.le_refl _, Nat.le_refl _⟩
  have hZ := cl_law (l := l) (e := e) (below := below) (meth := meth) (L := L) (xs := xs) X (by show va_X (ad' (aS 39)) L xs s s.heap; rw [e39]; exact hX) (by show ad' (aS 39) < s.heap.size; rw [e39]; exact hbl) (by
    show ¬ q_A true (D, cA, ad') (ad' (aS 39))
    rw [e39]
    exact fun z => absurd hbl (Nat.not_lt.mpr (hqA b z))) hr hlocks hqA
  have fin := law_loop (q_Lg hJ3) (d := 20) (by omega) hL hZ (L + 1) 0 M' S0 (by omega) (by omega) hc3 hm3 okS_0
  have start : q_Z true (D, cA, ad') p l e room_1 s m #[Value.ref b] below meth c 4 600000 7302250 (lw_Z below #[Value.ref b] s) 16 [some (vR (aS 39)), some (vR (aS 0)), some (vR (aS 18)), none] [] M' := hZ _ _ _ _ (hZ _ _ _ _ fin)
  refine start H3 [] ls hH3 ⟨hS3.1, fun q h1 h2 => hS3.2.1 q h1 (fun z => absurd h1 (Nat.not_lt.mpr (hAn q z))), fun _ h => by cases h⟩ ⟨hl.1, hl.2.1, fun q hq => ?_⟩ rfl
  have e9 : q_lv (D, cA, ad') 0 [some (vR (aS 39)), some (vR (aS 0)), some (vR (aS 18)), none] = [(0, .ref (ad' (aS 39))), (1, .ref (ad' (aS 0))), (2, .ref (ad' (aS 18)))] := rfl
  rw [e9, e39, e0, e18] at hq
  refine hl.2.2 q ?_
  simp only [List.mem_cons, List.not_mem_nil, or_false] at hq ⊢
  rcases hq with h | h | h
  · exact Or.inr (Or.inr h)
  · exact Or.inr (Or.inl h)
  · exact Or.inl h
