/-! THE START: what the tables and the premises give; the two constructors; the loop -/
set_option maxRecDepth 100000 in
theorem st_G {s : State} {args : Array Value} (hts : ∀ w ∈ lw_tbl, w.before args s = true) : ∃ (D : va_G) (cA : Nat → ClassId), k_G D cA s := by
  have hT : ∀ w ∈ p_T, w.before args s = true := fun z hz => hts z (List.mem_filter.mp hz).1
  obtain ⟨c0, i0, k0⟩ := u_known (C := RX0) (T := TX0) (N := 4) (n := 4) hT inX0 (hT _ u_t_X0)
  obtain ⟨c1, i1, k1⟩ := u_known (C := RX1) (T := TX1) (N := 4) (n := 4) hT inX1 (hT _ u_t_X1)
  obtain ⟨c2, i2, k2⟩ := u_known (C := RX2) (T := TX2) (N := 10) (n := 10) hT inX2 (hT _ u_t_X2)
  obtain ⟨c3, i3, k3⟩ := u_known (C := RX3) (T := TX3) (N := 4) (n := 4) hT inX3 (hT _ u_t_X3)
  obtain ⟨c4, i4, k4⟩ := u_known (C := RX4) (T := TX4) (N := 2) (n := 2) hT inX4 (hT _ u_t_X4)
  obtain ⟨c5, i5, k5⟩ := u_known (C := RX5) (T := TX5) (N := 3) (n := 3) hT inX5 (hT _ u_t_X5)
  obtain ⟨c6, i6, k6⟩ := u_known (C := RX6) (T := TX6) (N := 4) (n := 4) hT inX6 (hT _ u_t_X6)
  obtain ⟨c7, i7, k7⟩ := u_known (C := RX7) (T := TX7) (N := 8) (n := 8) hT inX7 (hT _ u_t_X7)
  obtain ⟨c8, i8, k8⟩ := u_known (C := RX8) (T := TX8) (N := 35) (n := 35) hT inX8 (hT _ u_t_X8)
  obtain ⟨aI, kI, compI, f1, f2, f3⟩ := Cond.arrayClass_spec (hT (.arrayClass .int) (p_in 119 (by decide +kernel) rfl))
  have hO1 : (Cond.arrayOver (.object RX1)).before args s = true := hts _ (List.mem_of_getElem? (i := 230) (by decide +kernel))
  have hO2 : (Cond.arrayOver (.object RX2)).before args s = true := hts _ (List.mem_of_getElem? (i := 274) (by decide +kernel))
  obtain ⟨cp1, a1, kA1, g1, g2, g3, g4, g5⟩ := Cond.arrayOver_spec hO1
  obtain ⟨cp2, a2, kA2, h1, h2, h3, h4, h5⟩ := Cond.arrayOver_spec hO2
  refine ⟨(fun k => match k with | 0 => c0 | 1 => c1 | 2 => c2 | 3 => c3 | 4 => c4 | 5 => c5 | 6 => c6 | 7 => c7 | _ => c8, fun k => match k with | 0 => i0 | 1 => i1 | 2 => i2 | 3 => i3 | 4 => i4 | 5 => i5 | 6 => i6 | 7 => i7 | _ => i8), fun k => match k with | 0 => aI | 1 => a1 | _ => a2, ⟨fun c q hq => ?_, fun k q hq => ?_⟩, fun z hz => va_Nw.of (p_N_tab hz) (hts z (List.mem_filter.mp hz).1), va_AO.of hO1, va_AO.of hO2⟩
  · match c, hq with
    | 0, hq => cases hq; exact k0
    | 1, hq => cases hq; exact k1
    | 2, hq => cases hq; exact k2
    | 3, hq => cases hq; exact k3
    | 4, hq => cases hq; exact k4
    | 5, hq => cases hq; exact k5
    | 6, hq => cases hq; exact k6
    | 7, hq => cases hq; exact k7
    | 8, hq => cases hq; exact k8
    | c + 9, hq => simp [vwCl] at hq
  · match k, hq with
    | 0, hq => cases hq; exact ⟨fun n z => ⟨fun k h => (by cases h), kI, f2, compI, f3⟩, f1⟩
    | 1, hq => cases hq; exact ⟨fun n z => ⟨fun k h => (by cases h), kA1, g3, cp1, g4⟩, ⟨kA1, cp1, g3, g4, g1, g5⟩⟩
    | 2, hq => cases hq; exact ⟨fun n z => ⟨fun k h => (by cases h), kA2, h3, cp2, h4⟩, ⟨kA2, cp2, h3, h4, h1, h5⟩⟩
    | k + 3, hq => simp [k_TY] at hq
abbrev tmS : Term := .string "PokerEvening" 59
set_option maxRecDepth 100000 in
theorem st_el : ∀ j : Fin 99, (Cond.eq (.elem (.field tmS "java/lang/String" "value" "[B") (.int (Int32.ofNat j.val))) (.int (k_by j.val))) ∈ flatC (Jvm.Cond.and given_1 narrow_1) := by decide +kernel
set_option maxRecDepth 100000 in
theorem st_S {s : State} {args : Array Value} {A : Nat → Prop} (hts : ∀ w ∈ lw_tbl, w.before args s = true) (hgv : (Jvm.Cond.and given_1 narrow_1).before args s = true) (hA : ∀ a : Nat, a < s.heap.size → ¬ A a) : ∃ sK sV : Nat, k_St A sK sV s s.heap ∧ vk_R RX7 59 k_tx sK s := by
  have hs := flat_of_before _ hgv
  have hT : ∀ w ∈ p_T, w.before args s = true := fun z hz => hts z (List.mem_filter.mp hz).1
  obtain ⟨adK, adV, hV, hE⟩ := vk_Sof (args := args) (s := s) (N := 1) (tm := fun _ => tmS) (len := [99]) (byt := [k_ch]) (A := A) (fun i hi => by
    have : i = 0 := by omega
    subst this
    decide) (fun i hi => hs _ (by decide +kernel)) (fun i hi => hs _ (by decide +kernel)) (fun i hi => hs _ (by decide +kernel)) (fun i hi => by
    have : i = 0 := by omega
    subst this
    exact hs _ (by decide +kernel)) (fun i hi j hj => by
    have : i = 0 := by omega
    subst this
    exact hs _ (st_el ⟨j, hj⟩)) (fun i j hi hj e => absurd (show i = j by omega) e) hA
  obtain ⟨v1, v2, v3, v4⟩ := hV.1 0 (by omega)
  refine ⟨adK 0, adV 0, ⟨?_, v2, v3, v4, v1, ?_⟩, vk_R.of (hts (.stringRef RX7 59 k_tx) (List.mem_of_getElem? (i := 284) (by decide +kernel))) (hE 0 (by omega))⟩
  · exact va_Zof (hts _ (List.mem_of_getElem? (i := 294) (by decide +kernel))) (hT _ z_n_J0) (va_eqt (hs (Cond.eq (.static "java/lang/String" "COMPACT_STRINGS" "Z") (.int 1)) (by decide +kernel))) hA
  · exact va_Zqof (hts _ (List.mem_of_getElem? (i := 310) (by decide +kernel))) (hT _ z_n_J3) (hs (Cond.isRef (.static "jdk/internal/util/Preconditions" "SIOOBE_FORMATTER" "Ljava/util/function/BiFunction;")) (by decide +kernel)) hA

