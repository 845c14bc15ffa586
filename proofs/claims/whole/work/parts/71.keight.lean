/-! the model's constructor: its cells, as the logic has them; what it does behind their making -/
def adM (ad : pA → Nat) (h0 : Nat) (g : Nat → Nat) : pA → Nat
  | .inl s => match Nat.blt s 18 with
    | true => ad (.inl s)
    | false => match s - 18 with
      | 0 => h0
      | k + 1 => g k
  | .inr r => ad (.inr r)
def M8 (M : pM) : pM := (fun a => match a with
  | .inl s => match Nat.blt s 18 with
    | true => M.1 (.inl s)
    | false => fun _ => 0
  | .inr r => M.1 (.inr r), M.2)
def ordM : List pA := (List.range 21).map (fun k => aS (k + 18))
theorem adM_row {ad : pA → Nat} {h0 : Nat} {g : Nat → Nat} (s i : Nat) (hs : s = 8 ∨ s = 15 ∨ s = 17) : (M0.2 (aS s) i).map (adM ad h0 g) = (M0.2 (aS s) i).map ad := by
  rcases hs with rfl | rfl | rfl
  · show Option.map _ (if i < 8 then some (aI (Fin.ofNat 9 (i + 1))) else none) = Option.map _ (if i < 8 then some (aI (Fin.ofNat 9 (i + 1))) else none)
    by_cases h : i < 8
    · rw [if_pos h]; rfl
    · rw [if_neg h]; rfl
  · show Option.map _ (if i < 8 then some (aR (Fin.ofNat 12 (i + 2)) 0) else none) = Option.map _ (if i < 8 then some (aR (Fin.ofNat 12 (i + 2)) 0) else none)
    by_cases h : i < 8
    · rw [if_pos h]; rfl
    · rw [if_neg h]; rfl
  · show Option.map _ (if i < 2 then some (aR (Fin.ofNat 12 (i + 10)) 0) else none) = Option.map _ (if i < 2 then some (aR (Fin.ofNat 12 (i + 10)) 0) else none)
    by_cases h : i < 2
    · rw [if_pos h]; rfl
    · rw [if_neg h]; rfl
theorem adM_lo {ad : pA → Nat} {h0 : Nat} {g : Nat → Nat} {a : pA} (ha : p_al false a = true) : adM ad h0 g a = ad a := by
  rcases a with s | r
  · have h' : s < 18 := by simpa [p_al] using ha
    simp only [adM, p_blt_t h']
  · rfl
theorem qE_lo {D : va_G} {cA : Nat → ClassId} {ad : pA → Nat} {h0 : Nat} {g : Nat → Nat} {M : pM} {a : pA} (hM : M.2 = M0.2) (ha : p_al false a = true) : q_E (D, cA, adM ad h0 g) (M8 M) a = q_E (D, cA, ad) M a := by
  rcases a with s | ⟨⟨j, c⟩ | i⟩
  · have h' : s < 18 := by simpa [p_al] using ha
    have row : ∀ s, s = 8 ∨ s = 15 ∨ s = 17 → (fun i => ((M8 M).2 (aS s) i).map (adM ad h0 g)) = fun i => (M.2 (aS s) i).map ad := by
      intro s hs
      funext i
      show (M.2 (aS s) i).map (adM ad h0 g) = _
      rw [hM]
      exact adM_row s i hs
    rcases (show s = 0 ∨ s = 1 ∨ s = 2 ∨ s = 3 ∨ s = 4 ∨ s = 5 ∨ s = 6 ∨ s = 7 ∨ s = 8 ∨ s = 9 ∨ s = 10 ∨ s = 11 ∨ s = 12 ∨ s = 13 ∨ s = 14 ∨ s = 15 ∨ s = 16 ∨ s = 17 by omega) with rfl | rfl | rfl | rfl | rfl | rfl | rfl | rfl | rfl | rfl | rfl | rfl | rfl | rfl | rfl | rfl | rfl | rfl
    · rfl
    · rfl
    · rfl
    · rfl
    · rfl
    · rfl
    · rfl
    · rfl
    · show Sum.inl (cA 1, 8, kQ (fun i => ((M8 M).2 (aS 8) i).map (adM ad h0 g))) = Sum.inl (cA 1, 8, kQ (fun i => (M.2 (aS 8) i).map ad))
      rw [row 8 (Or.inl rfl)]
    · rfl
    · rfl
    · rfl
    · rfl
    · rfl
    · rfl
    · show Sum.inl (cA 2, 8, kQ (fun i => ((M8 M).2 (aS 15) i).map (adM ad h0 g))) = Sum.inl (cA 2, 8, kQ (fun i => (M.2 (aS 15) i).map ad))
      rw [row 15 (Or.inr (Or.inl rfl))]
    · rfl
    · show Sum.inl (cA 2, 2, kQ (fun i => ((M8 M).2 (aS 17) i).map (adM ad h0 g))) = Sum.inl (cA 2, 2, kQ (fun i => (M.2 (aS 17) i).map ad))
      rw [row 17 (Or.inr (Or.inr rfl))]
  · have h' : c < 7 := by simpa [p_al] using ha
    rcases (show c = 0 ∨ c = 1 ∨ c = 2 ∨ c = 3 ∨ c = 4 ∨ c = 5 ∨ c = 6 by omega) with rfl | rfl | rfl | rfl | rfl | rfl | rfl <;> rfl
  · rfl
theorem ordM_al (a : pA) (h : p_al true a = true) : p_al false a = true ∨ a ∈ ordM := by
  rcases a with s | r
  · have h' : s < 18 ∨ s < 39 := by simpa [p_al] using h
    by_cases h2 : s < 18
    · exact Or.inl (by simpa [p_al] using h2)
    · refine Or.inr (List.mem_map.mpr ⟨s - 18, List.mem_range.mpr (by omega), ?_⟩)
      show aS (s - 18 + 18) = aS s
      rw [show s - 18 + 18 = s by omega]
  · rcases r with r | i
    · exact Or.inl h
    · exact Or.inl rfl
/-- the class's cells and the model's, together -/
theorem q_both {D : va_G} {cA : Nat → ClassId} {ad : pA → Nat} {h0 : Nat} {g : Nat → Nat} {M : pM} {A : Nat → Prop} {H : Heap} (hM : M.2 = M0.2) (hH : q_H false (D, cA, ad) M H) (hJ : q_J false (D, cA, ad)) (hn : ∀ a, p_al false a = true → ¬ A (ad a)) (hP : va_P D vwCl (ordM.map (fun a => (adM ad h0 g a, q_E (D, cA, adM ad h0 g) (M8 M) a))) H) (hD : va_D A (ordM.map (fun a => (adM ad h0 g a, q_E (D, cA, adM ad h0 g) (M8 M) a)))) : q_H true (D, cA, adM ad h0 g) (M8 M) H ∧ q_J true (D, cA, adM ad h0 g) ∧ ∀ a ∈ ordM, A (adM ad h0 g a) := by
  have at' : ∀ a ∈ ordM, ∃ i : Nat, ordM[i]? = some a ∧ (ordM.map (fun a => (adM ad h0 g a, q_E (D, cA, adM ad h0 g) (M8 M) a)))[i]? = some (adM ad h0 g a, q_E (D, cA, adM ad h0 g) (M8 M) a) := by
    intro a ha
    obtain ⟨i, hi⟩ := List.getElem?_of_mem ha
    exact ⟨i, hi, by rw [List.getElem?_map, hi]; rfl⟩
  have hA : ∀ a ∈ ordM, A (adM ad h0 g a) := fun a ha => by
    obtain ⟨i, -, h2⟩ := at' a ha
    exact hD.2 i _ h2
  refine ⟨fun a ha => ?_, fun a a' ha ha' e => ?_, hA⟩
  · rcases ordM_al a ha with h | h
    · have := hH a h
      show va_at D vwCl (adM ad h0 g a, q_E (D, cA, adM ad h0 g) (M8 M) a) H
      rw [adM_lo h, qE_lo hM h]
      exact this
    · obtain ⟨i, -, h2⟩ := at' a h
      exact hP i _ h2
  · have e : adM ad h0 g a = adM ad h0 g a' := e
    rcases ordM_al a ha with h | h
    · rcases ordM_al a' ha' with h' | h'
      · rw [adM_lo h, adM_lo h'] at e
        exact hJ a a' h h' e
      · have := hA a' h'
        rw [← e, adM_lo h] at this
        exact absurd this (hn a h)
    · rcases ordM_al a' ha' with h' | h'
      · have := hA a h
        rw [e, adM_lo h'] at this
        exact absurd this (hn a' h')
      · obtain ⟨i, h1, h2⟩ := at' a h
        obtain ⟨j, h3, h4⟩ := at' a' h'
        have hij := hD.1 i j _ _ h2 h4 e
        subst hij
        rw [h1] at h3
        exact Option.some.inj h3
theorem mfA_8 (M : pM) : mfA M (M8 M) := ⟨fun s _ h => by
  have hs : s < 18 := by
    rcases Nat.lt_or_ge s 18 with q | q
    · exact q
    · rw [Nat.ble_eq_true_of_le q] at h; cases h
  show (match Nat.blt s 18 with
    | true => M.1 (.inl s)
    | false => fun _ => 0) = _
  rw [p_blt_t hs], (fun k h => by cases h), fun r => rfl, rfl⟩
def chF (s : Nat) : Bool := Nat.beq s 19 || Nat.beq s 20
theorem n_first {C : pC} (hC : p_Lg true C) {d : Nat} {M : pM} {Q : pQ} {k g : Int32} (n : Nat) (hn : n < 5) (hm : M.1 (aS 18) 0 = nI n) (h : ∀ M', mfr chF (Nat.beq 0) M M' → M'.1 (aS 19) = upd (M.1 (aS 19)) n k → M'.1 (aS 20) = upd (M.1 (aS 20)) n g → M'.1 (aS 18) 0 = nI (n + 1) → Q M' none) : C d k_X8_firstTeller M [vR (aS 18), vI k, vI g] Q := by
  refine p_ent hC tb_X8_firstTeller _ rfl rfl rfl (fun Z hZ => ?_)
  refine hZ _ _ _ _ (hZ _ _ _ _ (hZ _ _ _ _ (hZ _ _ _ _ (hZ _ _ _ _ ?_))))
  show Z 9 _ _ _
  rw [hm]
  refine hZ _ _ _ _ ⟨vp_in_nI (N := 5) hn (by omega), ?_⟩
  rw [nI_clamp (by omega)]
  have F1 : mfr chF (Nat.beq 0) M (p_wr M (aS 19) n k) := mfr_wr mfr_rf (by decide) rfl
  have A1 : (p_wr M (aS 19) n k).1 (aS 19) = upd (M.1 (aS 19)) n k := p_wr_eq
  have B1 : ∀ s, s ≠ 19 → (p_wr M (aS 19) n k).1 (aS s) = M.1 (aS s) := fun s hs => p_wr_ne (fun e => hs (Sum.inl.inj e))
  generalize p_wr M (aS 19) n k = M1 at F1 A1 B1 ⊢
  refine hZ _ _ _ _ (hZ _ _ _ _ (hZ _ _ _ _ (hZ _ _ _ _ (hZ _ _ _ _ ?_))))
  show Z 19 _ _ _
  rw [B1 18 (by decide), hm]
  refine hZ _ _ _ _ ⟨vp_in_nI (N := 5) hn (by omega), ?_⟩
  rw [nI_clamp (by omega)]
  have F2 : mfr chF (Nat.beq 0) M (p_wr M1 (aS 20) n g) := mfr_wr F1 (by decide) rfl
  have A2 : (p_wr M1 (aS 20) n g).1 (aS 20) = upd (M1.1 (aS 20)) n g := p_wr_eq
  have B2 : ∀ s, s ≠ 20 → (p_wr M1 (aS 20) n g).1 (aS s) = M1.1 (aS s) := fun s hs => p_wr_ne (fun e => hs (Sum.inl.inj e))
  generalize p_wr M1 (aS 20) n g = M2 at F2 A2 B2 ⊢
  refine hZ _ _ _ _ (hZ _ _ _ _ (hZ _ _ _ _ (hZ _ _ _ _ (hZ _ _ _ _ (hZ _ _ _ _ ?_)))))
  show Z 30 _ _ _
  refine hZ _ _ _ _ ?_
  rw [B2 18 (by decide), B1 18 (by decide), hm, show nI n + 1 = nI (n + 1) from nI_1 n]
  refine h _ (mfr_fd F2 rfl) ?_ ?_ (by rw [p_wr_eq, us])
  · rw [p_wr_ne (by decide), B2 19 (by decide), A1]
  · rw [p_wr_ne (by decide), A2, B1 20 (by decide)]
theorem mfA_F {M M' : pM} (h : mfr chF (Nat.beq 0) M M') : mfA M M' := mfA_of h (lo18 (by decide))
theorem mfA_4 {M M' : pM} (h : mfr ch4 no M M') : mfA M M' := mfA_of h (lo18 (by decide))
/-- the rows behind it all -/
theorem k8_tail {C : pC} (hC : p_Lg true C) {d : Nat} {Q : pQ} {Z : pX} (hd : 6 ≤ d) (hZ : p_Cl true C tb_X8_init d Q Z) {M : pM} (hS : cS M S0) (h : ∀ M', cS M' S0 → mS M' S0 → Z 274 [some (vR (aS 18))] [] M') : Z 161 [some (vR (aS 18))] [] (M8 M) := by
  have z : ∀ s, 18 ≤ s → (M8 M).1 (aS s) = fun _ => 0 := fun s hs => by
    show (match Nat.blt s 18 with
      | true => M.1 (.inl s)
      | false => fun _ => 0) = _
    rw [p_blt_ge hs]
  have F0 := mfA_8 M
  have hS8 : cS (M8 M) S0 := cS_m F0 (by decide) hS
  generalize M8 M = N0 at z hS8 ⊢
  refine hZ _ _ _ _ (hZ _ _ _ _ (hZ _ _ _ _ ?_))
  show Z 165 _ _ _
  refine hZ _ _ _ _ ⟨d - 1, by omega, n_first hC 0 (by omega) (by rw [z 18 (by omega)]; rfl) (fun N1 a1 a2 a3 a4 => ?_)⟩
  refine hZ _ _ _ _ (hZ _ _ _ _ (hZ _ _ _ _ ?_))
  show Z 172 _ _ _
  refine hZ _ _ _ _ ⟨d - 1, by omega, n_first hC 1 (by omega) a4 (fun N2 b1 b2 b3 b4 => ?_)⟩
  refine hZ _ _ _ _ (hZ _ _ _ _ (hZ _ _ _ _ ?_))
  show Z 179 _ _ _
  refine hZ _ _ _ _ ⟨d - 1, by omega, n_first hC 2 (by omega) b4 (fun N3 c1 c2 c3 c4 => ?_)⟩
  refine hZ _ _ _ _ (hZ _ _ _ _ (hZ _ _ _ _ ?_))
  show Z 186 _ _ _
  refine hZ _ _ _ _ ⟨d - 1, by omega, n_first hC 3 (by omega) c4 (fun N4 d1 d2 d3 d4 => ?_)⟩
  refine hZ _ _ _ _ (hZ _ _ _ _ (hZ _ _ _ _ (hZ _ _ _ _ (hZ _ _ _ _ (hZ _ _ _ _ (hZ _ _ _ _ (hZ _ _ _ _ (hZ _ _ _ _ (hZ _ _ _ _ (hZ _ _ _ _ (hZ _ _ _ _ ?_)))))))))))
  show Z 206 _ _ _
  rw [a2] at b2
  rw [b2] at c2
  rw [c2, z 19 (by omega)] at d2
  rw [a3] at b3
  rw [b3] at c3
  rw [c3, z 20 (by omega)] at d3
  have G4 : mfA N0 N4 := (((mfA_F a1).tr (mfA_F b1)).tr (mfA_F c1)).tr (mfA_F d1)
  have z4 : ∀ s, 21 ≤ s → N4.1 (aS s) = fun _ => 0 := fun s hs => by
    have hc : chF s = false := by simp only [chF, p_beq_f (show s ≠ 19 by omega), p_beq_f (show s ≠ 20 by omega)]; rfl
    rw [d1.1 s (by omega) hc, c1.1 s (by omega) hc, b1.1 s (by omega) hc, a1.1 s (by omega) hc, z s (by omega)]
  have y4 : ∀ k, k ≠ 0 → N4.1 (aS 18) k = 0 := fun k hk => by
    have hc : Nat.beq 0 k = false := p_beq_f (fun e => hk e.symm)
    rw [d1.2.1 k hc, c1.2.1 k hc, b1.2.1 k hc, a1.2.1 k hc, z 18 (by omega)]
  have N5f : mfA N4 (p_wr (p_wr N4 (aS 18) 1 4) (aS 18) 3 5) := mfr_fd (mfr_fd mfr_rf rfl) rfl
  have N5s : ∀ s, s ≠ 18 → (p_wr (p_wr N4 (aS 18) 1 4) (aS 18) 3 5).1 (aS s) = N4.1 (aS s) := fun s hs => (p_wr_ne (fun e => hs (Sum.inl.inj e))).trans (p_wr_ne (fun e => hs (Sum.inl.inj e)))
  have N50 : (p_wr (p_wr N4 (aS 18) 1 4) (aS 18) 3 5).1 (aS 18) 0 = nI 4 := by rw [p_wr_eq, un (by decide), p_wr_eq, un (by decide), d4]
  have N51 : (p_wr (p_wr N4 (aS 18) 1 4) (aS 18) 3 5).1 (aS 18) 1 = 4 := by rw [p_wr_eq, un (by decide), p_wr_eq, us]
  have N53 : (p_wr (p_wr N4 (aS 18) 1 4) (aS 18) 3 5).1 (aS 18) 3 = 5 := by rw [p_wr_eq, us]
  have N5k : ∀ k, k ≠ 0 → k ≠ 1 → k ≠ 3 → (p_wr (p_wr N4 (aS 18) 1 4) (aS 18) 3 5).1 (aS 18) k = 0 := fun k h0 h1 h3 => by rw [p_wr_eq, un h3, p_wr_eq, un h1, y4 k h0]
  generalize p_wr (p_wr N4 (aS 18) 1 4) (aS 18) 3 5 = N5 at N5f N5s N50 N51 N53 N5k ⊢
  refine hZ _ _ _ _ ⟨d - 1, by omega, n_sets2 hC 0 rfl (by omega) (fun P1 e1 w1 x1 v1 g1 => ?_)⟩
  refine hZ _ _ _ _ (hZ _ _ _ _ (hZ _ _ _ _ (hZ _ _ _ _ (hZ _ _ _ _ (hZ _ _ _ _ ?_)))))
  show Z 216 _ _ _
  refine hZ _ _ _ _ ⟨d - 1, by omega, n_sets2 hC 1 rfl (by omega) (fun P2 e2 w2 x2 v2 g2 => ?_)⟩
  refine hZ _ _ _ _ (hZ _ _ _ _ (hZ _ _ _ _ (hZ _ _ _ _ (hZ _ _ _ _ (hZ _ _ _ _ ?_)))))
  show Z 226 _ _ _
  refine hZ _ _ _ _ ⟨d - 1, by omega, n_sets2 hC 2 rfl (by omega) (fun P3 e3 w3 x3 v3 g3 => ?_)⟩
  refine hZ _ _ _ _ (hZ _ _ _ _ (hZ _ _ _ _ (hZ _ _ _ _ (hZ _ _ _ _ (hZ _ _ _ _ ?_)))))
  show Z 236 _ _ _
  refine hZ _ _ _ _ ⟨d - 1, by omega, n_sets2 hC 3 rfl (by omega) (fun P4 e4 w4 x4 v4 g4 => ?_)⟩
  refine hZ _ _ _ _ (hZ _ _ _ _ (hZ _ _ _ _ (hZ _ _ _ _ (hZ _ _ _ _ (hZ _ _ _ _ ?_)))))
  show Z 245 _ _ _
  refine hZ _ _ _ _ ⟨d - 1, by omega, n_sets2 hC 4 rfl (by omega) (fun P5 e5 w5 x5 v5 g5 => ?_)⟩
  refine hZ _ _ _ _ (hZ _ _ _ _ (hZ _ _ _ _ (hZ _ _ _ _ (hZ _ _ _ _ (hZ _ _ _ _ ?_)))))
  show Z 255 _ _ _
  refine hZ _ _ _ _ ⟨d - 1, by omega, n_sets2 hC 5 rfl (by omega) (fun P6 e6 w6 x6 v6 g6 => ?_)⟩
  refine hZ _ _ _ _ (hZ _ _ _ _ (hZ _ _ _ _ (hZ _ _ _ _ (hZ _ _ _ _ (hZ _ _ _ _ ?_)))))
  show Z 265 _ _ _
  refine hZ _ _ _ _ ⟨d - 1, by omega, n_sets2 hC 6 rfl (by omega) (fun P7 e7 w7 x7 v7 g7 => ?_)⟩
  refine hZ _ _ _ _ (hZ _ _ _ _ (hZ _ _ _ _ ?_))
  show Z 274 _ _ _
  rw [w1] at w2
  rw [w2] at w3
  rw [w3] at w4
  rw [w4] at w5
  rw [w5] at w6
  rw [w6] at w7
  rw [N5s 21 (by decide), z4 21 (by omega)] at w7
  rw [x1] at x2
  rw [x2] at x3
  rw [x3] at x4
  rw [x4] at x5
  rw [x5] at x6
  rw [x6] at x7
  rw [N5s 22 (by decide), z4 22 (by omega)] at x7
  rw [v1] at v2
  rw [v2] at v3
  rw [v3] at v4
  rw [v4] at v5
  rw [v5] at v6
  rw [v6] at v7
  rw [N5s 23 (by decide), z4 23 (by omega)] at v7
  rw [g1] at g2
  rw [g2] at g3
  rw [g3] at g4
  rw [g4] at g5
  rw [g5] at g6
  rw [g6] at g7
  rw [N5s 24 (by decide), z4 24 (by omega)] at g7
  have GP : mfr ch4 no N5 P7 := (((((e1.tr e2).tr e3).tr e4).tr e5).tr e6).tr e7
  have G7 : mfA N0 (p_wr P7 (aS 18) 2 7) := ((G4.tr N5f).tr (mfA_4 GP)).tr (mfr_fd mfr_rf rfl)
  have Qs : ∀ s, s ≠ 18 → (p_wr P7 (aS 18) 2 7).1 (aS s) = P7.1 (aS s) := fun s hs => p_wr_ne (fun e => hs (Sum.inl.inj e))
  have Qk : ∀ k, k ≠ 2 → (p_wr P7 (aS 18) 2 7).1 (aS 18) k = N5.1 (aS 18) k := fun k hk => by rw [p_wr_eq, un hk, GP.2.1 k rfl]
  have Q2 : (p_wr P7 (aS 18) 2 7).1 (aS 18) 2 = 7 := by rw [p_wr_eq, us]
  generalize p_wr P7 (aS 18) 2 7 = M' at G7 Qs Qk Q2 ⊢
  refine h M' (cS_m G7 (by decide) hS8) ⟨⟨Nat.zero_le _, by rw [Qk 14 (by decide), N5k 14 (by decide) (by decide) (by decide)]; rfl, fun i x hx => by cases hx⟩, ⟨by rw [Qk 0 (by decide), N50]; rfl, by rw [Qk 1 (by decide), N51]; rfl, by rw [Q2]; rfl, by rw [Qk 3 (by decide), N53]; rfl, fun i x hx => ?_, fun i x hx => ?_⟩, ⟨Nat.zero_le _, by rw [Qk 10 (by decide), N5k 10 (by decide) (by decide) (by decide)]; rfl, fun i x hx => by cases hx⟩, ⟨Nat.zero_le _, by rw [Qk 30 (by decide), N5k 30 (by decide) (by decide) (by decide)]; rfl, fun i x hx => by cases hx⟩, ⟨Nat.zero_le _, by rw [Qk 34 (by decide), N5k 34 (by decide) (by decide) (by decide)]; rfl, fun i x hx => by cases hx⟩⟩
  · rw [Qs 19 (by decide), Qs 20 (by decide), GP.1 19 (by decide) rfl, GP.1 20 (by decide) rfl, N5s 19 (by decide), N5s 20 (by decide), d2, d3]
    have hi : i < 4 := (List.getElem?_eq_some_iff.mp hx).1
    rcases (show i = 0 ∨ i = 1 ∨ i = 2 ∨ i = 3 by omega) with rfl | rfl | rfl | rfl <;> (cases hx; exact ⟨rfl, rfl⟩)
  · rw [Qs 21 (by decide), Qs 22 (by decide), Qs 23 (by decide), Qs 24 (by decide), w7, x7, v7, g7]
    have hi : i < 7 := (List.getElem?_eq_some_iff.mp hx).1
    rcases (show i = 0 ∨ i = 1 ∨ i = 2 ∨ i = 3 ∨ i = 4 ∨ i = 5 ∨ i = 6 by omega) with rfl | rfl | rfl | rfl | rfl | rfl | rfl <;> (cases hx; exact ⟨rfl, rfl, rfl, rfl⟩)
