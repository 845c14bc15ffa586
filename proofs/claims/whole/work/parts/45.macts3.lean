/-! the model: undo, back, keep, seen, forget, falseMany -/
theorem p_wr_ne {M : pM} {a b : pA} {k : Nat} {x : Int32} (h : b ≠ a) : (p_wr M a k x).1 b = M.1 b := p_row_ne h
theorem nI_m35 {n : Nat} : (35 : Int32) * nI n = nI (35 * n) := by
  show Int32.ofNat 35 * Int32.ofNat n = Int32.ofNat (35 * n)
  exact (Int32.ofNat_mul 35 n).symm
theorem alk_len {ρ' ρ : pRm} (h : alk ρ' ρ) : ρ'.1.length = ρ.1.length := by
  have := congrArg List.length h.1
  simpa only [List.length_map] using this
theorem alk_get {ρ' ρ : pRm} (h : alk ρ' ρ) {t : Nat} {y : Int32 × Int32} (hy : ρ'.1[t]? = some y) : ∃ z, ρ.1[t]? = some z ∧ z.1 = y.1 := by
  have e : (ρ'.1.map Prod.fst)[t]? = (ρ.1.map Prod.fst)[t]? := by rw [h.1]
  rw [List.getElem?_map, List.getElem?_map, hy] at e
  cases q : ρ.1[t]? with
  | none => rw [q] at e; cases e
  | some z => rw [q] at e; exact ⟨z, rfl, (Option.some.inj e).symm⟩
theorem mR_tk {M M' : pM} {f : Nat → Int32} {o : Nat} {ρ ρ' : pRm} (hR : mR M ρ) (al : alk ρ' ρ) (ok : okR ρ') (hn : nR f o ρ') (f0 : mfr (fun s => ch4 s || Nat.beq s 20) (fun k => Nat.beq k 3 || Nat.beq k 2) M M') (f1 : M'.1 (aS 18) 3 = f o) (f2 : M'.1 (aS 18) 2 = f (o + 1)) (f3 : ∀ c, c < 7 → M'.1 (aS 21) c = f (o + 2 + c) ∧ M'.1 (aS 22) c = f (o + 9 + c) ∧ M'.1 (aS 23) c = f (o + 16 + c) ∧ M'.1 (aS 24) c = f (o + 23 + c)) (f4 : ∀ t, t < 5 → M'.1 (aS 20) t = f (o + 30 + t)) : mR M' ρ' := by
  obtain ⟨a1, a2, a3, a4, a5, a6⟩ := hR
  obtain ⟨n1, n2, n3, n4⟩ := hn
  have l1 := ok.1
  have l3 := ok.2.2.1
  refine ⟨?_, ?_, f2.trans n2, f1.trans n1, fun t y hy => ?_, fun c x hx => ?_⟩
  · rw [f0.2.1 0 rfl, a1, alk_len al]
  · rw [f0.2.1 1 rfl, a2, al.2]
  · have ht : t < 5 := Nat.lt_of_lt_of_le (List.getElem?_eq_some_iff.mp hy).1 l1
    obtain ⟨z, z1, z2⟩ := alk_get al hy
    constructor
    · rw [f0.1 19 (by decide) rfl, (a5 t z z1).1, z2]
    · rw [f4 t ht]; exact n4 t y hy
  · have hc : c < 7 := Nat.lt_of_lt_of_le (List.getElem?_eq_some_iff.mp hx).1 l3
    obtain ⟨k1, k2, k3, k4⟩ := f3 c hc
    obtain ⟨y1, y2, y3, y4⟩ := n3 c x hx
    exact ⟨k1.trans y1, k2.trans y2, k3.trans y3, k4.trans y4⟩
theorem rv_split {L : List pRm} {ρ : pRm} {r : List pRm} (h : L.reverse = ρ :: r) : L = r.reverse ++ [ρ] := by
  have := congrArg List.reverse h
  simpa using this
def ch5 (s : Nat) : Bool := ch4 s || Nat.beq s 20
theorem ch5_lo : ∀ s, s < 18 → ch5 s = false := by decide
theorem n_undo {C : pC} (hC : p_Lg true C) {d : Nat} {M : pM} {Q : pQ} {S : pS} (hd : 2 ≤ d) (hS : mS M S) (ok : okS S) (h : ∀ M', mfA M M' → mS M' (sp_undo S).1 → Q M' (some (vI (sp_undo S).2))) : C d k_X8_undo M [vR (aS 18)] Q := by
  obtain ⟨a1, a2, a3, a4, a5⟩ := hS
  have l8 := a4.1
  cases er : S.2.2.2.1.reverse with
  | nil =>
    have e0 : S.2.2.2.1 = [] := List.reverse_eq_nil_iff.mp er
    have h0 : M.1 (aS 18) 30 = 0 := by rw [a4.2.1, e0]; rfl
    refine p_ent hC tb_X8_undo _ rfl rfl rfl (fun Z hZ => ?_)
    refine hZ _ _ _ _ (hZ _ _ _ _ ?_)
    show Z 4 _ _ _
    refine hZ _ _ _ _ (p_fn (h0) ?_)
    refine hZ _ _ _ _ ?_
    show Z 9 _ _ _
    refine hZ _ _ _ _ ?_
    have := h M mfr_rf
    simp only [sp_undo, er] at this
    exact this ⟨a1, a2, a3, a4, a5⟩
  | cons ρ r =>
    have es := rv_split er
    have hl : S.2.2.2.1.length = r.length + 1 := by rw [es]; simp
    have h0 : M.1 (aS 18) 30 = nI (r.length + 1) := by rw [a4.2.1, hl]
    have hm : ρ ∈ S.2.2.2.1 := by rw [es]; simp
    obtain ⟨okr, al⟩ := ok.2.2.2.2.1 ρ hm
    have hn : nR (M.1 (aS 35)) (35 * r.length) ρ := a4.2.2 r.length ρ (by rw [es, List.getElem?_append_right (by simp)]; simp)
    refine p_ent hC tb_X8_undo _ rfl rfl rfl (fun Z hZ => ?_)
    refine hZ _ _ _ _ (hZ _ _ _ _ ?_)
    show Z 4 _ _ _
    refine hZ _ _ _ _ (p_tn (by rw [h0]; exact nI_ne0 (by omega) (by omega)) ?_)
    refine hZ _ _ _ _ (hZ _ _ _ _ (hZ _ _ _ _ (hZ _ _ _ _ (hZ _ _ _ _ (hZ _ _ _ _ (hZ _ _ _ _ (hZ _ _ _ _ (hZ _ _ _ _ (hZ _ _ _ _ (hZ _ _ _ _ (hZ _ _ _ _ (hZ _ _ _ _ ?_))))))))))))
    show Z 32 _ _ _
    rw [h0, show nI (r.length + 1) - 1 = nI r.length from nI_pred _]
    have F1 : mfA M (p_wr M (aS 18) 30 (nI r.length)) := mfr_fd mfr_rf rfl
    have G0 : (p_wr M (aS 18) 30 (nI r.length)).1 (aS 18) 30 = nI r.length := by rw [p_wr_eq, us]
    have G1 : ∀ k, k ≠ 30 → (p_wr M (aS 18) 30 (nI r.length)).1 (aS 18) k = M.1 (aS 18) k := fun k hk => by rw [p_wr_eq, un hk]
    have G2 : ∀ s, s ≠ 18 → (p_wr M (aS 18) 30 (nI r.length)).1 (aS s) = M.1 (aS s) := fun s hs => p_wr_ne (fun e => hs (Sum.inl.inj e))
    generalize p_wr M (aS 18) 30 (nI r.length) = M1 at F1 G0 G1 G2 ⊢
    rw [G0]
    refine hZ _ _ _ _ ⟨d - 1, by omega, n_takes35 hC (35 * r.length) nI_m35 (by omega) (by omega) (fun M2 j1 j2 j3 j4 j5 => ?_)⟩
    refine hZ _ _ _ _ (hZ _ _ _ _ ?_)
    show Z 39 _ _ _
    refine hZ _ _ _ _ ?_
    have := h M2 (F1.tr (mfA_of j1 (lo18 ch5_lo)))
    simp only [sp_undo, er] at this
    rw [j1.2.1 30 rfl, G0]
    have b1 := mT_cg a1 (G1 14 (by decide)) (G2 27 (by decide))
    have b2 : mR M1 S.2.1 := mR_cg a2 (fun k hk => G1 k (by omega)) (fun s h1 h2 => G2 s (by omega))
    have b3 := mV_cg a3 (G1 10 (by decide)) (G2 25 (by decide)) (G2 26 (by decide))
    have b5 := mL_cg a5 (G1 34 (by decide)) (G2 38 (by decide))
    rw [G2 35 (by decide)] at j2 j3 j4 j5
    refine this ⟨mT_cg b1 (j1.2.1 14 rfl) (j1.1 27 (by decide) rfl), mR_tk b2 al okr hn j1 j2 j3 j4 j5, mV_cg b3 (j1.2.1 10 rfl) (j1.1 25 (by decide) rfl) (j1.1 26 (by decide) rfl), ⟨?_, ?_, fun i x hx => ?_⟩, mL_cg b5 (j1.2.1 34 rfl) (j1.1 38 (by decide) rfl)⟩
    · show r.reverse.length ≤ 8
      rw [List.length_reverse]; omega
    · show _ = nI r.reverse.length
      rw [j1.2.1 30 rfl, G0, List.length_reverse]
    · have hx : r.reverse[i]? = some x := hx
      rw [j1.1 35 (by decide) rfl, G2 35 (by decide)]
      refine a4.2.2 i x ?_
      have := (List.getElem?_eq_some_iff.mp hx).1
      rw [es, List.getElem?_append_left this, hx]
theorem n_back {C : pC} (hC : p_Lg true C) {d : Nat} {M : pM} {Q : pQ} {S : pS} (hd : 2 ≤ d) (hS : mS M S) (ok : okS S) (h : ∀ M', mfA M M' → mS M' (sp_back S).1 → Q M' (some (vI (sp_back S).2))) : C d k_X8_back M [vR (aS 18)] Q := by
  obtain ⟨a1, a2, a3, a4, a5⟩ := hS
  have l8 := a5.1
  cases er : S.2.2.2.2.reverse with
  | nil =>
    have e0 : S.2.2.2.2 = [] := List.reverse_eq_nil_iff.mp er
    have h0 : M.1 (aS 18) 34 = 0 := by rw [a5.2.1, e0]; rfl
    refine p_ent hC tb_X8_back _ rfl rfl rfl (fun Z hZ => ?_)
    refine hZ _ _ _ _ (hZ _ _ _ _ ?_)
    show Z 4 _ _ _
    refine hZ _ _ _ _ (p_fn (h0) ?_)
    refine hZ _ _ _ _ ?_
    show Z 9 _ _ _
    refine hZ _ _ _ _ ?_
    have := h M mfr_rf
    simp only [sp_back, er] at this
    exact this ⟨a1, a2, a3, a4, a5⟩
  | cons ρ r =>
    have es := rv_split er
    have hl : S.2.2.2.2.length = r.length + 1 := by rw [es]; simp
    have h0 : M.1 (aS 18) 34 = nI (r.length + 1) := by rw [a5.2.1, hl]
    have hm : ρ ∈ S.2.2.2.2 := by rw [es]; simp
    obtain ⟨okr, al⟩ := ok.2.2.2.2.2 ρ hm
    have hn : nR (M.1 (aS 38)) (35 * r.length) ρ := a5.2.2 r.length ρ (by rw [es, List.getElem?_append_right (by simp)]; simp)
    refine p_ent hC tb_X8_back _ rfl rfl rfl (fun Z hZ => ?_)
    refine hZ _ _ _ _ (hZ _ _ _ _ ?_)
    show Z 4 _ _ _
    refine hZ _ _ _ _ (p_tn (by rw [h0]; exact nI_ne0 (by omega) (by omega)) ?_)
    refine hZ _ _ _ _ (hZ _ _ _ _ (hZ _ _ _ _ (hZ _ _ _ _ (hZ _ _ _ _ (hZ _ _ _ _ (hZ _ _ _ _ (hZ _ _ _ _ (hZ _ _ _ _ (hZ _ _ _ _ (hZ _ _ _ _ (hZ _ _ _ _ (hZ _ _ _ _ ?_))))))))))))
    show Z 32 _ _ _
    rw [h0, show nI (r.length + 1) - 1 = nI r.length from nI_pred _]
    have F1 : mfA M (p_wr M (aS 18) 34 (nI r.length)) := mfr_fd mfr_rf rfl
    have G0 : (p_wr M (aS 18) 34 (nI r.length)).1 (aS 18) 34 = nI r.length := by rw [p_wr_eq, us]
    have G1 : ∀ k, k ≠ 34 → (p_wr M (aS 18) 34 (nI r.length)).1 (aS 18) k = M.1 (aS 18) k := fun k hk => by rw [p_wr_eq, un hk]
    have G2 : ∀ s, s ≠ 18 → (p_wr M (aS 18) 34 (nI r.length)).1 (aS s) = M.1 (aS s) := fun s hs => p_wr_ne (fun e => hs (Sum.inl.inj e))
    generalize p_wr M (aS 18) 34 (nI r.length) = M1 at F1 G0 G1 G2 ⊢
    rw [G0]
    refine hZ _ _ _ _ ⟨d - 1, by omega, n_takes38 hC (35 * r.length) nI_m35 (by omega) (by omega) (fun M2 j1 j2 j3 j4 j5 => ?_)⟩
    refine hZ _ _ _ _ (hZ _ _ _ _ (hZ _ _ _ _ (hZ _ _ _ _ (hZ _ _ _ _ ?_))))
    show Z 44 _ _ _
    refine hZ _ _ _ _ ?_
    have := h (p_wr M2 (aS 18) 30 0) (mfr_fd (F1.tr (mfA_of j1 (lo18 ch5_lo))) rfl)
    simp only [sp_back, er] at this
    have E34 : (p_wr M2 (aS 18) 30 0).1 (aS 18) 34 = nI r.length := by rw [p_wr_eq, un (by decide), j1.2.1 34 rfl, G0]
    rw [E34]
    have b1 := mT_cg a1 (G1 14 (by decide)) (G2 27 (by decide))
    have b2 : mR M1 S.2.1 := mR_cg a2 (fun k hk => G1 k (by omega)) (fun s h1 h2 => G2 s (by omega))
    have b3 := mV_cg a3 (G1 10 (by decide)) (G2 25 (by decide)) (G2 26 (by decide))
    rw [G2 38 (by decide)] at j2 j3 j4 j5
    have c2 := mR_tk b2 al okr hn j1 j2 j3 j4 j5
    have E1 : ∀ k, k ≠ 30 → (p_wr M2 (aS 18) 30 0).1 (aS 18) k = M2.1 (aS 18) k := fun k hk => by rw [p_wr_eq, un hk]
    have E2 : ∀ s, s ≠ 18 → (p_wr M2 (aS 18) 30 0).1 (aS s) = M2.1 (aS s) := fun s hs => p_wr_ne (fun e => hs (Sum.inl.inj e))
    refine this ⟨mT_cg b1 ((E1 14 (by decide)).trans (j1.2.1 14 rfl)) ((E2 27 (by decide)).trans (j1.1 27 (by decide) rfl)), mR_cg c2 (fun k hk => E1 k (by omega)) (fun s h1 h2 => E2 s (by omega)), mV_cg b3 ((E1 10 (by decide)).trans (j1.2.1 10 rfl)) ((E2 25 (by decide)).trans (j1.1 25 (by decide) rfl)) ((E2 26 (by decide)).trans (j1.1 26 (by decide) rfl)), ⟨Nat.zero_le _, ?_, fun i x hx => ?_⟩, ⟨?_, ?_, fun i x hx => ?_⟩⟩
    · rw [p_wr_eq, us]; rfl
    · cases hx
    · show r.reverse.length ≤ 2
      rw [List.length_reverse]; omega
    · show _ = nI r.reverse.length
      rw [E34, List.length_reverse]
    · have hx : r.reverse[i]? = some x := hx
      rw [E2 38 (by decide), j1.1 38 (by decide) rfl, G2 38 (by decide)]
      refine a5.2.2 i x ?_
      have := (List.getElem?_eq_some_iff.mp hx).1
      rw [es, List.getElem?_append_left this, hx]
theorem n_keep {C : pC} (hC : p_Lg true C) {d : Nat} {M : pM} {Q : pQ} {S : pS} (hd : 1 ≤ d) (hS : mS M S) (ok : okS S) (h : ∀ M', mfA M M' → mS M' (sp_keep S).1 → Q M' (some (vI (sp_keep S).2))) : C d k_X8_keep M [vR (aS 18)] Q := by
  obtain ⟨a1, a2, a3, a4, a5⟩ := hS
  have l8 := a5.1
  by_cases hl : S.2.2.2.2.length < 2
  · refine p_ent hC tb_X8_keep _ rfl rfl rfl (fun Z hZ => ?_)
    refine hZ _ _ _ _ (hZ _ _ _ _ (hZ _ _ _ _ ?_))
    show Z 5 _ _ _
    refine hZ _ _ _ _ (p_tn (by rw [a5.2.1]; exact (fun e => absurd ((nI_eq (a := S.2.2.2.2.length) (b := 2) (by omega) (by omega)).mp e) (by omega))) ?_)
    refine hZ _ _ _ _ (hZ _ _ _ _ (hZ _ _ _ _ (hZ _ _ _ _ (hZ _ _ _ _ (hZ _ _ _ _ (hZ _ _ _ _ ?_))))))
    show Z 23 _ _ _
    rw [a5.2.1]
    refine hZ _ _ _ _ ⟨d - 1, by omega, n_lays38 hC (35 * S.2.2.2.2.length) nI_m35 (by omega) a2 ok.1 (fun M1 j1 j2 j3 => ?_)⟩
    refine hZ _ _ _ _ (hZ _ _ _ _ (hZ _ _ _ _ (hZ _ _ _ _ (hZ _ _ _ _ (hZ _ _ _ _ (hZ _ _ _ _ (hZ _ _ _ _ ?_)))))))
    show Z 40 _ _ _
    rw [j1.2.1 34 rfl, a5.2.1, show nI S.2.2.2.2.length + 1 = nI (S.2.2.2.2.length + 1) from nI_1 _]
    refine hZ _ _ _ _ ?_
    have E34 : (p_wr M1 (aS 18) 34 (nI (S.2.2.2.2.length + 1))).1 (aS 18) 34 = nI (S.2.2.2.2.length + 1) := by rw [p_wr_eq, us]
    have := h (p_wr M1 (aS 18) 34 (nI (S.2.2.2.2.length + 1))) (mfr_fd (mfA_of j1 (lo18 (by decide))) rfl)
    simp only [sp_keep, if_pos hl] at this
    rw [E34]
    have E1 : ∀ k, k ≠ 34 → (p_wr M1 (aS 18) 34 (nI (S.2.2.2.2.length + 1))).1 (aS 18) k = M.1 (aS 18) k := fun k hk => by rw [p_wr_eq, un hk, j1.2.1 k rfl]
    have E2 : ∀ s, s ≠ 18 → s ≠ 38 → (p_wr M1 (aS 18) 34 (nI (S.2.2.2.2.length + 1))).1 (aS s) = M.1 (aS s) := fun s hs h8 => (p_wr_ne (fun e => hs (Sum.inl.inj e))).trans (j1.1 s hs (p_beq_f (fun e => h8 e.symm)))
    have E3 : (p_wr M1 (aS 18) 34 (nI (S.2.2.2.2.length + 1))).1 (aS 38) = M1.1 (aS 38) := p_wr_ne (fun e => absurd (Sum.inl.inj e) (by decide))
    refine this ⟨mT_cg a1 (E1 14 (by decide)) (E2 27 (by decide) (by decide)), mR_cg a2 (fun k hk => E1 k (by omega)) (fun s h1 h2 => E2 s (by omega) (by omega)), mV_cg a3 (E1 10 (by decide)) (E2 25 (by decide) (by decide)) (E2 26 (by decide) (by decide)), mL_cg a4 (E1 30 (by decide)) (E2 35 (by decide) (by decide)), ⟨?_, ?_, fun i x hx => ?_⟩⟩
    · show (S.2.2.2.2 ++ [S.2.1]).length ≤ 2
      rw [List.length_append]; exact hl
    · show _ = nI (S.2.2.2.2 ++ [S.2.1]).length
      rw [E34, List.length_append]; rfl
    · have hx : (S.2.2.2.2 ++ [S.2.1])[i]? = some x := hx
      rw [E3]
      by_cases q : i < S.2.2.2.2.length
      · rw [List.getElem?_append_left q] at hx
        have hm : x ∈ S.2.2.2.2 := List.mem_of_getElem? hx
        refine nR_cg (a5.2.2 i x hx) (okSK ok x hm) (fun k hk => j3 _ (Or.inl (by omega)))
      · have hi : i = S.2.2.2.2.length := by
          have := (List.getElem?_eq_some_iff.mp hx).1
          simp only [List.length_append, List.length_cons, List.length_nil] at this
          omega
        subst hi
        rw [List.getElem?_append_right (Nat.le_refl _), Nat.sub_self] at hx
        have hx : S.2.1 = x := Option.some.inj hx
        subst hx
        exact j2
  · have e2 : S.2.2.2.2.length = 2 := by omega
    refine p_ent hC tb_X8_keep _ rfl rfl rfl (fun Z hZ => ?_)
    refine hZ _ _ _ _ (hZ _ _ _ _ (hZ _ _ _ _ ?_))
    show Z 5 _ _ _
    refine hZ _ _ _ _ (p_fn (by rw [a5.2.1, e2]; rfl) ?_)
    refine hZ _ _ _ _ ?_
    show Z 10 _ _ _
    refine hZ _ _ _ _ ?_
    have := h M mfr_rf
    simp only [sp_keep, if_neg hl] at this
    exact this ⟨a1, a2, a3, a4, a5⟩
theorem n_forget {C : pC} (hC : p_Lg true C) {d : Nat} {M : pM} {Q : pQ} {S : pS} (hS : mS M S) (h : ∀ M', mfA M M' → mS M' (sp_forget S).1 → Q M' (some (vI (sp_forget S).2))) : C d k_X8_forget M [vR (aS 18)] Q := by
  obtain ⟨a1, a2, a3, a4, a5⟩ := hS
  refine p_ent hC tb_X8_forget _ rfl rfl rfl (fun Z hZ => ?_)
  refine hZ _ _ _ _ (hZ _ _ _ _ (hZ _ _ _ _ (hZ _ _ _ _ (hZ _ _ _ _ (hZ _ _ _ _ (hZ _ _ _ _ ?_))))))
  show Z 11 _ _ _
  refine hZ _ _ _ _ ?_
  have E1 : ∀ k, k ≠ 10 → (p_wr M (aS 18) 10 0).1 (aS 18) k = M.1 (aS 18) k := fun k hk => by rw [p_wr_eq, un hk]
  rw [a3.2.1]
  refine h (p_wr M (aS 18) 10 0) (mfr_fd mfr_rf rfl) ⟨mT_cg a1 (E1 14 (by decide)) rfl, mR_cg a2 (fun k hk => E1 k (by omega)) (fun s h1 h2 => p_wr_ne (fun e => absurd (Sum.inl.inj e) (by omega))), ⟨Nat.zero_le _, by rw [p_wr_eq, us]; rfl, (fun i x hx => by cases hx)⟩, mL_cg a4 (E1 30 (by decide)) rfl, mL_cg a5 (E1 34 (by decide)) rfl⟩
theorem n_seen {C : pC} (hC : p_Lg true C) {d : Nat} {M : pM} {Q : pQ} {S : pS} {t k : Int32} (hd : 2 ≤ d) (hS : mS M S) (ok : okS S) (h : ∀ M', mfA M M' → mS M' (sp_seen S t k).1 → Q M' (some (vI (sp_seen S t k).2))) : C d k_X8_seen M [vR (aS 18), vI t, vI k] Q := by
  obtain ⟨a1, a2, a3, a4, a5⟩ := hS
  have l6 := a3.1
  refine p_ent hC tb_X8_seen _ rfl rfl rfl (fun Z hZ => ?_)
  refine hZ _ _ _ _ (hZ _ _ _ _ ?_)
  show Z 2 _ _ _
  refine hZ _ _ _ _ ⟨d - 1, by omega, n_isTeller hC (by omega) a2 ok.1 (fun kk b1 b2 b3 => ?_) (fun b1 => ?_)⟩
  · skip
    refine hZ _ _ _ _ (br_f (by decide) ?_)
    refine hZ _ _ _ _ (hZ _ _ _ _ (hZ _ _ _ _ ?_))
    show Z 12 _ _ _
    refine hZ _ _ _ _ ⟨d - 1, by omega, n_in hC (fun c1 c2 => ?_) (fun c1 => ?_)⟩
    · skip
      refine hZ _ _ _ _ (p_tn (by decide) ?_)
      refine hZ _ _ _ _ (hZ _ _ _ _ (hZ _ _ _ _ ?_))
      show Z 26 _ _ _
      by_cases hl : S.2.2.1.length < 6
      · refine hZ _ _ _ _ (p_tn (by rw [a3.2.1]; exact (fun e => absurd ((nI_eq (a := S.2.2.1.length) (b := 6) (by omega) (by omega)).mp e) (by omega))) ?_)
        refine hZ _ _ _ _ (hZ _ _ _ _ (hZ _ _ _ _ (hZ _ _ _ _ (hZ _ _ _ _ ?_))))
        show Z 41 _ _ _
        rw [a3.2.1]
        refine hZ _ _ _ _ ⟨vp_in_nI (N := 6) (by omega) (by omega), ?_⟩
        rw [nI_clamp (by omega)]
        have F1 : mfA M (p_wr M (aS 25) S.2.2.1.length t) := mfr_wr mfr_rf (by decide) rfl
        have G0 : (p_wr M (aS 25) S.2.2.1.length t).1 (aS 25) = upd (M.1 (aS 25)) S.2.2.1.length t := p_wr_eq
        have G2 : ∀ s, s ≠ 25 → (p_wr M (aS 25) S.2.2.1.length t).1 (aS s) = M.1 (aS s) := fun s hs => p_wr_ne (fun e => hs (Sum.inl.inj e))
        generalize p_wr M (aS 25) S.2.2.1.length t = M1 at F1 G0 G2 ⊢
        refine hZ _ _ _ _ (hZ _ _ _ _ (hZ _ _ _ _ (hZ _ _ _ _ (hZ _ _ _ _ ?_))))
        show Z 51 _ _ _
        rw [G2 18 (by decide), a3.2.1]
        refine hZ _ _ _ _ ⟨vp_in_nI (N := 6) (by omega) (by omega), ?_⟩
        rw [nI_clamp (by omega)]
        have F2 : mfA M (p_wr M1 (aS 26) S.2.2.1.length k) := mfr_wr F1 (by decide) rfl
        have H0 : (p_wr M1 (aS 26) S.2.2.1.length k).1 (aS 26) = upd (M.1 (aS 26)) S.2.2.1.length k := by rw [p_wr_eq, G2 26 (by decide)]
        have H1 : (p_wr M1 (aS 26) S.2.2.1.length k).1 (aS 25) = upd (M.1 (aS 25)) S.2.2.1.length t := (p_wr_ne (fun e => absurd (Sum.inl.inj e) (by decide))).trans G0
        have H2 : ∀ s, s ≠ 25 → s ≠ 26 → (p_wr M1 (aS 26) S.2.2.1.length k).1 (aS s) = M.1 (aS s) := fun s hs h6 => (p_wr_ne (fun e => h6 (Sum.inl.inj e))).trans (G2 s hs)
        generalize p_wr M1 (aS 26) S.2.2.1.length k = M2 at F2 H0 H1 H2 ⊢
        refine hZ _ _ _ _ (hZ _ _ _ _ (hZ _ _ _ _ (hZ _ _ _ _ (hZ _ _ _ _ (hZ _ _ _ _ (hZ _ _ _ _ (hZ _ _ _ _ ?_)))))))
        show Z 66 _ _ _
        rw [H2 18 (by decide) (by decide), a3.2.1, show nI S.2.2.1.length + 1 = nI (S.2.2.1.length + 1) from nI_1 _]
        refine hZ _ _ _ _ ?_
        have E10 : (p_wr M2 (aS 18) 10 (nI (S.2.2.1.length + 1))).1 (aS 18) 10 = nI (S.2.2.1.length + 1) := by rw [p_wr_eq, us]
        have := h (p_wr M2 (aS 18) 10 (nI (S.2.2.1.length + 1))) (mfr_fd F2 rfl)
        simp only [sp_seen, b1, if_pos (And.intro c1 c2), if_pos hl] at this
        rw [E10]
        have E1 : ∀ j, j ≠ 10 → (p_wr M2 (aS 18) 10 (nI (S.2.2.1.length + 1))).1 (aS 18) j = M.1 (aS 18) j := fun j hk => by rw [p_wr_eq, un hk, H2 18 (by decide) (by decide)]
        have E2 : ∀ s, s ≠ 18 → (p_wr M2 (aS 18) 10 (nI (S.2.2.1.length + 1))).1 (aS s) = M2.1 (aS s) := fun s hs => p_wr_ne (fun e => hs (Sum.inl.inj e))
        refine this ⟨mT_cg a1 (E1 14 (by decide)) ((E2 27 (by decide)).trans (H2 27 (by decide) (by decide))), mR_cg a2 (fun j hj => E1 j (by omega)) (fun s h1 h2 => (E2 s (by omega)).trans (H2 s (by omega) (by omega))), ⟨?_, ?_, fun i x hx => ?_⟩, mL_cg a4 (E1 30 (by decide)) ((E2 35 (by decide)).trans (H2 35 (by decide) (by decide))), mL_cg a5 (E1 34 (by decide)) ((E2 38 (by decide)).trans (H2 38 (by decide) (by decide)))⟩
        · show (S.2.2.1 ++ [(t, k)]).length ≤ 6
          rw [List.length_append]; exact hl
        · show _ = nI (S.2.2.1 ++ [(t, k)]).length
          rw [E10, List.length_append]; rfl
        · have hx : (S.2.2.1 ++ [(t, k)])[i]? = some x := hx
          rw [E2 25 (by decide), E2 26 (by decide), H0, H1]
          by_cases q : i < S.2.2.1.length
          · rw [List.getElem?_append_left q] at hx
            rw [un (by omega), un (by omega)]
            exact a3.2.2 i x hx
          · have hi : i = S.2.2.1.length := by
              have := (List.getElem?_eq_some_iff.mp hx).1
              simp only [List.length_append, List.length_cons, List.length_nil] at this
              omega
            subst hi
            rw [List.getElem?_append_right (Nat.le_refl _), Nat.sub_self] at hx
            have hx : (t, k) = x := Option.some.inj hx
            subst hx
            rw [us, us]
            exact ⟨rfl, rfl⟩
      · skip
        have e2 : S.2.2.1.length = 6 := by omega
        refine hZ _ _ _ _ (p_fn (by rw [a3.2.1, e2]; rfl) ?_)
        refine hZ _ _ _ _ ?_
        show Z 31 _ _ _
        refine hZ _ _ _ _ ?_
        have := h M mfr_rf
        simp only [sp_seen, b1, if_pos (And.intro c1 c2), if_neg hl] at this
        exact this ⟨a1, a2, a3, a4, a5⟩
    · skip
      refine hZ _ _ _ _ (p_fn (rfl) ?_)
      refine hZ _ _ _ _ ?_
      show Z 19 _ _ _
      refine hZ _ _ _ _ ?_
      have := h M mfr_rf
      simp only [sp_seen, b1, if_neg c1] at this
      exact this ⟨a1, a2, a3, a4, a5⟩
  · skip
    refine hZ _ _ _ _ (br_t (rfl) ?_)
    refine hZ _ _ _ _ ?_
    show Z 19 _ _ _
    refine hZ _ _ _ _ ?_
    have := h M mfr_rf
    simp only [sp_seen, b1] at this
    exact this ⟨a1, a2, a3, a4, a5⟩
