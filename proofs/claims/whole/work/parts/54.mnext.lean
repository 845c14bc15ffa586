/-! the model: next -/
def chX (s : Nat) : Bool := ch4 s || chW s
def slX (k : Nat) : Bool := Nat.beq k 2 || slT k
/-- rows beside the claims may have changed -/
def nxF (n : Nat) (M M2 : pM) : Prop := mfr chX slX M M2 ∧ M2.1 (aS 18) 2 = M.1 (aS 18) 2 ∧ ∀ s, 21 ≤ s → s ≤ 24 → ∀ j, j < n → M2.1 (aS s) j = M.1 (aS s) j
theorem nxF_rf {n : Nat} {M : pM} : nxF n M M := ⟨mfr_rf, rfl, fun _ _ _ _ _ => rfl⟩
theorem nxF.tr {n : Nat} {M M2 M3 : pM} (h : nxF n M M2) (h2 : nxF n M2 M3) : nxF n M M3 := ⟨h.1.tr h2.1, h2.2.1.trans h.2.1, fun s a b j hj => (h2.2.2 s a b j hj).trans (h.2.2 s a b j hj)⟩
theorem chW_X : ∀ s, chX s = false → chW s = false := fun s h => by
  simp only [chX, Bool.or_eq_false_iff] at h
  exact h.2
theorem ch4_X : ∀ s, chX s = false → ch4 s = false := fun s h => by
  simp only [chX, Bool.or_eq_false_iff] at h
  exact h.1
theorem slT_X : ∀ s, slX s = false → slT s = false := fun s h => by
  simp only [slX, Bool.or_eq_false_iff] at h
  exact h.2
theorem in4' {P : Nat → Prop} (p1 : P 21) (p2 : P 22) (p3 : P 23) (p4 : P 24) : ∀ s, 21 ≤ s → s ≤ 24 → P s := by
  intro s h1 h2
  rcases (show s = 21 ∨ s = 22 ∨ s = 23 ∨ s = 24 by omega) with rfl | rfl | rfl | rfl
  · exact p1
  · exact p2
  · exact p3
  · exact p4
theorem nxF_W {n : Nat} {M M2 : pM} (h : mfr chW slE M M2) : nxF n M M2 := ⟨h.mono chW_X (fun k z => slE_T k (slT_X k z)), h.2.1 2 rfl, in4' (fun j _ => by rw [h.1 21 (by decide) rfl]) (fun j _ => by rw [h.1 22 (by decide) rfl]) (fun j _ => by rw [h.1 23 (by decide) rfl]) (fun j _ => by rw [h.1 24 (by decide) rfl])⟩
theorem nxF_t {n : Nat} {M M2 : pM} {x : Int32} (h : nxF n M M2) : nxF n M (p_wr M2 (aS 18) 3 x) := ⟨mfr_fd h.1 rfl, by rw [p_wr_eq, un (by decide)]; exact h.2.1, in4' (h.2.2 21 (by omega) (by omega)) (h.2.2 22 (by omega) (by omega)) (h.2.2 23 (by omega) (by omega)) (h.2.2 24 (by omega) (by omega))⟩
theorem mR_x {M M2 : pM} {ρ : pRm} {i : Nat} (hR : mR M ρ) (F : nxF ρ.2.2.2.length M M2) (e : M2.1 (aS 18) 3 = nI i) : mR M2 (wR ρ i) := by
  obtain ⟨a1, a2, a3, a4, a5, a6⟩ := hR
  refine ⟨(F.1.2.1 0 rfl).trans a1, (F.1.2.1 1 rfl).trans a2, F.2.1.trans a3, e, fun j y hy => ?_, fun c y hy => ?_⟩
  · rw [F.1.1 19 (by decide) rfl, F.1.1 20 (by decide) rfl]
    exact a5 j y hy
  · have hc : c < ρ.2.2.2.length := (List.getElem?_eq_some_iff.mp hy).1
    rw [F.2.2 21 (by omega) (by omega) c hc, F.2.2 22 (by omega) (by omega) c hc, F.2.2 23 (by omega) (by omega) c hc, F.2.2 24 (by omega) (by omega) c hc]
    exact a6 c y hy
/-- in how many worlds the new claim makes teller k let go -/
def hN (ρ : pRm) (g : Nat → Bool) (k : Nat) (t f w : Int32) : Nat → Nat
  | 0 => 0
  | i + 1 => if g i = true ∧ (ev (wR (adR ρ t f 1 w) i)).2.2.2 k = nI ρ.2.2.2.length then hN ρ g k t f w i + 1 else hN ρ g k t f w i
theorem hN_le (ρ : pRm) (g : Nat → Bool) (k : Nat) (t f w : Int32) : ∀ n, hN ρ g k t f w n ≤ cn g n := by
  intro n
  induction n with
  | zero => exact Nat.le_refl _
  | succ n ih =>
    simp only [hN, cn]
    by_cases q : g n = true
    · rw [if_pos q]
      split <;> omega
    · rw [if_neg q, if_neg (fun z => q z.1)]
      exact ih
theorem wd_hN (ρ : pRm) (F : Int64) (g : Nat → Bool) (k : Nat) (t f w : Int32) : ∀ n, (∀ j, j < n → inB F j = g j) → wdN ρ F k t f w n = nI (hN ρ g k t f w n) := by
  intro n
  induction n with
  | zero => intro _; rfl
  | succ n ih =>
    intro h
    have ih := ih (fun j hj => h j (by omega))
    have b := h n (Nat.lt_succ_self n)
    simp only [wdN, hN, b, ih]
    split
    · rw [nI_1]
    · rfl
/-- a claim put behind the others -/
theorem mR_put {M M2 M3 : pM} {ρ : pRm} {t f v w : Int32} (hR : mR M ρ) (j1 : mfr ch4 no M M2) (j2 : M2.1 (aS 21) = upd (M.1 (aS 21)) ρ.2.2.2.length t) (j3 : M2.1 (aS 22) = upd (M.1 (aS 22)) ρ.2.2.2.length f) (j4 : M2.1 (aS 23) = upd (M.1 (aS 23)) ρ.2.2.2.length v) (j5 : M2.1 (aS 24) = upd (M.1 (aS 24)) ρ.2.2.2.length w) (e : M3 = p_wr M2 (aS 18) 2 (nI (ρ.2.2.2.length + 1))) : mR M3 (adR ρ t f v w) := by
  obtain ⟨a1, a2, a3, a4, a5, a6⟩ := hR
  have E1 : ∀ k, k ≠ 2 → M3.1 (aS 18) k = M.1 (aS 18) k := fun k hk => by rw [e, p_wr_eq, un hk, j1.2.1 k rfl]
  have E2 : ∀ s, s ≠ 18 → M3.1 (aS s) = M2.1 (aS s) := fun s hs => by rw [e]; exact p_wr_ne (fun z => hs (Sum.inl.inj z))
  refine ⟨(E1 0 (by decide)).trans a1, (E1 1 (by decide)).trans a2, ?_, (E1 3 (by decide)).trans a4, fun j y hy => ?_, fun c y hy => ?_⟩
  · rw [e, p_wr_eq, us]
    show _ = nI (ρ.2.2.2 ++ [(t, f, v, w)]).length
    rw [List.length_append]
    rfl
  · rw [E2 19 (by decide), E2 20 (by decide), j1.1 19 (by decide) rfl, j1.1 20 (by decide) rfl]
    exact a5 j y hy
  · have hy : (ρ.2.2.2 ++ [(t, f, v, w)])[c]? = some y := hy
    rw [E2 21 (by decide), E2 22 (by decide), E2 23 (by decide), E2 24 (by decide), j2, j3, j4, j5]
    by_cases q : c < ρ.2.2.2.length
    · rw [List.getElem?_append_left q] at hy
      rw [un (by omega), un (by omega), un (by omega), un (by omega)]
      exact a6 c y hy
    · have hi : c = ρ.2.2.2.length := by
        have := (List.getElem?_eq_some_iff.mp hy).1
        simp only [List.length_append, List.length_cons, List.length_nil] at this
        omega
      subst hi
      rw [List.getElem?_append_right (Nat.le_refl _), Nat.sub_self] at hy
      have hy : (t, f, v, w) = y := Option.some.inj hy
      subst hy
      rw [us, us, us, us]
      exact ⟨rfl, rfl, rfl, rfl⟩
