/-! the model's reading, fault, lay -/
theorem okR_addT {ρ : pRm} {k g : Int32} (ok : okR ρ) (h : ρ.1.length < 5) : okR (ρ.1 ++ [(k, g)], ρ.2) := by
  refine ⟨by show (ρ.1 ++ [(k, g)]).length ≤ 5; simp; omega, ok.2.1, ok.2.2.1, fun x hx => ?_, ok.2.2.2.2⟩
  obtain ⟨t, f, e1, e2, e3⟩ := ok.2.2.2.1 x hx
  exact ⟨t, f, e1, by show t < (ρ.1 ++ [(k, g)]).length; simp; omega, e3⟩
theorem okR_addF {ρ : pRm} {v : Int32} (ok : okR ρ) (h : ρ.2.1 < 6) (hv : 0 ≤ v ∧ v ≤ 1) : okR (ρ.1, ρ.2.1 + 1, ρ.2.2.1 ||| (v <<< (nI ρ.2.1 &&& 31)), ρ.2.2.2) := by
  refine ⟨ok.1, h, ok.2.2.1, fun x hx => ?_, ?_⟩
  · obtain ⟨t, f, e1, e2, e3, e4, e5⟩ := ok.2.2.2.1 x hx
    exact ⟨t, f, e1, e2, e3, by show f < ρ.2.1 + 1; omega, e5⟩
  · obtain ⟨n, en, hn⟩ := ok.2.2.2.2
    have h64 : n < 64 := Nat.lt_of_lt_of_le hn (Nat.pow_le_pow_right (by omega) ok.2.1)
    have hv : ∃ u : Nat, u < 2 ∧ v = nI u := by
      obtain ⟨b1, b2⟩ := hv
      have : v = 0 ∨ v = 1 := by grind
      rcases this with e | e
      · exact ⟨0, by omega, e⟩
      · exact ⟨1, by omega, e⟩
    obtain ⟨u, hu, ev⟩ := hv
    refine ⟨n + u * 2 ^ ρ.2.1, ?_, ?_⟩
    · show ρ.2.2.1 ||| (v <<< (nI ρ.2.1 &&& 31)) = _
      rw [en, ev]
      exact bit_more ⟨ρ.2.1, h⟩ ⟨n, h64⟩ ⟨u, hu⟩ hn
    · show n + u * 2 ^ ρ.2.1 < 2 ^ (ρ.2.1 + 1)
      rw [Nat.pow_succ]
      have : u * 2 ^ ρ.2.1 ≤ 1 * 2 ^ ρ.2.1 := Nat.mul_le_mul_right _ (by omega)
      omega
theorem alw_inv {ρ : pRm} {t f v w : Int32} (ok : okR ρ) (h : alw ρ t f v w = true) : ∃ t' f', t = nI t' ∧ t' < ρ.1.length ∧ f = nI f' ∧ f' < ρ.2.1 ∧ (0 ≤ v ∧ v ≤ 1) ∧ (1 ≤ w ∧ w ≤ 20) := by
  have l1 := ok.1
  have l2 := ok.2.1
  simp only [alw, Bool.and_eq_true, decide_eq_true_eq] at h
  obtain ⟨⟨⟨h1, h2⟩, h3⟩, h4⟩ := h
  obtain ⟨t', e1⟩ := Option.isSome_iff_exists.mp h1
  obtain ⟨f', e2⟩ := Option.isSome_iff_exists.mp h2
  obtain ⟨k1, k2⟩ := ix_spec (by omega) e1
  obtain ⟨k3, k4⟩ := ix_spec (by omega) e2
  exact ⟨t', f', k2, k1, k4, k3, h3, h4⟩
theorem okR_addC {ρ : pRm} {t f v w : Int32} (ok : okR ρ) (h : ρ.2.2.2.length < 7) (ha : alw ρ t f v w = true) : okR (adR ρ t f v w) := by
  obtain ⟨t', f', e1, e2, e3, e4, ⟨b1, b2⟩, e6⟩ := alw_inv ok ha
  refine ⟨ok.1, ok.2.1, by show (ρ.2.2.2 ++ [(t, f, v, w)]).length ≤ 7; simp; omega, fun x hx => ?_, ok.2.2.2.2⟩
  rcases List.mem_append.mp hx with hx | hx
  · exact ok.2.2.2.1 x hx
  · rw [List.mem_singleton.mp hx]
    exact ⟨t', f', e1, e2, e3, e4, by grind⟩
def itT (T : List Int32) (p : Nat) (ρ : pRm) : Option (pRm × Nat) := match rdN T p 2 with
    | some ([k, g], q) => if ρ.1.length < 5 ∧ (0 ≤ k ∧ k ≤ 3) ∧ (1 ≤ g ∧ g ≤ 40) then some ((ρ.1 ++ [(k, g)], ρ.2), q) else none
    | _ => none
def itF (T : List Int32) (p : Nat) (ρ : pRm) : Option (pRm × Nat) := match rdN T p 1 with
    | some ([v], q) => if ρ.2.1 < 6 ∧ 0 ≤ v ∧ v ≤ 1 then some ((ρ.1, ρ.2.1 + 1, ρ.2.2.1 ||| (v <<< (nI ρ.2.1 &&& 31)), ρ.2.2.2), q) else none
    | _ => none
def itC (T : List Int32) (p : Nat) (ρ : pRm) : Option (pRm × Nat) := match rdN T p 4 with
    | some ([t, f, v, w], q) => if ρ.2.2.2.length < 7 ∧ alw ρ t f v w = true then some ((ρ.1, ρ.2.1, ρ.2.2.1, ρ.2.2.2 ++ [(t, f, v, w)]), q) else none
    | _ => none
theorem item_eq (T : List Int32) (p : Nat) (ρ : pRm) : item T p ρ = if pk T p = 116 then itT T (p + 1) ρ else if pk T p = 102 then itF T (p + 1) ρ else if pk T p = 99 then itC T (p + 1) ρ else none := rfl
theorem rd_s {T : List Int32} {p m q : Nat} {l : List Int32} (h : rdN T p (m + 1) = some (l, q)) : ∃ v r l', rd1 T p (if m = 0 then 59 else 44) = some (v, r) ∧ rdN T r m = some (l', q) ∧ l = v :: l' := by
  simp only [rdN] at h
  cases e1 : rd1 T p (if m = 0 then 59 else 44) with
  | none => rw [e1] at h; cases h
  | some a =>
    obtain ⟨v, r⟩ := a
    simp only [e1] at h
    cases e2 : rdN T r m with
    | none => rw [e2] at h; cases h
    | some z =>
      obtain ⟨l', q'⟩ := z
      simp only [e2] at h
      cases h
      exact ⟨v, r, l', rfl, e2, rfl⟩
theorem rd_mk {T : List Int32} {p m q r : Nat} {v : Int32} {l : List Int32} (h1 : rd1 T p (if m = 0 then 59 else 44) = some (v, r)) (h2 : rdN T r m = some (l, q)) : rdN T p (m + 1) = some (v :: l, q) := by
  simp only [rdN, h1, h2]
theorem itT_inv {T : List Int32} {p : Nat} {ρ : pRm} {r : pRm × Nat} (h : itT T p ρ = some r) : ∃ k q g, rd1 T p 44 = some (k, q) ∧ rd1 T q 59 = some (g, r.2) ∧ (ρ.1.length < 5 ∧ (0 ≤ k ∧ k ≤ 3) ∧ (1 ≤ g ∧ g ≤ 40)) ∧ r.1 = (ρ.1 ++ [(k, g)], ρ.2) := by
  simp only [itT] at h
  split at h
  · rename_i k g q e
    obtain ⟨k', q1, l1, a1, a2, a3⟩ := rd_s e
    obtain ⟨g', q2, l2, b1, b2, b3⟩ := rd_s a2
    cases b2
    subst b3
    cases a3
    split at h
    · rename_i hc
      cases h
      exact ⟨k, q1, g, a1, b1, hc, rfl⟩
    · cases h
  · cases h
theorem itT_mk {T : List Int32} {p q r : Nat} {ρ : pRm} {k g : Int32} (h1 : rd1 T p 44 = some (k, q)) (h2 : rd1 T q 59 = some (g, r)) (hc : ρ.1.length < 5 ∧ (0 ≤ k ∧ k ≤ 3) ∧ (1 ≤ g ∧ g ≤ 40)) : itT T p ρ = some ((ρ.1 ++ [(k, g)], ρ.2), r) := by
  have : rdN T p 2 = some ([k, g], r) := rd_mk (m := 1) h1 (rd_mk (m := 0) h2 rfl)
  simp only [itT, this, if_pos hc]
theorem itF_inv {T : List Int32} {p : Nat} {ρ : pRm} {r : pRm × Nat} (h : itF T p ρ = some r) : ∃ v, rd1 T p 59 = some (v, r.2) ∧ (ρ.2.1 < 6 ∧ 0 ≤ v ∧ v ≤ 1) ∧ r.1 = (ρ.1, ρ.2.1 + 1, ρ.2.2.1 ||| (v <<< (nI ρ.2.1 &&& 31)), ρ.2.2.2) := by
  simp only [itF] at h
  split at h
  · rename_i v q e
    obtain ⟨k', q1, l1, a1, a2, a3⟩ := rd_s e
    cases a2
    cases a3
    split at h
    · rename_i hc
      cases h
      exact ⟨v, a1, hc, rfl⟩
    · cases h
  · cases h
theorem itF_mk {T : List Int32} {p r : Nat} {ρ : pRm} {v : Int32} (h1 : rd1 T p 59 = some (v, r)) (hc : ρ.2.1 < 6 ∧ 0 ≤ v ∧ v ≤ 1) : itF T p ρ = some ((ρ.1, ρ.2.1 + 1, ρ.2.2.1 ||| (v <<< (nI ρ.2.1 &&& 31)), ρ.2.2.2), r) := by
  have : rdN T p 1 = some ([v], r) := rd_mk (m := 0) h1 rfl
  simp only [itF, this, if_pos hc]
theorem itC_inv {T : List Int32} {p : Nat} {ρ : pRm} {r : pRm × Nat} (h : itC T p ρ = some r) : ∃ t q1 f q2 v q3 w, rd1 T p 44 = some (t, q1) ∧ rd1 T q1 44 = some (f, q2) ∧ rd1 T q2 44 = some (v, q3) ∧ rd1 T q3 59 = some (w, r.2) ∧ (ρ.2.2.2.length < 7 ∧ alw ρ t f v w = true) ∧ r.1 = (ρ.1, ρ.2.1, ρ.2.2.1, ρ.2.2.2 ++ [(t, f, v, w)]) := by
  simp only [itC] at h
  split at h
  · rename_i t f v w q e
    obtain ⟨t', q1, l1, a1, a2, a3⟩ := rd_s e
    obtain ⟨f', q2, l2, b1, b2, b3⟩ := rd_s a2
    obtain ⟨v', q3, l3, c1, c2, c3⟩ := rd_s b2
    obtain ⟨w', q4, l4, d1, d2, d3⟩ := rd_s c2
    cases d2
    subst d3
    subst c3
    subst b3
    cases a3
    split at h
    · rename_i hc
      cases h
      exact ⟨t, q1, f, q2, v, q3, w, a1, b1, c1, d1, hc, rfl⟩
    · cases h
  · cases h
theorem itC_mk {T : List Int32} {p q1 q2 q3 r : Nat} {ρ : pRm} {t f v w : Int32} (h1 : rd1 T p 44 = some (t, q1)) (h2 : rd1 T q1 44 = some (f, q2)) (h3 : rd1 T q2 44 = some (v, q3)) (h4 : rd1 T q3 59 = some (w, r)) (hc : ρ.2.2.2.length < 7 ∧ alw ρ t f v w = true) : itC T p ρ = some ((ρ.1, ρ.2.1, ρ.2.2.1, ρ.2.2.2 ++ [(t, f, v, w)]), r) := by
  have : rdN T p 4 = some ([t, f, v, w], r) := rd_mk (m := 3) h1 (rd_mk (m := 2) h2 (rd_mk (m := 1) h3 (rd_mk (m := 0) h4 rfl)))
  simp only [itC, this, if_pos hc]
theorem item_ok {T : List Int32} {p q : Nat} {ρ ρ' : pRm} (ok : okR ρ) (h : item T p ρ = some (ρ', q)) : okR ρ' := by
  rw [item_eq] at h
  split at h
  · obtain ⟨k, q1, g, -, -, hc, e⟩ := itT_inv h
    have e : ρ' = _ := e
    rw [e]
    exact okR_addT ok hc.1
  · split at h
    · obtain ⟨v, -, hc, e⟩ := itF_inv h
      have e : ρ' = _ := e
      rw [e]
      exact okR_addF ok hc.1 hc.2
    · split at h
      · obtain ⟨t, q1, f, q2, v, q3, w, -, -, -, -, hc, e⟩ := itC_inv h
        have e : ρ' = _ := e
        rw [e]
        exact okR_addC ok hc.1 hc.2
      · cases h
def orN (so : Nat → Int32) : Nat → Int32
  | 0 => 0
  | f + 1 => orN so f ||| (so f <<< (nI f &&& 31))
theorem orN_cg {f g : Nat → Int32} : ∀ {n : Nat}, (∀ i, i < n → f i = g i) → orN f n = orN g n := by
  intro n
  induction n with
  | zero => intro _; rfl
  | succ n ih => intro h; simp only [orN, ih (fun i hi => h i (by omega)), h n (by omega)]
def xR (M : pM) (ρ : pRm) : Prop :=
  M.1 (aS 18) 16 = nI ρ.1.length ∧ M.1 (aS 18) 17 = nI ρ.2.1 ∧ M.1 (aS 18) 18 = nI ρ.2.2.2.length ∧ orN (M.1 (aS 30)) ρ.2.1 = ρ.2.2.1 ∧ (∀ i x, ρ.1[i]? = some x → M.1 (aS 28) i = x.1 ∧ M.1 (aS 29) i = x.2) ∧ (∀ i x, ρ.2.2.2[i]? = some x → M.1 (aS 31) (4 * i) = x.1 ∧ M.1 (aS 31) (4 * i + 1) = x.2.1 ∧ M.1 (aS 31) (4 * i + 2) = x.2.2.1 ∧ M.1 (aS 31) (4 * i + 3) = x.2.2.2)
theorem xR_n {M M' : pM} {ρ : pRm} (h : mfr no slN M M') (hX : xR M ρ) : xR M' ρ := by
  simp only [xR, h.2.1 16 rfl, h.2.1 17 rfl, h.2.1 18 rfl, h.1 30 (by decide) rfl, h.1 28 (by decide) rfl, h.1 29 (by decide) rfl, h.1 31 (by decide) rfl]
  exact hX
theorem mT_n {M M' : pM} {T : List Int32} (h : mfr no slN M M') (hT : mT M T) : mT M' T := mT_cg hT (h.2.1 14 rfl) (h.1 27 (by decide) rfl)
def chR (s : Nat) : Bool := Nat.ble 28 s && Nat.ble s 31
def slR (k : Nat) : Bool := (Nat.ble 15 k && Nat.ble k 18) || Nat.beq k 23
theorem slR_n (k : Nat) (h : slR k = false) : slN k = false := by
  simp only [slR, Bool.or_eq_false_iff] at h
  simp only [slN, Bool.or_eq_false_iff]
  refine ⟨p_beq_f (fun e => ?_), h.2⟩
  subst e
  cases h.1
theorem mfr_n {M M' : pM} (h : mfr no slN M M') : mfr chR slR M M' := h.mono no_le slR_n
theorem get_snoc {α : Type} {l : List α} {x y : α} {i : Nat} (h : (l ++ [x])[i]? = some y) : (i < l.length ∧ l[i]? = some y) ∨ (i = l.length ∧ y = x) := by
  by_cases e : i < l.length
  · rw [List.getElem?_append_left e] at h
    exact Or.inl ⟨e, h⟩
  · rw [List.getElem?_append_right (by omega)] at h
    have := (List.getElem?_eq_some_iff.mp h).1
    simp at this
    have e2 : i - l.length = 0 := by omega
    rw [e2] at h
    exact Or.inr ⟨by omega, (Option.some.inj h).symm⟩
theorem n_readsTeller {C : pC} (hC : p_Lg true C) {d : Nat} {M : pM} {Q : pQ} {T : List Int32} {p : Nat} {ρ : pRm} (hd : 3 ≤ d) (hT : mT M T) (hp : M.1 (aS 18) 15 = nI p) (hp9 : p ≤ 900) (hX : xR M ρ) (ok : okR ρ) (h1 : ∀ r, itT T p ρ = some r → ∀ M', mfr chR slR M M' → M'.1 (aS 18) 15 = nI r.2 → xR M' r.1 → Q M' (some (vI 1))) (h0 : itT T p ρ = none → ∀ M', mfr chR slR M M' → Q M' (some (vI 0))) : C d k_X8_readsTeller M [vR (aS 18)] Q := by
  have l1 := ok.1
  have none_of : (∀ r, itT T p ρ = some r → False) → itT T p ρ = none := fun hn => by
    cases e : itT T p ρ with
    | none => rfl
    | some r => exact (hn r e).elim
  refine p_ent hC tb_X8_readsTeller _ rfl rfl rfl (fun Z hZ => ?_)
  refine hZ _ _ _ _ (hZ _ _ _ _ (hZ _ _ _ _ ?_))
  show Z 5 _ _ _
  rw [hX.1]
  by_cases hlt : ρ.1.length < 5
  · refine hZ _ _ _ _ (br_f (by intro q; have := (nI_eq (a := ρ.1.length) (b := 5) (by omega) (by omega)).mp q; omega) ?_)
    refine hZ _ _ _ _ (hZ _ _ _ _ (hZ _ _ _ _ (hZ _ _ _ _ ?_)))
    show Z 13 _ _ _
    refine hZ _ _ _ _ ⟨d - 1, by omega, n_number hC (by omega) hT hp (by omega) (fun k q g1 g2 g3 M1 g4 g5 g6 => ?_) (fun g1 M1 g2 => ?_)⟩
    · skip
      have q3 := rd1_lt g1
      have X1 := xR_n g4 hX
      refine hZ _ _ _ _ (p_tn (by decide) ?_)
      refine hZ _ _ _ _ (hZ _ _ _ _ (hZ _ _ _ _ (hZ _ _ _ _ (hZ _ _ _ _ (hZ _ _ _ _ (hZ _ _ _ _ ?_))))))
      show Z 32 _ _ _
      refine hZ _ _ _ _ ⟨d - 1, by omega, n_number hC (by omega) (mT_n g4 hT) g5 (by omega) (fun g r u1 u2 u3 M2 u4 u5 u6 => ?_) (fun u1 M2 u2 => ?_)⟩
      · skip
        have X2 := xR_n u4 X1
        obtain ⟨x1, x2, x3, x4, x5, x6⟩ := X2
        refine hZ _ _ _ _ (p_tn (by decide) ?_)
        refine hZ _ _ _ _ (hZ _ _ _ _ (hZ _ _ _ _ (hZ _ _ _ _ (hZ _ _ _ _ ?_))))
        show Z 49 _ _ _
        rw [x1]
        refine hZ _ _ _ _ ⟨vp_in_nI (N := 5) hlt (by omega), ?_⟩
        refine hZ _ _ _ _ (hZ _ _ _ _ (hZ _ _ _ _ (hZ _ _ _ _ (hZ _ _ _ _ (hZ _ _ _ _ ?_)))))
        show Z 62 _ _ _
        rw [show (p_wr M2 (aS 28) (nI ρ.1.length).toNatClampNeg (M1.1 (aS 18) 23)).1 (aS 18) 16 = nI ρ.1.length from x1, show (p_wr M2 (aS 28) (nI ρ.1.length).toNatClampNeg (M1.1 (aS 18) 23)).1 (aS 18) 23 = g from u6]
        refine hZ _ _ _ _ ⟨vp_in_nI (N := 5) hlt (by omega), ?_⟩
        refine hZ _ _ _ _ (hZ _ _ _ _ (hZ _ _ _ _ (hZ _ _ _ _ (hZ _ _ _ _ (hZ _ _ _ _ (hZ _ _ _ _ ?_))))))
        show Z 74 _ _ _
        refine hZ _ _ _ _ ⟨Or.inr rfl, ?_⟩
        rw [nI_clamp (by omega), g6]
        refine h1 _ (itT_mk g1 u1 ⟨hlt, ⟨g2, g3⟩, ⟨u2, u3⟩⟩) _ (mfr_fd (mfr_wr (mfr_wr ((mfr_n g4).tr (mfr_n u4)) (by decide) rfl) (by decide) rfl) rfl) u5 ⟨?_, x2, x3, x4, fun i x hx => ?_, x6⟩
        · rw [p_wr_eq]
          show M2.1 (aS 18) 16 + 1 = nI (ρ.1 ++ [(k, g)]).length
          rw [x1, nI_1]
          simp
        · show (p_wr M2 (aS 28) ρ.1.length k).1 (aS 28) i = x.1 ∧ (p_wr M2 (aS 29) ρ.1.length g).1 (aS 29) i = x.2
          rw [p_wr_eq, p_wr_eq]
          rcases get_snoc hx with ⟨e1, e2⟩ | ⟨e1, e2⟩
          · simp only [upd, if_neg (show ¬ i = ρ.1.length by omega)]
            exact x5 i x e2
          · rw [e1, e2]
            simp [upd]
      · skip
        refine hZ _ _ _ _ (p_fn (rfl) ?_)
        refine hZ _ _ _ _ ?_
        show Z 39 _ _ _
        refine hZ _ _ _ _ ⟨Or.inl rfl, ?_⟩
        refine h0 (none_of (fun r hr => ?_)) M2 ((mfr_n g4).tr (mfr_n u2))
        obtain ⟨k', q', g', w1, w2, w3, w4⟩ := itT_inv hr
        rw [g1] at w1
        cases w1
        exact u1 _ _ w2 w3.2.2
    · skip
      refine hZ _ _ _ _ (p_fn (rfl) ?_)
      refine hZ _ _ _ _ ?_
      show Z 20 _ _ _
      refine hZ _ _ _ _ ⟨Or.inl rfl, ?_⟩
      refine h0 (none_of (fun r hr => ?_)) M1 (mfr_n g2)
      obtain ⟨k', q', g', w1, w2, w3, w4⟩ := itT_inv hr
      exact g1 _ _ w1 w3.2.1
  · skip
    refine hZ _ _ _ _ (br_t (by rw [show ρ.1.length = 5 by omega]; rfl) ?_)
    refine hZ _ _ _ _ ?_
    show Z 20 _ _ _
    refine hZ _ _ _ _ ⟨Or.inl rfl, ?_⟩
    refine h0 (none_of (fun r hr => ?_)) M mfr_rf
    obtain ⟨k', q', g', w1, w2, w3, w4⟩ := itT_inv hr
    exact hlt w3.1
theorem n_readsFact {C : pC} (hC : p_Lg true C) {d : Nat} {M : pM} {Q : pQ} {T : List Int32} {p : Nat} {ρ : pRm} (hd : 3 ≤ d) (hT : mT M T) (hp : M.1 (aS 18) 15 = nI p) (hp9 : p ≤ 900) (hX : xR M ρ) (ok : okR ρ) (h1 : ∀ r, itF T p ρ = some r → ∀ M', mfr chR slR M M' → M'.1 (aS 18) 15 = nI r.2 → xR M' r.1 → Q M' (some (vI 1))) (h0 : itF T p ρ = none → ∀ M', mfr chR slR M M' → Q M' (some (vI 0))) : C d k_X8_readsFact M [vR (aS 18)] Q := by
  have l2 := ok.2.1
  have none_of : (∀ r, itF T p ρ = some r → False) → itF T p ρ = none := fun hn => by
    cases e : itF T p ρ with
    | none => rfl
    | some r => exact (hn r e).elim
  refine p_ent hC tb_X8_readsFact _ rfl rfl rfl (fun Z hZ => ?_)
  refine hZ _ _ _ _ (hZ _ _ _ _ (hZ _ _ _ _ ?_))
  show Z 6 _ _ _
  rw [hX.2.1]
  by_cases hlt : ρ.2.1 < 6
  · refine hZ _ _ _ _ (br_f (by intro q; have := (nI_eq (a := ρ.2.1) (b := 6) (by omega) (by omega)).mp q; omega) ?_)
    refine hZ _ _ _ _ (hZ _ _ _ _ (hZ _ _ _ _ (hZ _ _ _ _ ?_)))
    show Z 14 _ _ _
    refine hZ _ _ _ _ ⟨d - 1, by omega, n_number hC (by omega) hT hp (by omega) (fun k q g1 g2 g3 M1 g4 g5 g6 => ?_) (fun g1 M1 g2 => ?_)⟩
    · skip
      obtain ⟨x1, x2, x3, x4, x5, x6⟩ := xR_n g4 hX
      refine hZ _ _ _ _ (p_tn (by decide) ?_)
      refine hZ _ _ _ _ (hZ _ _ _ _ (hZ _ _ _ _ (hZ _ _ _ _ (hZ _ _ _ _ (hZ _ _ _ _ ?_)))))
      show Z 34 _ _ _
      rw [x2, g6]
      refine hZ _ _ _ _ ⟨vp_in_nI (N := 6) hlt (by omega), ?_⟩
      refine hZ _ _ _ _ (hZ _ _ _ _ (hZ _ _ _ _ (hZ _ _ _ _ (hZ _ _ _ _ (hZ _ _ _ _ (hZ _ _ _ _ ?_))))))
      show Z 46 _ _ _
      refine hZ _ _ _ _ ⟨Or.inr rfl, ?_⟩
      rw [nI_clamp (by omega)]
      refine h1 _ (itF_mk g1 ⟨hlt, g2, g3⟩) _ (mfr_fd (mfr_wr (mfr_n g4) (by decide) rfl) rfl) g5 ⟨x1, ?_, x3, ?_, x5, x6⟩
      · rw [p_wr_eq]
        show M1.1 (aS 18) 17 + 1 = nI (ρ.2.1 + 1)
        rw [x2, nI_1]
      · show orN ((p_wr M1 (aS 30) ρ.2.1 k).1 (aS 30)) (ρ.2.1 + 1) = ρ.2.2.1 ||| (k <<< (nI ρ.2.1 &&& 31))
        rw [p_wr_eq]
        simp only [orN]
        rw [orN_cg (f := upd (M1.1 (aS 30)) ρ.2.1 k) (g := M1.1 (aS 30)) (fun i hi => by simp only [upd, if_neg (show ¬ i = ρ.2.1 by omega)]), x4]
        simp [upd]
    · skip
      refine hZ _ _ _ _ (p_fn (rfl) ?_)
      refine hZ _ _ _ _ ?_
      show Z 21 _ _ _
      refine hZ _ _ _ _ ⟨Or.inl rfl, ?_⟩
      refine h0 (none_of (fun r hr => ?_)) M1 (mfr_n g2)
      obtain ⟨k', w1, w3, w4⟩ := itF_inv hr
      exact g1 _ _ w1 w3.2
  · skip
    refine hZ _ _ _ _ (br_t (by rw [show ρ.2.1 = 6 by omega]; rfl) ?_)
    refine hZ _ _ _ _ ?_
    show Z 21 _ _ _
    refine hZ _ _ _ _ ⟨Or.inl rfl, ?_⟩
    refine h0 (none_of (fun r hr => ?_)) M mfr_rf
    obtain ⟨k', w1, w3, w4⟩ := itF_inv hr
    exact hlt w3.1
theorem n_readsClaim {C : pC} (hC : p_Lg true C) {d : Nat} {M : pM} {Q : pQ} {T : List Int32} {p : Nat} {ρ : pRm} (hd : 3 ≤ d) (hT : mT M T) (hp : M.1 (aS 18) 15 = nI p) (hp9 : p ≤ 900) (hX : xR M ρ) (ok : okR ρ) (h1 : ∀ r, itC T p ρ = some r → ∀ M', mfr chR slR M M' → M'.1 (aS 18) 15 = nI r.2 → xR M' r.1 → Q M' (some (vI 1))) (h0 : itC T p ρ = none → ∀ M', mfr chR slR M M' → Q M' (some (vI 0))) : C d k_X8_readsClaim M [vR (aS 18)] Q := by
  have l1 := ok.1
  have l2 := ok.2.1
  have l3 := ok.2.2.1
  have none_of : (∀ r, itC T p ρ = some r → False) → itC T p ρ = none := fun hn => by
    cases e : itC T p ρ with
    | none => rfl
    | some r => exact (hn r e).elim
  have e4 : (4 : Int32) * nI ρ.2.2.2.length = nI (4 * ρ.2.2.2.length) := pk_mul 4 _
  have ea : ∀ j, nI (4 * ρ.2.2.2.length) + nI j = nI (4 * ρ.2.2.2.length + j) := fun j => nI_add _ _
  refine p_ent hC tb_X8_readsClaim _ rfl rfl rfl (fun Z hZ => ?_)
  refine hZ _ _ _ _ (hZ _ _ _ _ (hZ _ _ _ _ ?_))
  show Z 6 _ _ _
  rw [hX.2.2.1]
  by_cases hlt : ρ.2.2.2.length < 7
  · refine hZ _ _ _ _ (br_f (by intro q; have := (nI_eq (a := ρ.2.2.2.length) (b := 7) (by omega) (by omega)).mp q; omega) ?_)
    refine hZ _ _ _ _ (hZ _ _ _ _ (hZ _ _ _ _ (hZ _ _ _ _ (hZ _ _ _ _ (hZ _ _ _ _ (hZ _ _ _ _ ?_))))))
    show Z 19 _ _ _
    rw [hX.1]
    refine hZ _ _ _ _ ⟨d - 1, by omega, n_number hC (by omega) hT hp (by omega) (fun t q1 g1 g2 g3 M1 g4 g5 g6 => ?_) (fun g1 M1 g2 => ?_)⟩
    · skip
      have b1 := rd1_lt g1
      have X1 := xR_n g4 hX
      obtain ⟨t', it1, it2, it3⟩ := i_one (n := ρ.1.length) (by omega) ⟨g2, g3⟩
      refine hZ _ _ _ _ (p_tn (by decide) ?_)
      refine hZ _ _ _ _ (hZ _ _ _ _ (hZ _ _ _ _ (hZ _ _ _ _ (hZ _ _ _ _ (hZ _ _ _ _ (hZ _ _ _ _ (hZ _ _ _ _ ?_)))))))
      show Z 41 _ _ _
      rw [X1.2.2.1, g6, e4]
      refine hZ _ _ _ _ ⟨vp_in_nI (N := 28) (by omega) (by omega), ?_⟩
      rw [nI_clamp (by omega)]
      have T1 : mT (p_wr M1 (aS 31) (4 * ρ.2.2.2.length) t) T := mT_cg (mT_n g4 hT) rfl rfl
      have F1 : mfr chR slR M (p_wr M1 (aS 31) (4 * ρ.2.2.2.length) t) := mfr_wr (mfr_n g4) (by decide) rfl
      refine hZ _ _ _ _ (hZ _ _ _ _ (hZ _ _ _ _ (hZ _ _ _ _ (hZ _ _ _ _ (hZ _ _ _ _ (hZ _ _ _ _ ?_))))))
      show Z 52 _ _ _
      rw [show (p_wr M1 (aS 31) (4 * ρ.2.2.2.length) t).1 (aS 18) 17 = nI ρ.2.1 from X1.2.1]
      refine hZ _ _ _ _ ⟨d - 1, by omega, n_number hC (by omega) T1 g5 (by omega) (fun f q2 u1 u2 u3 M2 u4 u5 u6 => ?_) (fun u1 M2 u2 => ?_)⟩
      · skip
        have b2 := rd1_lt u1
        obtain ⟨f', if1, if2, if3⟩ := i_one (n := ρ.2.1) (by omega) ⟨u2, u3⟩
        have c2 : M2.1 (aS 18) 18 = nI ρ.2.2.2.length := by rw [u4.2.1 18 rfl]; exact X1.2.2.1
        have r2 : M2.1 (aS 31) = upd (M1.1 (aS 31)) (4 * ρ.2.2.2.length) t := by rw [u4.1 31 (by decide) rfl, p_wr_eq]
        refine hZ _ _ _ _ (p_tn (by decide) ?_)
        refine hZ _ _ _ _ (hZ _ _ _ _ (hZ _ _ _ _ (hZ _ _ _ _ (hZ _ _ _ _ (hZ _ _ _ _ (hZ _ _ _ _ (hZ _ _ _ _ (hZ _ _ _ _ (hZ _ _ _ _ ?_)))))))))
        show Z 76 _ _ _
        rw [c2, u6, e4, show nI (4 * ρ.2.2.2.length) + 1 = nI (4 * ρ.2.2.2.length + 1) from ea 1]
        refine hZ _ _ _ _ ⟨vp_in_nI (N := 28) (by omega) (by omega), ?_⟩
        rw [nI_clamp (by omega)]
        have T2 : mT (p_wr M2 (aS 31) (4 * ρ.2.2.2.length + 1) f) T := mT_cg (mT_n u4 T1) rfl rfl
        have F2 : mfr chR slR M (p_wr M2 (aS 31) (4 * ρ.2.2.2.length + 1) f) := mfr_wr (F1.tr (mfr_n u4)) (by decide) rfl
        refine hZ _ _ _ _ (hZ _ _ _ _ (hZ _ _ _ _ (hZ _ _ _ _ ?_)))
        show Z 82 _ _ _
        refine hZ _ _ _ _ ⟨d - 1, by omega, n_number hC (by omega) T2 u5 (by omega) (fun v q3 w1 w2 w3 M3 w4 w5 w6 => ?_) (fun w1 M3 w2 => ?_)⟩
        · skip
          have b3 := rd1_lt w1
          have c3 : M3.1 (aS 18) 18 = nI ρ.2.2.2.length := by rw [w4.2.1 18 rfl]; exact c2
          have r3 : M3.1 (aS 31) = upd (upd (M1.1 (aS 31)) (4 * ρ.2.2.2.length) t) (4 * ρ.2.2.2.length + 1) f := by rw [w4.1 31 (by decide) rfl, p_wr_eq, r2]
          refine hZ _ _ _ _ (p_tn (by decide) ?_)
          refine hZ _ _ _ _ (hZ _ _ _ _ (hZ _ _ _ _ (hZ _ _ _ _ (hZ _ _ _ _ (hZ _ _ _ _ (hZ _ _ _ _ (hZ _ _ _ _ (hZ _ _ _ _ (hZ _ _ _ _ ?_)))))))))
          show Z 106 _ _ _
          rw [c3, w6, e4, show nI (4 * ρ.2.2.2.length) + 2 = nI (4 * ρ.2.2.2.length + 2) from ea 2]
          refine hZ _ _ _ _ ⟨vp_in_nI (N := 28) (by omega) (by omega), ?_⟩
          rw [nI_clamp (by omega)]
          have T3 : mT (p_wr M3 (aS 31) (4 * ρ.2.2.2.length + 2) v) T := mT_cg (mT_n w4 T2) rfl rfl
          have F3 : mfr chR slR M (p_wr M3 (aS 31) (4 * ρ.2.2.2.length + 2) v) := mfr_wr (F2.tr (mfr_n w4)) (by decide) rfl
          refine hZ _ _ _ _ (hZ _ _ _ _ (hZ _ _ _ _ (hZ _ _ _ _ ?_)))
          show Z 113 _ _ _
          refine hZ _ _ _ _ ⟨d - 1, by omega, n_number hC (by omega) T3 w5 (by omega) (fun w q4 z1 z2 z3 M4 z4 z5 z6 => ?_) (fun z1 M4 z2 => ?_)⟩
          · skip
            have c4 : M4.1 (aS 18) 18 = nI ρ.2.2.2.length := by rw [z4.2.1 18 rfl]; exact c3
            have r4 : M4.1 (aS 31) = upd (upd (upd (M1.1 (aS 31)) (4 * ρ.2.2.2.length) t) (4 * ρ.2.2.2.length + 1) f) (4 * ρ.2.2.2.length + 2) v := by rw [z4.1 31 (by decide) rfl, p_wr_eq, r3]
            have ha : alw ρ t f v w = true := by
              simp only [alw, it1, if1, Option.isSome_some, decide_eq_true (And.intro w2 w3), decide_eq_true (And.intro z2 z3)]
              rfl
            refine hZ _ _ _ _ (p_tn (by decide) ?_)
            refine hZ _ _ _ _ (hZ _ _ _ _ (hZ _ _ _ _ (hZ _ _ _ _ (hZ _ _ _ _ (hZ _ _ _ _ (hZ _ _ _ _ (hZ _ _ _ _ (hZ _ _ _ _ (hZ _ _ _ _ ?_)))))))))
            show Z 137 _ _ _
            rw [c4, z6, e4, show nI (4 * ρ.2.2.2.length) + 3 = nI (4 * ρ.2.2.2.length + 3) from ea 3]
            refine hZ _ _ _ _ ⟨vp_in_nI (N := 28) (by omega) (by omega), ?_⟩
            rw [nI_clamp (by omega)]
            refine hZ _ _ _ _ (hZ _ _ _ _ (hZ _ _ _ _ (hZ _ _ _ _ (hZ _ _ _ _ (hZ _ _ _ _ (hZ _ _ _ _ ?_))))))
            show Z 149 _ _ _
            refine hZ _ _ _ _ ⟨Or.inr rfl, ?_⟩
            obtain ⟨y1, y2, y3, y4, y5, y6⟩ := X1
            refine h1 _ (itC_mk g1 u1 w1 z1 ⟨hlt, ha⟩) _ (mfr_fd (mfr_wr (F3.tr (mfr_n z4)) (by decide) rfl) rfl) z5 ⟨?_, ?_, ?_, ?_, ?_, fun i x hx => ?_⟩
            · show M4.1 (aS 18) 16 = _
              rw [z4.2.1 16 rfl]
              show M3.1 (aS 18) 16 = _
              rw [w4.2.1 16 rfl]
              show M2.1 (aS 18) 16 = _
              rw [u4.2.1 16 rfl]
              exact y1
            · show M4.1 (aS 18) 17 = _
              rw [z4.2.1 17 rfl]
              show M3.1 (aS 18) 17 = _
              rw [w4.2.1 17 rfl]
              show M2.1 (aS 18) 17 = _
              rw [u4.2.1 17 rfl]
              exact y2
            · rw [p_wr_eq]
              show M4.1 (aS 18) 18 + 1 = nI (ρ.2.2.2 ++ [(t, f, v, w)]).length
              rw [c4, nI_1]
              simp
            · show orN (M4.1 (aS 30)) _ = _
              rw [z4.1 30 (by decide) rfl]
              show orN (M3.1 (aS 30)) _ = _
              rw [w4.1 30 (by decide) rfl]
              show orN (M2.1 (aS 30)) _ = _
              rw [u4.1 30 (by decide) rfl]
              exact y4
            · intro i x hx
              show M4.1 (aS 28) i = _ ∧ M4.1 (aS 29) i = _
              rw [z4.1 28 (by decide) rfl, z4.1 29 (by decide) rfl]
              show M3.1 (aS 28) i = _ ∧ M3.1 (aS 29) i = _
              rw [w4.1 28 (by decide) rfl, w4.1 29 (by decide) rfl]
              show M2.1 (aS 28) i = _ ∧ M2.1 (aS 29) i = _
              rw [u4.1 28 (by decide) rfl, u4.1 29 (by decide) rfl]
              exact y5 i x hx
            · have r5 : ∀ j, (p_wr M4 (aS 31) (4 * ρ.2.2.2.length + 3) w).1 (aS 31) j = upd (upd (upd (upd (M1.1 (aS 31)) (4 * ρ.2.2.2.length) t) (4 * ρ.2.2.2.length + 1) f) (4 * ρ.2.2.2.length + 2) v) (4 * ρ.2.2.2.length + 3) w j := fun j => by rw [p_wr_eq, r4]
              show (p_wr M4 (aS 31) (4 * ρ.2.2.2.length + 3) w).1 (aS 31) (4 * i) = _ ∧ (p_wr M4 (aS 31) (4 * ρ.2.2.2.length + 3) w).1 (aS 31) (4 * i + 1) = _ ∧ (p_wr M4 (aS 31) (4 * ρ.2.2.2.length + 3) w).1 (aS 31) (4 * i + 2) = _ ∧ (p_wr M4 (aS 31) (4 * ρ.2.2.2.length + 3) w).1 (aS 31) (4 * i + 3) = _
              rw [r5, r5, r5, r5]
              rcases get_snoc hx with ⟨e1, e2⟩ | ⟨e1, e2⟩
              · have nu : ∀ (f : Nat → Int32) (a j : Nat) (z : Int32), j ≠ a → upd f a z j = f j := fun f a j z hne => by simp only [upd, if_neg hne]
                have := y6 i x e2
                refine ⟨?_, ?_, ?_, ?_⟩
                · rw [nu _ _ _ _ (by omega), nu _ _ _ _ (by omega), nu _ _ _ _ (by omega), nu _ _ _ _ (by omega)]; exact this.1
                · rw [nu _ _ _ _ (by omega), nu _ _ _ _ (by omega), nu _ _ _ _ (by omega), nu _ _ _ _ (by omega)]; exact this.2.1
                · rw [nu _ _ _ _ (by omega), nu _ _ _ _ (by omega), nu _ _ _ _ (by omega), nu _ _ _ _ (by omega)]; exact this.2.2.1
                · rw [nu _ _ _ _ (by omega), nu _ _ _ _ (by omega), nu _ _ _ _ (by omega), nu _ _ _ _ (by omega)]; exact this.2.2.2
              · rw [e1, e2]
                simp [upd]
          · skip
            refine hZ _ _ _ _ (p_fn (rfl) ?_)
            refine hZ _ _ _ _ ?_
            show Z 120 _ _ _
            refine hZ _ _ _ _ ⟨Or.inl rfl, ?_⟩
            refine h0 (none_of (fun r hr => ?_)) M4 (F3.tr (mfr_n z2))
            obtain ⟨t0, p1, f0, p2, v0, p3, w0, j1, j2, j3, j4, j5, j6⟩ := itC_inv hr
            rw [g1] at j1; cases j1
            rw [u1] at j2; cases j2
            rw [w1] at j3; cases j3
            obtain ⟨_, _, _, _, _, _, _, k5⟩ := alw_inv ok j5.2
            exact z1 _ _ j4 k5
        · skip
          refine hZ _ _ _ _ (p_fn (rfl) ?_)
          refine hZ _ _ _ _ ?_
          show Z 89 _ _ _
          refine hZ _ _ _ _ ⟨Or.inl rfl, ?_⟩
          refine h0 (none_of (fun r hr => ?_)) M3 (F2.tr (mfr_n w2))
          obtain ⟨t0, p1, f0, p2, v0, p3, w0, j1, j2, j3, j4, j5, j6⟩ := itC_inv hr
          rw [g1] at j1; cases j1
          rw [u1] at j2; cases j2
          obtain ⟨_, _, _, _, _, _, k4, k5⟩ := alw_inv ok j5.2
          exact w1 _ _ j3 k4
      · skip
        refine hZ _ _ _ _ (p_fn (rfl) ?_)
        refine hZ _ _ _ _ ?_
        show Z 59 _ _ _
        refine hZ _ _ _ _ ⟨Or.inl rfl, ?_⟩
        refine h0 (none_of (fun r hr => ?_)) M2 (F1.tr (mfr_n u2))
        obtain ⟨t0, p1, f0, p2, v0, p3, w0, j1, j2, j3, j4, j5, j6⟩ := itC_inv hr
        rw [g1] at j1; cases j1
        obtain ⟨_, f', _, _, k2, k3, k4, k5⟩ := alw_inv ok j5.2
        refine u1 _ _ j2 ⟨by rw [k2]; exact nI_pos' (by omega), ?_⟩
        rw [k2, show ρ.2.1 = (ρ.2.1 - 1) + 1 by omega, nI_pred]
        exact nI_le (by omega) (by omega)
    · skip
      refine hZ _ _ _ _ (p_fn (rfl) ?_)
      refine hZ _ _ _ _ ?_
      show Z 26 _ _ _
      refine hZ _ _ _ _ ⟨Or.inl rfl, ?_⟩
      refine h0 (none_of (fun r hr => ?_)) M1 (mfr_n g2)
      obtain ⟨t0, p1, f0, p2, v0, p3, w0, j1, j2, j3, j4, j5, j6⟩ := itC_inv hr
      obtain ⟨t', _, k0, k1, k2, k3, k4, k5⟩ := alw_inv ok j5.2
      refine g1 _ _ j1 ⟨by rw [k0]; exact nI_pos' (by omega), ?_⟩
      rw [k0, show ρ.1.length = (ρ.1.length - 1) + 1 by omega, nI_pred]
      exact nI_le (by omega) (by omega)
  · skip
    refine hZ _ _ _ _ (br_t (by rw [show ρ.2.2.2.length = 7 by omega]; rfl) ?_)
    refine hZ _ _ _ _ ?_
    show Z 26 _ _ _
    refine hZ _ _ _ _ ⟨Or.inl rfl, ?_⟩
    refine h0 (none_of (fun r hr => ?_)) M mfr_rf
    obtain ⟨t0, p1, f0, p2, v0, p3, w0, j1, j2, j3, j4, j5, j6⟩ := itC_inv hr
    exact hlt j5.1
