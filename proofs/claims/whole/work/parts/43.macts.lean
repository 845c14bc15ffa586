/-! the model: reads of the room, rows put by and taken back -/
theorem un {f : Nat → Int32} {k j : Nat} {x : Int32} (h : j ≠ k) : upd f k x j = f j := by simp only [upd, if_neg h]
theorem us {f : Nat → Int32} {k : Nat} {x : Int32} : upd f k x k = x := by simp [upd]
theorem n_isFalse {C : pC} (hC : p_Lg true C) {d : Nat} {M : pM} {Q : pQ} {ρ : pRm} {c : Nat} {x : pCl} (hR : mR M ρ) (hc : c < 8) (hx : ρ.2.2.2[c]? = some x) (h : Q M (some (vI (bi (fl ρ.2.2.1 x))))) : C d k_X8_isFalse M [vR (aS 18), vI (nI c)] Q := by
  obtain ⟨-, -, -, h4, -, h6⟩ := hR
  obtain ⟨-, x2, x3, -⟩ := h6 c x hx
  have ec : (nI c).toNatClampNeg = c := nI_clamp (by omega)
  refine p_ent hC tb_X8_isFalse _ rfl rfl rfl (fun Z hZ => ?_)
  refine hZ _ _ _ _ (hZ _ _ _ _ (hZ _ _ _ _ (hZ _ _ _ _ (hZ _ _ _ _ ?_))))
  show Z 9 _ _ _
  refine hZ _ _ _ _ ⟨vp_in_nI (N := 8) hc (by omega), ?_⟩
  refine hZ _ _ _ _ (hZ _ _ _ _ (hZ _ _ _ _ (hZ _ _ _ _ (hZ _ _ _ _ (hZ _ _ _ _ ?_)))))
  show Z 18 _ _ _
  refine hZ _ _ _ _ ⟨vp_in_nI (N := 8) hc (by omega), ?_⟩
  rw [ec, x2, x3, h4]
  refine hZ _ _ _ _ ⟨fun c1 => ?_, fun c1 => ?_⟩
  · skip
    refine hZ _ _ _ _ ?_
    show Z 27 _ _ _
    refine hZ _ _ _ _ ⟨Or.inl rfl, ?_⟩
    have e : bi (fl ρ.2.2.1 x) = 0 := by simp [bi, fl, bt1, c1]
    rw [e] at h
    exact h
  · skip
    refine hZ _ _ _ _ (hZ _ _ _ _ ?_)
    show Z 27 _ _ _
    refine hZ _ _ _ _ ⟨Or.inr rfl, ?_⟩
    have e : bi (fl ρ.2.2.1 x) = 1 := by simp [bi, fl, bt1, c1]
    rw [e] at h
    exact h
theorem n_hotter {C : pC} (hC : p_Lg true C) {d : Nat} {M : pM} {Q : pQ} {k w : Int32} {f : Bool} (h : Q M (some (vI (hg k f w)))) : C d k_X8_hotter M [vI k, vI (bi f), vI w] Q := by
  have e2 : ¬ (2 : Int32) = 0 := by decide
  refine p_ent hC tb_X8_hotter _ rfl rfl rfl (fun Z hZ => ?_)
  refine hZ _ _ _ _ ?_
  show Z 1 _ _ _
  have key : ∀ x : Int32, x = (if f then w else 1) → Z 10 [some (vI k), some (vI (bi f)), some (vI w), some (vI x)] [] M := by
    intro x ex
    refine hZ _ _ _ _ ?_
    show Z 11 _ _ _
    refine hZ _ _ _ _ ?_
    refine ⟨fun c1 => ?_, fun c1 => ⟨fun c2 => ?_, fun c2 => ⟨fun c3 => ?_, fun c3 => ?_⟩⟩⟩
    · skip
      refine hZ _ _ _ _ (hZ _ _ _ _ ?_)
      show Z 38 _ _ _
      refine hZ _ _ _ _ ⟨e2, ?_⟩
      refine hZ _ _ _ _ ?_
      have e : hg k f w = x / 2 := by rw [ex]; exact if_pos c1
      rw [e] at h
      exact h
    · skip
      refine hZ _ _ _ _ ?_
      show Z 41 _ _ _
      cases f
      · refine hZ _ _ _ _ (br_t (rfl) ?_)
        refine hZ _ _ _ _ ?_
        show Z 51 _ _ _
        refine hZ _ _ _ _ ?_
        have e : hg k false w = 1 := by rw [c2]; rfl
        rw [e] at h
        exact h
      · skip
        refine hZ _ _ _ _ (br_f (by decide) ?_)
        refine hZ _ _ _ _ (hZ _ _ _ _ (hZ _ _ _ _ (hZ _ _ _ _ ?_)))
        show Z 51 _ _ _
        refine hZ _ _ _ _ ?_
        have e : hg k true w = 2 * w := by rw [c2]; rfl
        rw [e] at h
        exact h
    · skip
      refine hZ _ _ _ _ (hZ _ _ _ _ (hZ _ _ _ _ ?_))
      show Z 55 _ _ _
      refine hZ _ _ _ _ ?_
      have e : hg k f w = x + 1 := by rw [ex, c3]; rfl
      rw [e] at h
      exact h
    · skip
      refine hZ _ _ _ _ ?_
      show Z 57 _ _ _
      refine hZ _ _ _ _ ?_
      have e : hg k f w = x := by rw [ex]; simp only [hg, if_neg c1, if_neg c2, if_neg c3]
      rw [e] at h
      exact h
  cases f
  · skip
    refine hZ _ _ _ _ (br_t (rfl) ?_)
    refine hZ _ _ _ _ (hZ _ _ _ _ ?_)
    show Z 10 _ _ _
    exact key 1 rfl
  · skip
    refine hZ _ _ _ _ (br_f (by decide) ?_)
    refine hZ _ _ _ _ (hZ _ _ _ _ (hZ _ _ _ _ ?_))
    show Z 10 _ _ _
    exact key w rfl
theorem n_teller {C : pC} (hC : p_Lg true C) {d : Nat} {M : pM} {Q : pQ} {S : pS} {t x : Int32} (hd : 2 ≤ d) (hS : mS M S) (ok : okS S) (h : Q M (some (vI (sp_teller S t x).2))) : C d k_X8_teller M [vR (aS 18), vI t, vI x] Q := by
  obtain ⟨a1, a2, a3, a4, a5⟩ := hS
  have l1 := ok.1.1
  refine p_ent hC tb_X8_teller _ rfl rfl rfl (fun Z hZ => ?_)
  refine hZ _ _ _ _ (hZ _ _ _ _ ?_)
  show Z 2 _ _ _
  refine hZ _ _ _ _ ⟨d - 1, by omega, n_isTeller hC (by omega) a2 ok.1 (fun k b1 b2 b3 => ?_) (fun b1 => ?_)⟩
  · skip
    have hy : S.2.1.1[k]? = some S.2.1.1[k] := List.getElem?_eq_getElem b2
    obtain ⟨y1, y2⟩ := a2.2.2.2.2.1 k _ hy
    simp only [sp_teller, b1, hy] at h
    subst b3
    have ec : (nI k).toNatClampNeg = k := nI_clamp (by omega)
    refine hZ _ _ _ _ (br_f (by decide) ?_)
    refine hZ _ _ _ _ (hZ _ _ _ _ (hZ _ _ _ _ ?_))
    show Z 11 _ _ _
    refine hZ _ _ _ _ ⟨d - 1, by omega, n_in hC (fun c1 c2 => ?_) (fun c1 => ?_)⟩
    · skip
      refine hZ _ _ _ _ (p_tn (by decide) ?_)
      refine hZ _ _ _ _ ?_
      show Z 20 _ _ _
      by_cases e : x = 0
      · refine hZ _ _ _ _ (p_fn (e) ?_)
        refine hZ _ _ _ _ (hZ _ _ _ _ (hZ _ _ _ _ ?_))
        show Z 28 _ _ _
        refine hZ _ _ _ _ ⟨vp_in_nI (N := 5) (by omega) (by omega), ?_⟩
        refine hZ _ _ _ _ ?_
        show Z 38 _ _ _
        refine hZ _ _ _ _ ?_
        rw [ec, y1]
        rw [if_pos e] at h
        exact h
      · skip
        refine hZ _ _ _ _ (p_tn (e) ?_)
        refine hZ _ _ _ _ (hZ _ _ _ _ (hZ _ _ _ _ ?_))
        show Z 37 _ _ _
        refine hZ _ _ _ _ ⟨vp_in_nI (N := 5) (by omega) (by omega), ?_⟩
        refine hZ _ _ _ _ ?_
        rw [ec, y2]
        rw [if_neg e, if_pos (show x = 1 by grind)] at h
        exact h
    · skip
      refine hZ _ _ _ _ (p_fn (rfl) ?_)
      refine hZ _ _ _ _ ?_
      show Z 18 _ _ _
      refine hZ _ _ _ _ ?_
      rw [if_neg (fun e => c1 (by rw [e]; decide)), if_neg (fun e => c1 (by rw [e]; decide))] at h
      exact h
  · skip
    refine hZ _ _ _ _ (br_t (rfl) ?_)
    refine hZ _ _ _ _ ?_
    show Z 18 _ _ _
    refine hZ _ _ _ _ ?_
    simp only [sp_teller, b1] at h
    exact h
theorem n_fact {C : pC} (hC : p_Lg true C) {d : Nat} {M : pM} {Q : pQ} {S : pS} {f : Int32} (hd : 2 ≤ d) (hS : mS M S) (ok : okS S) (h : Q M (some (vI (sp_fact S f).2))) : C d k_X8_fact M [vR (aS 18), vI f] Q := by
  obtain ⟨a1, a2, a3, a4, a5⟩ := hS
  refine p_ent hC tb_X8_fact _ rfl rfl rfl (fun Z hZ => ?_)
  refine hZ _ _ _ _ (hZ _ _ _ _ ?_)
  show Z 2 _ _ _
  refine hZ _ _ _ _ ⟨d - 1, by omega, n_isFact hC (by omega) a2 ok.1 (fun k b1 b2 b3 => ?_) (fun b1 => ?_)⟩
  · skip
    refine hZ _ _ _ _ (br_f (by decide) ?_)
    refine hZ _ _ _ _ (hZ _ _ _ _ (hZ _ _ _ _ (hZ _ _ _ _ (hZ _ _ _ _ (hZ _ _ _ _ (hZ _ _ _ _ ?_))))))
    show Z 20 _ _ _
    refine hZ _ _ _ _ ?_
    rw [a2.2.2.2.1]
    simp only [sp_fact, b1] at h
    exact h
  · skip
    refine hZ _ _ _ _ (br_t (rfl) ?_)
    refine hZ _ _ _ _ ?_
    show Z 20 _ _ _
    refine hZ _ _ _ _ ?_
    simp only [sp_fact, b1] at h
    exact h
theorem n_claim {C : pC} (hC : p_Lg true C) {d : Nat} {M : pM} {Q : pQ} {S : pS} {c x : Int32} (hd : 2 ≤ d) (hS : mS M S) (ok : okS S) (h : Q M (some (vI (sp_claim S c x).2))) : C d k_X8_claim M [vR (aS 18), vI c, vI x] Q := by
  obtain ⟨a1, a2, a3, a4, a5⟩ := hS
  have l3 := ok.1.2.2.1
  refine p_ent hC tb_X8_claim _ rfl rfl rfl (fun Z hZ => ?_)
  refine hZ _ _ _ _ (hZ _ _ _ _ ?_)
  show Z 2 _ _ _
  refine hZ _ _ _ _ ⟨d - 1, by omega, n_isClaim hC (by omega) a2 ok.1 (fun k b1 b2 b3 => ?_) (fun b1 => ?_)⟩
  · skip
    have hy : S.2.1.2.2.2[k]? = some S.2.1.2.2.2[k] := List.getElem?_eq_getElem b2
    obtain ⟨y1, y2, y3, y4⟩ := a2.2.2.2.2.2 k _ hy
    simp only [sp_claim, b1, hy] at h
    subst b3
    have ec : (nI k).toNatClampNeg = k := nI_clamp (by omega)
    refine hZ _ _ _ _ (br_f (by decide) ?_)
    refine hZ _ _ _ _ (hZ _ _ _ _ (hZ _ _ _ _ ?_))
    show Z 11 _ _ _
    refine hZ _ _ _ _ ⟨d - 1, by omega, n_in hC (fun c1 c2 => ?_) (fun c1 => ?_)⟩
    · skip
      refine hZ _ _ _ _ (p_tn (by decide) ?_)
      refine hZ _ _ _ _ ?_
      show Z 20 _ _ _
      refine hZ _ _ _ _ ?_
      refine ⟨fun s1 => ?_, fun s1 => ⟨fun s2 => ?_, fun s2 => ⟨fun s3 => ?_, fun s3 => ⟨fun s4 => ?_, fun s4 => ?_⟩⟩⟩⟩
      · skip
        refine hZ _ _ _ _ (hZ _ _ _ _ (hZ _ _ _ _ ?_))
        show Z 57 _ _ _
        refine hZ _ _ _ _ ⟨vp_in_nI (N := 8) (by omega) (by omega), ?_⟩
        refine hZ _ _ _ _ ?_
        rw [ec, y1]
        rw [if_pos s1] at h
        exact h
      · skip
        refine hZ _ _ _ _ (hZ _ _ _ _ (hZ _ _ _ _ ?_))
        show Z 64 _ _ _
        refine hZ _ _ _ _ ⟨vp_in_nI (N := 8) (by omega) (by omega), ?_⟩
        refine hZ _ _ _ _ ?_
        rw [ec, y2]
        rw [if_neg s1, if_pos s2] at h
        exact h
      · skip
        refine hZ _ _ _ _ (hZ _ _ _ _ (hZ _ _ _ _ ?_))
        show Z 71 _ _ _
        refine hZ _ _ _ _ ⟨vp_in_nI (N := 8) (by omega) (by omega), ?_⟩
        refine hZ _ _ _ _ ?_
        rw [ec, y3]
        rw [if_neg s1, if_neg s2, if_pos s3] at h
        exact h
      · skip
        refine hZ _ _ _ _ (hZ _ _ _ _ (hZ _ _ _ _ ?_))
        show Z 78 _ _ _
        refine hZ _ _ _ _ ⟨vp_in_nI (N := 8) (by omega) (by omega), ?_⟩
        refine hZ _ _ _ _ ?_
        rw [ec, y4]
        rw [if_neg s1, if_neg s2, if_neg s3, if_pos s4] at h
        exact h
      · skip
        have s5 : x = 4 := by
          have s1 : ¬ x = 0 := s1
          have s2 : ¬ x = 1 := s2
          have s3 : ¬ x = 2 := s3
          have s4 : ¬ x = 3 := s4
          grind
        rw [if_neg s1, if_neg s2, if_neg s3, if_neg s4, if_pos s5] at h
        refine hZ _ _ _ _ (hZ _ _ _ _ ?_)
        show Z 82 _ _ _
        refine hZ _ _ _ _ ⟨d - 1, by omega, n_isFalse hC a2 (by omega) hy ?_⟩
        cases e1 : fl S.2.1.2.2.1 S.2.1.2.2.2[k] with
        | false =>
          refine hZ _ _ _ _ (br_t (rfl) ?_)
          refine hZ _ _ _ _ ?_
          show Z 93 _ _ _
          refine hZ _ _ _ _ ?_
          rw [e1] at h
          exact h
        | true =>
          refine hZ _ _ _ _ (br_f (by decide) ?_)
          refine hZ _ _ _ _ (hZ _ _ _ _ ?_)
          show Z 93 _ _ _
          refine hZ _ _ _ _ ?_
          rw [e1] at h
          exact h
    · skip
      refine hZ _ _ _ _ (p_fn (rfl) ?_)
      refine hZ _ _ _ _ ?_
      show Z 18 _ _ _
      refine hZ _ _ _ _ ?_
      rw [if_neg (fun e => c1 (by rw [e]; decide)), if_neg (fun e => c1 (by rw [e]; decide)), if_neg (fun e => c1 (by rw [e]; decide)), if_neg (fun e => c1 (by rw [e]; decide)), if_neg (fun e => c1 (by rw [e]; decide))] at h
      exact h
  · skip
    refine hZ _ _ _ _ (br_t (rfl) ?_)
    refine hZ _ _ _ _ ?_
    show Z 18 _ _ _
    refine hZ _ _ _ _ ?_
    simp only [sp_claim, b1] at h
    exact h
def ch4 (s : Nat) : Bool := Nat.ble 21 s && Nat.ble s 24
theorem n_sets2 {C : pC} (hC : p_Lg true C) {d : Nat} {M : pM} {Q : pQ} {i t f v w : Int32} (c : Nat) (ei : i = nI c) (hc : c < 8) (h : ∀ M', mfr ch4 no M M' → M'.1 (aS 21) = upd (M.1 (aS 21)) c t → M'.1 (aS 22) = upd (M.1 (aS 22)) c f → M'.1 (aS 23) = upd (M.1 (aS 23)) c v → M'.1 (aS 24) = upd (M.1 (aS 24)) c w → Q M' none) : C d k_X8_sets M [vR (aS 18), vI i, vI t, vI f, vI v, vI w] Q :=
  n_sets hC c ei hc (h _ (mfr_wr (mfr_wr (mfr_wr (mfr_wr mfr_rf (by decide) rfl) (by decide) rfl) (by decide) rfl) (by decide) rfl) rfl rfl rfl rfl)
theorem n_copies {C : pC} (hC : p_Lg true C) {d : Nat} {M : pM} {Q : pQ} {i j : Int32} (a c : Nat) (ei : i = nI a) (ej : j = nI c) (ha : a < 8) (hc : c < 8) (hd : 1 ≤ d) (h : ∀ M', mfr ch4 no M M' → M'.1 (aS 21) = upd (M.1 (aS 21)) c (M.1 (aS 21) a) → M'.1 (aS 22) = upd (M.1 (aS 22)) c (M.1 (aS 22) a) → M'.1 (aS 23) = upd (M.1 (aS 23)) c (M.1 (aS 23) a) → M'.1 (aS 24) = upd (M.1 (aS 24)) c (M.1 (aS 24) a) → Q M' none) : C d k_X8_copies M [vR (aS 18), vI i, vI j] Q := by
  subst ei
  have ec : (nI a).toNatClampNeg = a := nI_clamp (by omega)
  refine p_ent hC tb_X8_copies _ rfl rfl rfl (fun Z hZ => ?_)
  refine hZ _ _ _ _ (hZ _ _ _ _ (hZ _ _ _ _ (hZ _ _ _ _ (hZ _ _ _ _ ?_))))
  show Z 7 _ _ _
  refine hZ _ _ _ _ ⟨vp_in_nI (N := 8) ha (by omega), ?_⟩
  refine hZ _ _ _ _ (hZ _ _ _ _ (hZ _ _ _ _ ?_))
  show Z 13 _ _ _
  refine hZ _ _ _ _ ⟨vp_in_nI (N := 8) ha (by omega), ?_⟩
  refine hZ _ _ _ _ (hZ _ _ _ _ (hZ _ _ _ _ ?_))
  show Z 19 _ _ _
  refine hZ _ _ _ _ ⟨vp_in_nI (N := 8) ha (by omega), ?_⟩
  refine hZ _ _ _ _ (hZ _ _ _ _ (hZ _ _ _ _ ?_))
  show Z 25 _ _ _
  refine hZ _ _ _ _ ⟨vp_in_nI (N := 8) ha (by omega), ?_⟩
  rw [ec]
  refine hZ _ _ _ _ ⟨d - 1, by omega, n_sets2 hC c ej hc (fun M1 g1 g2 g3 g4 g5 => ?_)⟩
  refine hZ _ _ _ _ ?_
  exact h M1 g1 g2 g3 g4 g5
theorem n_lays35 {C : pC} (hC : p_Lg true C) {d : Nat} {M : pM} {Q : pQ} {i : Int32} {ρ : pRm} (o : Nat) (ei : i = nI o) (ho : o + 35 ≤ 280) (hR : mR M ρ) (ok : okR ρ) (h : ∀ M', mfr (Nat.beq 35) no M M' → nR (M'.1 (aS 35)) o ρ → (∀ k, k < o ∨ o + 35 ≤ k → M'.1 (aS 35) k = M.1 (aS 35) k) → Q M' none) : C d k_X8_lays M [vR (aS 18), vR (aS 35), vI i] Q := by
  subst ei
  have l1 := ok.1
  have l3 := ok.2.2.1
  obtain ⟨a1, a2, a3, a4, a5, a6⟩ := hR
  have ea : ∀ j c : Nat, nI o + nI j + nI c = nI (o + j + c) := fun j c => by rw [nI_add, nI_add]
  refine p_ent hC tb_X8_lays _ rfl rfl rfl (fun Z hZ => ?_)
  refine hZ _ _ _ _ (hZ _ _ _ _ (hZ _ _ _ _ (hZ _ _ _ _ ?_)))
  show Z 6 _ _ _
  refine hZ _ _ _ _ ⟨vp_in_nI (N := 280) (by omega) (by omega), ?_⟩
  refine hZ _ _ _ _ (hZ _ _ _ _ (hZ _ _ _ _ (hZ _ _ _ _ (hZ _ _ _ _ (hZ _ _ _ _ ?_)))))
  show Z 15 _ _ _
  rw [show nI o + 1 = nI (o + 1) from nI_1 o]
  refine hZ _ _ _ _ ⟨vp_in_nI (N := 280) (by omega) (by omega), ?_⟩
  rw [nI_clamp (by omega), nI_clamp (by omega)]
  rw [show (p_wr M (aS 35) o (M.1 (aS 18) 3)).1 (aS 18) 2 = nI ρ.2.2.2.length from a3, a4]
  refine hZ _ _ _ _ (hZ _ _ _ _ ?_)
  show Z 18 _ _ _
  have loop2 : ∀ (n i : Nat) (M2 : pM), i + n = 5 → mfr (Nat.beq 35) no M M2 → M2.1 (aS 35) o = ρ.2.2.1 → M2.1 (aS 35) (o + 1) = nI ρ.2.2.2.length → (∀ k, k < o ∨ o + 35 ≤ k → M2.1 (aS 35) k = M.1 (aS 35) k) → (∀ c, c < 7 → M2.1 (aS 35) (o + 2 + c) = M.1 (aS 21) c ∧ M2.1 (aS 35) (o + 9 + c) = M.1 (aS 22) c ∧ M2.1 (aS 35) (o + 16 + c) = M.1 (aS 23) c ∧ M2.1 (aS 35) (o + 23 + c) = M.1 (aS 24) c) → (∀ t, t < i → M2.1 (aS 35) (o + 30 + t) = M.1 (aS 20) t) → Z 87 [some (vR (aS 18)), some (vR (aS 35)), some (vI (nI o)), some (vI (nI i))] [] M2 := by
    intro n
    induction n with
    | zero =>
      intro i M2 e1 f1 f2 f3 f4 f5 f6
      have : i = 5 := by omega
      subst this
      refine hZ _ _ _ _ (hZ _ _ _ _ ?_)
      show Z 89 _ _ _
      refine hZ _ _ _ _ (br_t (Int32.le_refl _) ?_)
      refine hZ _ _ _ _ ?_
      refine h M2 f1 ⟨f2, f3, fun c x hx => ?_, fun t y hy => ?_⟩ f4
      · have hc : c < 7 := Nat.lt_of_lt_of_le (List.getElem?_eq_some_iff.mp hx).1 l3
        obtain ⟨k1, k2, k3, k4⟩ := f5 c hc
        obtain ⟨y1, y2, y3, y4⟩ := a6 c x hx
        exact ⟨k1.trans y1, k2.trans y2, k3.trans y3, k4.trans y4⟩
      · have ht : t < 5 := Nat.lt_of_lt_of_le (List.getElem?_eq_some_iff.mp hy).1 l1
        exact (f6 t ht).trans (a5 t y hy).2
    | succ n ih =>
      intro i M2 e1 f1 f2 f3 f4 f5 f6
      refine hZ _ _ _ _ (hZ _ _ _ _ ?_)
      show Z 89 _ _ _
      refine hZ _ _ _ _ (br_f (nI_ge (a := i) (b := 5) (by omega) (by omega)) ?_)
      refine hZ _ _ _ _ (hZ _ _ _ _ (hZ _ _ _ _ (hZ _ _ _ _ (hZ _ _ _ _ (hZ _ _ _ _ (hZ _ _ _ _ (hZ _ _ _ _ (hZ _ _ _ _ ?_))))))))
      show Z 104 _ _ _
      rw [show nI o + 30 + nI i = nI (o + 30 + i) from ea 30 i]
      refine hZ _ _ _ _ ⟨vp_in_nI (N := 5) (by omega) (by omega), ?_⟩
      refine hZ _ _ _ _ ⟨vp_in_nI (N := 280) (by omega) (by omega), ?_⟩
      rw [nI_clamp (by omega), nI_clamp (by omega), f1.1 20 (by decide) rfl]
      refine hZ _ _ _ _ (hZ _ _ _ _ ?_)
      show Z 87 _ _ _
      rw [show nI i + 1 = nI (i + 1) from nI_1 i]
      refine ih (i + 1) _ (by omega) (mfr_wr f1 (by decide) rfl) ?_ ?_ (fun k hk => ?_) (fun c hc => ?_) (fun t ht => ?_)
      · rw [p_wr_eq, un (by omega)]; exact f2
      · rw [p_wr_eq, un (by omega)]; exact f3
      · rw [p_wr_eq, un (by omega)]; exact f4 k hk
      · rw [p_wr_eq, un (by omega), un (by omega), un (by omega), un (by omega)]; exact f5 c hc
      · rw [p_wr_eq]
        by_cases e : t = i
        · rw [e, us]
        · rw [un (by omega)]; exact f6 t (by omega)
  have loop1 : ∀ (n i : Nat) (M2 : pM), i + n = 7 → mfr (Nat.beq 35) no M M2 → M2.1 (aS 35) o = ρ.2.2.1 → M2.1 (aS 35) (o + 1) = nI ρ.2.2.2.length → (∀ k, k < o ∨ o + 35 ≤ k → M2.1 (aS 35) k = M.1 (aS 35) k) → (∀ c, c < i → M2.1 (aS 35) (o + 2 + c) = M.1 (aS 21) c ∧ M2.1 (aS 35) (o + 9 + c) = M.1 (aS 22) c ∧ M2.1 (aS 35) (o + 16 + c) = M.1 (aS 23) c ∧ M2.1 (aS 35) (o + 23 + c) = M.1 (aS 24) c) → Z 18 [some (vR (aS 18)), some (vR (aS 35)), some (vI (nI o)), some (vI (nI i))] [] M2 := by
    intro n
    induction n with
    | zero =>
      intro i M2 e1 f1 f2 f3 f4 f5
      have : i = 7 := by omega
      subst this
      refine hZ _ _ _ _ (hZ _ _ _ _ ?_)
      show Z 21 _ _ _
      refine hZ _ _ _ _ (br_t (Int32.le_refl _) ?_)
      refine hZ _ _ _ _ (hZ _ _ _ _ ?_)
      show Z 87 _ _ _
      exact loop2 5 0 M2 rfl f1 f2 f3 f4 f5 (fun t ht => absurd ht (Nat.not_lt_zero t))
    | succ n ih =>
      intro i M2 e1 f1 f2 f3 f4 f5
      refine hZ _ _ _ _ (hZ _ _ _ _ ?_)
      show Z 21 _ _ _
      refine hZ _ _ _ _ (br_f (nI_ge (a := i) (b := 7) (by omega) (by omega)) ?_)
      refine hZ _ _ _ _ (hZ _ _ _ _ (hZ _ _ _ _ (hZ _ _ _ _ (hZ _ _ _ _ (hZ _ _ _ _ (hZ _ _ _ _ (hZ _ _ _ _ (hZ _ _ _ _ ?_))))))))
      show Z 35 _ _ _
      rw [show nI o + 2 + nI i = nI (o + 2 + i) from ea 2 i]
      refine hZ _ _ _ _ ⟨vp_in_nI (N := 8) (by omega) (by omega), ?_⟩
      refine hZ _ _ _ _ ⟨vp_in_nI (N := 280) (by omega) (by omega), ?_⟩
      rw [nI_clamp (by omega), nI_clamp (by omega), f1.1 21 (by decide) rfl]
      have F1 : mfr (Nat.beq 35) no M (p_wr M2 (aS 35) (o + 2 + i) (M.1 (aS 21) i)) := mfr_wr f1 (by decide) rfl
      have G1 : (p_wr M2 (aS 35) (o + 2 + i) (M.1 (aS 21) i)).1 (aS 35) = upd (M2.1 (aS 35)) (o + 2 + i) (M.1 (aS 21) i) := p_wr_eq
      generalize p_wr M2 (aS 35) (o + 2 + i) (M.1 (aS 21) i) = M3 at F1 G1 ⊢
      refine hZ _ _ _ _ (hZ _ _ _ _ (hZ _ _ _ _ (hZ _ _ _ _ (hZ _ _ _ _ (hZ _ _ _ _ (hZ _ _ _ _ (hZ _ _ _ _ (hZ _ _ _ _ ?_))))))))
      show Z 49 _ _ _
      rw [show nI o + 9 + nI i = nI (o + 9 + i) from ea 9 i]
      refine hZ _ _ _ _ ⟨vp_in_nI (N := 8) (by omega) (by omega), ?_⟩
      refine hZ _ _ _ _ ⟨vp_in_nI (N := 280) (by omega) (by omega), ?_⟩
      rw [nI_clamp (by omega), nI_clamp (by omega), F1.1 22 (by decide) rfl]
      have F2 : mfr (Nat.beq 35) no M (p_wr M3 (aS 35) (o + 9 + i) (M.1 (aS 22) i)) := mfr_wr F1 (by decide) rfl
      have G2 : (p_wr M3 (aS 35) (o + 9 + i) (M.1 (aS 22) i)).1 (aS 35) = upd (M3.1 (aS 35)) (o + 9 + i) (M.1 (aS 22) i) := p_wr_eq
      rw [G1] at G2
      generalize p_wr M3 (aS 35) (o + 9 + i) (M.1 (aS 22) i) = M4 at F2 G2 ⊢
      refine hZ _ _ _ _ (hZ _ _ _ _ (hZ _ _ _ _ (hZ _ _ _ _ (hZ _ _ _ _ (hZ _ _ _ _ (hZ _ _ _ _ (hZ _ _ _ _ (hZ _ _ _ _ ?_))))))))
      show Z 63 _ _ _
      rw [show nI o + 16 + nI i = nI (o + 16 + i) from ea 16 i]
      refine hZ _ _ _ _ ⟨vp_in_nI (N := 8) (by omega) (by omega), ?_⟩
      refine hZ _ _ _ _ ⟨vp_in_nI (N := 280) (by omega) (by omega), ?_⟩
      rw [nI_clamp (by omega), nI_clamp (by omega), F2.1 23 (by decide) rfl]
      have F3 : mfr (Nat.beq 35) no M (p_wr M4 (aS 35) (o + 16 + i) (M.1 (aS 23) i)) := mfr_wr F2 (by decide) rfl
      have G3 : (p_wr M4 (aS 35) (o + 16 + i) (M.1 (aS 23) i)).1 (aS 35) = upd (M4.1 (aS 35)) (o + 16 + i) (M.1 (aS 23) i) := p_wr_eq
      rw [G2] at G3
      generalize p_wr M4 (aS 35) (o + 16 + i) (M.1 (aS 23) i) = M5 at F3 G3 ⊢
      refine hZ _ _ _ _ (hZ _ _ _ _ (hZ _ _ _ _ (hZ _ _ _ _ (hZ _ _ _ _ (hZ _ _ _ _ (hZ _ _ _ _ (hZ _ _ _ _ (hZ _ _ _ _ ?_))))))))
      show Z 77 _ _ _
      rw [show nI o + 23 + nI i = nI (o + 23 + i) from ea 23 i]
      refine hZ _ _ _ _ ⟨vp_in_nI (N := 8) (by omega) (by omega), ?_⟩
      refine hZ _ _ _ _ ⟨vp_in_nI (N := 280) (by omega) (by omega), ?_⟩
      rw [nI_clamp (by omega), nI_clamp (by omega), F3.1 24 (by decide) rfl]
      have F4 : mfr (Nat.beq 35) no M (p_wr M5 (aS 35) (o + 23 + i) (M.1 (aS 24) i)) := mfr_wr F3 (by decide) rfl
      have G4 : (p_wr M5 (aS 35) (o + 23 + i) (M.1 (aS 24) i)).1 (aS 35) = upd (M5.1 (aS 35)) (o + 23 + i) (M.1 (aS 24) i) := p_wr_eq
      rw [G3] at G4
      generalize p_wr M5 (aS 35) (o + 23 + i) (M.1 (aS 24) i) = M6 at F4 G4 ⊢
      refine hZ _ _ _ _ (hZ _ _ _ _ ?_)
      show Z 18 _ _ _
      rw [show nI i + 1 = nI (i + 1) from nI_1 i]
      refine ih (i + 1) _ (by omega) F4 ?_ ?_ (fun k hk => ?_) (fun c hc => ?_)
      · rw [G4, un (by omega), un (by omega), un (by omega), un (by omega)]; exact f2
      · rw [G4, un (by omega), un (by omega), un (by omega), un (by omega)]; exact f3
      · rw [G4, un (by omega), un (by omega), un (by omega), un (by omega)]; exact f4 k hk
      · rw [G4]
        by_cases e : c = i
        · subst e
          refine ⟨?_, ?_, ?_, ?_⟩
          · rw [un (by omega), un (by omega), un (by omega), us]
          · rw [un (by omega), un (by omega), us]
          · rw [un (by omega), us]
          · rw [us]
        · obtain ⟨k1, k2, k3, k4⟩ := f5 c (by omega)
          refine ⟨?_, ?_, ?_, ?_⟩
          · rw [un (by omega), un (by omega), un (by omega), un (by omega)]; exact k1
          · rw [un (by omega), un (by omega), un (by omega), un (by omega)]; exact k2
          · rw [un (by omega), un (by omega), un (by omega), un (by omega)]; exact k3
          · rw [un (by omega), un (by omega), un (by omega), un (by omega)]; exact k4
  refine loop1 7 0 _ rfl (mfr_wr (mfr_wr mfr_rf (by decide) rfl) (by decide) rfl) ?_ ?_ (fun k hk => ?_) (fun c hc => absurd hc (Nat.not_lt_zero c))
  · rw [p_wr_eq, un (by omega), p_wr_eq, us]
  · rw [p_wr_eq, us]
  · rw [p_wr_eq, un (by omega), p_wr_eq, un (by omega)]
theorem n_takes35 {C : pC} (hC : p_Lg true C) {d : Nat} {M : pM} {Q : pQ} {i : Int32} (o : Nat) (ei : i = nI o) (ho : o + 35 ≤ 280) (hd : 1 ≤ d) (h : ∀ M', mfr (fun s => ch4 s || Nat.beq s 20) (fun k => Nat.beq k 3 || Nat.beq k 2) M M' → M'.1 (aS 18) 3 = M.1 (aS 35) o → M'.1 (aS 18) 2 = M.1 (aS 35) (o + 1) → (∀ c, c < 7 → M'.1 (aS 21) c = M.1 (aS 35) (o + 2 + c) ∧ M'.1 (aS 22) c = M.1 (aS 35) (o + 9 + c) ∧ M'.1 (aS 23) c = M.1 (aS 35) (o + 16 + c) ∧ M'.1 (aS 24) c = M.1 (aS 35) (o + 23 + c)) → (∀ t, t < 5 → M'.1 (aS 20) t = M.1 (aS 35) (o + 30 + t)) → Q M' none) : C d k_X8_takes M [vR (aS 18), vR (aS 35), vI i] Q := by
  subst ei
  have ea : ∀ j c : Nat, nI o + nI j + nI c = nI (o + j + c) := fun j c => by rw [nI_add, nI_add]
  have m4 : ∀ M1 M2 : pM, mfr ch4 no M1 M2 → mfr (fun s => ch4 s || Nat.beq s 20) (fun k => Nat.beq k 3 || Nat.beq k 2) M1 M2 := fun M1 M2 g => g.mono (fun s hs => by simp only [Bool.or_eq_false_iff] at hs; exact hs.1) no_le
  refine p_ent hC tb_X8_takes _ rfl rfl rfl (fun Z hZ => ?_)
  refine hZ _ _ _ _ (hZ _ _ _ _ (hZ _ _ _ _ ?_))
  show Z 3 _ _ _
  refine hZ _ _ _ _ ⟨vp_in_nI (N := 280) (by omega) (by omega), ?_⟩
  refine hZ _ _ _ _ (hZ _ _ _ _ (hZ _ _ _ _ (hZ _ _ _ _ (hZ _ _ _ _ (hZ _ _ _ _ ?_)))))
  show Z 12 _ _ _
  rw [show nI o + 1 = nI (o + 1) from nI_1 o]
  refine hZ _ _ _ _ ⟨vp_in_nI (N := 280) (by omega) (by omega), ?_⟩
  rw [nI_clamp (by omega), nI_clamp (by omega)]
  refine hZ _ _ _ _ (hZ _ _ _ _ (hZ _ _ _ _ ?_))
  show Z 18 _ _ _
  have loop2 : ∀ (n i : Nat) (M2 : pM), i + n = 5 → mfr (fun s => ch4 s || Nat.beq s 20) (fun k => Nat.beq k 3 || Nat.beq k 2) M M2 → M2.1 (aS 18) 3 = M.1 (aS 35) o → M2.1 (aS 18) 2 = M.1 (aS 35) (o + 1) → (∀ c, c < 7 → M2.1 (aS 21) c = M.1 (aS 35) (o + 2 + c) ∧ M2.1 (aS 22) c = M.1 (aS 35) (o + 9 + c) ∧ M2.1 (aS 23) c = M.1 (aS 35) (o + 16 + c) ∧ M2.1 (aS 24) c = M.1 (aS 35) (o + 23 + c)) → (∀ t, t < i → M2.1 (aS 20) t = M.1 (aS 35) (o + 30 + t)) → Z 68 [some (vR (aS 18)), some (vR (aS 35)), some (vI (nI o)), some (vI (nI i))] [] M2 := by
    intro n
    induction n with
    | zero =>
      intro i M2 e1 f1 f2 f3 f5 f6
      have : i = 5 := by omega
      subst this
      refine hZ _ _ _ _ (hZ _ _ _ _ ?_)
      show Z 70 _ _ _
      refine hZ _ _ _ _ (br_t (Int32.le_refl _) ?_)
      refine hZ _ _ _ _ ?_
      exact h M2 f1 f2 f3 f5 f6
    | succ n ih =>
      intro i M2 e1 f1 f2 f3 f5 f6
      refine hZ _ _ _ _ (hZ _ _ _ _ ?_)
      show Z 70 _ _ _
      refine hZ _ _ _ _ (br_f (nI_ge (a := i) (b := 5) (by omega) (by omega)) ?_)
      refine hZ _ _ _ _ (hZ _ _ _ _ (hZ _ _ _ _ (hZ _ _ _ _ (hZ _ _ _ _ (hZ _ _ _ _ (hZ _ _ _ _ (hZ _ _ _ _ (hZ _ _ _ _ ?_))))))))
      show Z 85 _ _ _
      rw [show nI o + 30 + nI i = nI (o + 30 + i) from ea 30 i]
      refine hZ _ _ _ _ ⟨vp_in_nI (N := 280) (by omega) (by omega), ?_⟩
      refine hZ _ _ _ _ ⟨vp_in_nI (N := 5) (by omega) (by omega), ?_⟩
      rw [nI_clamp (by omega), nI_clamp (by omega), f1.1 35 (by decide) rfl]
      refine hZ _ _ _ _ (hZ _ _ _ _ ?_)
      show Z 68 _ _ _
      rw [show nI i + 1 = nI (i + 1) from nI_1 i]
      refine ih (i + 1) _ (by omega) (mfr_wr f1 (by decide) rfl) f2 f3 f5 (fun t ht => ?_)
      rw [p_wr_eq]
      by_cases e : t = i
      · rw [e, us]
      · rw [un e]; exact f6 t (by omega)
  have loop1 : ∀ (n i : Nat) (M2 : pM), i + n = 7 → mfr (fun s => ch4 s || Nat.beq s 20) (fun k => Nat.beq k 3 || Nat.beq k 2) M M2 → M2.1 (aS 18) 3 = M.1 (aS 35) o → M2.1 (aS 18) 2 = M.1 (aS 35) (o + 1) → (∀ c, c < i → M2.1 (aS 21) c = M.1 (aS 35) (o + 2 + c) ∧ M2.1 (aS 22) c = M.1 (aS 35) (o + 9 + c) ∧ M2.1 (aS 23) c = M.1 (aS 35) (o + 16 + c) ∧ M2.1 (aS 24) c = M.1 (aS 35) (o + 23 + c)) → Z 18 [some (vR (aS 18)), some (vR (aS 35)), some (vI (nI o)), some (vI (nI i))] [] M2 := by
    intro n
    induction n with
    | zero =>
      intro i M2 e1 f1 f2 f3 f5
      have : i = 7 := by omega
      subst this
      refine hZ _ _ _ _ (hZ _ _ _ _ ?_)
      show Z 21 _ _ _
      refine hZ _ _ _ _ (br_t (Int32.le_refl _) ?_)
      refine hZ _ _ _ _ (hZ _ _ _ _ ?_)
      show Z 68 _ _ _
      exact loop2 5 0 M2 rfl f1 f2 f3 f5 (fun t ht => absurd ht (Nat.not_lt_zero t))
    | succ n ih =>
      intro i M2 e1 f1 f2 f3 f5
      have es : M2.1 (aS 35) = M.1 (aS 35) := f1.1 35 (by decide) rfl
      refine hZ _ _ _ _ (hZ _ _ _ _ ?_)
      show Z 21 _ _ _
      refine hZ _ _ _ _ (br_f (nI_ge (a := i) (b := 7) (by omega) (by omega)) ?_)
      refine hZ _ _ _ _ (hZ _ _ _ _ (hZ _ _ _ _ (hZ _ _ _ _ (hZ _ _ _ _ (hZ _ _ _ _ (hZ _ _ _ _ (hZ _ _ _ _ ?_)))))))
      show Z 32 _ _ _
      rw [show nI o + 2 + nI i = nI (o + 2 + i) from ea 2 i]
      refine hZ _ _ _ _ ⟨vp_in_nI (N := 280) (by omega) (by omega), ?_⟩
      rw [nI_clamp (by omega), es]
      refine hZ _ _ _ _ (hZ _ _ _ _ (hZ _ _ _ _ (hZ _ _ _ _ (hZ _ _ _ _ (hZ _ _ _ _ ?_)))))
      show Z 40 _ _ _
      rw [show nI o + 9 + nI i = nI (o + 9 + i) from ea 9 i]
      refine hZ _ _ _ _ ⟨vp_in_nI (N := 280) (by omega) (by omega), ?_⟩
      rw [nI_clamp (by omega), es]
      refine hZ _ _ _ _ (hZ _ _ _ _ (hZ _ _ _ _ (hZ _ _ _ _ (hZ _ _ _ _ (hZ _ _ _ _ ?_)))))
      show Z 48 _ _ _
      rw [show nI o + 16 + nI i = nI (o + 16 + i) from ea 16 i]
      refine hZ _ _ _ _ ⟨vp_in_nI (N := 280) (by omega) (by omega), ?_⟩
      rw [nI_clamp (by omega), es]
      refine hZ _ _ _ _ (hZ _ _ _ _ (hZ _ _ _ _ (hZ _ _ _ _ (hZ _ _ _ _ (hZ _ _ _ _ ?_)))))
      show Z 56 _ _ _
      rw [show nI o + 23 + nI i = nI (o + 23 + i) from ea 23 i]
      refine hZ _ _ _ _ ⟨vp_in_nI (N := 280) (by omega) (by omega), ?_⟩
      rw [nI_clamp (by omega), es]
      refine hZ _ _ _ _ ⟨d - 1, by omega, n_sets2 hC i rfl (by omega) (fun M3 g1 g2 g3 g4 g5 => ?_)⟩
      refine hZ _ _ _ _ (hZ _ _ _ _ ?_)
      show Z 18 _ _ _
      rw [show nI i + 1 = nI (i + 1) from nI_1 i]
      refine ih (i + 1) M3 (by omega) (f1.tr (m4 _ _ g1)) ((g1.2.1 3 rfl).trans f2) ((g1.2.1 2 rfl).trans f3) (fun c hc => ?_)
      rw [g2, g3, g4, g5]
      by_cases e : c = i
      · rw [e, us, us, us, us]
        exact ⟨rfl, rfl, rfl, rfl⟩
      · rw [un e, un e, un e, un e]
        exact f5 c (by omega)
  exact loop1 7 0 _ rfl (mfr_fd (mfr_fd mfr_rf rfl) rfl) rfl rfl (fun c hc => absurd hc (Nat.not_lt_zero c))
theorem n_lays37 {C : pC} (hC : p_Lg true C) {d : Nat} {M : pM} {Q : pQ} {i : Int32} {ρ : pRm} (o : Nat) (ei : i = nI o) (ho : o + 35 ≤ 35) (hR : mR M ρ) (ok : okR ρ) (h : ∀ M', mfr (Nat.beq 37) no M M' → nR (M'.1 (aS 37)) o ρ → (∀ k, k < o ∨ o + 35 ≤ k → M'.1 (aS 37) k = M.1 (aS 37) k) → Q M' none) : C d k_X8_lays M [vR (aS 18), vR (aS 37), vI i] Q := by
  subst ei
  have l1 := ok.1
  have l3 := ok.2.2.1
  obtain ⟨a1, a2, a3, a4, a5, a6⟩ := hR
  have ea : ∀ j c : Nat, nI o + nI j + nI c = nI (o + j + c) := fun j c => by rw [nI_add, nI_add]
  refine p_ent hC tb_X8_lays _ rfl rfl rfl (fun Z hZ => ?_)
  refine hZ _ _ _ _ (hZ _ _ _ _ (hZ _ _ _ _ (hZ _ _ _ _ ?_)))
  show Z 6 _ _ _
  refine hZ _ _ _ _ ⟨vp_in_nI (N := 35) (by omega) (by omega), ?_⟩
  refine hZ _ _ _ _ (hZ _ _ _ _ (hZ _ _ _ _ (hZ _ _ _ _ (hZ _ _ _ _ (hZ _ _ _ _ ?_)))))
  show Z 15 _ _ _
  rw [show nI o + 1 = nI (o + 1) from nI_1 o]
  refine hZ _ _ _ _ ⟨vp_in_nI (N := 35) (by omega) (by omega), ?_⟩
  rw [nI_clamp (by omega), nI_clamp (by omega)]
  rw [show (p_wr M (aS 37) o (M.1 (aS 18) 3)).1 (aS 18) 2 = nI ρ.2.2.2.length from a3, a4]
  refine hZ _ _ _ _ (hZ _ _ _ _ ?_)
  show Z 18 _ _ _
  have loop2 : ∀ (n i : Nat) (M2 : pM), i + n = 5 → mfr (Nat.beq 37) no M M2 → M2.1 (aS 37) o = ρ.2.2.1 → M2.1 (aS 37) (o + 1) = nI ρ.2.2.2.length → (∀ k, k < o ∨ o + 35 ≤ k → M2.1 (aS 37) k = M.1 (aS 37) k) → (∀ c, c < 7 → M2.1 (aS 37) (o + 2 + c) = M.1 (aS 21) c ∧ M2.1 (aS 37) (o + 9 + c) = M.1 (aS 22) c ∧ M2.1 (aS 37) (o + 16 + c) = M.1 (aS 23) c ∧ M2.1 (aS 37) (o + 23 + c) = M.1 (aS 24) c) → (∀ t, t < i → M2.1 (aS 37) (o + 30 + t) = M.1 (aS 20) t) → Z 87 [some (vR (aS 18)), some (vR (aS 37)), some (vI (nI o)), some (vI (nI i))] [] M2 := by
    intro n
    induction n with
    | zero =>
      intro i M2 e1 f1 f2 f3 f4 f5 f6
      have : i = 5 := by omega
      subst this
      refine hZ _ _ _ _ (hZ _ _ _ _ ?_)
      show Z 89 _ _ _
      refine hZ _ _ _ _ (br_t (Int32.le_refl _) ?_)
      refine hZ _ _ _ _ ?_
      refine h M2 f1 ⟨f2, f3, fun c x hx => ?_, fun t y hy => ?_⟩ f4
      · have hc : c < 7 := Nat.lt_of_lt_of_le (List.getElem?_eq_some_iff.mp hx).1 l3
        obtain ⟨k1, k2, k3, k4⟩ := f5 c hc
        obtain ⟨y1, y2, y3, y4⟩ := a6 c x hx
        exact ⟨k1.trans y1, k2.trans y2, k3.trans y3, k4.trans y4⟩
      · have ht : t < 5 := Nat.lt_of_lt_of_le (List.getElem?_eq_some_iff.mp hy).1 l1
        exact (f6 t ht).trans (a5 t y hy).2
    | succ n ih =>
      intro i M2 e1 f1 f2 f3 f4 f5 f6
      refine hZ _ _ _ _ (hZ _ _ _ _ ?_)
      show Z 89 _ _ _
      refine hZ _ _ _ _ (br_f (nI_ge (a := i) (b := 5) (by omega) (by omega)) ?_)
      refine hZ _ _ _ _ (hZ _ _ _ _ (hZ _ _ _ _ (hZ _ _ _ _ (hZ _ _ _ _ (hZ _ _ _ _ (hZ _ _ _ _ (hZ _ _ _ _ (hZ _ _ _ _ ?_))))))))
      show Z 104 _ _ _
      rw [show nI o + 30 + nI i = nI (o + 30 + i) from ea 30 i]
      refine hZ _ _ _ _ ⟨vp_in_nI (N := 5) (by omega) (by omega), ?_⟩
      refine hZ _ _ _ _ ⟨vp_in_nI (N := 35) (by omega) (by omega), ?_⟩
      rw [nI_clamp (by omega), nI_clamp (by omega), f1.1 20 (by decide) rfl]
      refine hZ _ _ _ _ (hZ _ _ _ _ ?_)
      show Z 87 _ _ _
      rw [show nI i + 1 = nI (i + 1) from nI_1 i]
      refine ih (i + 1) _ (by omega) (mfr_wr f1 (by decide) rfl) ?_ ?_ (fun k hk => ?_) (fun c hc => ?_) (fun t ht => ?_)
      · rw [p_wr_eq, un (by omega)]; exact f2
      · rw [p_wr_eq, un (by omega)]; exact f3
      · rw [p_wr_eq, un (by omega)]; exact f4 k hk
      · rw [p_wr_eq, un (by omega), un (by omega), un (by omega), un (by omega)]; exact f5 c hc
      · rw [p_wr_eq]
        by_cases e : t = i
        · rw [e, us]
        · rw [un (by omega)]; exact f6 t (by omega)
  have loop1 : ∀ (n i : Nat) (M2 : pM), i + n = 7 → mfr (Nat.beq 37) no M M2 → M2.1 (aS 37) o = ρ.2.2.1 → M2.1 (aS 37) (o + 1) = nI ρ.2.2.2.length → (∀ k, k < o ∨ o + 35 ≤ k → M2.1 (aS 37) k = M.1 (aS 37) k) → (∀ c, c < i → M2.1 (aS 37) (o + 2 + c) = M.1 (aS 21) c ∧ M2.1 (aS 37) (o + 9 + c) = M.1 (aS 22) c ∧ M2.1 (aS 37) (o + 16 + c) = M.1 (aS 23) c ∧ M2.1 (aS 37) (o + 23 + c) = M.1 (aS 24) c) → Z 18 [some (vR (aS 18)), some (vR (aS 37)), some (vI (nI o)), some (vI (nI i))] [] M2 := by
    intro n
    induction n with
    | zero =>
      intro i M2 e1 f1 f2 f3 f4 f5
      have : i = 7 := by omega
      subst this
      refine hZ _ _ _ _ (hZ _ _ _ _ ?_)
      show Z 21 _ _ _
      refine hZ _ _ _ _ (br_t (Int32.le_refl _) ?_)
      refine hZ _ _ _ _ (hZ _ _ _ _ ?_)
      show Z 87 _ _ _
      exact loop2 5 0 M2 rfl f1 f2 f3 f4 f5 (fun t ht => absurd ht (Nat.not_lt_zero t))
    | succ n ih =>
      intro i M2 e1 f1 f2 f3 f4 f5
      refine hZ _ _ _ _ (hZ _ _ _ _ ?_)
      show Z 21 _ _ _
      refine hZ _ _ _ _ (br_f (nI_ge (a := i) (b := 7) (by omega) (by omega)) ?_)
      refine hZ _ _ _ _ (hZ _ _ _ _ (hZ _ _ _ _ (hZ _ _ _ _ (hZ _ _ _ _ (hZ _ _ _ _ (hZ _ _ _ _ (hZ _ _ _ _ (hZ _ _ _ _ ?_))))))))
      show Z 35 _ _ _
      rw [show nI o + 2 + nI i = nI (o + 2 + i) from ea 2 i]
      refine hZ _ _ _ _ ⟨vp_in_nI (N := 8) (by omega) (by omega), ?_⟩
      refine hZ _ _ _ _ ⟨vp_in_nI (N := 35) (by omega) (by omega), ?_⟩
      rw [nI_clamp (by omega), nI_clamp (by omega), f1.1 21 (by decide) rfl]
      have F1 : mfr (Nat.beq 37) no M (p_wr M2 (aS 37) (o + 2 + i) (M.1 (aS 21) i)) := mfr_wr f1 (by decide) rfl
      have G1 : (p_wr M2 (aS 37) (o + 2 + i) (M.1 (aS 21) i)).1 (aS 37) = upd (M2.1 (aS 37)) (o + 2 + i) (M.1 (aS 21) i) := p_wr_eq
      generalize p_wr M2 (aS 37) (o + 2 + i) (M.1 (aS 21) i) = M3 at F1 G1 ⊢
      refine hZ _ _ _ _ (hZ _ _ _ _ (hZ _ _ _ _ (hZ _ _ _ _ (hZ _ _ _ _ (hZ _ _ _ _ (hZ _ _ _ _ (hZ _ _ _ _ (hZ _ _ _ _ ?_))))))))
      show Z 49 _ _ _
      rw [show nI o + 9 + nI i = nI (o + 9 + i) from ea 9 i]
      refine hZ _ _ _ _ ⟨vp_in_nI (N := 8) (by omega) (by omega), ?_⟩
      refine hZ _ _ _ _ ⟨vp_in_nI (N := 35) (by omega) (by omega), ?_⟩
      rw [nI_clamp (by omega), nI_clamp (by omega), F1.1 22 (by decide) rfl]
      have F2 : mfr (Nat.beq 37) no M (p_wr M3 (aS 37) (o + 9 + i) (M.1 (aS 22) i)) := mfr_wr F1 (by decide) rfl
      have G2 : (p_wr M3 (aS 37) (o + 9 + i) (M.1 (aS 22) i)).1 (aS 37) = upd (M3.1 (aS 37)) (o + 9 + i) (M.1 (aS 22) i) := p_wr_eq
      rw [G1] at G2
      generalize p_wr M3 (aS 37) (o + 9 + i) (M.1 (aS 22) i) = M4 at F2 G2 ⊢
      refine hZ _ _ _ _ (hZ _ _ _ _ (hZ _ _ _ _ (hZ _ _ _ _ (hZ _ _ _ _ (hZ _ _ _ _ (hZ _ _ _ _ (hZ _ _ _ _ (hZ _ _ _ _ ?_))))))))
      show Z 63 _ _ _
      rw [show nI o + 16 + nI i = nI (o + 16 + i) from ea 16 i]
      refine hZ _ _ _ _ ⟨vp_in_nI (N := 8) (by omega) (by omega), ?_⟩
      refine hZ _ _ _ _ ⟨vp_in_nI (N := 35) (by omega) (by omega), ?_⟩
      rw [nI_clamp (by omega), nI_clamp (by omega), F2.1 23 (by decide) rfl]
      have F3 : mfr (Nat.beq 37) no M (p_wr M4 (aS 37) (o + 16 + i) (M.1 (aS 23) i)) := mfr_wr F2 (by decide) rfl
      have G3 : (p_wr M4 (aS 37) (o + 16 + i) (M.1 (aS 23) i)).1 (aS 37) = upd (M4.1 (aS 37)) (o + 16 + i) (M.1 (aS 23) i) := p_wr_eq
      rw [G2] at G3
      generalize p_wr M4 (aS 37) (o + 16 + i) (M.1 (aS 23) i) = M5 at F3 G3 ⊢
      refine hZ _ _ _ _ (hZ _ _ _ _ (hZ _ _ _ _ (hZ _ _ _ _ (hZ _ _ _ _ (hZ _ _ _ _ (hZ _ _ _ _ (hZ _ _ _ _ (hZ _ _ _ _ ?_))))))))
      show Z 77 _ _ _
      rw [show nI o + 23 + nI i = nI (o + 23 + i) from ea 23 i]
      refine hZ _ _ _ _ ⟨vp_in_nI (N := 8) (by omega) (by omega), ?_⟩
      refine hZ _ _ _ _ ⟨vp_in_nI (N := 35) (by omega) (by omega), ?_⟩
      rw [nI_clamp (by omega), nI_clamp (by omega), F3.1 24 (by decide) rfl]
      have F4 : mfr (Nat.beq 37) no M (p_wr M5 (aS 37) (o + 23 + i) (M.1 (aS 24) i)) := mfr_wr F3 (by decide) rfl
      have G4 : (p_wr M5 (aS 37) (o + 23 + i) (M.1 (aS 24) i)).1 (aS 37) = upd (M5.1 (aS 37)) (o + 23 + i) (M.1 (aS 24) i) := p_wr_eq
      rw [G3] at G4
      generalize p_wr M5 (aS 37) (o + 23 + i) (M.1 (aS 24) i) = M6 at F4 G4 ⊢
      refine hZ _ _ _ _ (hZ _ _ _ _ ?_)
      show Z 18 _ _ _
      rw [show nI i + 1 = nI (i + 1) from nI_1 i]
      refine ih (i + 1) _ (by omega) F4 ?_ ?_ (fun k hk => ?_) (fun c hc => ?_)
      · rw [G4, un (by omega), un (by omega), un (by omega), un (by omega)]; exact f2
      · rw [G4, un (by omega), un (by omega), un (by omega), un (by omega)]; exact f3
      · rw [G4, un (by omega), un (by omega), un (by omega), un (by omega)]; exact f4 k hk
      · rw [G4]
        by_cases e : c = i
        · subst e
          refine ⟨?_, ?_, ?_, ?_⟩
          · rw [un (by omega), un (by omega), un (by omega), us]
          · rw [un (by omega), un (by omega), us]
          · rw [un (by omega), us]
          · rw [us]
        · obtain ⟨k1, k2, k3, k4⟩ := f5 c (by omega)
          refine ⟨?_, ?_, ?_, ?_⟩
          · rw [un (by omega), un (by omega), un (by omega), un (by omega)]; exact k1
          · rw [un (by omega), un (by omega), un (by omega), un (by omega)]; exact k2
          · rw [un (by omega), un (by omega), un (by omega), un (by omega)]; exact k3
          · rw [un (by omega), un (by omega), un (by omega), un (by omega)]; exact k4
  refine loop1 7 0 _ rfl (mfr_wr (mfr_wr mfr_rf (by decide) rfl) (by decide) rfl) ?_ ?_ (fun k hk => ?_) (fun c hc => absurd hc (Nat.not_lt_zero c))
  · rw [p_wr_eq, un (by omega), p_wr_eq, us]
  · rw [p_wr_eq, us]
  · rw [p_wr_eq, un (by omega), p_wr_eq, un (by omega)]
theorem n_takes37 {C : pC} (hC : p_Lg true C) {d : Nat} {M : pM} {Q : pQ} {i : Int32} (o : Nat) (ei : i = nI o) (ho : o + 35 ≤ 35) (hd : 1 ≤ d) (h : ∀ M', mfr (fun s => ch4 s || Nat.beq s 20) (fun k => Nat.beq k 3 || Nat.beq k 2) M M' → M'.1 (aS 18) 3 = M.1 (aS 37) o → M'.1 (aS 18) 2 = M.1 (aS 37) (o + 1) → (∀ c, c < 7 → M'.1 (aS 21) c = M.1 (aS 37) (o + 2 + c) ∧ M'.1 (aS 22) c = M.1 (aS 37) (o + 9 + c) ∧ M'.1 (aS 23) c = M.1 (aS 37) (o + 16 + c) ∧ M'.1 (aS 24) c = M.1 (aS 37) (o + 23 + c)) → (∀ t, t < 5 → M'.1 (aS 20) t = M.1 (aS 37) (o + 30 + t)) → Q M' none) : C d k_X8_takes M [vR (aS 18), vR (aS 37), vI i] Q := by
  subst ei
  have ea : ∀ j c : Nat, nI o + nI j + nI c = nI (o + j + c) := fun j c => by rw [nI_add, nI_add]
  have m4 : ∀ M1 M2 : pM, mfr ch4 no M1 M2 → mfr (fun s => ch4 s || Nat.beq s 20) (fun k => Nat.beq k 3 || Nat.beq k 2) M1 M2 := fun M1 M2 g => g.mono (fun s hs => by simp only [Bool.or_eq_false_iff] at hs; exact hs.1) no_le
  refine p_ent hC tb_X8_takes _ rfl rfl rfl (fun Z hZ => ?_)
  refine hZ _ _ _ _ (hZ _ _ _ _ (hZ _ _ _ _ ?_))
  show Z 3 _ _ _
  refine hZ _ _ _ _ ⟨vp_in_nI (N := 35) (by omega) (by omega), ?_⟩
  refine hZ _ _ _ _ (hZ _ _ _ _ (hZ _ _ _ _ (hZ _ _ _ _ (hZ _ _ _ _ (hZ _ _ _ _ ?_)))))
  show Z 12 _ _ _
  rw [show nI o + 1 = nI (o + 1) from nI_1 o]
  refine hZ _ _ _ _ ⟨vp_in_nI (N := 35) (by omega) (by omega), ?_⟩
  rw [nI_clamp (by omega), nI_clamp (by omega)]
  refine hZ _ _ _ _ (hZ _ _ _ _ (hZ _ _ _ _ ?_))
  show Z 18 _ _ _
  have loop2 : ∀ (n i : Nat) (M2 : pM), i + n = 5 → mfr (fun s => ch4 s || Nat.beq s 20) (fun k => Nat.beq k 3 || Nat.beq k 2) M M2 → M2.1 (aS 18) 3 = M.1 (aS 37) o → M2.1 (aS 18) 2 = M.1 (aS 37) (o + 1) → (∀ c, c < 7 → M2.1 (aS 21) c = M.1 (aS 37) (o + 2 + c) ∧ M2.1 (aS 22) c = M.1 (aS 37) (o + 9 + c) ∧ M2.1 (aS 23) c = M.1 (aS 37) (o + 16 + c) ∧ M2.1 (aS 24) c = M.1 (aS 37) (o + 23 + c)) → (∀ t, t < i → M2.1 (aS 20) t = M.1 (aS 37) (o + 30 + t)) → Z 68 [some (vR (aS 18)), some (vR (aS 37)), some (vI (nI o)), some (vI (nI i))] [] M2 := by
    intro n
    induction n with
    | zero =>
      intro i M2 e1 f1 f2 f3 f5 f6
      have : i = 5 := by omega
      subst this
      refine hZ _ _ _ _ (hZ _ _ _ _ ?_)
      show Z 70 _ _ _
      refine hZ _ _ _ _ (br_t (Int32.le_refl _) ?_)
      refine hZ _ _ _ _ ?_
      exact h M2 f1 f2 f3 f5 f6
    | succ n ih =>
      intro i M2 e1 f1 f2 f3 f5 f6
      refine hZ _ _ _ _ (hZ _ _ _ _ ?_)
      show Z 70 _ _ _
      refine hZ _ _ _ _ (br_f (nI_ge (a := i) (b := 5) (by omega) (by omega)) ?_)
      refine hZ _ _ _ _ (hZ _ _ _ _ (hZ _ _ _ _ (hZ _ _ _ _ (hZ _ _ _ _ (hZ _ _ _ _ (hZ _ _ _ _ (hZ _ _ _ _ (hZ _ _ _ _ ?_))))))))
      show Z 85 _ _ _
      rw [show nI o + 30 + nI i = nI (o + 30 + i) from ea 30 i]
      refine hZ _ _ _ _ ⟨vp_in_nI (N := 35) (by omega) (by omega), ?_⟩
      refine hZ _ _ _ _ ⟨vp_in_nI (N := 5) (by omega) (by omega), ?_⟩
      rw [nI_clamp (by omega), nI_clamp (by omega), f1.1 37 (by decide) rfl]
      refine hZ _ _ _ _ (hZ _ _ _ _ ?_)
      show Z 68 _ _ _
      rw [show nI i + 1 = nI (i + 1) from nI_1 i]
      refine ih (i + 1) _ (by omega) (mfr_wr f1 (by decide) rfl) f2 f3 f5 (fun t ht => ?_)
      rw [p_wr_eq]
      by_cases e : t = i
      · rw [e, us]
      · rw [un e]; exact f6 t (by omega)
  have loop1 : ∀ (n i : Nat) (M2 : pM), i + n = 7 → mfr (fun s => ch4 s || Nat.beq s 20) (fun k => Nat.beq k 3 || Nat.beq k 2) M M2 → M2.1 (aS 18) 3 = M.1 (aS 37) o → M2.1 (aS 18) 2 = M.1 (aS 37) (o + 1) → (∀ c, c < i → M2.1 (aS 21) c = M.1 (aS 37) (o + 2 + c) ∧ M2.1 (aS 22) c = M.1 (aS 37) (o + 9 + c) ∧ M2.1 (aS 23) c = M.1 (aS 37) (o + 16 + c) ∧ M2.1 (aS 24) c = M.1 (aS 37) (o + 23 + c)) → Z 18 [some (vR (aS 18)), some (vR (aS 37)), some (vI (nI o)), some (vI (nI i))] [] M2 := by
    intro n
    induction n with
    | zero =>
      intro i M2 e1 f1 f2 f3 f5
      have : i = 7 := by omega
      subst this
      refine hZ _ _ _ _ (hZ _ _ _ _ ?_)
      show Z 21 _ _ _
      refine hZ _ _ _ _ (br_t (Int32.le_refl _) ?_)
      refine hZ _ _ _ _ (hZ _ _ _ _ ?_)
      show Z 68 _ _ _
      exact loop2 5 0 M2 rfl f1 f2 f3 f5 (fun t ht => absurd ht (Nat.not_lt_zero t))
    | succ n ih =>
      intro i M2 e1 f1 f2 f3 f5
      have es : M2.1 (aS 37) = M.1 (aS 37) := f1.1 37 (by decide) rfl
      refine hZ _ _ _ _ (hZ _ _ _ _ ?_)
      show Z 21 _ _ _
      refine hZ _ _ _ _ (br_f (nI_ge (a := i) (b := 7) (by omega) (by omega)) ?_)
      refine hZ _ _ _ _ (hZ _ _ _ _ (hZ _ _ _ _ (hZ _ _ _ _ (hZ _ _ _ _ (hZ _ _ _ _ (hZ _ _ _ _ (hZ _ _ _ _ ?_)))))))
      show Z 32 _ _ _
      rw [show nI o + 2 + nI i = nI (o + 2 + i) from ea 2 i]
      refine hZ _ _ _ _ ⟨vp_in_nI (N := 35) (by omega) (by omega), ?_⟩
      rw [nI_clamp (by omega), es]
      refine hZ _ _ _ _ (hZ _ _ _ _ (hZ _ _ _ _ (hZ _ _ _ _ (hZ _ _ _ _ (hZ _ _ _ _ ?_)))))
      show Z 40 _ _ _
      rw [show nI o + 9 + nI i = nI (o + 9 + i) from ea 9 i]
      refine hZ _ _ _ _ ⟨vp_in_nI (N := 35) (by omega) (by omega), ?_⟩
      rw [nI_clamp (by omega), es]
      refine hZ _ _ _ _ (hZ _ _ _ _ (hZ _ _ _ _ (hZ _ _ _ _ (hZ _ _ _ _ (hZ _ _ _ _ ?_)))))
      show Z 48 _ _ _
      rw [show nI o + 16 + nI i = nI (o + 16 + i) from ea 16 i]
      refine hZ _ _ _ _ ⟨vp_in_nI (N := 35) (by omega) (by omega), ?_⟩
      rw [nI_clamp (by omega), es]
      refine hZ _ _ _ _ (hZ _ _ _ _ (hZ _ _ _ _ (hZ _ _ _ _ (hZ _ _ _ _ (hZ _ _ _ _ ?_)))))
      show Z 56 _ _ _
      rw [show nI o + 23 + nI i = nI (o + 23 + i) from ea 23 i]
      refine hZ _ _ _ _ ⟨vp_in_nI (N := 35) (by omega) (by omega), ?_⟩
      rw [nI_clamp (by omega), es]
      refine hZ _ _ _ _ ⟨d - 1, by omega, n_sets2 hC i rfl (by omega) (fun M3 g1 g2 g3 g4 g5 => ?_)⟩
      refine hZ _ _ _ _ (hZ _ _ _ _ ?_)
      show Z 18 _ _ _
      rw [show nI i + 1 = nI (i + 1) from nI_1 i]
      refine ih (i + 1) M3 (by omega) (f1.tr (m4 _ _ g1)) ((g1.2.1 3 rfl).trans f2) ((g1.2.1 2 rfl).trans f3) (fun c hc => ?_)
      rw [g2, g3, g4, g5]
      by_cases e : c = i
      · rw [e, us, us, us, us]
        exact ⟨rfl, rfl, rfl, rfl⟩
      · rw [un e, un e, un e, un e]
        exact f5 c (by omega)
  exact loop1 7 0 _ rfl (mfr_fd (mfr_fd mfr_rf rfl) rfl) rfl rfl (fun c hc => absurd hc (Nat.not_lt_zero c))
theorem n_lays38 {C : pC} (hC : p_Lg true C) {d : Nat} {M : pM} {Q : pQ} {i : Int32} {ρ : pRm} (o : Nat) (ei : i = nI o) (ho : o + 35 ≤ 70) (hR : mR M ρ) (ok : okR ρ) (h : ∀ M', mfr (Nat.beq 38) no M M' → nR (M'.1 (aS 38)) o ρ → (∀ k, k < o ∨ o + 35 ≤ k → M'.1 (aS 38) k = M.1 (aS 38) k) → Q M' none) : C d k_X8_lays M [vR (aS 18), vR (aS 38), vI i] Q := by
  subst ei
  have l1 := ok.1
  have l3 := ok.2.2.1
  obtain ⟨a1, a2, a3, a4, a5, a6⟩ := hR
  have ea : ∀ j c : Nat, nI o + nI j + nI c = nI (o + j + c) := fun j c => by rw [nI_add, nI_add]
  refine p_ent hC tb_X8_lays _ rfl rfl rfl (fun Z hZ => ?_)
  refine hZ _ _ _ _ (hZ _ _ _ _ (hZ _ _ _ _ (hZ _ _ _ _ ?_)))
  show Z 6 _ _ _
  refine hZ _ _ _ _ ⟨vp_in_nI (N := 70) (by omega) (by omega), ?_⟩
  refine hZ _ _ _ _ (hZ _ _ _ _ (hZ _ _ _ _ (hZ _ _ _ _ (hZ _ _ _ _ (hZ _ _ _ _ ?_)))))
  show Z 15 _ _ _
  rw [show nI o + 1 = nI (o + 1) from nI_1 o]
  refine hZ _ _ _ _ ⟨vp_in_nI (N := 70) (by omega) (by omega), ?_⟩
  rw [nI_clamp (by omega), nI_clamp (by omega)]
  rw [show (p_wr M (aS 38) o (M.1 (aS 18) 3)).1 (aS 18) 2 = nI ρ.2.2.2.length from a3, a4]
  refine hZ _ _ _ _ (hZ _ _ _ _ ?_)
  show Z 18 _ _ _
  have loop2 : ∀ (n i : Nat) (M2 : pM), i + n = 5 → mfr (Nat.beq 38) no M M2 → M2.1 (aS 38) o = ρ.2.2.1 → M2.1 (aS 38) (o + 1) = nI ρ.2.2.2.length → (∀ k, k < o ∨ o + 35 ≤ k → M2.1 (aS 38) k = M.1 (aS 38) k) → (∀ c, c < 7 → M2.1 (aS 38) (o + 2 + c) = M.1 (aS 21) c ∧ M2.1 (aS 38) (o + 9 + c) = M.1 (aS 22) c ∧ M2.1 (aS 38) (o + 16 + c) = M.1 (aS 23) c ∧ M2.1 (aS 38) (o + 23 + c) = M.1 (aS 24) c) → (∀ t, t < i → M2.1 (aS 38) (o + 30 + t) = M.1 (aS 20) t) → Z 87 [some (vR (aS 18)), some (vR (aS 38)), some (vI (nI o)), some (vI (nI i))] [] M2 := by
    intro n
    induction n with
    | zero =>
      intro i M2 e1 f1 f2 f3 f4 f5 f6
      have : i = 5 := by omega
      subst this
      refine hZ _ _ _ _ (hZ _ _ _ _ ?_)
      show Z 89 _ _ _
      refine hZ _ _ _ _ (br_t (Int32.le_refl _) ?_)
      refine hZ _ _ _ _ ?_
      refine h M2 f1 ⟨f2, f3, fun c x hx => ?_, fun t y hy => ?_⟩ f4
      · have hc : c < 7 := Nat.lt_of_lt_of_le (List.getElem?_eq_some_iff.mp hx).1 l3
        obtain ⟨k1, k2, k3, k4⟩ := f5 c hc
        obtain ⟨y1, y2, y3, y4⟩ := a6 c x hx
        exact ⟨k1.trans y1, k2.trans y2, k3.trans y3, k4.trans y4⟩
      · have ht : t < 5 := Nat.lt_of_lt_of_le (List.getElem?_eq_some_iff.mp hy).1 l1
        exact (f6 t ht).trans (a5 t y hy).2
    | succ n ih =>
      intro i M2 e1 f1 f2 f3 f4 f5 f6
      refine hZ _ _ _ _ (hZ _ _ _ _ ?_)
      show Z 89 _ _ _
      refine hZ _ _ _ _ (br_f (nI_ge (a := i) (b := 5) (by omega) (by omega)) ?_)
      refine hZ _ _ _ _ (hZ _ _ _ _ (hZ _ _ _ _ (hZ _ _ _ _ (hZ _ _ _ _ (hZ _ _ _ _ (hZ _ _ _ _ (hZ _ _ _ _ (hZ _ _ _ _ ?_))))))))
      show Z 104 _ _ _
      rw [show nI o + 30 + nI i = nI (o + 30 + i) from ea 30 i]
      refine hZ _ _ _ _ ⟨vp_in_nI (N := 5) (by omega) (by omega), ?_⟩
      refine hZ _ _ _ _ ⟨vp_in_nI (N := 70) (by omega) (by omega), ?_⟩
      rw [nI_clamp (by omega), nI_clamp (by omega), f1.1 20 (by decide) rfl]
      refine hZ _ _ _ _ (hZ _ _ _ _ ?_)
      show Z 87 _ _ _
      rw [show nI i + 1 = nI (i + 1) from nI_1 i]
      refine ih (i + 1) _ (by omega) (mfr_wr f1 (by decide) rfl) ?_ ?_ (fun k hk => ?_) (fun c hc => ?_) (fun t ht => ?_)
      · rw [p_wr_eq, un (by omega)]; exact f2
      · rw [p_wr_eq, un (by omega)]; exact f3
      · rw [p_wr_eq, un (by omega)]; exact f4 k hk
      · rw [p_wr_eq, un (by omega), un (by omega), un (by omega), un (by omega)]; exact f5 c hc
      · rw [p_wr_eq]
        by_cases e : t = i
        · rw [e, us]
        · rw [un (by omega)]; exact f6 t (by omega)
  have loop1 : ∀ (n i : Nat) (M2 : pM), i + n = 7 → mfr (Nat.beq 38) no M M2 → M2.1 (aS 38) o = ρ.2.2.1 → M2.1 (aS 38) (o + 1) = nI ρ.2.2.2.length → (∀ k, k < o ∨ o + 35 ≤ k → M2.1 (aS 38) k = M.1 (aS 38) k) → (∀ c, c < i → M2.1 (aS 38) (o + 2 + c) = M.1 (aS 21) c ∧ M2.1 (aS 38) (o + 9 + c) = M.1 (aS 22) c ∧ M2.1 (aS 38) (o + 16 + c) = M.1 (aS 23) c ∧ M2.1 (aS 38) (o + 23 + c) = M.1 (aS 24) c) → Z 18 [some (vR (aS 18)), some (vR (aS 38)), some (vI (nI o)), some (vI (nI i))] [] M2 := by
    intro n
    induction n with
    | zero =>
      intro i M2 e1 f1 f2 f3 f4 f5
      have : i = 7 := by omega
      subst this
      refine hZ _ _ _ _ (hZ _ _ _ _ ?_)
      show Z 21 _ _ _
      refine hZ _ _ _ _ (br_t (Int32.le_refl _) ?_)
      refine hZ _ _ _ _ (hZ _ _ _ _ ?_)
      show Z 87 _ _ _
      exact loop2 5 0 M2 rfl f1 f2 f3 f4 f5 (fun t ht => absurd ht (Nat.not_lt_zero t))
    | succ n ih =>
      intro i M2 e1 f1 f2 f3 f4 f5
      refine hZ _ _ _ _ (hZ _ _ _ _ ?_)
      show Z 21 _ _ _
      refine hZ _ _ _ _ (br_f (nI_ge (a := i) (b := 7) (by omega) (by omega)) ?_)
      refine hZ _ _ _ _ (hZ _ _ _ _ (hZ _ _ _ _ (hZ _ _ _ _ (hZ _ _ _ _ (hZ _ _ _ _ (hZ _ _ _ _ (hZ _ _ _ _ (hZ _ _ _ _ ?_))))))))
      show Z 35 _ _ _
      rw [show nI o + 2 + nI i = nI (o + 2 + i) from ea 2 i]
      refine hZ _ _ _ _ ⟨vp_in_nI (N := 8) (by omega) (by omega), ?_⟩
      refine hZ _ _ _ _ ⟨vp_in_nI (N := 70) (by omega) (by omega), ?_⟩
      rw [nI_clamp (by omega), nI_clamp (by omega), f1.1 21 (by decide) rfl]
      have F1 : mfr (Nat.beq 38) no M (p_wr M2 (aS 38) (o + 2 + i) (M.1 (aS 21) i)) := mfr_wr f1 (by decide) rfl
      have G1 : (p_wr M2 (aS 38) (o + 2 + i) (M.1 (aS 21) i)).1 (aS 38) = upd (M2.1 (aS 38)) (o + 2 + i) (M.1 (aS 21) i) := p_wr_eq
      generalize p_wr M2 (aS 38) (o + 2 + i) (M.1 (aS 21) i) = M3 at F1 G1 ⊢
      refine hZ _ _ _ _ (hZ _ _ _ _ (hZ _ _ _ _ (hZ _ _ _ _ (hZ _ _ _ _ (hZ _ _ _ _ (hZ _ _ _ _ (hZ _ _ _ _ (hZ _ _ _ _ ?_))))))))
      show Z 49 _ _ _
      rw [show nI o + 9 + nI i = nI (o + 9 + i) from ea 9 i]
      refine hZ _ _ _ _ ⟨vp_in_nI (N := 8) (by omega) (by omega), ?_⟩
      refine hZ _ _ _ _ ⟨vp_in_nI (N := 70) (by omega) (by omega), ?_⟩
      rw [nI_clamp (by omega), nI_clamp (by omega), F1.1 22 (by decide) rfl]
      have F2 : mfr (Nat.beq 38) no M (p_wr M3 (aS 38) (o + 9 + i) (M.1 (aS 22) i)) := mfr_wr F1 (by decide) rfl
      have G2 : (p_wr M3 (aS 38) (o + 9 + i) (M.1 (aS 22) i)).1 (aS 38) = upd (M3.1 (aS 38)) (o + 9 + i) (M.1 (aS 22) i) := p_wr_eq
      rw [G1] at G2
      generalize p_wr M3 (aS 38) (o + 9 + i) (M.1 (aS 22) i) = M4 at F2 G2 ⊢
      refine hZ _ _ _ _ (hZ _ _ _ _ (hZ _ _ _ _ (hZ _ _ _ _ (hZ _ _ _ _ (hZ _ _ _ _ (hZ _ _ _ _ (hZ _ _ _ _ (hZ _ _ _ _ ?_))))))))
      show Z 63 _ _ _
      rw [show nI o + 16 + nI i = nI (o + 16 + i) from ea 16 i]
      refine hZ _ _ _ _ ⟨vp_in_nI (N := 8) (by omega) (by omega), ?_⟩
      refine hZ _ _ _ _ ⟨vp_in_nI (N := 70) (by omega) (by omega), ?_⟩
      rw [nI_clamp (by omega), nI_clamp (by omega), F2.1 23 (by decide) rfl]
      have F3 : mfr (Nat.beq 38) no M (p_wr M4 (aS 38) (o + 16 + i) (M.1 (aS 23) i)) := mfr_wr F2 (by decide) rfl
      have G3 : (p_wr M4 (aS 38) (o + 16 + i) (M.1 (aS 23) i)).1 (aS 38) = upd (M4.1 (aS 38)) (o + 16 + i) (M.1 (aS 23) i) := p_wr_eq
      rw [G2] at G3
      generalize p_wr M4 (aS 38) (o + 16 + i) (M.1 (aS 23) i) = M5 at F3 G3 ⊢
      refine hZ _ _ _ _ (hZ _ _ _ _ (hZ _ _ _ _ (hZ _ _ _ _ (hZ _ _ _ _ (hZ _ _ _ _ (hZ _ _ _ _ (hZ _ _ _ _ (hZ _ _ _ _ ?_))))))))
      show Z 77 _ _ _
      rw [show nI o + 23 + nI i = nI (o + 23 + i) from ea 23 i]
      refine hZ _ _ _ _ ⟨vp_in_nI (N := 8) (by omega) (by omega), ?_⟩
      refine hZ _ _ _ _ ⟨vp_in_nI (N := 70) (by omega) (by omega), ?_⟩
      rw [nI_clamp (by omega), nI_clamp (by omega), F3.1 24 (by decide) rfl]
      have F4 : mfr (Nat.beq 38) no M (p_wr M5 (aS 38) (o + 23 + i) (M.1 (aS 24) i)) := mfr_wr F3 (by decide) rfl
      have G4 : (p_wr M5 (aS 38) (o + 23 + i) (M.1 (aS 24) i)).1 (aS 38) = upd (M5.1 (aS 38)) (o + 23 + i) (M.1 (aS 24) i) := p_wr_eq
      rw [G3] at G4
      generalize p_wr M5 (aS 38) (o + 23 + i) (M.1 (aS 24) i) = M6 at F4 G4 ⊢
      refine hZ _ _ _ _ (hZ _ _ _ _ ?_)
      show Z 18 _ _ _
      rw [show nI i + 1 = nI (i + 1) from nI_1 i]
      refine ih (i + 1) _ (by omega) F4 ?_ ?_ (fun k hk => ?_) (fun c hc => ?_)
      · rw [G4, un (by omega), un (by omega), un (by omega), un (by omega)]; exact f2
      · rw [G4, un (by omega), un (by omega), un (by omega), un (by omega)]; exact f3
      · rw [G4, un (by omega), un (by omega), un (by omega), un (by omega)]; exact f4 k hk
      · rw [G4]
        by_cases e : c = i
        · subst e
          refine ⟨?_, ?_, ?_, ?_⟩
          · rw [un (by omega), un (by omega), un (by omega), us]
          · rw [un (by omega), un (by omega), us]
          · rw [un (by omega), us]
          · rw [us]
        · obtain ⟨k1, k2, k3, k4⟩ := f5 c (by omega)
          refine ⟨?_, ?_, ?_, ?_⟩
          · rw [un (by omega), un (by omega), un (by omega), un (by omega)]; exact k1
          · rw [un (by omega), un (by omega), un (by omega), un (by omega)]; exact k2
          · rw [un (by omega), un (by omega), un (by omega), un (by omega)]; exact k3
          · rw [un (by omega), un (by omega), un (by omega), un (by omega)]; exact k4
  refine loop1 7 0 _ rfl (mfr_wr (mfr_wr mfr_rf (by decide) rfl) (by decide) rfl) ?_ ?_ (fun k hk => ?_) (fun c hc => absurd hc (Nat.not_lt_zero c))
  · rw [p_wr_eq, un (by omega), p_wr_eq, us]
  · rw [p_wr_eq, us]
  · rw [p_wr_eq, un (by omega), p_wr_eq, un (by omega)]
theorem n_takes38 {C : pC} (hC : p_Lg true C) {d : Nat} {M : pM} {Q : pQ} {i : Int32} (o : Nat) (ei : i = nI o) (ho : o + 35 ≤ 70) (hd : 1 ≤ d) (h : ∀ M', mfr (fun s => ch4 s || Nat.beq s 20) (fun k => Nat.beq k 3 || Nat.beq k 2) M M' → M'.1 (aS 18) 3 = M.1 (aS 38) o → M'.1 (aS 18) 2 = M.1 (aS 38) (o + 1) → (∀ c, c < 7 → M'.1 (aS 21) c = M.1 (aS 38) (o + 2 + c) ∧ M'.1 (aS 22) c = M.1 (aS 38) (o + 9 + c) ∧ M'.1 (aS 23) c = M.1 (aS 38) (o + 16 + c) ∧ M'.1 (aS 24) c = M.1 (aS 38) (o + 23 + c)) → (∀ t, t < 5 → M'.1 (aS 20) t = M.1 (aS 38) (o + 30 + t)) → Q M' none) : C d k_X8_takes M [vR (aS 18), vR (aS 38), vI i] Q := by
  subst ei
  have ea : ∀ j c : Nat, nI o + nI j + nI c = nI (o + j + c) := fun j c => by rw [nI_add, nI_add]
  have m4 : ∀ M1 M2 : pM, mfr ch4 no M1 M2 → mfr (fun s => ch4 s || Nat.beq s 20) (fun k => Nat.beq k 3 || Nat.beq k 2) M1 M2 := fun M1 M2 g => g.mono (fun s hs => by simp only [Bool.or_eq_false_iff] at hs; exact hs.1) no_le
  refine p_ent hC tb_X8_takes _ rfl rfl rfl (fun Z hZ => ?_)
  refine hZ _ _ _ _ (hZ _ _ _ _ (hZ _ _ _ _ ?_))
  show Z 3 _ _ _
  refine hZ _ _ _ _ ⟨vp_in_nI (N := 70) (by omega) (by omega), ?_⟩
  refine hZ _ _ _ _ (hZ _ _ _ _ (hZ _ _ _ _ (hZ _ _ _ _ (hZ _ _ _ _ (hZ _ _ _ _ ?_)))))
  show Z 12 _ _ _
  rw [show nI o + 1 = nI (o + 1) from nI_1 o]
  refine hZ _ _ _ _ ⟨vp_in_nI (N := 70) (by omega) (by omega), ?_⟩
  rw [nI_clamp (by omega), nI_clamp (by omega)]
  refine hZ _ _ _ _ (hZ _ _ _ _ (hZ _ _ _ _ ?_))
  show Z 18 _ _ _
  have loop2 : ∀ (n i : Nat) (M2 : pM), i + n = 5 → mfr (fun s => ch4 s || Nat.beq s 20) (fun k => Nat.beq k 3 || Nat.beq k 2) M M2 → M2.1 (aS 18) 3 = M.1 (aS 38) o → M2.1 (aS 18) 2 = M.1 (aS 38) (o + 1) → (∀ c, c < 7 → M2.1 (aS 21) c = M.1 (aS 38) (o + 2 + c) ∧ M2.1 (aS 22) c = M.1 (aS 38) (o + 9 + c) ∧ M2.1 (aS 23) c = M.1 (aS 38) (o + 16 + c) ∧ M2.1 (aS 24) c = M.1 (aS 38) (o + 23 + c)) → (∀ t, t < i → M2.1 (aS 20) t = M.1 (aS 38) (o + 30 + t)) → Z 68 [some (vR (aS 18)), some (vR (aS 38)), some (vI (nI o)), some (vI (nI i))] [] M2 := by
    intro n
    induction n with
    | zero =>
      intro i M2 e1 f1 f2 f3 f5 f6
      have : i = 5 := by omega
      subst this
      refine hZ _ _ _ _ (hZ _ _ _ _ ?_)
      show Z 70 _ _ _
      refine hZ _ _ _ _ (br_t (Int32.le_refl _) ?_)
      refine hZ _ _ _ _ ?_
      exact h M2 f1 f2 f3 f5 f6
    | succ n ih =>
      intro i M2 e1 f1 f2 f3 f5 f6
      refine hZ _ _ _ _ (hZ _ _ _ _ ?_)
      show Z 70 _ _ _
      refine hZ _ _ _ _ (br_f (nI_ge (a := i) (b := 5) (by omega) (by omega)) ?_)
      refine hZ _ _ _ _ (hZ _ _ _ _ (hZ _ _ _ _ (hZ _ _ _ _ (hZ _ _ _ _ (hZ _ _ _ _ (hZ _ _ _ _ (hZ _ _ _ _ (hZ _ _ _ _ ?_))))))))
      show Z 85 _ _ _
      rw [show nI o + 30 + nI i = nI (o + 30 + i) from ea 30 i]
      refine hZ _ _ _ _ ⟨vp_in_nI (N := 70) (by omega) (by omega), ?_⟩
      refine hZ _ _ _ _ ⟨vp_in_nI (N := 5) (by omega) (by omega), ?_⟩
      rw [nI_clamp (by omega), nI_clamp (by omega), f1.1 38 (by decide) rfl]
      refine hZ _ _ _ _ (hZ _ _ _ _ ?_)
      show Z 68 _ _ _
      rw [show nI i + 1 = nI (i + 1) from nI_1 i]
      refine ih (i + 1) _ (by omega) (mfr_wr f1 (by decide) rfl) f2 f3 f5 (fun t ht => ?_)
      rw [p_wr_eq]
      by_cases e : t = i
      · rw [e, us]
      · rw [un e]; exact f6 t (by omega)
  have loop1 : ∀ (n i : Nat) (M2 : pM), i + n = 7 → mfr (fun s => ch4 s || Nat.beq s 20) (fun k => Nat.beq k 3 || Nat.beq k 2) M M2 → M2.1 (aS 18) 3 = M.1 (aS 38) o → M2.1 (aS 18) 2 = M.1 (aS 38) (o + 1) → (∀ c, c < i → M2.1 (aS 21) c = M.1 (aS 38) (o + 2 + c) ∧ M2.1 (aS 22) c = M.1 (aS 38) (o + 9 + c) ∧ M2.1 (aS 23) c = M.1 (aS 38) (o + 16 + c) ∧ M2.1 (aS 24) c = M.1 (aS 38) (o + 23 + c)) → Z 18 [some (vR (aS 18)), some (vR (aS 38)), some (vI (nI o)), some (vI (nI i))] [] M2 := by
    intro n
    induction n with
    | zero =>
      intro i M2 e1 f1 f2 f3 f5
      have : i = 7 := by omega
      subst this
      refine hZ _ _ _ _ (hZ _ _ _ _ ?_)
      show Z 21 _ _ _
      refine hZ _ _ _ _ (br_t (Int32.le_refl _) ?_)
      refine hZ _ _ _ _ (hZ _ _ _ _ ?_)
      show Z 68 _ _ _
      exact loop2 5 0 M2 rfl f1 f2 f3 f5 (fun t ht => absurd ht (Nat.not_lt_zero t))
    | succ n ih =>
      intro i M2 e1 f1 f2 f3 f5
      have es : M2.1 (aS 38) = M.1 (aS 38) := f1.1 38 (by decide) rfl
      refine hZ _ _ _ _ (hZ _ _ _ _ ?_)
      show Z 21 _ _ _
      refine hZ _ _ _ _ (br_f (nI_ge (a := i) (b := 7) (by omega) (by omega)) ?_)
      refine hZ _ _ _ _ (hZ _ _ _ _ (hZ _ _ _ _ (hZ _ _ _ _ (hZ _ _ _ _ (hZ _ _ _ _ (hZ _ _ _ _ (hZ _ _ _ _ ?_)))))))
      show Z 32 _ _ _
      rw [show nI o + 2 + nI i = nI (o + 2 + i) from ea 2 i]
      refine hZ _ _ _ _ ⟨vp_in_nI (N := 70) (by omega) (by omega), ?_⟩
      rw [nI_clamp (by omega), es]
      refine hZ _ _ _ _ (hZ _ _ _ _ (hZ _ _ _ _ (hZ _ _ _ _ (hZ _ _ _ _ (hZ _ _ _ _ ?_)))))
      show Z 40 _ _ _
      rw [show nI o + 9 + nI i = nI (o + 9 + i) from ea 9 i]
      refine hZ _ _ _ _ ⟨vp_in_nI (N := 70) (by omega) (by omega), ?_⟩
      rw [nI_clamp (by omega), es]
      refine hZ _ _ _ _ (hZ _ _ _ _ (hZ _ _ _ _ (hZ _ _ _ _ (hZ _ _ _ _ (hZ _ _ _ _ ?_)))))
      show Z 48 _ _ _
      rw [show nI o + 16 + nI i = nI (o + 16 + i) from ea 16 i]
      refine hZ _ _ _ _ ⟨vp_in_nI (N := 70) (by omega) (by omega), ?_⟩
      rw [nI_clamp (by omega), es]
      refine hZ _ _ _ _ (hZ _ _ _ _ (hZ _ _ _ _ (hZ _ _ _ _ (hZ _ _ _ _ (hZ _ _ _ _ ?_)))))
      show Z 56 _ _ _
      rw [show nI o + 23 + nI i = nI (o + 23 + i) from ea 23 i]
      refine hZ _ _ _ _ ⟨vp_in_nI (N := 70) (by omega) (by omega), ?_⟩
      rw [nI_clamp (by omega), es]
      refine hZ _ _ _ _ ⟨d - 1, by omega, n_sets2 hC i rfl (by omega) (fun M3 g1 g2 g3 g4 g5 => ?_)⟩
      refine hZ _ _ _ _ (hZ _ _ _ _ ?_)
      show Z 18 _ _ _
      rw [show nI i + 1 = nI (i + 1) from nI_1 i]
      refine ih (i + 1) M3 (by omega) (f1.tr (m4 _ _ g1)) ((g1.2.1 3 rfl).trans f2) ((g1.2.1 2 rfl).trans f3) (fun c hc => ?_)
      rw [g2, g3, g4, g5]
      by_cases e : c = i
      · rw [e, us, us, us, us]
        exact ⟨rfl, rfl, rfl, rfl⟩
      · rw [un e, un e, un e, un e]
        exact f5 c (by omega)
  exact loop1 7 0 _ rfl (mfr_fd (mfr_fd mfr_rf rfl) rfl) rfl rfl (fun c hc => absurd hc (Nat.not_lt_zero c))
