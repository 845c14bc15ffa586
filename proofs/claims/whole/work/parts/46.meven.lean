/-! the model's evening -/
theorem n_falseMany {C : pC} (hC : p_Lg true C) {d : Nat} {M : pM} {Q : pQ} {ρ : pRm} (hd : 1 ≤ d) (hR : mR M ρ) (ok : okR ρ) (h : Q M (some (vI (nF ρ ρ.2.2.2.length)))) : C d k_X8_falseMany M [vR (aS 18)] Q := by
  have l3 := ok.2.2.1
  refine p_ent hC tb_X8_falseMany _ rfl rfl rfl (fun Z hZ => ?_)
  refine hZ _ _ _ _ (hZ _ _ _ _ (hZ _ _ _ _ (hZ _ _ _ _ ?_)))
  show Z 4 _ _ _
  have loop : ∀ (n i : Nat), i + n = ρ.2.2.2.length → Z 4 [some (vR (aS 18)), some (vI (nF ρ i)), some (vI (nI i))] [] M := by
    intro n
    induction n with
    | zero =>
      intro i e
      have : i = ρ.2.2.2.length := by omega
      subst this
      refine hZ _ _ _ _ (hZ _ _ _ _ (hZ _ _ _ _ ?_))
      show Z 9 _ _ _
      refine hZ _ _ _ _ (br_t (by rw [hR.2.2.1]; exact Int32.le_refl _) ?_)
      refine hZ _ _ _ _ ?_
      show Z 35 _ _ _
      refine hZ _ _ _ _ ?_
      exact h
    | succ n ih =>
      intro i e
      have hi : i < ρ.2.2.2.length := by omega
      have hx : ρ.2.2.2[i]? = some ρ.2.2.2[i] := List.getElem?_eq_getElem hi
      have step := ih (i + 1) (by omega)
      rw [← nI_1] at step
      refine hZ _ _ _ _ (hZ _ _ _ _ (hZ _ _ _ _ ?_))
      show Z 9 _ _ _
      refine hZ _ _ _ _ (br_f (by rw [hR.2.2.1]; exact nI_ge hi (by omega)) ?_)
      refine hZ _ _ _ _ (hZ _ _ _ _ (hZ _ _ _ _ ?_))
      show Z 15 _ _ _
      refine hZ _ _ _ _ ⟨d - 1, by omega, n_isFalse hC hR (by omega) hx ?_⟩
      cases e1 : fl ρ.2.2.1 ρ.2.2.2[i]
      · refine hZ _ _ _ _ (br_t (rfl) ?_)
        refine hZ _ _ _ _ (hZ _ _ _ _ (hZ _ _ _ _ (hZ _ _ _ _ (hZ _ _ _ _ ?_))))
        show Z 4 _ _ _
        have e2 : nF ρ (i + 1) = nF ρ i + 0 := by simp only [nF, hx, e1]; rfl
        rw [e2] at step
        exact step
      · skip
        refine hZ _ _ _ _ (br_f (by decide) ?_)
        refine hZ _ _ _ _ (hZ _ _ _ _ (hZ _ _ _ _ (hZ _ _ _ _ (hZ _ _ _ _ (hZ _ _ _ _ ?_)))))
        show Z 4 _ _ _
        have e2 : nF ρ (i + 1) = nF ρ i + 1 := by simp only [nF, hx, e1]; rfl
        rw [e2] at step
        exact step
  exact loop ρ.2.2.2.length 0 (Nat.zero_add _)
theorem or_g : ∀ (g : Fin 32) (t : Fin 5), (nI g.val ||| ((1 : Int32) <<< (nI t.val &&& 31))) = nI (g.val ||| (1 <<< t.val)) ∧ g.val ||| (1 <<< t.val) < 32 := by decide +kernel
theorem bt_g : ∀ (g : Fin 32) (t u : Fin 5), bt1 (nI g.val ||| ((1 : Int32) <<< (nI t.val &&& 31))) (nI u.val) = if u = t then 1 else bt1 (nI g.val) (nI u.val) := by decide +kernel
theorem b01_g : ∀ (g : Fin 32) (u : Fin 5), bt1 (nI g.val) (nI u.val) = 1 ∨ bt1 (nI g.val) (nI u.val) = 0 := by decide +kernel
theorem or_t : ∀ (g : Fin 128) (t : Fin 7), (nI g.val ||| ((1 : Int32) <<< (nI t.val &&& 31))) = nI (g.val ||| (1 <<< t.val)) ∧ g.val ||| (1 <<< t.val) < 128 := by decide +kernel
/-- what an evening always keeps -/
def evI (ρ : pRm) (E : pE) : Prop := 0 ≤ E.2.1 ∧ (∃ n, n < 128 ∧ E.1.2.2.1 = nI n) ∧ (∃ g, g < 32 ∧ E.1.2.2.2 = nI g) ∧ (∀ t, t < 5 → (bt1 E.1.2.2.2 (nI t) = 1 ∧ t < ρ.1.length ∧ ∃ c, c < ρ.2.2.2.length ∧ E.2.2.2 t = nI c) ∨ (bt1 E.1.2.2.2 (nI t) = 0 ∧ E.2.2.2 t = 7)) ∧ ((E.1.2.1 = -1 ∧ E.1.1 = 0) ∨ ∃ t, t < 5 ∧ E.1.2.1 = nI t)
theorem evI_0 (ρ : pRm) : evI ρ E0 := ⟨by decide, ⟨0, by decide, rfl⟩, ⟨0, by decide, rfl⟩, (fun t ht => Or.inr (by
  have : ∀ u : Fin 5, bt1 (nI 0) (nI u.val) = 0 := by decide
  exact ⟨this ⟨t, ht⟩, rfl⟩)), Or.inl ⟨rfl, rfl⟩⟩
theorem pm_ge {x y : Int32} (h : 0 ≤ x) : 0 ≤ p_max x y := by
  unfold p_max
  split <;> grind
theorem pm_n4 {x : Int32} (h : 0 ≤ x) : p_max x (-4) = x := by
  unfold p_max
  rw [if_neg (by grind)]
theorem gne {g : Nat} {t : Nat} (hg : g < 32) (ht : t < 5) (hb : ¬ bt1 (nI g) (nI t) = 1) : ¬ (nI g ||| ((1 : Int32) <<< (nI t &&& 31))) = nI g := by
  have := bt_g ⟨g, hg⟩ ⟨t, ht⟩ ⟨t, ht⟩
  intro e
  simp only at this
  rw [e] at this
  exact hb (this.trans (if_pos trivial))
theorem evI_1 {ρ : pRm} {E : pE} {c : Nat} (ok : okR ρ) (hI : evI ρ E) (hc : c < ρ.2.2.2.length) : evI ρ (ev1 ρ E c) := by
  obtain ⟨i1, ⟨n, n1, n2⟩, ⟨g, g1, g2⟩, i4, i5⟩ := hI
  obtain ⟨x, t, f, y, hx, xt, t5, tl1, xf, f1, f6, xv, hy, hk⟩ := okR_cl ok hc
  have l3 := ok.2.2.1
  have etl : tl ρ c = t := by simp only [tl, hx, xt, nI_clamp (show t < 2 ^ 31 by omega)]
  have hor := or_t ⟨n, n1⟩ ⟨c, by omega⟩
  simp only at hor
  simp only [evI, ev1, hk, tk1, etl]
  by_cases b1 : bt1 E.1.2.2.2 x.1 = 1
  · simp only [if_pos b1]
    exact ⟨pm_ge i1, ⟨n, n1, n2⟩, ⟨g, g1, g2⟩, i4, i5⟩
  · simp only [if_neg b1]
    by_cases b2 : y.2 < (if E.1.2.1 = x.1 then E.1.1 else E.1.1 / 2) + hg y.1 (fl ρ.2.2.1 x) x.2.2.2
    · simp only [if_pos b2]
      have bx : ¬ bt1 (nI g) (nI t) = 1 := by rw [← g2, ← xt]; exact b1
      have hne : ¬ (E.1.2.2.2 ||| ((1 : Int32) <<< (x.1 &&& 31))) = E.1.2.2.2 := by rw [g2, xt]; exact gne g1 t5 bx
      have hgo := or_g ⟨g, g1⟩ ⟨t, t5⟩
      simp only at hgo
      simp only [if_neg hne]
      refine ⟨pm_ge i1, ⟨_, hor.2, by rw [n2]; exact hor.1⟩, ⟨_, hgo.2, by rw [g2, xt]; exact hgo.1⟩, fun u hu => ?_, Or.inr ⟨t, t5, xt⟩⟩
      have hb := bt_g ⟨g, g1⟩ ⟨t, t5⟩ ⟨u, hu⟩
      simp only [Fin.mk.injEq] at hb
      rw [g2, xt, hb]
      by_cases e : u = t
      · rw [if_pos e]
        refine Or.inl ⟨rfl, by omega, c, hc, ?_⟩
        rw [e, us]
      · rw [if_neg e, un e, ← g2]
        exact i4 u hu
    · simp only [if_neg b2, if_true]
      exact ⟨pm_ge i1, ⟨_, hor.2, by rw [n2]; exact hor.1⟩, ⟨g, g1, g2⟩, i4, Or.inr ⟨t, t5, xt⟩⟩
theorem evI_L {ρ : pRm} (ok : okR ρ) : ∀ (l : List Nat) (E : pE), evI ρ E → (∀ c ∈ l, c < ρ.2.2.2.length) → evI ρ (l.foldl (ev1 ρ) E) := by
  intro l
  induction l with
  | nil => intro E h _; exact h
  | cons c l ih =>
    intro E h hl
    exact ih _ (evI_1 ok h (hl c (List.mem_cons_self))) (fun x hx => hl x (List.mem_cons_of_mem _ hx))
theorem evL_I {ρ : pRm} (ok : okR ρ) (l : List Nat) (hl : ∀ c ∈ l, c < ρ.2.2.2.length) : evI ρ (evL ρ l) := evI_L ok l E0 (evI_0 ρ) hl
theorem ev_I {ρ : pRm} (ok : okR ρ) : evI ρ (ev ρ) := evL_I ok _ (fun _ hc => List.mem_range.mp hc)
theorem evL_hot {ρ : pRm} : ∀ (l : List Nat) (E : pE) (c : Nat), c ∉ l → (l.foldl (ev1 ρ) E).2.2.1 c = E.2.2.1 c := by
  intro l
  induction l with
  | nil => intro E c _; rfl
  | cons a l ih =>
    intro E c hc
    have h1 : c ≠ a := fun e => hc (by rw [e]; exact List.mem_cons_self)
    have h2 : c ∉ l := fun e => hc (List.mem_cons_of_mem _ e)
    show (l.foldl (ev1 ρ) (ev1 ρ E a)).2.2.1 c = _
    rw [ih _ c h2]
    exact un h1
def mE (M : pM) (ρ : pRm) (E : pE) : Prop := M.1 (aS 18) 27 = E.1.2.2.1 ∧ M.1 (aS 18) 28 = E.2.1 ∧ (∀ c, c < 8 → M.1 (aS 34) c = E.2.2.1 c) ∧ ∀ t, t < ρ.1.length → M.1 (aS 33) t = if bt1 E.1.2.2.2 (nI t) = 1 then E.2.2.2 t else -4
def chE (s : Nat) : Bool := Nat.beq s 33 || Nat.beq s 34
def slE (k : Nat) : Bool := Nat.beq k 27 || Nat.beq k 28
theorem mE_cg {M M' : pM} {ρ : pRm} {E : pE} (h : mE M ρ E) (h1 : M'.1 (aS 18) 27 = M.1 (aS 18) 27) (h2 : M'.1 (aS 18) 28 = M.1 (aS 18) 28) (h3 : M'.1 (aS 34) = M.1 (aS 34)) (h4 : M'.1 (aS 33) = M.1 (aS 33)) : mE M' ρ E := by
  simp only [mE, h1, h2, h3, h4]
  exact h
theorem nI_n4 {c : Nat} (h : c < 2 ^ 31) : ¬ nI c = -4 := fun e => by
  have := nI_pos h
  rw [e] at this
  exact this (by decide)
theorem mfr.R {M M' : pM} {ρ : pRm} (h : mfr chE slE M M') (hR : mR M ρ) : mR M' ρ := mR_cg hR (fun k hk => h.2.1 k (by simp only [slE, p_beq_f (show k ≠ 27 by omega), p_beq_f (show k ≠ 28 by omega)]; rfl)) (fun s h1 h2 => h.1 s (by omega) (by simp only [chE, p_beq_f (show s ≠ 33 by omega), p_beq_f (show s ≠ 34 by omega)]; rfl))
theorem n_evening {C : pC} (hC : p_Lg true C) {d : Nat} {M : pM} {Q : pQ} {ρ : pRm} {n : Int32} (l : List Nat) (en : n = nI l.length) (hl : l.length ≤ 7) (hnd : l.Nodup) (hlc : ∀ c ∈ l, c < ρ.2.2.2.length) (hr : ∀ i c, l[i]? = some c → M.1 (aS 32) i = nI c) (hd : 1 ≤ d) (hR : mR M ρ) (ok : okR ρ) (h : ∀ M', mfr chE slE M M' → mE M' ρ (evL ρ l) → Q M' none) : C d k_X8_evening M [vR (aS 18), vI n] Q := by
  subst en
  have l1 := ok.1
  have l3 := ok.2.2.1
  have e2 : ¬ (2 : Int32) = 0 := by decide
  refine p_ent hC tb_X8_evening _ rfl rfl rfl (fun Z hZ => ?_)
  refine hZ _ _ _ _ (hZ _ _ _ _ ?_)
  show Z 2 _ _ _
  have main : ∀ (r l1 : List Nat) (M2 : pM) (heat had : Int32) (x5 x6 : Option pV), l = l1 ++ r → mfr chE slE M M2 → mE M2 ρ (evL ρ l1) → heat = (evL ρ l1).1.1 → (had = -4 ∧ (evL ρ l1).1.2.1 = -1 ∧ heat = 0) ∨ (had = (evL ρ l1).1.2.1 ∧ ∃ t, t < 5 ∧ had = nI t) → Z 64 [some (vR (aS 18)), some (vI (nI l.length)), some (vI heat), some (vI had), some (vI (nI l1.length)), x5, x6] [] M2 := by
    intro r
    induction r with
    | nil =>
      intro l1 M2 heat had x5 x6 el f1 f2 f3 f4
      rw [List.append_nil] at el
      subst el
      refine hZ _ _ _ _ (hZ _ _ _ _ ?_)
      show Z 67 _ _ _
      refine hZ _ _ _ _ (br_t (Int32.le_refl _) ?_)
      refine hZ _ _ _ _ ?_
      exact h M2 f1 f2
    | cons c r ih =>
      intro l1 M2 heat had x5 x6 el f1 f2 f3 f4
      have hlt : l1.length < l.length := by rw [el, List.length_append, List.length_cons]; omega
      have hgc : l[l1.length]? = some c := by rw [el, List.getElem?_append_right (Nat.le_refl _), Nat.sub_self]; rfl
      have hcl : c < ρ.2.2.2.length := hlc c (by rw [el]; simp)
      have hnc : c ∉ l1 := by
        rw [el] at hnd
        intro q
        exact (List.nodup_append.mp hnd).2.2 c q c List.mem_cons_self rfl
      obtain ⟨x, t, f, y, hx, xt, t5, tl1, xf, fq1, f6, xv, hy, hk⟩ := okR_cl ok hcl
      have R2 : mR M2 ρ := f1.R hR
      obtain ⟨q1, q2, q3, q4, q5, q6⟩ := R2
      obtain ⟨x1, x2, x3, x4⟩ := q6 c x hx
      obtain ⟨y1, y2⟩ := q5 t y hy
      have hot0 : (evL ρ l1).2.2.1 c = -4 := evL_hot l1 E0 c hnc
      have I1 := evL_I ok l1 (fun z hz => hlc z (by rw [el]; exact List.mem_append_left _ hz))
      obtain ⟨i1, -, ⟨g, g1, g2⟩, i4, -⟩ := I1
      have etl : tl ρ c = t := by simp only [tl, hx, xt, nI_clamp (show t < 2 ^ 31 by omega)]
      have es : evL ρ (l1 ++ [c]) = ev1 ρ (evL ρ l1) c := evL_snoc ρ l1 c
      have el' : l = (l1 ++ [c]) ++ r := by rw [el]; simp
      have elen : nI l1.length + 1 = nI (l1 ++ [c]).length := by rw [List.length_append, nI_1]; rfl
      have next := ih (l1 ++ [c])
      rw [es] at next
      rw [← elen] at next
      obtain ⟨m1, m2, m3, m4⟩ := f2
      generalize evL ρ l1 = E at next f3 f4 m1 m2 m3 m4 hot0 i1 g2 i4
      have ecl : (nI c).toNatClampNeg = c := nI_clamp (by omega)
      have etc : (nI t).toNatClampNeg = t := nI_clamp (by omega)
      refine hZ _ _ _ _ (hZ _ _ _ _ ?_)
      show Z 67 _ _ _
      refine hZ _ _ _ _ (br_f (nI_ge hlt (by omega)) ?_)
      refine hZ _ _ _ _ (hZ _ _ _ _ (hZ _ _ _ _ ?_))
      show Z 76 _ _ _
      refine hZ _ _ _ _ ⟨vp_in_nI (N := 8) (by omega) (by omega), ?_⟩
      rw [nI_clamp (by omega), f1.1 32 (by decide) rfl, hr _ c hgc]
      refine hZ _ _ _ _ (hZ _ _ _ _ (hZ _ _ _ _ (hZ _ _ _ _ ?_)))
      show Z 85 _ _ _
      refine hZ _ _ _ _ ⟨vp_in_nI (N := 8) (by omega) (by omega), ?_⟩
      rw [ecl, x1, xt]
      refine hZ _ _ _ _ (hZ _ _ _ _ (hZ _ _ _ _ (hZ _ _ _ _ ?_)))
      show Z 94 _ _ _
      refine hZ _ _ _ _ ⟨vp_in_nI (N := 5) (by omega) (by omega), ?_⟩
      rw [etc, m4 t tl1]
      refine hZ _ _ _ _ ?_
      show Z 97 _ _ _
      by_cases b1 : bt1 E.1.2.2.2 (nI t) = 1
      · rw [if_pos b1]
        have ee : ev1 ρ E c = (E.1, E.2.1, upd E.2.2.1 c (-4), E.2.2.2) := by
          simp only [ev1, hk, tk1]
          rw [← xt] at b1
          simp only [if_pos b1, pm_n4 i1, if_true]
        rcases i4 t t5 with ⟨-, -, c', c1, c2⟩ | ⟨z, -⟩
        · refine hZ _ _ _ _ (p_tn (by rw [c2]; exact nI_n4 (by omega)) ?_)
          refine hZ _ _ _ _ (hZ _ _ _ _ ?_)
          show Z 64 _ _ _
          rw [ee] at next
          refine next M2 heat had _ _ el' f1 ⟨m1, m2, fun j hj => ?_, m4⟩ f3 f4
          rw [m3 j hj]
          show _ = upd E.2.2.1 c (-4) j
          by_cases e : j = c
          · rw [e, us, hot0]
          · rw [un e]
        · rw [z] at b1
          exact absurd b1 (by decide)
      · skip
        rw [if_neg b1]
        refine hZ _ _ _ _ (p_fn (rfl) ?_)
        refine hZ _ _ _ _ (hZ _ _ _ _ ?_)
        show Z 103 _ _ _
        have key : ∀ w, w = (if E.1.2.1 = x.1 then E.1.1 else E.1.1 / 2) → Z 119 [some (vR (aS 18)), some (vI (nI l.length)), some (vI heat), some (vI had), some (vI (nI l1.length)), some (vI (nI c)), some (vI (nI t))] [vI w] M2 := by
          intro w ew
          have hk' := hk E.1
          have bx : ¬ bt1 E.1.2.2.2 x.1 = 1 := by rw [xt]; exact b1
          simp only [tk1, if_neg bx, ← ew] at hk'
          refine hZ _ _ _ _ (hZ _ _ _ _ (hZ _ _ _ _ (hZ _ _ _ _ (hZ _ _ _ _ ?_))))
          show Z 127 _ _ _
          refine hZ _ _ _ _ ⟨vp_in_nI (N := 5) (by omega) (by omega), ?_⟩
          rw [etc, y1]
          refine hZ _ _ _ _ (hZ _ _ _ _ ?_)
          show Z 131 _ _ _
          refine hZ _ _ _ _ ⟨d - 1, by omega, n_isFalse hC ⟨q1, q2, q3, q4, q5, q6⟩ (by omega) hx ?_⟩
          refine hZ _ _ _ _ (hZ _ _ _ _ (hZ _ _ _ _ ?_))
          show Z 140 _ _ _
          refine hZ _ _ _ _ ⟨vp_in_nI (N := 8) (by omega) (by omega), ?_⟩
          rw [ecl, x4]
          refine hZ _ _ _ _ ⟨d - 1, by omega, n_hotter hC ?_⟩
          refine hZ _ _ _ _ (hZ _ _ _ _ (hZ _ _ _ _ (hZ _ _ _ _ (hZ _ _ _ _ (hZ _ _ _ _ ?_)))))
          show Z 153 _ _ _
          generalize w + hg y.1 (fl ρ.2.2.1 x) x.2.2.2 = u at hk' ⊢
          refine hZ _ _ _ _ ⟨vp_in_nI (N := 8) (by omega) (by omega), ?_⟩
          rw [ecl]
          have F3 : mfr chE slE M (p_wr M2 (aS 34) c u) := mfr_wr f1 (by decide) rfl
          have A3 : (p_wr M2 (aS 34) c u).1 (aS 34) = upd (M2.1 (aS 34)) c u := p_wr_eq
          have B3 : ∀ s, s ≠ 34 → (p_wr M2 (aS 34) c u).1 (aS s) = M2.1 (aS s) := fun s hs => p_wr_ne (fun e => hs (Sum.inl.inj e))
          generalize p_wr M2 (aS 34) c u = M3 at F3 A3 B3 ⊢
          refine hZ _ _ _ _ (hZ _ _ _ _ (hZ _ _ _ _ (hZ _ _ _ _ (hZ _ _ _ _ (hZ _ _ _ _ (hZ _ _ _ _ (hZ _ _ _ _ (hZ _ _ _ _ (hZ _ _ _ _ (hZ _ _ _ _ (hZ _ _ _ _ ?_)))))))))))
          show Z 173 _ _ _
          have fin : ∀ v, v = p_max E.2.1 u → Z 184 [some (vR (aS 18)), some (vI (nI l.length)), some (vI u), some (vI had), some (vI (nI l1.length)), some (vI (nI c)), some (vI (nI t))] [vI v, vR (aS 18)] (p_wr M3 (aS 18) 27 (E.1.2.2.1 ||| ((1 : Int32) <<< (nI c &&& 31)))) := by
            intro v ev
            subst ev
            refine hZ _ _ _ _ (hZ _ _ _ _ (hZ _ _ _ _ (hZ _ _ _ _ (hZ _ _ _ _ (hZ _ _ _ _ (hZ _ _ _ _ ?_))))))
            show Z 197 _ _ _
            have F4 : mfr chE slE M (p_wr (p_wr M3 (aS 18) 27 (E.1.2.2.1 ||| ((1 : Int32) <<< (nI c &&& 31)))) (aS 18) 28 (p_max E.2.1 u)) := mfr_fd (mfr_fd F3 rfl) rfl
            have A4 : (p_wr (p_wr M3 (aS 18) 27 (E.1.2.2.1 ||| ((1 : Int32) <<< (nI c &&& 31)))) (aS 18) 28 (p_max E.2.1 u)).1 (aS 18) 27 = E.1.2.2.1 ||| ((1 : Int32) <<< (nI c &&& 31)) := by rw [p_wr_eq, un (by decide), p_wr_eq, us]
            have A5 : (p_wr (p_wr M3 (aS 18) 27 (E.1.2.2.1 ||| ((1 : Int32) <<< (nI c &&& 31)))) (aS 18) 28 (p_max E.2.1 u)).1 (aS 18) 28 = p_max E.2.1 u := by rw [p_wr_eq, us]
            have B4 : ∀ s, s ≠ 18 → (p_wr (p_wr M3 (aS 18) 27 (E.1.2.2.1 ||| ((1 : Int32) <<< (nI c &&& 31)))) (aS 18) 28 (p_max E.2.1 u)).1 (aS s) = M3.1 (aS s) := fun s hs => (p_wr_ne (fun e => hs (Sum.inl.inj e))).trans (p_wr_ne (fun e => hs (Sum.inl.inj e)))
            generalize p_wr (p_wr M3 (aS 18) 27 (E.1.2.2.1 ||| ((1 : Int32) <<< (nI c &&& 31)))) (aS 18) 28 (p_max E.2.1 u) = M4 at F4 A4 A5 B4 ⊢
            have C34 : M4.1 (aS 34) = upd (M2.1 (aS 34)) c u := (B4 34 (by decide)).trans A3
            have C33 : M4.1 (aS 33) = M2.1 (aS 33) := (B4 33 (by decide)).trans (B3 33 (by decide))
            have H34 : ∀ j, j < 8 → M4.1 (aS 34) j = upd E.2.2.1 c u j := by
              intro j hj
              rw [C34]
              by_cases e : j = c
              · rw [e, us, us]
              · rw [un e, un e, m3 j hj]
            refine hZ _ _ _ _ ⟨vp_in_nI (N := 5) (by omega) (by omega), ?_⟩
            rw [etc, (B4 20 (by decide)).trans (B3 20 (by decide)), y2]
            by_cases b2 : y.2 < u
            · rw [if_pos b2] at hk'
              refine hZ _ _ _ _ (br_f (by grind) ?_)
              refine hZ _ _ _ _ (hZ _ _ _ _ (hZ _ _ _ _ (hZ _ _ _ _ ?_)))
              show Z 209 _ _ _
              refine hZ _ _ _ _ ⟨vp_in_nI (N := 5) (by omega) (by omega), ?_⟩
              rw [etc]
              refine hZ _ _ _ _ (hZ _ _ _ _ (hZ _ _ _ _ (hZ _ _ _ _ ?_)))
              show Z 64 _ _ _
              have hne : ¬ (E.1.2.2.2 ||| ((1 : Int32) <<< (x.1 &&& 31))) = E.1.2.2.2 := by
                rw [g2, xt]
                exact gne g1 t5 (by rw [← g2]; exact b1)
              have ee : ev1 ρ E c = ((0, x.1, E.1.2.2.1 ||| ((1 : Int32) <<< (nI c &&& 31)), E.1.2.2.2 ||| ((1 : Int32) <<< (x.1 &&& 31))), p_max E.2.1 u, upd E.2.2.1 c u, upd E.2.2.2 t (nI c)) := by
                simp only [ev1, hk', etl, if_neg hne]
              rw [ee] at next
              refine next (p_wr M4 (aS 33) t (nI c)) 0 (nI t) _ _ el' (mfr_wr F4 (by decide) rfl) ⟨A4, A5, H34, fun j hj => ?_⟩ rfl (Or.inr ⟨xt.symm, t, t5, rfl⟩)
              show (p_wr M4 (aS 33) t (nI c)).1 (aS 33) j = if bt1 (E.1.2.2.2 ||| ((1 : Int32) <<< (x.1 &&& 31))) (nI j) = 1 then upd E.2.2.2 t (nI c) j else -4
              have hb := bt_g ⟨g, g1⟩ ⟨t, t5⟩ ⟨j, by omega⟩
              simp only [Fin.mk.injEq] at hb
              rw [p_wr_eq, g2, xt, hb]
              by_cases e : j = t
              · rw [if_pos e, e, us, us, if_pos rfl]
              · rw [if_neg e, un e, un e, C33, m4 j hj, g2]
            · skip
              rw [if_neg b2] at hk'
              refine hZ _ _ _ _ (br_t (by grind) ?_)
              refine hZ _ _ _ _ (hZ _ _ _ _ ?_)
              show Z 64 _ _ _
              have ee : ev1 ρ E c = ((u, x.1, E.1.2.2.1 ||| ((1 : Int32) <<< (nI c &&& 31)), E.1.2.2.2), p_max E.2.1 u, upd E.2.2.1 c u, E.2.2.2) := by
                simp only [ev1, hk', if_true]
              rw [ee] at next
              refine next M4 u (nI t) _ _ el' F4 ⟨A4, A5, H34, fun j hj => ?_⟩ rfl (Or.inr ⟨xt.symm, t, t5, rfl⟩)
              rw [C33]
              exact m4 j hj
          rw [B3 18 (by decide), m1]
          have e28 : (p_wr M3 (aS 18) 27 (E.1.2.2.1 ||| ((1 : Int32) <<< (nI c &&& 31)))).1 (aS 18) 28 = E.2.1 := by rw [p_wr_eq, un (by decide), B3 18 (by decide), m2]
          rw [e28]
          by_cases b3 : u ≤ E.2.1
          · skip
            refine hZ _ _ _ _ (br_t (b3) ?_)
            refine hZ _ _ _ _ (hZ _ _ _ _ ?_)
            show Z 184 _ _ _
            rw [e28]
            exact fin _ (by unfold p_max; rw [if_neg (by grind)])
          · skip
            refine hZ _ _ _ _ (br_f (b3) ?_)
            refine hZ _ _ _ _ (hZ _ _ _ _ ?_)
            show Z 184 _ _ _
            exact fin _ (by unfold p_max; rw [if_pos (by grind)])
        rcases f4 with ⟨h1, h2, h3⟩ | ⟨h1, tt, h2, h3⟩
        · skip
          refine hZ _ _ _ _ (br_t (h1) ?_)
          refine hZ _ _ _ _ ?_
          show Z 119 _ _ _
          refine key heat ?_
          rw [h2, xt, ← f3, h3]
          split <;> rfl
        · skip
          refine hZ _ _ _ _ (br_f (by rw [h3]; exact nI_n4 (by omega)) ?_)
          refine hZ _ _ _ _ (hZ _ _ _ _ ?_)
          show Z 109 _ _ _
          by_cases b3 : had = nI t
          · refine hZ _ _ _ _ (br_t (b3) ?_)
            refine hZ _ _ _ _ ?_
            show Z 119 _ _ _
            refine key heat ?_
            rw [if_pos (by rw [← h1, xt]; exact b3), f3]
          · skip
            refine hZ _ _ _ _ (br_f (b3) ?_)
            refine hZ _ _ _ _ (hZ _ _ _ _ ?_)
            show Z 114 _ _ _
            refine hZ _ _ _ _ ⟨e2, ?_⟩
            refine hZ _ _ _ _ ?_
            show Z 119 _ _ _
            refine key (heat / 2) ?_
            rw [if_neg (by rw [← h1, xt]; exact b3), f3]
  have hots : ∀ (n i : Nat) (M2 : pM), i + n = 8 → mfr chE slE M M2 → (∀ c, c < i → M2.1 (aS 34) c = -4) → (∀ t, t < ρ.1.length → M2.1 (aS 33) t = -4) → Z 26 [some (vR (aS 18)), some (vI (nI l.length)), some (vI (nI i)), none, none, none, none] [] M2 := by
    intro n
    induction n with
    | zero =>
      intro i M2 e1 f1 f2 f3
      have : i = 8 := by omega
      subst this
      refine hZ _ _ _ _ (hZ _ _ _ _ ?_)
      show Z 29 _ _ _
      refine hZ _ _ _ _ (br_t (Int32.le_refl _) ?_)
      refine hZ _ _ _ _ (hZ _ _ _ _ (hZ _ _ _ _ (hZ _ _ _ _ (hZ _ _ _ _ (hZ _ _ _ _ (hZ _ _ _ _ (hZ _ _ _ _ (hZ _ _ _ _ (hZ _ _ _ _ (hZ _ _ _ _ (hZ _ _ _ _ ?_)))))))))))
      show Z 64 _ _ _
      refine main l [] _ 0 (-4) none none rfl (mfr_fd (mfr_fd f1 rfl) rfl) ⟨rfl, rfl, f2, fun t ht => ?_⟩ rfl (Or.inl ⟨rfl, rfl, rfl⟩)
      have : ∀ u : Fin 5, ¬ bt1 0 (nI u.val) = 1 := by decide
      show M2.1 (aS 33) t = if bt1 0 (nI t) = 1 then 7 else -4
      rw [if_neg (this ⟨t, by omega⟩)]
      exact f3 t ht
    | succ n ih =>
      intro i M2 e1 f1 f2 f3
      refine hZ _ _ _ _ (hZ _ _ _ _ ?_)
      show Z 29 _ _ _
      refine hZ _ _ _ _ (br_f (nI_ge (a := i) (b := 8) (by omega) (by omega)) ?_)
      refine hZ _ _ _ _ (hZ _ _ _ _ (hZ _ _ _ _ (hZ _ _ _ _ ?_)))
      show Z 39 _ _ _
      refine hZ _ _ _ _ ⟨vp_in_nI (N := 8) (by omega) (by omega), ?_⟩
      rw [nI_clamp (by omega)]
      refine hZ _ _ _ _ (hZ _ _ _ _ ?_)
      show Z 26 _ _ _
      rw [show nI i + 1 = nI (i + 1) from nI_1 i]
      refine ih (i + 1) _ (by omega) (mfr_wr f1 (by decide) rfl) (fun c hc => ?_) f3
      rw [p_wr_eq]
      by_cases e : c = i
      · rw [e, us]
      · rw [un e]; exact f2 c (by omega)
  have lets : ∀ (n i : Nat) (M2 : pM), i + n = ρ.1.length → mfr chE slE M M2 → (∀ t, t < i → M2.1 (aS 33) t = -4) → Z 2 [some (vR (aS 18)), some (vI (nI l.length)), some (vI (nI i)), none, none, none, none] [] M2 := by
    intro n
    induction n with
    | zero =>
      intro i M2 e1 f1 f2
      have : i = ρ.1.length := by omega
      subst this
      refine hZ _ _ _ _ (hZ _ _ _ _ (hZ _ _ _ _ ?_))
      show Z 7 _ _ _
      refine hZ _ _ _ _ (br_t (by rw [(f1.R hR).1]; exact Int32.le_refl _) ?_)
      refine hZ _ _ _ _ (hZ _ _ _ _ ?_)
      show Z 26 _ _ _
      exact hots 8 0 M2 rfl f1 (fun t ht => absurd ht (Nat.not_lt_zero t)) f2
    | succ n ih =>
      intro i M2 e1 f1 f2
      refine hZ _ _ _ _ (hZ _ _ _ _ (hZ _ _ _ _ ?_))
      show Z 7 _ _ _
      refine hZ _ _ _ _ (br_f (by rw [(f1.R hR).1]; exact nI_ge (by omega) (by omega)) ?_)
      refine hZ _ _ _ _ (hZ _ _ _ _ (hZ _ _ _ _ (hZ _ _ _ _ ?_)))
      show Z 17 _ _ _
      refine hZ _ _ _ _ ⟨vp_in_nI (N := 5) (by omega) (by omega), ?_⟩
      rw [nI_clamp (by omega)]
      refine hZ _ _ _ _ (hZ _ _ _ _ ?_)
      show Z 2 _ _ _
      rw [show nI i + 1 = nI (i + 1) from nI_1 i]
      refine ih (i + 1) _ (by omega) (mfr_wr f1 (by decide) rfl) (fun c hc => ?_)
      rw [p_wr_eq]
      by_cases e : c = i
      · rw [e, us]
      · rw [un e]; exact f2 c (by omega)
  exact lets ρ.1.length 0 M (by omega) mfr_rf (fun t ht => absurd ht (Nat.not_lt_zero t))
