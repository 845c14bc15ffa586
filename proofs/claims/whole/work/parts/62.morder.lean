/-! the model: order -/
def eqL : List Nat → List Nat → Bool
  | [], [] => true
  | a :: l, b :: m => Nat.beq a b && eqL l m
  | _, _ => false
theorem eqL_eq : ∀ (l m : List Nat), eqL l m = true → l = m := by
  intro l
  induction l with
  | nil => intro m h; cases m with
    | nil => rfl
    | cons => cases h
  | cons a l ih => intro m h; cases m with
    | nil => cases h
    | cons b m =>
      simp only [eqL, Bool.and_eq_true] at h
      rw [Nat.eq_of_beq_eq_true h.1, ih m h.2]
def nxB (l l' : List Nat) : Bool := match nx l with
  | none => false
  | some m => eqL m l'
def chn : List Nat → List (List Nat) → Bool
  | l, [] => (nx l).isNone
  | l, l' :: L => match nxB l l' with
    | true => chn l' L
    | false => false
def chk (n : Nat) : Bool := match pm n (List.range n) with
  | [] => false
  | l :: L => eqL l (List.range n) && chn l L
theorem chk_all : ∀ n : Fin 8, chk n.val = true := by decide +kernel
theorem pm_row : ∀ (k : Nat) (r : List Nat), r.Nodup → r.length = k → ∀ q ∈ pm k r, q.length = k ∧ q.Nodup ∧ ∀ c ∈ q, c ∈ r := by
  intro k
  induction k with
  | zero =>
    intro r _ _ q hq
    simp only [pm, List.mem_singleton] at hq
    subst hq
    exact ⟨rfl, List.nodup_nil, fun c hc => by cases hc⟩
  | succ k ih =>
    intro r hn hr q hq
    simp only [pm, List.mem_flatMap, List.mem_map] at hq
    obtain ⟨c, hc, q', hq', rfl⟩ := hq
    have hlen := len_er r c hn hc
    obtain ⟨i1, i2, i3⟩ := ih (r.filter (fun i => i != c)) (hn.filter _) (by omega) q' hq'
    refine ⟨by rw [List.length_cons, i1], List.nodup_cons.mpr ⟨fun z => ?_, i2⟩, fun i hi => ?_⟩
    · have := (List.mem_filter.mp (i3 c z)).2
      simp at this
    · rcases List.mem_cons.mp hi with e | e
      · rw [e]; exact hc
      · exact (List.mem_filter.mp (i3 i e)).1
theorem pm_rng {n : Nat} : ∀ q ∈ pm n (List.range n), q.length = n ∧ q.Nodup ∧ ∀ c ∈ q, c < n := fun q hq => by
  obtain ⟨a, b, c⟩ := pm_row n (List.range n) List.nodup_range List.length_range q hq
  exact ⟨a, b, fun i hi => List.mem_range.mp (c i hi)⟩
theorem pm_hd {n : Nat} (hn : n < 8) : ∃ L, pm n (List.range n) = List.range n :: L ∧ chn (List.range n) L = true := by
  have h := chk_all ⟨n, hn⟩
  simp only [chk] at h
  split at h
  · cases h
  · rename_i l L e
    simp only [Bool.and_eq_true] at h
    have e2 := eqL_eq _ _ h.1
    subst e2
    exact ⟨L, e, h.2⟩
theorem va_0 {ρ : pRm} (ok : okR ρ) {l : List Nat} (hl : ∀ c ∈ l, c < ρ.2.2.2.length) : ¬ va ρ l ≤ -1 := by
  obtain ⟨-, ⟨n, n1, n2⟩, -, -, -⟩ := evL_I ok l hl
  have k1 := bc_kb ⟨n, n1⟩
  simp only at k1
  rw [va, n2, k1.1]
  intro q
  have := nI_pos' (n := kb n) (by omega)
  have := Int32.le_trans this q
  exact absurd this (by decide)
theorem up_mem {ρ : pRm} : ∀ (L : List (List Nat)) (acc : Int32 × List Nat), L.foldl (up ρ) acc = acc ∨ (L.foldl (up ρ) acc).2 ∈ L := by
  intro L
  induction L with
  | nil => intro acc; exact Or.inl rfl
  | cons a L ih =>
    intro acc
    rw [List.foldl_cons]
    rcases ih (up ρ acc a) with h | h
    · rw [h]
      by_cases c : va ρ a ≤ acc.1
      · exact Or.inl (if_pos c)
      · refine Or.inr ?_
        rw [show up ρ acc a = (va ρ a, a) from if_neg c]
        exact List.mem_cons_self
    · exact Or.inr (List.mem_cons_of_mem _ h)
theorem ord_len {ρ : pRm} (ok : okR ρ) : (ord ρ).2.length = ρ.2.2.2.length := by
  have l3 := ok.2.2.1
  obtain ⟨L, e, _⟩ := pm_hd (n := ρ.2.2.2.length) (by omega)
  have hp := pm_rng (n := ρ.2.2.2.length)
  rw [ord_pm ok, e, List.foldl_cons]
  rw [e] at hp
  have h0 : up ρ (-1, []) (List.range ρ.2.2.2.length) = (va ρ (List.range ρ.2.2.2.length), List.range ρ.2.2.2.length) := if_neg (va_0 ok (fun c hc => List.mem_range.mp hc))
  rw [h0]
  rcases up_mem L (va ρ (List.range ρ.2.2.2.length), List.range ρ.2.2.2.length) with h | h
  · rw [h]
    exact List.length_range
  · exact (hp _ (List.mem_cons_of_mem _ h)).1
def chO (s : Nat) : Bool := chW s || Nat.beq s 36
theorem chO_W : ∀ s, chO s = false → chW s = false := fun s h => by
  simp only [chO, Bool.or_eq_false_iff] at h
  exact h.1
theorem chO_E : ∀ s, chO s = false → chE s = false := fun s h => chE_W s (chO_W s h)
theorem chO_32 : ∀ s, chO s = false → Nat.beq 32 s = false := fun s h => by
  refine p_beq_f (fun e => ?_)
  subst e
  cases h
theorem chO_36 : ∀ s, chO s = false → Nat.beq 36 s = false := fun s h => by
  refine p_beq_f (fun e => ?_)
  subst e
  cases h
theorem m1_le : ∀ n : Fin 8, (-1 : Int32) ≤ nI n.val - 1 := by decide
theorem chO_Q : ∀ s, chQ s = false → chO s = false := fun s h => by
  simp only [chO, chW_Q s h, Bool.false_or]
  refine p_beq_f (fun e => ?_)
  subst e
  cases h
theorem mR_O {M M' : pM} {ρ : pRm} (h : mfr chO slE M M') (hR : mR M ρ) : mR M' ρ := mR_cg hR (fun k hk => h.2.1 k (by simp only [slE, p_beq_f (show k ≠ 27 by omega), p_beq_f (show k ≠ 28 by omega)]; rfl)) (fun s h1 h2 => h.1 s (by omega) (by simp only [chO, chW, p_beq_f (show s ≠ 32 by omega), p_beq_f (show s ≠ 33 by omega), p_beq_f (show s ≠ 34 by omega), p_beq_f (show s ≠ 36 by omega)]; rfl))
theorem n_order {C : pC} (hC : p_Lg true C) {d : Nat} {M : pM} {Q : pQ} {S : pS} {k : Int32} (hd : 3 ≤ d) (hS : mS M S) (ok : okS S) (h : ∀ M', mfr chQ slQ M M' → Q M' (some (vI (sp_order S k).2))) : C d k_X8_order M [vR (aS 18), vI k] Q := by
  have l3 := ok.1.2.2.1
  have R := hS.2.1
  have ol := ord_len ok.1
  refine p_ent hC tb_X8_order _ rfl rfl rfl (fun Z hZ => ?_)
  refine hZ _ _ _ _ (hZ _ _ _ _ (hZ _ _ _ _ (hZ _ _ _ _ (hZ _ _ _ _ (hZ _ _ _ _ ?_)))))
  show Z 8 _ _ _
  rw [R.2.2.1]
  refine hZ _ _ _ _ ⟨d - 1, by omega, n_in hC (fun c1 c2 => ?_) (fun c1 => ?_)⟩
  · skip
    refine hZ _ _ _ _ (p_tn (by decide) ?_)
    refine hZ _ _ _ _ (hZ _ _ _ _ ?_)
    show Z 18 _ _ _
    obtain ⟨L0, eL, hch⟩ := pm_hd (n := S.2.1.2.2.2.length) (by omega)
    have hrows := pm_rng (n := S.2.1.2.2.2.length)
    have hord := ord_pm ok.1
    rw [eL] at hrows hord
    have fin : ∀ (M2 : pM) (y4 : Option pV), mfr chO slE M M2 → rowR M2 36 (ord S.2.1).2 → Z 43 [some (vR (aS 18)), some (vI k), some (vI (ord S.2.1).1), some (vI 0), y4] [] M2 := by
      intro M2 y4 q4 q6
      have hh := h M2 (q4.mono chO_Q slE_Q)
      simp only [sp_order] at hh
      refine hZ _ _ _ _ ?_
      show Z 44 _ _ _
      refine hZ _ _ _ _ (br_t (rfl) ?_)
      refine hZ _ _ _ _ ?_
      show Z 115 _ _ _
      by_cases e : k = -1
      · rw [if_pos e] at hh
        refine hZ _ _ _ _ (br_f (by rw [e]; decide) ?_)
        refine hZ _ _ _ _ (hZ _ _ _ _ ?_)
        show Z 128 _ _ _
        refine hZ _ _ _ _ ?_
        exact hh
      · skip
        rw [if_neg e] at hh
        have k0 : 0 ≤ k := by grind
        obtain ⟨j, j1, j2, j3⟩ := i_one (n := S.2.1.2.2.2.length) (by omega) ⟨k0, c2⟩
        simp only [j1] at hh
        refine hZ _ _ _ _ (br_t (k0) ?_)
        refine hZ _ _ _ _ (hZ _ _ _ _ (hZ _ _ _ _ ?_))
        show Z 127 _ _ _
        rw [j3]
        refine hZ _ _ _ _ ⟨vp_in_nI (N := 8) (by omega) (by omega), ?_⟩
        rw [nI_clamp (by omega)]
        refine hZ _ _ _ _ ?_
        have hj : (ord S.2.1).2[j]? = some (ord S.2.1).2[j] := List.getElem?_eq_getElem (by omega)
        rw [q6 j _ hj]
        rw [List.getD_eq_getElem?_getD, hj] at hh
        exact hh
    have body : ∀ (l : List Nat) (acc : Int32 × List Nat) (M2 : pM) (y4 : Option pV), l.length = S.2.1.2.2.2.length → l.Nodup → (∀ c ∈ l, c < S.2.1.2.2.2.length) → mfr chO slE M M2 → rowR M2 32 l → rowR M2 36 acc.2 → (∀ (M3 : pM) (y4 : Option pV), mfr chO slE M M3 → rowR M3 32 l → rowR M3 36 (up S.2.1 acc l).2 → Z 106 [some (vR (aS 18)), some (vI k), some (vI (up S.2.1 acc l).1), some (vI 1), y4] [] M3) → Z 43 [some (vR (aS 18)), some (vI k), some (vI acc.1), some (vI 1), y4] [] M2 := by
      intro l acc M2 y4 p1 p2 p3 q4 q5 q6 nxt
      have R2 := mR_O q4 R
      refine hZ _ _ _ _ ?_
      show Z 44 _ _ _
      refine hZ _ _ _ _ (br_f (by decide) ?_)
      refine hZ _ _ _ _ (hZ _ _ _ _ (hZ _ _ _ _ ?_))
      show Z 52 _ _ _
      refine hZ _ _ _ _ ⟨d - 1, by omega, n_evening hC l (by rw [R2.2.2.1, p1]) (by omega) p2 p3 q5 (by omega) R2 ok.1 (fun M3 g1 g2 => ?_)⟩
      have F3 : mfr chO slE M M3 := q4.tr (g1.mono chO_E (fun _ z => z))
      have R3 := mR_O F3 R
      have r32 : rowR M3 32 l := fun i x hx => by rw [g1.1 32 (by decide) rfl]; exact q5 i x hx
      have r36 : rowR M3 36 acc.2 := fun i x hx => by rw [g1.1 36 (by decide) rfl]; exact q6 i x hx
      have ev : mb (evL S.2.1 l).1.2.2.1 7 = va S.2.1 l := mb_told (evL_I ok.1 l p3)
      refine hZ _ _ _ _ (hZ _ _ _ _ ?_)
      show Z 59 _ _ _
      rw [g2.1]
      refine hZ _ _ _ _ ⟨d - 1, by omega, n_bits hC ?_⟩
      rw [ev]
      refine hZ _ _ _ _ ?_
      show Z 63 _ _ _
      by_cases c : va S.2.1 l ≤ acc.1
      · rw [show up S.2.1 acc l = acc from if_pos c] at nxt
        refine hZ _ _ _ _ (br_t (c) ?_)
        exact nxt M3 _ F3 r32 r36
      · skip
        rw [show up S.2.1 acc l = (va S.2.1 l, l) from if_neg c] at nxt
        refine hZ _ _ _ _ (br_f (c) ?_)
        refine hZ _ _ _ _ (hZ _ _ _ _ ?_)
        show Z 70 _ _ _
        rw [g2.1]
        refine hZ _ _ _ _ ⟨d - 1, by omega, n_bits hC ?_⟩
        rw [ev]
        refine hZ _ _ _ _ (hZ _ _ _ _ (hZ _ _ _ _ ?_))
        show Z 77 _ _ _
        have cp : ∀ (n i : Nat) (M4 : pM), i + n = S.2.1.2.2.2.length → mfr (Nat.beq 36) no M3 M4 → (∀ j, j < i → M4.1 (aS 36) j = M3.1 (aS 32) j) → Z 77 [some (vR (aS 18)), some (vI k), some (vI (va S.2.1 l)), some (vI 1), some (vI (nI i))] [] M4 := by
          intro n
          induction n with
          | zero =>
            intro i M4 e1 f1 f2
            have F4 : mfr chO slE M M4 := F3.tr (f1.mono chO_36 no_le)
            refine hZ _ _ _ _ (hZ _ _ _ _ (hZ _ _ _ _ ?_))
            show Z 83 _ _ _
            refine hZ _ _ _ _ (br_t (by rw [(mR_O F4 R).2.2.1, show i = S.2.1.2.2.2.length by omega]; exact Int32.le_refl _) ?_)
            refine nxt M4 _ F4 (fun j x hx => ?_) (fun j x hx => ?_)
            · rw [f1.1 32 (by decide) rfl]
              exact r32 j x hx
            · have hj : j < l.length := (List.getElem?_eq_some_iff.mp hx).1
              rw [f2 j (by omega)]
              exact r32 j x hx
          | succ n ih =>
            intro i M4 e1 f1 f2
            have F4 : mfr chO slE M M4 := F3.tr (f1.mono chO_36 no_le)
            refine hZ _ _ _ _ (hZ _ _ _ _ (hZ _ _ _ _ ?_))
            show Z 83 _ _ _
            refine hZ _ _ _ _ (br_f (by rw [(mR_O F4 R).2.2.1]; exact nI_ge (by omega) (by omega)) ?_)
            refine hZ _ _ _ _ (hZ _ _ _ _ (hZ _ _ _ _ (hZ _ _ _ _ (hZ _ _ _ _ (hZ _ _ _ _ ?_)))))
            show Z 98 _ _ _
            refine hZ _ _ _ _ ⟨vp_in_nI (N := 8) (by omega) (by omega), ?_⟩
            rw [nI_clamp (by omega)]
            refine hZ _ _ _ _ ⟨vp_in_nI (N := 8) (by omega) (by omega), ?_⟩
            rw [nI_clamp (by omega)]
            refine hZ _ _ _ _ (hZ _ _ _ _ ?_)
            show Z 77 _ _ _
            rw [show nI i + 1 = nI (i + 1) from nI_1 i]
            refine ih (i + 1) _ (by omega) (mfr_wr f1 (by decide) rfl) (fun j hj => ?_)
            rw [p_wr_eq]
            by_cases e : j = i
            · rw [e, us, f1.1 32 (by decide) rfl]
            · rw [un e]
              exact f2 j (by omega)
        exact cp S.2.1.2.2.2.length 0 M3 (Nat.zero_add _) mfr_rf (fun j hj => by omega)
    have main : ∀ (L : List (List Nat)) (l : List Nat) (acc : Int32 × List Nat) (M2 : pM) (y4 : Option pV), chn l L = true → (∀ q ∈ l :: L, q.length = S.2.1.2.2.2.length ∧ q.Nodup ∧ ∀ c ∈ q, c < S.2.1.2.2.2.length) → ord S.2.1 = (l :: L).foldl (up S.2.1) acc → mfr chO slE M M2 → rowR M2 32 l → rowR M2 36 acc.2 → Z 43 [some (vR (aS 18)), some (vI k), some (vI acc.1), some (vI 1), y4] [] M2 := by
      intro L
      induction L with
      | nil =>
        intro l acc M2 y4 q1 q2 q3 q4 q5 q6
        obtain ⟨p1, p2, p3⟩ := q2 l List.mem_cons_self
        refine body l acc M2 y4 p1 p2 p3 q4 q5 q6 (fun M3 y4 f1 f2 f3 => ?_)
        have q1 : (nx l).isNone = true := q1
        have e3 : ord S.2.1 = up S.2.1 acc l := q3
        rw [← e3] at f3 ⊢
        refine hZ _ _ _ _ ?_
        show Z 107 _ _ _
        refine hZ _ _ _ _ ⟨d - 1, by omega, n_nextRow hC (by rw [(mR_O f1 R).2.2.1, p1]) (by omega) f2 (fun x hx => by have := p3 x hx; omega) (fun l' M' e _ _ => by rw [e] at q1; cases q1) (fun _ => ?_)⟩
        refine hZ _ _ _ _ (hZ _ _ _ _ ?_)
        show Z 43 _ _ _
        exact fin M3 _ f1 f3
      | cons l' L ih =>
        intro l acc M2 y4 q1 q2 q3 q4 q5 q6
        obtain ⟨p1, p2, p3⟩ := q2 l List.mem_cons_self
        refine body l acc M2 y4 p1 p2 p3 q4 q5 q6 (fun M3 y4 f1 f2 f3 => ?_)
        have q1 : (match nxB l l' with
          | true => chn l' L
          | false => false) = true := q1
        cases e1 : nxB l l' with
        | false => rw [e1] at q1; cases q1
        | true =>
          rw [e1] at q1
          have q1 : chn l' L = true := q1
          refine hZ _ _ _ _ ?_
          show Z 107 _ _ _
          refine hZ _ _ _ _ ⟨d - 1, by omega, n_nextRow hC (by rw [(mR_O f1 R).2.2.1, p1]) (by omega) f2 (fun x hx => by have := p3 x hx; omega) (fun l2 M' e g1 g2 => ?_) (fun e => by rw [nxB, e] at e1; cases e1)⟩
          have el : l2 = l' := by
            rw [nxB, e] at e1
            exact eqL_eq _ _ e1
          subst el
          refine hZ _ _ _ _ (hZ _ _ _ _ ?_)
          show Z 43 _ _ _
          refine ih l2 (up S.2.1 acc l) M' _ q1 (fun q hq => q2 q (List.mem_cons_of_mem _ hq)) q3 (f1.tr (g1.mono chO_32 no_le)) g2 (fun i x hx => ?_)
          rw [g1.1 36 (by decide) rfl]
          exact f3 i x hx
    have loop : ∀ (n i : Nat) (M2 : pM), i + n = S.2.1.2.2.2.length → mfr chO slE M M2 → rowR M2 32 (List.range i) → Z 18 [some (vR (aS 18)), some (vI k), some (vI (nI i)), none, none] [] M2 := by
      intro n
      induction n with
      | zero =>
        intro i M2 e1 f1 f2
        have : i = S.2.1.2.2.2.length := by omega
        subst this
        refine hZ _ _ _ _ (hZ _ _ _ _ (hZ _ _ _ _ ?_))
        show Z 23 _ _ _
        refine hZ _ _ _ _ (br_t (by rw [(mR_O f1 R).2.2.1]; exact Int32.le_refl _) ?_)
        refine hZ _ _ _ _ (hZ _ _ _ _ (hZ _ _ _ _ (hZ _ _ _ _ ?_)))
        show Z 43 _ _ _
        exact main L0 _ (-1, []) M2 _ hch hrows hord f1 f2 (fun i x hx => by simp at hx)
      | succ n ih =>
        intro i M2 e1 f1 f2
        refine hZ _ _ _ _ (hZ _ _ _ _ (hZ _ _ _ _ ?_))
        show Z 23 _ _ _
        refine hZ _ _ _ _ (br_f (by rw [(mR_O f1 R).2.2.1]; exact nI_ge (by omega) (by omega)) ?_)
        refine hZ _ _ _ _ (hZ _ _ _ _ (hZ _ _ _ _ (hZ _ _ _ _ ?_)))
        show Z 32 _ _ _
        refine hZ _ _ _ _ ⟨vp_in_nI (N := 8) (by omega) (by omega), ?_⟩
        rw [nI_clamp (by omega)]
        refine hZ _ _ _ _ (hZ _ _ _ _ ?_)
        show Z 18 _ _ _
        rw [show nI i + 1 = nI (i + 1) from nI_1 i]
        refine ih (i + 1) _ (by omega) (mfr_wr f1 (by decide) rfl) (fun j x hx => ?_)
        have hj : j < i + 1 := by
          have := (List.getElem?_eq_some_iff.mp hx).1
          rw [List.length_range] at this
          exact this
        rw [List.getElem?_range hj] at hx
        have ex := Option.some.inj hx
        subst ex
        rw [p_wr_eq]
        by_cases e : j = i
        · rw [e, us]
        · rw [un e]
          exact f2 j j (List.getElem?_range (by omega))
    exact loop S.2.1.2.2.2.length 0 M (Nat.zero_add _) mfr_rf (fun i x hx => by simp at hx)
  · skip
    refine hZ _ _ _ _ (p_fn (rfl) ?_)
    refine hZ _ _ _ _ ?_
    show Z 15 _ _ _
    refine hZ _ _ _ _ ?_
    have := h M mfr_rf
    simp only [sp_order] at this
    have hn : ix k S.2.1.2.2.2.length = none := i_non (by omega) (fun q => c1 ⟨Int32.le_trans (by decide) q.1, q.2⟩)
    rw [if_neg (fun e => c1 ⟨by rw [e]; exact Int32.le_refl _, by rw [e]; exact m1_le ⟨S.2.1.2.2.2.length, by omega⟩⟩), hn] at this
    exact this
