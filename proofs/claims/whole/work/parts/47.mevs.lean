/-! the model: the evening without some claims; what is asked of it -/
theorem b01_t : ∀ (g : Fin 128) (u : Fin 7), bt1 (nI g.val) (nI u.val) = 0 ∨ bt1 (nI g.val) (nI u.val) = 1 := by decide +kernel
theorem mb_cut : ∀ (g : Fin 32) (k : Fin 6), (∀ u : Fin 5, k.val ≤ u.val → bt1 (nI g.val) (nI u.val) = 0) → mb (nI g.val) k.val = mb (nI g.val) 7 := by decide +kernel
/-- the claims before n that are not in the set -/
def wo (x : Int32) : Nat → List Nat
  | 0 => []
  | n + 1 => if bt1 x (nI n) = 1 then wo x n else wo x n ++ [n]
theorem wo_lt (x : Int32) : ∀ n c, c ∈ wo x n → c < n := by
  intro n
  induction n with
  | zero => intro c h; cases h
  | succ n ih =>
    intro c h
    simp only [wo] at h
    by_cases e : bt1 x (nI n) = 1
    · rw [if_pos e] at h
      exact Nat.lt_succ_of_lt (ih c h)
    · rw [if_neg e] at h
      rcases List.mem_append.mp h with q | q
      · exact Nat.lt_succ_of_lt (ih c q)
      · rw [List.mem_singleton.mp q]; exact Nat.lt_succ_self n
theorem wo_len (x : Int32) : ∀ n, (wo x n).length ≤ n := by
  intro n
  induction n with
  | zero => exact Nat.le_refl _
  | succ n ih =>
    simp only [wo]
    by_cases e : bt1 x (nI n) = 1
    · rw [if_pos e]; omega
    · rw [if_neg e, List.length_append]; simp only [List.length_cons, List.length_nil]; omega
theorem wo_nd (x : Int32) : ∀ n, (wo x n).Nodup := by
  intro n
  induction n with
  | zero => exact List.nodup_nil
  | succ n ih =>
    simp only [wo]
    by_cases e : bt1 x (nI n) = 1
    · rw [if_pos e]; exact ih
    · rw [if_neg e]
      refine List.nodup_append.mpr ⟨ih, by simp, fun a ha b hb e => ?_⟩
      have := wo_lt x n a ha
      rw [List.mem_singleton.mp hb] at e
      omega
theorem wo_0 : ∀ n, n ≤ 7 → wo 0 n = List.range n := by
  intro n
  induction n with
  | zero => intro _; rfl
  | succ n ih =>
    intro h
    have : ∀ u : Fin 7, ¬ bt1 0 (nI u.val) = 1 := by decide
    rw [List.range_succ, ← ih (by omega)]
    exact if_neg (this ⟨n, by omega⟩)
/-- the iron behind it is the class's -/
theorem wo_ir (ρ : pRm) {m : Nat} (hm : m < 128) : ∀ n, n ≤ 7 → (evL ρ (wo (nI m) n)).1 = irW ρ (nI m) n := by
  intro n
  induction n with
  | zero => intro _; rfl
  | succ n ih =>
    intro h
    simp only [wo, irW]
    rcases b01_t ⟨m, hm⟩ ⟨n, by omega⟩ with e | e
    · have e : bt1 (nI m) (nI n) = 0 := e
      rw [if_neg (by rw [e]; decide), if_pos e, evL_snoc, ← ih (by omega)]
      rfl
    · have e : bt1 (nI m) (nI n) = 1 := e
      rw [if_pos e, if_neg (by rw [e]; decide)]
      exact ih (by omega)
def chW (s : Nat) : Bool := Nat.beq s 32 || (Nat.beq s 33 || Nat.beq s 34)
theorem chW_Q : ∀ s, chQ s = false → chW s = false := by
  intro s h
  cases e : chW s with
  | false => rfl
  | true =>
    simp only [chW, Bool.or_eq_true] at e
    rcases e with e | e | e <;> (have := Nat.eq_of_beq_eq_true e; subst this; cases h)
theorem slE_Q : ∀ s, slQ s = false → slE s = false := by
  intro s h
  cases e : slE s with
  | false => rfl
  | true =>
    simp only [slE, Bool.or_eq_true] at e
    rcases e with e | e <;> (have := Nat.eq_of_beq_eq_true e; subst this; cases h)
theorem mfr.WQ {M M' : pM} (h : mfr chW slE M M') : mfr chQ slQ M M' := h.mono chW_Q slE_Q
theorem chE_W : ∀ s, chW s = false → chE s = false := fun s h => by
  simp only [chW, Bool.or_eq_false_iff] at h
  simp only [chE, Bool.or_eq_false_iff]
  exact h.2
theorem mR_W {M M' : pM} {ρ : pRm} (h : mfr chW slE M M') (hR : mR M ρ) : mR M' ρ := mR_cg hR (fun k hk => h.2.1 k (by simp only [slE, p_beq_f (show k ≠ 27 by omega), p_beq_f (show k ≠ 28 by omega)]; rfl)) (fun s h1 h2 => h.1 s (by omega) (by simp only [chW, p_beq_f (show s ≠ 32 by omega), p_beq_f (show s ≠ 33 by omega), p_beq_f (show s ≠ 34 by omega)]; rfl))
theorem n_without {C : pC} (hC : p_Lg true C) {d : Nat} {M : pM} {Q : pQ} {ρ : pRm} {x : Int32} (hd : 2 ≤ d) (hR : mR M ρ) (ok : okR ρ) (h : ∀ M', mfr chW slE M M' → mE M' ρ (evL ρ (wo x ρ.2.2.2.length)) → Q M' none) : C d k_X8_without M [vR (aS 18), vI x] Q := by
  have l3 := ok.2.2.1
  refine p_ent hC tb_X8_without _ rfl rfl rfl (fun Z hZ => ?_)
  refine hZ _ _ _ _ (hZ _ _ _ _ (hZ _ _ _ _ (hZ _ _ _ _ ?_)))
  show Z 4 _ _ _
  have loop : ∀ (n i : Nat) (M2 : pM), i + n = ρ.2.2.2.length → mfr chW slE M M2 → (∀ j c, (wo x i)[j]? = some c → M2.1 (aS 32) j = nI c) → Z 4 [some (vR (aS 18)), some (vI x), some (vI (nI (wo x i).length)), some (vI (nI i))] [] M2 := by
    intro n
    induction n with
    | zero =>
      intro i M2 e1 f1 f2
      have : i = ρ.2.2.2.length := by omega
      subst this
      have R2 := mR_W f1 hR
      refine hZ _ _ _ _ (hZ _ _ _ _ (hZ _ _ _ _ ?_))
      show Z 9 _ _ _
      refine hZ _ _ _ _ (br_t (by rw [R2.2.2.1]; exact Int32.le_refl _) ?_)
      refine hZ _ _ _ _ (hZ _ _ _ _ ?_)
      show Z 38 _ _ _
      refine hZ _ _ _ _ ⟨d - 1, by omega, n_evening hC (wo x ρ.2.2.2.length) rfl (Nat.le_trans (wo_len x _) l3) (wo_nd x _) (fun c hc => wo_lt x _ c hc) f2 (by omega) R2 ok (fun M3 g1 g2 => ?_)⟩
      refine hZ _ _ _ _ ?_
      exact h M3 (f1.tr (g1.mono chE_W (fun _ z => z))) g2
    | succ n ih =>
      intro i M2 e1 f1 f2
      have R2 := mR_W f1 hR
      have wl := wo_len x i
      refine hZ _ _ _ _ (hZ _ _ _ _ (hZ _ _ _ _ ?_))
      show Z 9 _ _ _
      refine hZ _ _ _ _ (br_f (by rw [R2.2.2.1]; exact nI_ge (by omega) (by omega)) ?_)
      refine hZ _ _ _ _ (hZ _ _ _ _ ?_)
      show Z 14 _ _ _
      refine hZ _ _ _ _ ⟨d - 1, by omega, n_has hC (fun b1 => ?_) (fun b1 => ?_)⟩
      · skip
        refine hZ _ _ _ _ (p_tn (by decide) ?_)
        refine hZ _ _ _ _ (hZ _ _ _ _ ?_)
        show Z 4 _ _ _
        have e : wo x (i + 1) = wo x i := if_pos b1
        rw [show nI i + 1 = nI (i + 1) from nI_1 i, ← e]
        exact ih (i + 1) M2 (by omega) f1 (by rw [e]; exact f2)
      · skip
        refine hZ _ _ _ _ (p_fn (rfl) ?_)
        refine hZ _ _ _ _ (hZ _ _ _ _ (hZ _ _ _ _ (hZ _ _ _ _ ?_)))
        show Z 26 _ _ _
        refine hZ _ _ _ _ ⟨vp_in_nI (N := 8) (by omega) (by omega), ?_⟩
        rw [nI_clamp (by omega)]
        refine hZ _ _ _ _ (hZ _ _ _ _ (hZ _ _ _ _ ?_))
        show Z 4 _ _ _
        have e : wo x (i + 1) = wo x i ++ [i] := if_neg b1
        have el : nI (wo x i).length + 1 = nI (wo x (i + 1)).length := by rw [e, List.length_append, nI_1]; rfl
        rw [show nI i + 1 = nI (i + 1) from nI_1 i, el]
        refine ih (i + 1) _ (by omega) (mfr_wr f1 (by decide) rfl) (fun j c hj => ?_)
        rw [e] at hj
        rw [p_wr_eq]
        by_cases q : j < (wo x i).length
        · rw [List.getElem?_append_left q] at hj
          rw [un (by omega)]
          exact f2 j c hj
        · have hi : j = (wo x i).length := by
            have := (List.getElem?_eq_some_iff.mp hj).1
            simp only [List.length_append, List.length_cons, List.length_nil] at this
            omega
          subst hi
          rw [List.getElem?_append_right (Nat.le_refl _), Nat.sub_self] at hj
          have hj : i = c := Option.some.inj hj
          rw [us, hj]
  exact loop ρ.2.2.2.length 0 M (by omega) mfr_rf (fun j c hj => by cases hj)
/-- the plain evening -/
theorem n_plain {C : pC} (hC : p_Lg true C) {d : Nat} {M : pM} {Q : pQ} {ρ : pRm} (hd : 2 ≤ d) (hR : mR M ρ) (ok : okR ρ) (h : ∀ M', mfr chW slE M M' → mE M' ρ (ev ρ) → Q M' none) : C d k_X8_without M [vR (aS 18), vI 0] Q :=
  n_without hC hd hR ok (fun M' g1 g2 => h M' g1 (by rw [wo_0 _ ok.2.2.1] at g2; exact g2))
theorem mE_lg {M : pM} {ρ : pRm} {E : pE} (hE : mE M ρ E) (hI : evI ρ E) (ok : okR ρ) {t : Nat} (ht : t < ρ.1.length) : M.1 (aS 33) t = -4 ↔ ¬ bt1 E.1.2.2.2 (nI t) = 1 := by
  have l1 := ok.1
  have l3 := ok.2.2.1
  rw [hE.2.2.2 t ht]
  rcases hI.2.2.2.1 t (by omega) with ⟨a, b, c, c1, c2⟩ | ⟨a, b⟩
  · rw [if_pos a, c2]
    exact ⟨fun q => absurd q (nI_n4 (by omega)), fun q => absurd a q⟩
  · rw [if_neg (by rw [a]; decide)]
    exact ⟨fun _ q => by rw [a] at q; exact absurd q (by decide), fun _ => rfl⟩
theorem n_gone {C : pC} (hC : p_Lg true C) {d : Nat} {M : pM} {Q : pQ} {ρ : pRm} {E : pE} (hR : M.1 (aS 18) 0 = nI ρ.1.length) (ok : okR ρ) (hE : mE M ρ E) (hI : evI ρ E) (h : Q M (some (vI (bc E.1.2.2.2)))) : C d k_X8_gone M [vR (aS 18)] Q := by
  have l1 := ok.1
  obtain ⟨g, g1, g2⟩ := hI.2.2.1
  refine p_ent hC tb_X8_gone _ rfl rfl rfl (fun Z hZ => ?_)
  refine hZ _ _ _ _ (hZ _ _ _ _ (hZ _ _ _ _ (hZ _ _ _ _ ?_)))
  show Z 4 _ _ _
  have loop : ∀ (n i : Nat), i + n = ρ.1.length → Z 4 [some (vR (aS 18)), some (vI (mb (nI g) i)), some (vI (nI i))] [] M := by
    intro n
    induction n with
    | zero =>
      intro i e
      have : i = ρ.1.length := by omega
      subst this
      refine hZ _ _ _ _ (hZ _ _ _ _ (hZ _ _ _ _ ?_))
      show Z 9 _ _ _
      refine hZ _ _ _ _ (br_t (by rw [hR]; exact Int32.le_refl _) ?_)
      refine hZ _ _ _ _ ?_
      show Z 38 _ _ _
      refine hZ _ _ _ _ ?_
      have cut := mb_cut ⟨g, g1⟩ ⟨ρ.1.length, by omega⟩ (fun u hu => by
        rcases hI.2.2.2.1 u.val u.isLt with ⟨a, b, _⟩ | ⟨a, b⟩
        · have hu : ρ.1.length ≤ u.val := hu
          omega
        · rw [g2] at a; exact a)
      have cut : mb (nI g) ρ.1.length = mb (nI g) 7 := cut
      rw [g2] at h
      have h2 := bc_mb ⟨g, by omega⟩
      have h2 : bc (nI g) = mb (nI g) 7 := h2
      rw [cut, ← h2]
      exact h
    | succ n ih =>
      intro i e
      have step := ih (i + 1) (by omega)
      rw [← nI_1] at step
      have lg := mE_lg hE hI ok (show i < ρ.1.length by omega)
      rw [g2] at lg
      refine hZ _ _ _ _ (hZ _ _ _ _ (hZ _ _ _ _ ?_))
      show Z 9 _ _ _
      refine hZ _ _ _ _ (br_f (by rw [hR]; exact nI_ge (by omega) (by omega)) ?_)
      refine hZ _ _ _ _ (hZ _ _ _ _ (hZ _ _ _ _ (hZ _ _ _ _ ?_)))
      show Z 18 _ _ _
      refine hZ _ _ _ _ ⟨vp_in_nI (N := 5) (by omega) (by omega), ?_⟩
      rw [nI_clamp (by omega)]
      refine hZ _ _ _ _ ?_
      show Z 21 _ _ _
      by_cases b1 : bt1 (nI g) (nI i) = 1
      · refine hZ _ _ _ _ (p_tn ((fun q => lg.mp q b1)) ?_)
        refine hZ _ _ _ _ (hZ _ _ _ _ (hZ _ _ _ _ (hZ _ _ _ _ (hZ _ _ _ _ ?_))))
        show Z 4 _ _ _
        have e2 : mb (nI g) (i + 1) = mb (nI g) i + 1 := by simp only [mb, b1]
        rw [e2] at step
        exact step
      · skip
        refine hZ _ _ _ _ (p_fn (lg.mpr b1) ?_)
        refine hZ _ _ _ _ (hZ _ _ _ _ (hZ _ _ _ _ (hZ _ _ _ _ (hZ _ _ _ _ (hZ _ _ _ _ ?_)))))
        show Z 4 _ _ _
        have e2 : mb (nI g) (i + 1) = mb (nI g) i + 0 := by
          rcases b01_g ⟨g, g1⟩ ⟨i, by omega⟩ with q | q
          · exact absurd q b1
          · have q : bt1 (nI g) (nI i) = 0 := q
            simp only [mb, q]
        rw [e2] at step
        exact step
  exact loop ρ.1.length 0 (Nat.zero_add _)
theorem n_drops {C : pC} (hC : p_Lg true C) {d : Nat} {M : pM} {Q : pQ} {S : pS} {t : Int32} (hd : 3 ≤ d) (hS : mS M S) (ok : okS S) (h : ∀ M', mfr chQ slQ M M' → Q M' (some (vI (sp_drops S t).2))) : C d k_X8_drops M [vR (aS 18), vI t] Q := by
  have l1 := ok.1.1
  have l3 := ok.1.2.2.1
  refine p_ent hC tb_X8_drops _ rfl rfl rfl (fun Z hZ => ?_)
  refine hZ _ _ _ _ (hZ _ _ _ _ ?_)
  show Z 2 _ _ _
  refine hZ _ _ _ _ ⟨d - 1, by omega, n_isTeller hC (by omega) hS.2.1 ok.1 (fun k b1 b2 b3 => ?_) (fun b1 => ?_)⟩
  · skip
    subst b3
    refine hZ _ _ _ _ (p_tn (by decide) ?_)
    refine hZ _ _ _ _ (hZ _ _ _ _ ?_)
    show Z 12 _ _ _
    refine hZ _ _ _ _ ⟨d - 1, by omega, n_plain hC (by omega) hS.2.1 ok.1 (fun M1 g1 g2 => ?_)⟩
    refine hZ _ _ _ _ (hZ _ _ _ _ (hZ _ _ _ _ ?_))
    show Z 20 _ _ _
    refine hZ _ _ _ _ ⟨vp_in_nI (N := 5) (by omega) (by omega), ?_⟩
    rw [nI_clamp (by omega), g2.2.2.2 k b2]
    refine hZ _ _ _ _ ?_
    have := h M1 g1.WQ
    simp only [sp_drops, b1] at this
    rcases (ev_I ok.1).2.2.2.1 k (by omega) with ⟨a, b, c, c1, c2⟩ | ⟨a, b⟩
    · rw [if_pos a]
      have c7 : ¬ nI c = 7 := fun q => absurd ((nI_eq (a := c) (b := 7) (by omega) (by omega)).mp q) (by omega)
      rw [c2, if_neg c7] at this
      rw [c2]
      exact this
    · rw [if_neg (by rw [a]; decide)]
      rw [if_pos b] at this
      exact this
  · skip
    refine hZ _ _ _ _ (p_fn (rfl) ?_)
    refine hZ _ _ _ _ ?_
    show Z 9 _ _ _
    refine hZ _ _ _ _ ?_
    have := h M mfr_rf
    simp only [sp_drops, b1] at this
    exact this
theorem n_told {C : pC} (hC : p_Lg true C) {d : Nat} {M : pM} {Q : pQ} {S : pS} (hd : 3 ≤ d) (hS : mS M S) (ok : okS S) (h : ∀ M', mfr chQ slQ M M' → Q M' (some (vI (sp_told S).2))) : C d k_X8_told M [vR (aS 18)] Q := by
  refine p_ent hC tb_X8_told _ rfl rfl rfl (fun Z hZ => ?_)
  refine hZ _ _ _ _ (hZ _ _ _ _ ?_)
  show Z 2 _ _ _
  refine hZ _ _ _ _ ⟨d - 1, by omega, n_plain hC (by omega) hS.2.1 ok.1 (fun M1 g1 g2 => ?_)⟩
  refine hZ _ _ _ _ (hZ _ _ _ _ ?_)
  show Z 9 _ _ _
  refine hZ _ _ _ _ ?_
  rw [g2.1]
  exact h M1 g1.WQ
theorem n_hottest {C : pC} (hC : p_Lg true C) {d : Nat} {M : pM} {Q : pQ} {S : pS} (hd : 3 ≤ d) (hS : mS M S) (ok : okS S) (h : ∀ M', mfr chQ slQ M M' → Q M' (some (vI (sp_hottest S).2))) : C d k_X8_hottest M [vR (aS 18)] Q := by
  refine p_ent hC tb_X8_hottest _ rfl rfl rfl (fun Z hZ => ?_)
  refine hZ _ _ _ _ (hZ _ _ _ _ ?_)
  show Z 2 _ _ _
  refine hZ _ _ _ _ ⟨d - 1, by omega, n_plain hC (by omega) hS.2.1 ok.1 (fun M1 g1 g2 => ?_)⟩
  refine hZ _ _ _ _ (hZ _ _ _ _ ?_)
  show Z 9 _ _ _
  refine hZ _ _ _ _ ?_
  rw [g2.2.1]
  exact h M1 g1.WQ
theorem n_hot {C : pC} (hC : p_Lg true C) {d : Nat} {M : pM} {Q : pQ} {S : pS} {c : Int32} (hd : 3 ≤ d) (hS : mS M S) (ok : okS S) (h : ∀ M', mfr chQ slQ M M' → Q M' (some (vI (sp_hot S c).2))) : C d k_X8_hot M [vR (aS 18), vI c] Q := by
  have l3 := ok.1.2.2.1
  refine p_ent hC tb_X8_hot _ rfl rfl rfl (fun Z hZ => ?_)
  refine hZ _ _ _ _ (hZ _ _ _ _ ?_)
  show Z 2 _ _ _
  refine hZ _ _ _ _ ⟨d - 1, by omega, n_isClaim hC (by omega) hS.2.1 ok.1 (fun k b1 b2 b3 => ?_) (fun b1 => ?_)⟩
  · skip
    subst b3
    refine hZ _ _ _ _ (p_tn (by decide) ?_)
    refine hZ _ _ _ _ (hZ _ _ _ _ ?_)
    show Z 12 _ _ _
    refine hZ _ _ _ _ ⟨d - 1, by omega, n_plain hC (by omega) hS.2.1 ok.1 (fun M1 g1 g2 => ?_)⟩
    refine hZ _ _ _ _ (hZ _ _ _ _ (hZ _ _ _ _ ?_))
    show Z 20 _ _ _
    refine hZ _ _ _ _ ⟨vp_in_nI (N := 8) (by omega) (by omega), ?_⟩
    rw [nI_clamp (by omega), g2.2.2.1 k (by omega)]
    refine hZ _ _ _ _ ?_
    have := h M1 g1.WQ
    simp only [sp_hot, b1] at this
    exact this
  · skip
    refine hZ _ _ _ _ (p_fn (rfl) ?_)
    refine hZ _ _ _ _ ?_
    show Z 9 _ _ _
    refine hZ _ _ _ _ ?_
    have := h M mfr_rf
    simp only [sp_hot, b1] at this
    exact this
theorem okR_t64 {ρ : pRm} (ok : okR ρ) : ∃ n, n < 64 ∧ ρ.2.2.1 = nI n := by
  obtain ⟨n, n1, n2⟩ := ok.2.2.2.2
  exact ⟨n, Nat.lt_of_lt_of_le n2 (Nat.pow_le_pow_right (show 0 < 2 by decide) ok.2.1), n1⟩
theorem n_count {C : pC} (hC : p_Lg true C) {d : Nat} {M : pM} {Q : pQ} {S : pS} {x : Int32} (hd : 3 ≤ d) (hS : mS M S) (ok : okS S) (h : ∀ M', mfr chQ slQ M M' → Q M' (some (vI (sp_count S x).2))) : C d k_X8_count M [vR (aS 18), vI x] Q := by
  refine p_ent hC tb_X8_count _ rfl rfl rfl (fun Z hZ => ?_)
  refine hZ _ _ _ _ (hZ _ _ _ _ (hZ _ _ _ _ ?_))
  show Z 4 _ _ _
  refine hZ _ _ _ _ ⟨d - 1, by omega, n_in hC (fun c1 c2 => ?_) (fun c1 => ?_)⟩
  · skip
    refine hZ _ _ _ _ (p_tn (by decide) ?_)
    refine hZ _ _ _ _ (hZ _ _ _ _ ?_)
    show Z 14 _ _ _
    refine hZ _ _ _ _ ⟨d - 1, by omega, n_plain hC (by omega) hS.2.1 ok.1 (fun M1 g1 g2 => ?_)⟩
    have S1 : mS M1 S := mS_q g1.WQ hS
    have h0 := h M1 g1.WQ
    have I := ev_I ok.1
    refine hZ _ _ _ _ ?_
    show Z 18 _ _ _
    refine hZ _ _ _ _ ?_
    refine ⟨fun s0 => ?_, fun s0 => ⟨fun s1 => ?_, fun s1 => ⟨fun s2 => ?_, fun s2 => ⟨fun s3 => ?_, fun s3 => ⟨fun s4 => ?_, fun s4 => ⟨fun s5 => ?_, fun s5 => ⟨fun s6 => ?_, fun s6 => ⟨fun s7 => ?_, fun s7 => ⟨fun s8 => ?_, fun s8 => ⟨fun s9 => ?_, fun s9 => ?_⟩⟩⟩⟩⟩⟩⟩⟩⟩⟩
    · skip
      refine hZ _ _ _ _ (hZ _ _ _ _ ?_)
      show Z 76 _ _ _
      refine hZ _ _ _ _ ?_
      rw [S1.2.1.1]
      simp only [sp_count, if_pos s0] at h0
      exact h0
    · skip
      refine hZ _ _ _ _ (hZ _ _ _ _ ?_)
      show Z 81 _ _ _
      refine hZ _ _ _ _ ?_
      rw [S1.2.1.2.1]
      simp only [sp_count, if_neg s0, if_pos s1] at h0
      exact h0
    · skip
      refine hZ _ _ _ _ (hZ _ _ _ _ ?_)
      show Z 86 _ _ _
      refine hZ _ _ _ _ ?_
      rw [S1.2.1.2.2.1]
      simp only [sp_count, if_neg s0, if_neg s1, if_pos s2] at h0
      exact h0
    · skip
      refine hZ _ _ _ _ (hZ _ _ _ _ ?_)
      show Z 91 _ _ _
      rw [S1.2.1.2.2.2.1]
      refine hZ _ _ _ _ ⟨d - 1, by omega, n_bits hC ?_⟩
      refine hZ _ _ _ _ ?_
      obtain ⟨n, n1, n2⟩ := okR_t64 ok.1
      have e := bc_mb ⟨n, by omega⟩
      have e : bc (nI n) = mb (nI n) 7 := e
      simp only [sp_count, if_neg s0, if_neg s1, if_neg s2, if_pos s3] at h0
      rw [n2, e] at h0
      rw [n2]
      exact h0
    · skip
      refine hZ _ _ _ _ ?_
      show Z 96 _ _ _
      refine hZ _ _ _ _ ⟨d - 1, by omega, n_falseMany hC (by omega) S1.2.1 ok.1 ?_⟩
      refine hZ _ _ _ _ ?_
      simp only [sp_count, if_neg s0, if_neg s1, if_neg s2, if_neg s3, if_pos s4] at h0
      exact h0
    · skip
      refine hZ _ _ _ _ (hZ _ _ _ _ ?_)
      show Z 104 _ _ _
      rw [g2.1]
      refine hZ _ _ _ _ ⟨d - 1, by omega, n_bits hC ?_⟩
      refine hZ _ _ _ _ ?_
      obtain ⟨n, n1, n2⟩ := I.2.1
      have e := bc_mb ⟨n, by omega⟩
      have e : bc (nI n) = mb (nI n) 7 := e
      simp only [sp_count, if_neg s0, if_neg s1, if_neg s2, if_neg s3, if_neg s4, if_pos s5] at h0
      rw [n2, e] at h0
      rw [n2]
      exact h0
    · skip
      refine hZ _ _ _ _ ?_
      show Z 109 _ _ _
      refine hZ _ _ _ _ ⟨d - 1, by omega, n_gone hC S1.2.1.1 ok.1 g2 I ?_⟩
      refine hZ _ _ _ _ ?_
      simp only [sp_count, if_neg s0, if_neg s1, if_neg s2, if_neg s3, if_neg s4, if_neg s5, if_pos s6] at h0
      exact h0
    · skip
      refine hZ _ _ _ _ (hZ _ _ _ _ ?_)
      show Z 117 _ _ _
      refine hZ _ _ _ _ ?_
      rw [S1.2.2.1.2.1]
      simp only [sp_count, if_neg s0, if_neg s1, if_neg s2, if_neg s3, if_neg s4, if_neg s5, if_neg s6, if_pos s7] at h0
      exact h0
    · skip
      refine hZ _ _ _ _ (hZ _ _ _ _ ?_)
      show Z 122 _ _ _
      refine hZ _ _ _ _ ?_
      rw [S1.2.2.2.1.2.1]
      simp only [sp_count, if_neg s0, if_neg s1, if_neg s2, if_neg s3, if_neg s4, if_neg s5, if_neg s6, if_neg s7, if_pos s8] at h0
      exact h0
    · skip
      refine hZ _ _ _ _ (hZ _ _ _ _ ?_)
      show Z 127 _ _ _
      refine hZ _ _ _ _ ?_
      rw [S1.2.2.2.2.2.1]
      simp only [sp_count, if_neg s0, if_neg s1, if_neg s2, if_neg s3, if_neg s4, if_neg s5, if_neg s6, if_neg s7, if_neg s8, if_pos s9] at h0
      exact h0
    · skip
      refine hZ _ _ _ _ (hZ _ _ _ _ ?_)
      show Z 132 _ _ _
      refine hZ _ _ _ _ ?_
      have s10 : x = 10 := by
        have s0 : ¬ x = 0 := s0
        have s1 : ¬ x = 1 := s1
        have s2 : ¬ x = 2 := s2
        have s3 : ¬ x = 3 := s3
        have s4 : ¬ x = 4 := s4
        have s5 : ¬ x = 5 := s5
        have s6 : ¬ x = 6 := s6
        have s7 : ¬ x = 7 := s7
        have s8 : ¬ x = 8 := s8
        have s9 : ¬ x = 9 := s9
        grind
      rw [S1.1.2.1]
      simp only [sp_count, if_neg s0, if_neg s1, if_neg s2, if_neg s3, if_neg s4, if_neg s5, if_neg s6, if_neg s7, if_neg s8, if_neg s9, if_pos s10] at h0
      exact h0
  · skip
    refine hZ _ _ _ _ (p_fn (rfl) ?_)
    refine hZ _ _ _ _ ?_
    show Z 11 _ _ _
    refine hZ _ _ _ _ ?_
    have := h M mfr_rf
    simp only [sp_count] at this
    rw [if_neg (fun e => c1 (by rw [e]; decide)), if_neg (fun e => c1 (by rw [e]; decide)), if_neg (fun e => c1 (by rw [e]; decide)), if_neg (fun e => c1 (by rw [e]; decide)), if_neg (fun e => c1 (by rw [e]; decide)), if_neg (fun e => c1 (by rw [e]; decide)), if_neg (fun e => c1 (by rw [e]; decide)), if_neg (fun e => c1 (by rw [e]; decide)), if_neg (fun e => c1 (by rw [e]; decide)), if_neg (fun e => c1 (by rw [e]; decide)), if_neg (fun e => c1 (by rw [e]; decide))] at this
    exact this
