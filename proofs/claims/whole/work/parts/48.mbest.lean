/-! the model: what fits; what is left out; who holds -/
theorem n_isSo {C : pC} (hC : p_Lg true C) {d : Nat} {M : pM} {Q : pQ} {ρ : pRm} {V : pSn} (hd : 3 ≤ d) (hV : mV M V) (hR : mR M ρ) (ok : okR ρ) (okV : ∀ x ∈ V, ∃ t, x.1 = nI t ∧ t < ρ.1.length) (h1 : fit ρ V = true → ∀ M', mfr chW slE M M' → Q M' (some (vI 1))) (h0 : fit ρ V = false → ∀ M', mfr chW slE M M' → Q M' (some (vI 0))) : C d k_X8_isSo M [vR (aS 18)] Q := by
  have l1 := ok.1
  have l3 := ok.2.2.1
  have l6 := hV.1
  refine p_ent hC tb_X8_isSo _ rfl rfl rfl (fun Z hZ => ?_)
  refine hZ _ _ _ _ (hZ _ _ _ _ ?_)
  show Z 2 _ _ _
  refine hZ _ _ _ _ ⟨d - 1, by omega, n_plain hC (by omega) hR ok (fun M1 g1 g2 => ?_)⟩
  refine hZ _ _ _ _ (hZ _ _ _ _ (hZ _ _ _ _ (hZ _ _ _ _ ?_)))
  show Z 9 _ _ _
  have V1 : mV M1 V := mV_cg hV (g1.2.1 10 rfl) (g1.1 25 (by decide) rfl) (g1.1 26 (by decide) rfl)
  have I := ev_I ok
  have loop : ∀ (n i : Nat) (x3 : Option pV), i + n = V.length → Z 9 [some (vR (aS 18)), some (vI (bi (agr (ev ρ).2.2.2 (V.take i)))), some (vI (nI i)), x3] [] M1 := by
    intro n
    induction n with
    | zero =>
      intro i x3 e
      have : i = V.length := by omega
      subst this
      rw [List.take_length]
      refine hZ _ _ _ _ (hZ _ _ _ _ (hZ _ _ _ _ ?_))
      show Z 14 _ _ _
      refine hZ _ _ _ _ (br_t (by rw [V1.2.1]; exact Int32.le_refl _) ?_)
      refine hZ _ _ _ _ ?_
      show Z 76 _ _ _
      cases q : agr (ev ρ).2.2.2 V with
      | false =>
        refine hZ _ _ _ _ ⟨Or.inl rfl, ?_⟩
        exact h0 q M1 g1
      | true =>
        refine hZ _ _ _ _ ⟨Or.inr rfl, ?_⟩
        exact h1 q M1 g1
    | succ n ih =>
      intro i x3 e
      have hi : i < V.length := by omega
      have hx : V[i]? = some V[i] := List.getElem?_eq_getElem hi
      obtain ⟨t, t1, t2⟩ := okV _ (List.getElem_mem hi)
      obtain ⟨v1, v2⟩ := V1.2.2 i _ hx
      have ea : agr (ev ρ).2.2.2 (V.take (i + 1)) = (agr (ev ρ).2.2.2 (V.take i) && decide ((ev ρ).2.2.2 t = V[i].2)) := by
        simp only [agr, List.take_add_one, hx, Option.toList_some, List.all_append, List.all_cons, List.all_nil, Bool.and_true, t1, nI_clamp (show t < 2 ^ 31 by omega)]
      have step := fun x => ih (i + 1) x (by omega)
      rw [ea, ← nI_1] at step
      have lg := g2.2.2.2 t t2
      generalize V[i] = x at v1 v2 t1 step
      refine hZ _ _ _ _ (hZ _ _ _ _ (hZ _ _ _ _ ?_))
      show Z 14 _ _ _
      refine hZ _ _ _ _ (br_f (by rw [V1.2.1]; exact nI_ge hi (by omega)) ?_)
      refine hZ _ _ _ _ (hZ _ _ _ _ (hZ _ _ _ _ (hZ _ _ _ _ (hZ _ _ _ _ ?_))))
      show Z 26 _ _ _
      refine hZ _ _ _ _ ⟨vp_in_nI (N := 6) (by omega) (by omega), ?_⟩
      rw [nI_clamp (by omega), v1, t1]
      refine hZ _ _ _ _ ⟨vp_in_nI (N := 5) (by omega) (by omega), ?_⟩
      rw [nI_clamp (by omega), lg]
      refine hZ _ _ _ _ (hZ _ _ _ _ ?_)
      show Z 30 _ _ _
      generalize agr (ev ρ).2.2.2 (V.take i) = gg at step ⊢
      cases gg with
      | false =>
        refine hZ _ _ _ _ (br_t (rfl) ?_)
        refine hZ _ _ _ _ (hZ _ _ _ _ (hZ _ _ _ _ (hZ _ _ _ _ ?_)))
        show Z 9 _ _ _
        exact step _
      | true =>
        refine hZ _ _ _ _ (br_f (by decide) ?_)
        refine hZ _ _ _ _ (hZ _ _ _ _ ?_)
        show Z 36 _ _ _
        rcases I.2.2.2.1 t (by omega) with ⟨a, b, c, c1, c2⟩ | ⟨a, b⟩
        · rw [if_pos a, c2]
          rw [c2] at step
          refine hZ _ _ _ _ (p_tn (nI_n4 (by omega)) ?_)
          refine hZ _ _ _ _ (hZ _ _ _ _ (hZ _ _ _ _ ?_))
          show Z 58 _ _ _
          refine hZ _ _ _ _ ⟨vp_in_nI (N := 6) (by omega) (by omega), ?_⟩
          rw [nI_clamp (by omega), v2]
          refine hZ _ _ _ _ ?_
          show Z 60 _ _ _
          by_cases q : x.2 = nI c
          · refine hZ _ _ _ _ (p_fn (q) ?_)
            refine hZ _ _ _ _ (hZ _ _ _ _ (hZ _ _ _ _ (hZ _ _ _ _ (hZ _ _ _ _ ?_))))
            show Z 9 _ _ _
            rw [decide_eq_true q.symm] at step
            exact step _
          · skip
            refine hZ _ _ _ _ (p_tn (q) ?_)
            refine hZ _ _ _ _ (hZ _ _ _ _ (hZ _ _ _ _ (hZ _ _ _ _ ?_)))
            show Z 9 _ _ _
            rw [decide_eq_false (fun z => q z.symm)] at step
            exact step _
        · skip
          rw [if_neg (by rw [a]; decide)]
          rw [b] at step
          refine hZ _ _ _ _ (p_fn (rfl) ?_)
          refine hZ _ _ _ _ (hZ _ _ _ _ (hZ _ _ _ _ ?_))
          show Z 44 _ _ _
          refine hZ _ _ _ _ ⟨vp_in_nI (N := 6) (by omega) (by omega), ?_⟩
          rw [nI_clamp (by omega), v2]
          refine hZ _ _ _ _ ?_
          show Z 47 _ _ _
          by_cases q : x.2 = 7
          · refine hZ _ _ _ _ (p_fn (q) ?_)
            refine hZ _ _ _ _ (hZ _ _ _ _ (hZ _ _ _ _ (hZ _ _ _ _ (hZ _ _ _ _ (hZ _ _ _ _ ?_)))))
            show Z 9 _ _ _
            rw [decide_eq_true q.symm] at step
            exact step _
          · skip
            refine hZ _ _ _ _ (p_tn (q) ?_)
            refine hZ _ _ _ _ (hZ _ _ _ _ (hZ _ _ _ _ (hZ _ _ _ _ ?_)))
            show Z 9 _ _ _
            rw [decide_eq_false (fun z => q z.symm)] at step
            exact step _
  exact loop V.length 0 none (Nat.zero_add _)
theorem pw8 : ∀ n : Fin 8, (1 : Int32) <<< (nI n.val &&& 31) = nI (2 ^ n.val) ∧ 2 ^ n.val ≤ 128 ∧ 1 ≤ 2 ^ n.val := by decide +kernel
theorem bc_fu : ∀ (k : Fin 8) (n : Fin 128), n.val < 2 ^ k.val - 1 → bc (nI n.val) < bc (nI (2 ^ k.val - 1)) := by decide +kernel
theorem bc_sm : ∀ n : Fin 128, bc (nI n.val) < 1048576 := by decide +kernel
theorem bt_fu : ∀ (k : Fin 8) (n : Fin 7), n.val < k.val → bt1 (nI (2 ^ k.val - 1)) (nI n.val) = 1 := by decide +kernel
theorem ir_fu (ρ : pRm) {k : Nat} (hk : k < 8) : ∀ n, n ≤ k → n ≤ 7 → irW ρ (nI (2 ^ k - 1)) n = s0 := by
  intro n
  induction n with
  | zero => intro _ _; rfl
  | succ n ih =>
    intro h1 h2
    have := bt_fu ⟨k, hk⟩ ⟨n, by omega⟩ (show n < k by omega)
    have : bt1 (nI (2 ^ k - 1)) (nI n) = 1 := this
    have e : irW ρ (nI (2 ^ k - 1)) (n + 1) = irW ρ (nI (2 ^ k - 1)) n := if_neg (by rw [this]; decide)
    rw [e]
    exact ih (by omega) (by omega)
theorem n_leave {C : pC} (hC : p_Lg true C) {d : Nat} {M : pM} {Q : pQ} {S : pS} {t x : Int32} (hd : 3 ≤ d) (hS : mS M S) (ok : okS S) (h : ∀ M', mfr chQ slQ M M' → Q M' (some (vI (sp_leave S t x).2))) : C d k_X8_leave M [vR (aS 18), vI t, vI x] Q := by
  have l1 := ok.1.1
  have l3 := ok.1.2.2.1
  refine p_ent hC tb_X8_leave _ rfl rfl rfl (fun Z hZ => ?_)
  refine hZ _ _ _ _ (hZ _ _ _ _ ?_)
  show Z 2 _ _ _
  refine hZ _ _ _ _ ⟨d - 1, by omega, n_isTeller hC (by omega) hS.2.1 ok.1 (fun k b1 b2 b3 => ?_) (fun b1 => ?_)⟩
  · skip
    subst b3
    refine hZ _ _ _ _ (br_f (by decide) ?_)
    refine hZ _ _ _ _ (hZ _ _ _ _ (hZ _ _ _ _ ?_))
    show Z 11 _ _ _
    refine hZ _ _ _ _ ⟨d - 1, by omega, n_in hC (fun c1 c2 => ?_) (fun c1 => ?_)⟩
    · skip
      refine hZ _ _ _ _ (p_tn (by decide) ?_)
      refine hZ _ _ _ _ (hZ _ _ _ _ (hZ _ _ _ _ (hZ _ _ _ _ (hZ _ _ _ _ (hZ _ _ _ _ ?_)))))
      show Z 29 _ _ _
      simp only [sp_leave, b1, if_pos (And.intro c1 c2)] at h
      obtain ⟨p1, p2, p3⟩ := pw8 ⟨S.2.1.2.2.2.length, by omega⟩
      simp only at p1 p2 p3
      have R := hS.2.1
      have okρ := ok.1
      generalize S.2.1 = ρ at *
      have body : ∀ (i : Nat) (a e : Int32) (M2 : pM), i < 2 ^ ρ.2.2.2.length → mfr chW slE M M2 → (∀ M3, mfr chW slE M M3 → (bc (nI i) < e ∧ ¬ bt1 (irW ρ (nI i) ρ.2.2.2.length).2.2.2 (nI k) = 1 → Z 77 [some (vR (aS 18)), some (vI (nI k)), some (vI x), some (vI (nI i)), some (vI (bc (nI i))), some (vI (nI i))] [] M3) ∧ (¬ (bc (nI i) < e ∧ ¬ bt1 (irW ρ (nI i) ρ.2.2.2.length).2.2.2 (nI k) = 1) → Z 77 [some (vR (aS 18)), some (vI (nI k)), some (vI x), some (vI a), some (vI e), some (vI (nI i))] [] M3)) → Z 29 [some (vR (aS 18)), some (vI (nI k)), some (vI x), some (vI a), some (vI e), some (vI (nI i))] [] M2 := by
        intro i a e M2 e1 f1 f2
        have R2 := mR_W f1 R
        have eb := bc_mb ⟨i, by omega⟩
        have eb : bc (nI i) = mb (nI i) 7 := eb
        refine hZ _ _ _ _ (hZ _ _ _ _ (hZ _ _ _ _ (hZ _ _ _ _ (hZ _ _ _ _ ?_))))
        show Z 37 _ _ _
        rw [R2.2.2.1, p1]
        refine hZ _ _ _ _ (br_f (nI_ge e1 (by omega)) ?_)
        refine hZ _ _ _ _ ?_
        show Z 42 _ _ _
        refine hZ _ _ _ _ ⟨d - 1, by omega, n_bits hC ?_⟩
        rw [← eb]
        refine hZ _ _ _ _ ?_
        show Z 47 _ _ _
        by_cases q : bc (nI i) < e
        · refine hZ _ _ _ _ (br_f (by grind) ?_)
          refine hZ _ _ _ _ (hZ _ _ _ _ ?_)
          show Z 53 _ _ _
          refine hZ _ _ _ _ ⟨d - 1, by omega, n_without hC (by omega) R2 okρ (fun M3 g1 g2 => ?_)⟩
          have I := evL_I okρ (wo (nI i) ρ.2.2.2.length) (fun c hc => wo_lt _ _ c hc)
          have lg := mE_lg g2 I okρ b2
          rw [wo_ir ρ (show i < 128 by omega) _ l3] at lg
          refine hZ _ _ _ _ (hZ _ _ _ _ (hZ _ _ _ _ ?_))
          show Z 61 _ _ _
          refine hZ _ _ _ _ ⟨vp_in_nI (N := 5) (by omega) (by omega), ?_⟩
          rw [nI_clamp (by omega)]
          refine hZ _ _ _ _ ?_
          show Z 64 _ _ _
          by_cases q2 : bt1 (irW ρ (nI i) ρ.2.2.2.length).2.2.2 (nI k) = 1
          · refine hZ _ _ _ _ (p_tn ((fun z => lg.mp z q2)) ?_)
            exact (f2 M3 (f1.tr g1)).2 (fun z => z.2 q2)
          · skip
            refine hZ _ _ _ _ (p_fn (lg.mpr q2) ?_)
            refine hZ _ _ _ _ (hZ _ _ _ _ (hZ _ _ _ _ ?_))
            show Z 72 _ _ _
            refine hZ _ _ _ _ ⟨d - 1, by omega, n_bits hC ?_⟩
            rw [← eb]
            refine hZ _ _ _ _ ?_
            show Z 77 _ _ _
            exact (f2 M3 (f1.tr g1)).1 ⟨q, q2⟩
        · skip
          refine hZ _ _ _ _ (br_t (by grind) ?_)
          exact (f2 M2 f1).2 (fun z => q z.1)
      have fin : ∀ (M2 : pM), mfr chW slE M M2 → Z 29 [some (vR (aS 18)), some (vI (nI k)), some (vI x), some (vI (fwN ρ (nI k) (2 ^ ρ.2.2.2.length - 1))), some (vI (bc (fwN ρ (nI k) (2 ^ ρ.2.2.2.length - 1)))), some (vI (nI (2 ^ ρ.2.2.2.length)))] [] M2 := by
        intro M2 f1
        have R2 := mR_W f1 R
        have hh := h M2 f1.WQ
        refine hZ _ _ _ _ (hZ _ _ _ _ (hZ _ _ _ _ (hZ _ _ _ _ (hZ _ _ _ _ ?_))))
        show Z 37 _ _ _
        rw [R2.2.2.1, p1]
        refine hZ _ _ _ _ (br_t (Int32.le_refl _) ?_)
        refine hZ _ _ _ _ ?_
        show Z 84 _ _ _
        by_cases q : x = 0
        · refine hZ _ _ _ _ (p_fn (q) ?_)
          refine hZ _ _ _ _ (hZ _ _ _ _ ?_)
          show Z 93 _ _ _
          refine hZ _ _ _ _ ?_
          rw [if_pos q] at hh
          exact hh
        · skip
          refine hZ _ _ _ _ (p_tn (q) ?_)
          refine hZ _ _ _ _ ?_
          show Z 93 _ _ _
          refine hZ _ _ _ _ ?_
          rw [if_neg q] at hh
          exact hh
      have loop : ∀ (n i : Nat) (a e : Int32) (M2 : pM), i + n = 2 ^ ρ.2.2.2.length - 1 → mfr chW slE M M2 → (a = -4 ∧ e = 1048576 ∧ fwN ρ (nI k) i = nI (2 ^ ρ.2.2.2.length - 1)) ∨ (∃ j, j < i ∧ a = nI j ∧ e = bc (nI j) ∧ fwN ρ (nI k) i = nI j) → Z 29 [some (vR (aS 18)), some (vI (nI k)), some (vI x), some (vI a), some (vI e), some (vI (nI i))] [] M2 := by
        intro n
        induction n with
        | zero =>
          intro i a e M2 e1 f1 f2
          have : i = 2 ^ ρ.2.2.2.length - 1 := by omega
          subst this
          have es : nI (2 ^ ρ.2.2.2.length - 1) + 1 = nI (2 ^ ρ.2.2.2.length) := by rw [nI_1]; congr 1; omega
          refine body _ a e M2 (by omega) f1 (fun M3 g1 => ⟨fun q => ?_, fun q => ?_⟩)
          · skip
            refine hZ _ _ _ _ (hZ _ _ _ _ ?_)
            show Z 29 _ _ _
            rw [es]
            have := fin M3 g1
            rcases f2 with ⟨x1, x2, x3⟩ | ⟨j, x0, x1, x2, x3⟩
            · rw [x3] at this
              exact this
            · have z := bc_fu ⟨ρ.2.2.2.length, by omega⟩ ⟨j, by omega⟩ x0
              have z : bc (nI j) < bc (nI (2 ^ ρ.2.2.2.length - 1)) := z
              have := q.1
              rw [x2] at this
              grind
          · skip
            refine hZ _ _ _ _ (hZ _ _ _ _ ?_)
            show Z 29 _ _ _
            rw [es]
            have := fin M3 g1
            rcases f2 with ⟨x1, x2, x3⟩ | ⟨j, x0, x1, x2, x3⟩
            · refine absurd ⟨?_, ?_⟩ q
              · rw [x2]
                exact bc_sm ⟨2 ^ ρ.2.2.2.length - 1, by omega⟩
              · rw [ir_fu ρ (by omega) _ (Nat.le_refl _) l3]
                have : ∀ u : Fin 5, ¬ bt1 s0.2.2.2 (nI u.val) = 1 := by decide
                exact this ⟨k, by omega⟩
            · rw [x3] at this
              rw [x1, x2]
              exact this
        | succ n ih =>
          intro i a e M2 e1 f1 f2
          refine body _ a e M2 (by omega) f1 (fun M3 g1 => ⟨fun q => ?_, fun q => ?_⟩)
          · skip
            refine hZ _ _ _ _ (hZ _ _ _ _ ?_)
            show Z 29 _ _ _
            rw [nI_1]
            refine ih (i + 1) _ _ M3 (by omega) g1 (Or.inr ⟨i, by omega, rfl, rfl, ?_⟩)
            refine if_pos ⟨?_, q.2⟩
            rcases f2 with ⟨x1, x2, x3⟩ | ⟨j, x0, x1, x2, x3⟩
            · rw [x3]
              exact bc_fu ⟨ρ.2.2.2.length, by omega⟩ ⟨i, by omega⟩ (show i < 2 ^ ρ.2.2.2.length - 1 by omega)
            · rw [x3, ← x2]
              exact q.1
          · skip
            refine hZ _ _ _ _ (hZ _ _ _ _ ?_)
            show Z 29 _ _ _
            rw [nI_1]
            refine ih (i + 1) a e M3 (by omega) g1 ?_
            rcases f2 with ⟨x1, x2, x3⟩ | ⟨j, x0, x1, x2, x3⟩
            · refine Or.inl ⟨x1, x2, ?_⟩
              have e2 : fwN ρ (nI k) (i + 1) = fwN ρ (nI k) i := if_neg (fun z => q ⟨by rw [x2]; exact bc_sm ⟨i, by omega⟩, z.2⟩)
              rw [e2]
              exact x3
            · refine Or.inr ⟨j, by omega, x1, x2, ?_⟩
              have e2 : fwN ρ (nI k) (i + 1) = fwN ρ (nI k) i := if_neg (fun z => q ⟨by rw [x2, ← x3]; exact z.1, z.2⟩)
              rw [e2]
              exact x3
      exact loop (2 ^ ρ.2.2.2.length - 1) 0 _ _ M (Nat.zero_add _) mfr_rf (Or.inl ⟨rfl, rfl, rfl⟩)
    · skip
      refine hZ _ _ _ _ (p_fn (rfl) ?_)
      refine hZ _ _ _ _ ?_
      show Z 18 _ _ _
      refine hZ _ _ _ _ ?_
      have := h M mfr_rf
      simp only [sp_leave, b1, if_neg c1] at this
      exact this
  · skip
    refine hZ _ _ _ _ (br_t (rfl) ?_)
    refine hZ _ _ _ _ ?_
    show Z 18 _ _ _
    refine hZ _ _ _ _ ?_
    have := h M mfr_rf
    simp only [sp_leave, b1] at this
    exact this
theorem bt_t : ∀ (g : Fin 128) (t u : Fin 7), bt1 (nI g.val ||| ((1 : Int32) <<< (nI t.val &&& 31))) (nI u.val) = if u = t then 1 else bt1 (nI g.val) (nI u.val) := by decide +kernel
/-- the set of those before n that hold t -/
def hs (f : Nat → Int32) (t : Int32) : Nat → Int32
  | 0 => 0
  | n + 1 => if f n = t then hs f t n ||| ((1 : Int32) <<< (nI n &&& 31)) else hs f t n
theorem hs_ok (f : Nat → Int32) (t : Int32) : ∀ n, n ≤ 7 → ∃ m, m < 128 ∧ hs f t n = nI m ∧ ∀ j, j < 7 → (bt1 (nI m) (nI j) = 1 ↔ j < n ∧ f j = t) := by
  intro n
  induction n with
  | zero =>
    intro _
    refine ⟨0, by decide, rfl, fun j hj => ⟨fun q => ?_, fun q => absurd q.1 (Nat.not_lt_zero j)⟩⟩
    have : ∀ u : Fin 7, ¬ bt1 (nI 0) (nI u.val) = 1 := by decide
    exact absurd q (this ⟨j, hj⟩)
  | succ n ih =>
    intro h
    obtain ⟨m, m1, m2, m3⟩ := ih (by omega)
    by_cases e : f n = t
    · have e1 : hs f t (n + 1) = hs f t n ||| ((1 : Int32) <<< (nI n &&& 31)) := if_pos e
      obtain ⟨o1, o2⟩ := or_t ⟨m, m1⟩ ⟨n, by omega⟩
      simp only at o1 o2
      refine ⟨_, o2, by rw [e1, m2]; exact o1, fun j hj => ?_⟩
      rw [← o1]
      have z := bt_t ⟨m, m1⟩ ⟨n, by omega⟩ ⟨j, hj⟩
      simp only [Fin.mk.injEq] at z
      rw [z]
      by_cases q : j = n
      · rw [if_pos q]
        exact ⟨fun _ => ⟨by omega, by rw [q]; exact e⟩, fun _ => rfl⟩
      · rw [if_neg q, m3 j hj]
        exact ⟨fun z => ⟨by omega, z.2⟩, fun z => ⟨by omega, z.2⟩⟩
    · have e1 : hs f t (n + 1) = hs f t n := if_neg e
      refine ⟨m, m1, e1.trans m2, fun j hj => ?_⟩
      rw [m3 j hj]
      refine ⟨fun z => ⟨by omega, z.2⟩, fun z => ⟨?_, z.2⟩⟩
      have : j ≠ n := fun q => e (by rw [← q]; exact z.2)
      omega
def chG (s : Nat) : Bool := Nat.beq s 21 || chW s
theorem chW_G : ∀ s, chG s = false → chW s = false := fun s h => by
  simp only [chG, Bool.or_eq_false_iff] at h
  exact h.2
theorem mfr_GW {M M' : pM} (h : mfr chG slE M M') (h1 : M'.1 (aS 21) = M.1 (aS 21)) : mfr chW slE M M' := by
  refine ⟨fun s a b => ?_, h.2.1, h.2.2.1, h.2.2.2⟩
  by_cases e : s = 21
  · rw [e]; exact h1
  · exact h.1 s a (by simp only [chG, b, p_beq_f e]; rfl)
theorem n_goneBy {C : pC} (hC : p_Lg true C) {d : Nat} {M : pM} {Q : pQ} {ρ : pRm} {t o : Int32} (k : Nat) (eo : o = nI k) (hk : k < ρ.1.length) (hd : 3 ≤ d) (hR : mR M ρ) (ok : okR ρ) (h : ∀ M', mfr chW slE M M' → Q M' (some (vI (bc (ev (hbR ρ t o)).1.2.2.2)))) : C d k_X8_goneBy M [vR (aS 18), vI t, vI o] Q := by
  have l1 := ok.1
  have l3 := ok.2.2.1
  have okh : okR (hbR ρ t o) := okR_hb ok eo hk
  obtain ⟨a1, a2, a3, a4, a5, a6⟩ := hR
  refine p_ent hC tb_X8_goneBy _ rfl rfl rfl (fun Z hZ => ?_)
  refine hZ _ _ _ _ (hZ _ _ _ _ (hZ _ _ _ _ (hZ _ _ _ _ ?_)))
  show Z 5 _ _ _
  have fin : ∀ (n i : Nat) (m : Nat) (M1 M2 : pM), i + n = ρ.2.2.2.length → m < 128 → (∀ j, j < 7 → (bt1 (nI m) (nI j) = 1 ↔ j < ρ.2.2.2.length ∧ M.1 (aS 21) j = t)) → mfr chG slE M M1 → (∀ j, M1.1 (aS 21) j = if j < ρ.2.2.2.length ∧ M.1 (aS 21) j = t then o else M.1 (aS 21) j) → mfr chG slE M M2 → mE M1 (hbR ρ t o) (ev (hbR ρ t o)) → mfr (Nat.beq 21) no M1 M2 → (∀ j, M2.1 (aS 21) j = if j < i then M.1 (aS 21) j else M1.1 (aS 21) j) → Z 54 [some (vR (aS 18)), some (vI t), some (vI o), some (vI (nI m)), some (vI (nI i))] [] M2 := by
    intro n
    induction n with
    | zero =>
      intro i m M1 M2 e1 hm f1 f2 f3 f4 f5 f6 f7
      have : i = ρ.2.2.2.length := by omega
      subst this
      refine hZ _ _ _ _ (hZ _ _ _ _ (hZ _ _ _ _ ?_))
      show Z 60 _ _ _
      refine hZ _ _ _ _ (br_t (by rw [f4.2.1 2 rfl, a3]; exact Int32.le_refl _) ?_)
      refine hZ _ _ _ _ ?_
      show Z 97 _ _ _
      refine hZ _ _ _ _ ⟨d - 1, by omega, n_gone hC (ρ := hbR ρ t o) ((f4.2.1 0 rfl).trans a1) okh (mE_cg f5 (f6.2.1 27 rfl) (f6.2.1 28 rfl) (f6.1 34 (by decide) rfl) (f6.1 33 (by decide) rfl)) (ev_I okh) ?_⟩
      refine hZ _ _ _ _ ?_
      refine h M2 (mfr_GW f4 ?_)
      funext j
      rw [f7]
      by_cases q : j < ρ.2.2.2.length
      · rw [if_pos q]
      · rw [if_neg q, f3, if_neg (fun z => q z.1)]
    | succ n ih =>
      intro i m M1 M2 e1 hm f1 f2 f3 f4 f5 f6 f7
      refine hZ _ _ _ _ (hZ _ _ _ _ (hZ _ _ _ _ ?_))
      show Z 60 _ _ _
      refine hZ _ _ _ _ (br_f (by rw [f4.2.1 2 rfl, a3]; exact nI_ge (by omega) (by omega)) ?_)
      refine hZ _ _ _ _ (hZ _ _ _ _ (hZ _ _ _ _ (hZ _ _ _ _ (hZ _ _ _ _ ?_))))
      show Z 72 _ _ _
      have step : ∀ y, y = M.1 (aS 21) i → Z 89 [some (vR (aS 18)), some (vI t), some (vI o), some (vI (nI m)), some (vI (nI i))] [vI y, vI (nI i), vR (aS 21)] M2 := by
        intro y ey
        subst ey
        refine hZ _ _ _ _ ⟨vp_in_nI (N := 8) (by omega) (by omega), ?_⟩
        rw [nI_clamp (by omega)]
        refine hZ _ _ _ _ (hZ _ _ _ _ ?_)
        show Z 54 _ _ _
        rw [nI_1]
        refine ih (i + 1) m M1 _ (by omega) hm f1 f2 f3 (mfr_wr f4 (by decide) rfl) f5 (mfr_wr f6 (by decide) rfl) (fun j => ?_)
        rw [p_wr_eq]
        by_cases q : j = i
        · rw [q, us, if_pos (by omega)]
        · rw [un q, f7]
          by_cases q2 : j < i
          · rw [if_pos q2, if_pos (by omega)]
          · rw [if_neg q2, if_neg (by omega)]
      have lg := f1 i (by omega)
      refine hZ _ _ _ _ ⟨d - 1, by omega, n_has hC (fun c1 => ?_) (fun c1 => ?_)⟩
      · skip
        refine hZ _ _ _ _ (br_f (by decide) ?_)
        refine hZ _ _ _ _ (hZ _ _ _ _ ?_)
        show Z 89 _ _ _
        exact step t (lg.mp c1).2.symm
      · skip
        refine hZ _ _ _ _ (br_t (rfl) ?_)
        refine hZ _ _ _ _ (hZ _ _ _ _ (hZ _ _ _ _ ?_))
        show Z 88 _ _ _
        refine hZ _ _ _ _ ⟨vp_in_nI (N := 8) (by omega) (by omega), ?_⟩
        rw [nI_clamp (by omega), f7, if_neg (Nat.lt_irrefl i), f3, if_neg (fun z => c1 (lg.mpr z))]
        exact step _ rfl
  have loop : ∀ (n i : Nat) (M2 : pM), i + n = ρ.2.2.2.length → mfr chG slE M M2 → (∀ j, M2.1 (aS 21) j = if j < i ∧ M.1 (aS 21) j = t then o else M.1 (aS 21) j) → Z 5 [some (vR (aS 18)), some (vI t), some (vI o), some (vI (hs (M.1 (aS 21)) t i)), some (vI (nI i))] [] M2 := by
    intro n
    induction n with
    | zero =>
      intro i M2 e1 f1 f2
      have : i = ρ.2.2.2.length := by omega
      subst this
      obtain ⟨m, m1, m2, m3⟩ := hs_ok (M.1 (aS 21)) t ρ.2.2.2.length l3
      have R2 : mR M2 (hbR ρ t o) := by
        refine ⟨(f1.2.1 0 rfl).trans a1, (f1.2.1 1 rfl).trans a2, ?_, (f1.2.1 3 rfl).trans a4, fun i y hy => ?_, fun c y hy => ?_⟩
        · rw [f1.2.1 2 rfl, a3]
          show _ = nI (List.map _ _).length
          rw [List.length_map]
        · rw [f1.1 19 (by decide) rfl, f1.1 20 (by decide) rfl]
          exact a5 i y hy
        · have hy : (List.map (fun x : pCl => if x.1 = t then (o, x.2) else x) ρ.2.2.2)[c]? = some y := hy
          rw [List.getElem?_map] at hy
          cases hx : ρ.2.2.2[c]? with
          | none => rw [hx] at hy; cases hy
          | some x =>
            rw [hx] at hy
            have hy : (if x.1 = t then (o, x.2) else x) = y := Option.some.inj hy
            obtain ⟨y1, y2, y3, y4⟩ := a6 c x hx
            have hc : c < ρ.2.2.2.length := (List.getElem?_eq_some_iff.mp hx).1
            rw [f2 c, f1.1 22 (by decide) rfl, f1.1 23 (by decide) rfl, f1.1 24 (by decide) rfl, y1, y2, y3, y4]
            by_cases q : x.1 = t
            · rw [if_pos q] at hy
              rw [if_pos ⟨hc, q⟩, ← hy]
              exact ⟨rfl, rfl, rfl, rfl⟩
            · rw [if_neg q] at hy
              rw [if_neg (fun z => q z.2), ← hy]
              exact ⟨rfl, rfl, rfl, rfl⟩
      rw [m2]
      refine hZ _ _ _ _ (hZ _ _ _ _ (hZ _ _ _ _ ?_))
      show Z 11 _ _ _
      refine hZ _ _ _ _ (br_t (by rw [f1.2.1 2 rfl, a3]; exact Int32.le_refl _) ?_)
      refine hZ _ _ _ _ (hZ _ _ _ _ ?_)
      show Z 48 _ _ _
      refine hZ _ _ _ _ ⟨d - 1, by omega, n_plain hC (by omega) R2 okh (fun M3 g1 g2 => ?_)⟩
      refine hZ _ _ _ _ (hZ _ _ _ _ ?_)
      show Z 54 _ _ _
      have F3 := f1.tr (g1.mono chW_G (fun _ z => z))
      have G3 : M3.1 (aS 21) = M2.1 (aS 21) := g1.1 21 (by decide) rfl
      exact fin ρ.2.2.2.length 0 m M3 M3 (by omega) m1 m3 F3 (fun j => by rw [G3]; exact f2 j) F3 g2 mfr_rf (fun j => by rw [if_neg (Nat.not_lt_zero j)])
    | succ n ih =>
      intro i M2 e1 f1 f2
      refine hZ _ _ _ _ (hZ _ _ _ _ (hZ _ _ _ _ ?_))
      show Z 11 _ _ _
      refine hZ _ _ _ _ (br_f (by rw [f1.2.1 2 rfl, a3]; exact nI_ge (by omega) (by omega)) ?_)
      refine hZ _ _ _ _ (hZ _ _ _ _ (hZ _ _ _ _ ?_))
      show Z 20 _ _ _
      refine hZ _ _ _ _ ⟨vp_in_nI (N := 8) (by omega) (by omega), ?_⟩
      rw [nI_clamp (by omega), f2 i, if_neg (fun z => Nat.lt_irrefl i z.1)]
      refine hZ _ _ _ _ ?_
      show Z 22 _ _ _
      by_cases q : M.1 (aS 21) i = t
      · refine hZ _ _ _ _ (p_fn (q) ?_)
        refine hZ _ _ _ _ (hZ _ _ _ _ (hZ _ _ _ _ (hZ _ _ _ _ (hZ _ _ _ _ (hZ _ _ _ _ (hZ _ _ _ _ (hZ _ _ _ _ (hZ _ _ _ _ (hZ _ _ _ _ ?_)))))))))
        show Z 39 _ _ _
        refine hZ _ _ _ _ ⟨vp_in_nI (N := 8) (by omega) (by omega), ?_⟩
        rw [nI_clamp (by omega)]
        refine hZ _ _ _ _ (hZ _ _ _ _ ?_)
        show Z 5 _ _ _
        have e2 : hs (M.1 (aS 21)) t (i + 1) = hs (M.1 (aS 21)) t i ||| ((1 : Int32) <<< (nI i &&& 31)) := if_pos q
        have := ih (i + 1) (p_wr M2 (aS 21) i o) (by omega) (mfr_wr f1 (by decide) rfl) (fun j => by
          rw [p_wr_eq]
          by_cases z : j = i
          · rw [z, us, if_pos ⟨by omega, q⟩]
          · rw [un z, f2 j]
            by_cases z2 : j < i ∧ M.1 (aS 21) j = t
            · rw [if_pos z2, if_pos ⟨by omega, z2.2⟩]
            · rw [if_neg z2, if_neg (fun w => z2 ⟨by omega, w.2⟩)])
        rw [e2, ← nI_1] at this
        exact this
      · skip
        refine hZ _ _ _ _ (p_tn (q) ?_)
        refine hZ _ _ _ _ (hZ _ _ _ _ ?_)
        show Z 5 _ _ _
        have e2 : hs (M.1 (aS 21)) t (i + 1) = hs (M.1 (aS 21)) t i := if_neg q
        have := ih (i + 1) M2 (by omega) f1 (fun j => by
          rw [f2 j]
          by_cases z2 : j < i ∧ M.1 (aS 21) j = t
          · rw [if_pos z2, if_pos ⟨by omega, z2.2⟩]
          · rw [if_neg z2, if_neg (fun w => z2 ⟨by
              have : j ≠ i := fun w2 => q (by rw [← w2]; exact w.2)
              omega, w.2⟩)])
        rw [e2, ← nI_1] at this
        exact this
  exact loop ρ.2.2.2.length 0 M (Nat.zero_add _) mfr_rf (fun j => by rw [if_neg (fun z => absurd z.1 (Nat.not_lt_zero j))])
theorem bc_32 : ∀ n : Fin 32, bc (nI n.val) < 6 ∧ bc (nI n.val) < 1048576 := by decide +kernel
theorem n_holds {C : pC} (hC : p_Lg true C) {d : Nat} {M : pM} {Q : pQ} {S : pS} {t x : Int32} (hd : 4 ≤ d) (hS : mS M S) (ok : okS S) (h : ∀ M', mfr chQ slQ M M' → Q M' (some (vI (sp_holds S t x).2))) : C d k_X8_holds M [vR (aS 18), vI t, vI x] Q := by
  have l1 := ok.1.1
  have l3 := ok.1.2.2.1
  refine p_ent hC tb_X8_holds _ rfl rfl rfl (fun Z hZ => ?_)
  refine hZ _ _ _ _ (hZ _ _ _ _ ?_)
  show Z 2 _ _ _
  refine hZ _ _ _ _ ⟨d - 1, by omega, n_isTeller hC (by omega) hS.2.1 ok.1 (fun k b1 b2 b3 => ?_) (fun b1 => ?_)⟩
  · skip
    refine hZ _ _ _ _ (br_f (by decide) ?_)
    refine hZ _ _ _ _ (hZ _ _ _ _ (hZ _ _ _ _ ?_))
    show Z 11 _ _ _
    refine hZ _ _ _ _ ⟨d - 1, by omega, n_in hC (fun c1 c2 => ?_) (fun c1 => ?_)⟩
    · skip
      refine hZ _ _ _ _ (p_tn (by decide) ?_)
      refine hZ _ _ _ _ (hZ _ _ _ _ (hZ _ _ _ _ (hZ _ _ _ _ (hZ _ _ _ _ (hZ _ _ _ _ ?_)))))
      show Z 29 _ _ _
      simp only [sp_holds, b1, if_pos (And.intro c1 c2)] at h
      have R := hS.2.1
      have okρ := ok.1
      have ge1 := ok.2.1
      generalize S.2.1 = ρ at *
      have loop : ∀ (n i : Nat) (a e : Int32) (x6 : Option pV) (M2 : pM), i + n = ρ.1.length → mfr chW slE M M2 → (i = 0 ∧ a = -4 ∧ e = 1048576) ∨ (1 ≤ i ∧ a = (hdN ρ t i).1 ∧ e = (hdN ρ t i).2) → Z 29 [some (vR (aS 18)), some (vI t), some (vI x), some (vI a), some (vI e), some (vI (nI i)), x6] [] M2 := by
        intro n
        induction n with
        | zero =>
          intro i a e x6 M2 e1 f1 f2
          have : i = ρ.1.length := by omega
          subst this
          have hh := h M2 f1.WQ
          rcases f2 with ⟨z, _⟩ | ⟨-, z1, z2⟩
          · omega
          · skip
            refine hZ _ _ _ _ (hZ _ _ _ _ (hZ _ _ _ _ ?_))
            show Z 35 _ _ _
            refine hZ _ _ _ _ (br_t (by rw [(mR_W f1 R).1]; exact Int32.le_refl _) ?_)
            refine hZ _ _ _ _ ?_
            show Z 84 _ _ _
            by_cases q : x = 0
            · refine hZ _ _ _ _ (p_fn (q) ?_)
              refine hZ _ _ _ _ (hZ _ _ _ _ ?_)
              show Z 93 _ _ _
              refine hZ _ _ _ _ ?_
              rw [if_pos q] at hh
              rw [z1]
              exact hh
            · skip
              refine hZ _ _ _ _ (p_tn (q) ?_)
              refine hZ _ _ _ _ ?_
              show Z 93 _ _ _
              refine hZ _ _ _ _ ?_
              rw [if_neg q] at hh
              rw [z2]
              exact hh
        | succ n ih =>
          intro i a e x6 M2 e1 f1 f2
          have hi : i < ρ.1.length := by omega
          obtain ⟨g, g1, g2⟩ := (ev_I (okR_hb (t := t) okρ (rfl : nI i = nI i) hi)).2.2.1
          obtain ⟨s1, s2⟩ := bc_32 ⟨g, g1⟩
          simp only at s1 s2
          rw [← g2] at s1 s2
          refine hZ _ _ _ _ (hZ _ _ _ _ (hZ _ _ _ _ ?_))
          show Z 35 _ _ _
          refine hZ _ _ _ _ (br_f (by rw [(mR_W f1 R).1]; exact nI_ge hi (by omega)) ?_)
          refine hZ _ _ _ _ (hZ _ _ _ _ (hZ _ _ _ _ ?_))
          show Z 42 _ _ _
          refine hZ _ _ _ _ ⟨d - 1, by omega, n_goneBy hC i rfl hi (by omega) (mR_W f1 R) okρ (fun M3 j1 => ?_)⟩
          have step : ∀ a' e', a' = (hdN ρ t (i + 1)).1 → e' = (hdN ρ t (i + 1)).2 → Z 29 [some (vR (aS 18)), some (vI t), some (vI x), some (vI a'), some (vI e'), some (vI (nI i + 1)), some (vI (bc (ev (hbR ρ t (nI i))).1.2.2.2))] [] M3 := by
            intro a' e' y1 y2
            rw [nI_1]
            exact ih (i + 1) a' e' _ M3 (by omega) (f1.tr j1) (Or.inr ⟨by omega, y1, y2⟩)
          have hdS : hdN ρ t (i + 1) = if bc (ev (hbR ρ t (nI i))).1.2.2.2 < (hdN ρ t i).2 then (nI i, bc (ev (hbR ρ t (nI i))).1.2.2.2) else hdN ρ t i := rfl
          generalize bc (ev (hbR ρ t (nI i))).1.2.2.2 = u at s1 s2 step hdS ⊢
          refine hZ _ _ _ _ (hZ _ _ _ _ (hZ _ _ _ _ ?_))
          show Z 51 _ _ _
          rcases f2 with ⟨z0, z1, z2⟩ | ⟨-, z1, z2⟩
          · subst z0
            have e0 : hdN ρ t (0 + 1) = (nI 0, u) := by rw [hdS]; exact if_pos s1
            rw [e0] at step
            refine hZ _ _ _ _ (br_f (by rw [z2]; grind) ?_)
            refine hZ _ _ _ _ (hZ _ _ _ _ (hZ _ _ _ _ (hZ _ _ _ _ (hZ _ _ _ _ ?_))))
            show Z 65 _ _ _
            refine hZ _ _ _ _ (br_f (by rw [z2]; grind) ?_)
            refine hZ _ _ _ _ (hZ _ _ _ _ (hZ _ _ _ _ (hZ _ _ _ _ (hZ _ _ _ _ ?_))))
            show Z 29 _ _ _
            exact step _ _ rfl rfl
          · skip
            by_cases q : u < (hdN ρ t i).2
            · rw [if_pos q] at hdS
              rw [hdS] at step
              refine hZ _ _ _ _ (br_f (by rw [z2]; grind) ?_)
              refine hZ _ _ _ _ (hZ _ _ _ _ (hZ _ _ _ _ (hZ _ _ _ _ (hZ _ _ _ _ ?_))))
              show Z 65 _ _ _
              refine hZ _ _ _ _ (br_f (by rw [z2]; grind) ?_)
              refine hZ _ _ _ _ (hZ _ _ _ _ (hZ _ _ _ _ (hZ _ _ _ _ (hZ _ _ _ _ ?_))))
              show Z 29 _ _ _
              exact step _ _ rfl rfl
            · skip
              rw [if_neg q] at hdS
              rw [hdS] at step
              refine hZ _ _ _ _ (br_t (by rw [z2]; grind) ?_)
              refine hZ _ _ _ _ (hZ _ _ _ _ (hZ _ _ _ _ (hZ _ _ _ _ ?_)))
              show Z 65 _ _ _
              refine hZ _ _ _ _ (br_t (by rw [z2]; grind) ?_)
              refine hZ _ _ _ _ (hZ _ _ _ _ (hZ _ _ _ _ (hZ _ _ _ _ ?_)))
              show Z 29 _ _ _
              exact step _ _ z1 z2
      exact loop ρ.1.length 0 _ _ _ M (Nat.zero_add _) mfr_rf (Or.inl ⟨rfl, rfl, rfl⟩)
    · skip
      refine hZ _ _ _ _ (p_fn (rfl) ?_)
      refine hZ _ _ _ _ ?_
      show Z 18 _ _ _
      refine hZ _ _ _ _ ?_
      have := h M mfr_rf
      simp only [sp_holds, b1, if_neg c1] at this
      exact this
  · skip
    refine hZ _ _ _ _ (br_t (rfl) ?_)
    refine hZ _ _ _ _ ?_
    show Z 18 _ _ _
    refine hZ _ _ _ _ ?_
    have := h M mfr_rf
    simp only [sp_holds, b1] at this
    exact this
