/-! the model: the next row -/
def gt : List Nat → Nat → Nat
  | [], _ => 0
  | x :: _, 0 => x
  | _ :: l, n + 1 => gt l n
def fndK (l : List Nat) : Nat → Option Nat
  | 0 => none
  | k + 1 => cond (Nat.blt (gt l (k + 1)) (gt l k)) (fndK l k) (some k)
def fndJ (l : List Nat) (x : Nat) : Nat → Nat
  | 0 => 0
  | j + 1 => cond (Nat.blt (gt l (j + 1)) x) (fndJ l x j) (j + 1)
def sw (l : List Nat) (a b : Nat) : List Nat := (l.set a (gt l b)).set b (gt l a)
def rv : Nat → List Nat → Nat → Nat → List Nat
  | 0, l, _, _ => l
  | n + 1, l, a, b => cond (Nat.blt a b) (rv n (sw l a b) (a + 1) (b - 1)) l
def nx (l : List Nat) : Option (List Nat) := match fndK l (l.length - 1) with
  | none => none
  | some k => some (rv 7 (sw l k (fndJ l (gt l k) (l.length - 1))) (k + 1) (l.length - 1))
theorem gt_get : ∀ (l : List Nat) (k : Nat), k < l.length → l[k]? = some (gt l k) := by
  intro l
  induction l with
  | nil => intro k h; cases h
  | cons x l ih =>
    intro k h
    cases k with
    | zero => rfl
    | succ k => exact ih k (by simp only [List.length_cons] at h; omega)
theorem gt_mem {l : List Nat} {k : Nat} (h : k < l.length) : gt l k ∈ l := List.mem_of_getElem? (gt_get l k h)
theorem p_blt_t {n m : Nat} (h : n < m) : Nat.blt n m = true := Nat.ble_eq_true_of_le h
theorem sw_len (l : List Nat) (a b : Nat) : (sw l a b).length = l.length := by simp only [sw, List.length_set]
theorem row_sw {M M' : pM} {s : Nat} {l : List Nat} {a b : Nat} (hr : rowR M s l) (ha : a < l.length) (hb : b < l.length) (e : M'.1 (aS s) = upd (upd (M.1 (aS s)) a (M.1 (aS s) b)) b (M.1 (aS s) a)) : rowR M' s (sw l a b) := by
  intro i x hx
  have qa := hr a _ (gt_get l a ha)
  have qb := hr b _ (gt_get l b hb)
  simp only [sw] at hx
  rw [e, qa, qb]
  by_cases e1 : i = b
  · subst e1
    rw [List.getElem?_set_self (by rw [List.length_set]; exact hb)] at hx
    rw [us, Option.some.inj hx]
  · rw [List.getElem?_set_ne (fun q => e1 q.symm)] at hx
    rw [un e1]
    by_cases e2 : i = a
    · subst e2
      rw [List.getElem?_set_self ha] at hx
      rw [us, Option.some.inj hx]
    · rw [List.getElem?_set_ne (fun q => e2 q.symm)] at hx
      rw [un e2]
      exact hr i x hx
theorem n_nextRow {C : pC} (hC : p_Lg true C) {d : Nat} {M : pM} {Q : pQ} {l : List Nat} (hm : M.1 (aS 18) 2 = nI l.length) (hl : l.length ≤ 7) (hr : rowR M 32 l) (hs : ∀ x ∈ l, x < 7) (h1 : ∀ l' M', nx l = some l' → mfr (Nat.beq 32) no M M' → rowR M' 32 l' → Q M' (some (vI 1))) (h0 : nx l = none → Q M (some (vI 0))) : C d k_X8_nextRow M [vR (aS 18)] Q := by
  have rd : ∀ k, k < l.length → M.1 (aS 32) k = nI (gt l k) := fun k hk => hr k _ (gt_get l k hk)
  have r7 : ∀ k, k < l.length → gt l k < 7 := fun k hk => hs _ (gt_mem hk)
  refine p_ent hC tb_X8_nextRow _ rfl rfl rfl (fun Z hZ => ?_)
  refine hZ _ _ _ _ (hZ _ _ _ _ (hZ _ _ _ _ (hZ _ _ _ _ (hZ _ _ _ _ ?_))))
  show Z 7 _ _ _
  rw [hm]
  have found : ∀ (k : Nat) (y2 y3 y4 y5 y6 : Option pV), k + 1 < l.length → fndK l (l.length - 1) = some k → Z 40 [some (vR (aS 18)), some (vI (nI k)), y2, y3, y4, y5, y6] [] M := by
    intro k y2 y3 y4 y5 y6 hk ek
    have epr : nI l.length - 1 = nI (l.length - 1) := by rw [show l.length = (l.length - 1) + 1 by omega]; exact nI_pred _
    refine hZ _ _ _ _ (hZ _ _ _ _ (hZ _ _ _ _ (hZ _ _ _ _ (hZ _ _ _ _ ?_))))
    show Z 47 _ _ _
    rw [hm, epr]
    have swp : ∀ j, j < l.length → fndJ l (gt l k) (l.length - 1) = j → Z 68 [some (vR (aS 18)), some (vI (nI k)), some (vI (nI j)), y3, y4, y5, y6] [] M := by
      intro j hj ej
      have h1' := fun M' => h1 (rv 7 (sw l k j) (k + 1) (l.length - 1)) M' (by simp only [nx, ek, ej])
      refine hZ _ _ _ _ (hZ _ _ _ _ (hZ _ _ _ _ ?_))
      show Z 73 _ _ _
      refine hZ _ _ _ _ ⟨vp_in_nI (N := 8) (by omega) (by omega), ?_⟩
      rw [nI_clamp (by omega)]
      refine hZ _ _ _ _ (hZ _ _ _ _ (hZ _ _ _ _ (hZ _ _ _ _ (hZ _ _ _ _ (hZ _ _ _ _ (hZ _ _ _ _ ?_))))))
      show Z 85 _ _ _
      refine hZ _ _ _ _ ⟨vp_in_nI (N := 8) (by omega) (by omega), ?_⟩
      rw [nI_clamp (by omega)]
      refine hZ _ _ _ _ ⟨vp_in_nI (N := 8) (by omega) (by omega), ?_⟩
      rw [nI_clamp (by omega)]
      refine hZ _ _ _ _ (hZ _ _ _ _ (hZ _ _ _ _ (hZ _ _ _ _ ?_)))
      show Z 93 _ _ _
      refine hZ _ _ _ _ ⟨vp_in_nI (N := 8) (by omega) (by omega), ?_⟩
      rw [nI_clamp (by omega)]
      have F1 : mfr (Nat.beq 32) no M (p_wr (p_wr M (aS 32) k (M.1 (aS 32) j)) (aS 32) j (M.1 (aS 32) k)) := mfr_wr (mfr_wr mfr_rf (by decide) rfl) (by decide) rfl
      have R1 : rowR (p_wr (p_wr M (aS 32) k (M.1 (aS 32) j)) (aS 32) j (M.1 (aS 32) k)) 32 (sw l k j) := row_sw hr (by omega) hj (by rw [p_wr_eq, p_wr_eq])
      generalize p_wr (p_wr M (aS 32) k (M.1 (aS 32) j)) (aS 32) j (M.1 (aS 32) k) = M1 at F1 R1 ⊢
      refine hZ _ _ _ _ (hZ _ _ _ _ (hZ _ _ _ _ (hZ _ _ _ _ (hZ _ _ _ _ (hZ _ _ _ _ (hZ _ _ _ _ (hZ _ _ _ _ (hZ _ _ _ _ ?_))))))))
      show Z 107 _ _ _
      rw [F1.2.1 2 rfl, hm, epr, show nI k + 1 = nI (k + 1) from nI_1 k]
      have fin : ∀ (l2 : List Nat) (a b : Nat) (M2 : pM) (y6 : Option pV), a ≤ 7 → b ≤ a → mfr (Nat.beq 32) no M M2 → rowR M2 32 l2 → rv 7 (sw l k j) (k + 1) (l.length - 1) = l2 → Z 107 [some (vR (aS 18)), some (vI (nI k)), some (vI (nI j)), some (vI (M.1 (aS 32) k)), some (vI (nI b)), some (vI (nI a)), y6] [] M2 := by
        intro l2 a b M2 y6 q0 q3 q4 q5 q6
        refine hZ _ _ _ _ (hZ _ _ _ _ ?_)
        show Z 111 _ _ _
        refine hZ _ _ _ _ (br_t (nI_le q3 (by omega)) ?_)
        refine hZ _ _ _ _ ?_
        show Z 156 _ _ _
        refine hZ _ _ _ _ ⟨Or.inr rfl, ?_⟩
        rw [q6] at h1'
        exact h1' M2 q4 q5
      have loop : ∀ (n : Nat) (l2 : List Nat) (a b : Nat) (M2 : pM) (y6 : Option pV), l2.length = l.length → a ≤ 7 → b < l.length → b ≤ a + n → mfr (Nat.beq 32) no M M2 → rowR M2 32 l2 → rv 7 (sw l k j) (k + 1) (l.length - 1) = rv n l2 a b → Z 107 [some (vR (aS 18)), some (vI (nI k)), some (vI (nI j)), some (vI (M.1 (aS 32) k)), some (vI (nI b)), some (vI (nI a)), y6] [] M2 := by
        intro n
        induction n with
        | zero =>
          intro l2 a b M2 y6 q1 q0 q2 q3 q4 q5 q6
          exact fin l2 a b M2 y6 q0 (by omega) q4 q5 q6
        | succ n ih =>
          intro l2 a b M2 y6 q1 q0 q2 q3 q4 q5 q6
          by_cases c : a < b
          · have e1 : rv (n + 1) l2 a b = rv n (sw l2 a b) (a + 1) (b - 1) := by simp only [rv, p_blt_t c, cond_true]
            refine hZ _ _ _ _ (hZ _ _ _ _ ?_)
            show Z 111 _ _ _
            refine hZ _ _ _ _ (br_f (nI_ge c (by omega)) ?_)
            refine hZ _ _ _ _ (hZ _ _ _ _ (hZ _ _ _ _ ?_))
            show Z 120 _ _ _
            refine hZ _ _ _ _ ⟨vp_in_nI (N := 8) (by omega) (by omega), ?_⟩
            rw [nI_clamp (by omega)]
            refine hZ _ _ _ _ (hZ _ _ _ _ (hZ _ _ _ _ (hZ _ _ _ _ (hZ _ _ _ _ (hZ _ _ _ _ (hZ _ _ _ _ ?_))))))
            show Z 135 _ _ _
            refine hZ _ _ _ _ ⟨vp_in_nI (N := 8) (by omega) (by omega), ?_⟩
            rw [nI_clamp (by omega)]
            refine hZ _ _ _ _ ⟨vp_in_nI (N := 8) (by omega) (by omega), ?_⟩
            rw [nI_clamp (by omega)]
            refine hZ _ _ _ _ (hZ _ _ _ _ (hZ _ _ _ _ (hZ _ _ _ _ ?_)))
            show Z 145 _ _ _
            refine hZ _ _ _ _ ⟨vp_in_nI (N := 8) (by omega) (by omega), ?_⟩
            rw [nI_clamp (by omega)]
            have F3 : mfr (Nat.beq 32) no M (p_wr (p_wr M2 (aS 32) a (M2.1 (aS 32) b)) (aS 32) b (M2.1 (aS 32) a)) := mfr_wr (mfr_wr q4 (by decide) rfl) (by decide) rfl
            have R3 : rowR (p_wr (p_wr M2 (aS 32) a (M2.1 (aS 32) b)) (aS 32) b (M2.1 (aS 32) a)) 32 (sw l2 a b) := row_sw q5 (by omega) (by omega) (by rw [p_wr_eq, p_wr_eq])
            refine hZ _ _ _ _ (hZ _ _ _ _ (hZ _ _ _ _ ?_))
            show Z 107 _ _ _
            rw [show nI a + 1 = nI (a + 1) from nI_1 a, show nI b + (-1) = nI (b - 1) from by rw [show b = (b - 1) + 1 by omega]; exact pk_m1 _]
            exact ih (sw l2 a b) (a + 1) (b - 1) _ _ (by rw [sw_len]; exact q1) (by omega) (by omega) (by omega) F3 R3 (q6.trans e1)
          · have e1 : rv (n + 1) l2 a b = l2 := by simp only [rv, p_blt_ge (show b ≤ a by omega), cond_false]
            exact fin l2 a b M2 y6 q0 (by omega) q4 q5 (q6.trans e1)
      exact loop 7 (sw l k j) (k + 1) (l.length - 1) M1 _ (sw_len _ _ _) (by omega) (by omega) (by omega) F1 R1 rfl
    have loopJ : ∀ j, k ≤ j → j < l.length → fndJ l (gt l k) (l.length - 1) = fndJ l (gt l k) j → Z 47 [some (vR (aS 18)), some (vI (nI k)), some (vI (nI j)), y3, y4, y5, y6] [] M := by
      intro j
      induction j with
      | zero =>
        intro q1 q2 q3
        have k0 : k = 0 := by omega
        refine hZ _ _ _ _ (hZ _ _ _ _ (hZ _ _ _ _ ?_))
        show Z 52 _ _ _
        refine hZ _ _ _ _ ⟨vp_in_nI (N := 8) (n := 0) (by omega) (by omega), ?_⟩
        refine hZ _ _ _ _ (hZ _ _ _ _ (hZ _ _ _ _ ?_))
        show Z 58 _ _ _
        refine hZ _ _ _ _ ⟨vp_in_nI (N := 8) (by omega) (by omega), ?_⟩
        rw [nI_clamp (by omega), nI_clamp (by omega)]
        refine hZ _ _ _ _ (br_t (by rw [k0]; exact Int32.le_refl _) ?_)
        exact swp 0 q2 q3
      | succ j ih =>
        intro q1 q2 q3
        have rj := r7 (j + 1) q2
        have rk := r7 k (by omega)
        refine hZ _ _ _ _ (hZ _ _ _ _ (hZ _ _ _ _ ?_))
        show Z 52 _ _ _
        refine hZ _ _ _ _ ⟨vp_in_nI (N := 8) (by omega) (by omega), ?_⟩
        refine hZ _ _ _ _ (hZ _ _ _ _ (hZ _ _ _ _ ?_))
        show Z 58 _ _ _
        refine hZ _ _ _ _ ⟨vp_in_nI (N := 8) (by omega) (by omega), ?_⟩
        rw [nI_clamp (by omega), nI_clamp (by omega), rd (j + 1) q2, rd k (by omega)]
        by_cases c : gt l (j + 1) < gt l k
        · have e1 : fndJ l (gt l k) (j + 1) = fndJ l (gt l k) j := by simp only [fndJ, p_blt_t c, cond_true]
          refine hZ _ _ _ _ (br_f (nI_ge c (by omega)) ?_)
          refine hZ _ _ _ _ (hZ _ _ _ _ ?_)
          show Z 47 _ _ _
          rw [show nI (j + 1) + (-1) = nI j from pk_m1 _]
          have : ¬ k = j + 1 := fun e => by rw [e] at c; omega
          exact ih (by omega) (by omega) (q3.trans e1)
        · have e1 : fndJ l (gt l k) (j + 1) = j + 1 := by simp only [fndJ, p_blt_ge (show gt l k ≤ gt l (j + 1) by omega), cond_false]
          refine hZ _ _ _ _ (br_t (nI_le (by omega) (by omega)) ?_)
          exact swp (j + 1) q2 (q3.trans e1)
    exact loopJ (l.length - 1) (by omega) (by omega) rfl
  have loopK : ∀ (n : Nat) (kv : Int32) (y2 y3 y4 y5 y6 : Option pV), n ≤ l.length - 1 → (n = 0 ∧ kv < 0) ∨ (∃ k, n = k + 1 ∧ kv = nI k) → fndK l (l.length - 1) = fndK l n → Z 7 [some (vR (aS 18)), some (vI kv), y2, y3, y4, y5, y6] [] M := by
    intro n
    induction n with
    | zero =>
      intro kv y2 y3 y4 y5 y6 q1 q2 q3
      have neg : kv < 0 := by
        rcases q2 with q | ⟨k, q, _⟩
        · exact q.2
        · omega
      refine hZ _ _ _ _ ?_
      show Z 8 _ _ _
      refine hZ _ _ _ _ (br_t (neg) ?_)
      refine hZ _ _ _ _ ?_
      show Z 35 _ _ _
      refine hZ _ _ _ _ (br_f (Int32.not_le.mpr neg) ?_)
      refine hZ _ _ _ _ ?_
      show Z 39 _ _ _
      refine hZ _ _ _ _ ⟨Or.inl rfl, ?_⟩
      refine h0 ?_
      have : fndK l (l.length - 1) = none := q3
      simp only [nx, this]
    | succ n ih =>
      intro kv y2 y3 y4 y5 y6 q1 q2 q3
      have ekv : kv = nI n := by
        rcases q2 with q | ⟨k, q, e⟩
        · omega
        · rw [e, show k = n by omega]
      subst ekv
      have rj := r7 (n + 1) (by omega)
      have rk := r7 n (by omega)
      refine hZ _ _ _ _ ?_
      show Z 8 _ _ _
      refine hZ _ _ _ _ (br_f (nI_pos (by omega)) ?_)
      refine hZ _ _ _ _ (hZ _ _ _ _ (hZ _ _ _ _ ?_))
      show Z 16 _ _ _
      refine hZ _ _ _ _ ⟨vp_in_nI (N := 8) (by omega) (by omega), ?_⟩
      refine hZ _ _ _ _ (hZ _ _ _ _ (hZ _ _ _ _ (hZ _ _ _ _ (hZ _ _ _ _ ?_))))
      show Z 24 _ _ _
      rw [show nI n + 1 = nI (n + 1) from nI_1 n]
      refine hZ _ _ _ _ ⟨vp_in_nI (N := 8) (by omega) (by omega), ?_⟩
      rw [nI_clamp (by omega), nI_clamp (by omega), rd (n + 1) (by omega), rd n (by omega)]
      by_cases c : gt l (n + 1) < gt l n
      · have e1 : fndK l (n + 1) = fndK l n := by simp only [fndK, p_blt_t c, cond_true]
        refine hZ _ _ _ _ (br_f (nI_ge c (by omega)) ?_)
        refine hZ _ _ _ _ (hZ _ _ _ _ ?_)
        show Z 7 _ _ _
        refine ih _ _ _ _ _ _ (by omega) ?_ (q3.trans e1)
        rcases n with _ | n
        · exact Or.inl ⟨rfl, by decide⟩
        · exact Or.inr ⟨n, rfl, pk_m1 _⟩
      · have e1 : fndK l (n + 1) = some n := by simp only [fndK, p_blt_ge (show gt l n ≤ gt l (n + 1) by omega), cond_false]
        refine hZ _ _ _ _ (br_t (nI_le (by omega) (by omega)) ?_)
        refine hZ _ _ _ _ ?_
        show Z 35 _ _ _
        refine hZ _ _ _ _ (br_t (nI_pos' (by omega)) ?_)
        exact found n _ _ _ _ _ (by omega) (q3.trans e1)
  refine loopK (l.length - 1) _ _ _ _ _ _ (Nat.le_refl _) ?_ rfl
  rcases l with _ | ⟨x, _ | ⟨y, l⟩⟩
  · exact Or.inl ⟨rfl, by decide⟩
  · exact Or.inl ⟨rfl, show nI 1 - 2 < 0 by decide⟩
  · refine Or.inr ⟨l.length, rfl, ?_⟩
    exact pk_sub (a := l.length + 2) (b := 2) (by omega)
