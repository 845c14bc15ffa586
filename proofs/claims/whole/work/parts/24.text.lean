/-! THE TEXT and its reading. pk: the letter at a place, 0 behind the last; rd1: a number and its sign; item: an item into a room; rdT: all -/
def pk (T : List Int32) (p : Nat) : Int32 := (T[p]?).getD 0
def fig (x : Int32) : Bool := decide (48 ≤ x ∧ x ≤ 57)
def rd1 (T : List Int32) (p : Nat) (e : Int32) : Option (Int32 × Nat) :=
  if fig (pk T p) then
    (if fig (pk T (p + 1)) then (if pk T (p + 2) = e then some (10 * (pk T p - 48) + pk T (p + 1) - 48, p + 3) else none)
    else (if pk T (p + 1) = e then some (pk T p - 48, p + 2) else none))
  else none
def rdN (T : List Int32) : Nat → Nat → Option (List Int32 × Nat)
  | p, 0 => some ([], p)
  | p, m + 1 => match rd1 T p (if m = 0 then 59 else 44) with
    | none => none
    | some q => match rdN T q.2 m with
      | none => none
      | some r => some (q.1 :: r.1, r.2)
def item (T : List Int32) (p : Nat) (ρ : pRm) : Option (pRm × Nat) :=
  if pk T p = 116 then (match rdN T (p + 1) 2 with
    | some ([k, g], q) => if ρ.1.length < 5 ∧ (0 ≤ k ∧ k ≤ 3) ∧ (1 ≤ g ∧ g ≤ 40) then some ((ρ.1 ++ [(k, g)], ρ.2), q) else none
    | _ => none)
  else if pk T p = 102 then (match rdN T (p + 1) 1 with
    | some ([v], q) => if ρ.2.1 < 6 ∧ 0 ≤ v ∧ v ≤ 1 then some ((ρ.1, ρ.2.1 + 1, ρ.2.2.1 ||| (v <<< (nI ρ.2.1 &&& 31)), ρ.2.2.2), q) else none
    | _ => none)
  else if pk T p = 99 then (match rdN T (p + 1) 4 with
    | some ([t, f, v, w], q) => if ρ.2.2.2.length < 7 ∧ alw ρ t f v w = true then some ((ρ.1, ρ.2.1, ρ.2.2.1, ρ.2.2.2 ++ [(t, f, v, w)]), q) else none
    | _ => none)
  else none
def rdT (T : List Int32) : Nat → Nat → pRm → Option Nat × pRm
  | 0, _, ρ => (none, ρ)
  | m + 1, p, ρ => if p < T.length then (match item T p ρ with
    | none => (some p, ρ)
    | some q => rdT T m q.2 q.1) else (none, ρ)
def ρ0 : pRm := ([], 0, 0, [])
theorem rd1_lt {T : List Int32} {p q : Nat} {e v : Int32} (h : rd1 T p e = some (v, q)) : p < q ∧ q ≤ p + 3 := by
  simp only [rd1] at h
  split at h
  · split at h
    · split at h
      · cases h; omega
      · cases h
    · split at h
      · cases h; omega
      · cases h
  · cases h
theorem rdN_lt {T : List Int32} : ∀ (m p q : Nat) (l : List Int32), rdN T p m = some (l, q) → p ≤ q ∧ q ≤ p + 3 * m ∧ l.length = m := by
  intro m
  induction m with
  | zero => intro p q l h; cases h; exact ⟨Nat.le_refl _, by omega, rfl⟩
  | succ m ih =>
    intro p q l h
    simp only [rdN] at h
    cases e1 : rd1 T p (if m = 0 then 59 else 44) with
    | none => rw [e1] at h; cases h
    | some a =>
      obtain ⟨v, a⟩ := a
      simp only [e1] at h
      have h1 := rd1_lt e1
      cases e2 : rdN T a m with
      | none => rw [e2] at h; cases h
      | some r =>
        obtain ⟨r, s⟩ := r
        simp only [e2] at h
        cases h
        obtain ⟨h2, h3, h4⟩ := ih a q r e2
        exact ⟨by omega, by omega, by simp [h4]⟩
theorem item_lt {T : List Int32} {p q : Nat} {ρ ρ' : pRm} (h : item T p ρ = some (ρ', q)) : p < q := by
  simp only [item] at h
  split at h
  · split at h
    · rename_i e
      have := rdN_lt _ _ _ _ e
      split at h
      · cases h; omega
      · cases h
    · cases h
  · split at h
    · split at h
      · rename_i e
        have := rdN_lt _ _ _ _ e
        split at h
        · cases h; omega
        · cases h
      · cases h
    · split at h
      · split at h
        · rename_i e
          have := rdN_lt _ _ _ _ e
          split at h
          · cases h; omega
          · cases h
        · cases h
      · cases h
theorem rdT_lt {T : List Int32} : ∀ {m p : Nat} {ρ : pRm} {q : Nat}, (rdT T m p ρ).1 = some q → q < T.length := by
  intro m
  induction m with
  | zero => intro p ρ q h; cases h
  | succ m ih =>
    intro p ρ q h
    simp only [rdT] at h
    split at h
    · rename_i hlt
      cases e : item T p ρ with
      | none => rw [e] at h; cases h; exact hlt
      | some r => simp only [e] at h; exact ih h
    · cases h
theorem item_le {T : List Int32} {p q : Nat} {ρ ρ' : pRm} (h : item T p ρ = some (ρ', q)) : q ≤ p + 13 := by
  simp only [item] at h
  split at h
  · split at h
    · rename_i e
      have := rdN_lt _ _ _ _ e
      split at h
      · cases h; omega
      · cases h
    · cases h
  · split at h
    · split at h
      · rename_i e
        have := rdN_lt _ _ _ _ e
        split at h
        · cases h; omega
        · cases h
      · cases h
    · split at h
      · split at h
        · rename_i e
          have := rdN_lt _ _ _ _ e
          split at h
          · cases h; omega
          · cases h
        · cases h
      · cases h
/-- the class's text -/
def tR (M : pM) (T : List Int32) : Prop := T.length ≤ 200 ∧ M.1 (aS 1) 2 = nI T.length ∧ ∀ i x, T[i]? = some x → M.1 (aS 2) i = x
def f_tx : pA → Bool
  | .inl s => Nat.beq s 1 || Nat.beq s 3
  | _ => false
theorem tR_cg {M M' : pM} {T : List Int32} (h : tR M T) (h1 : M'.1 (aS 1) 2 = M.1 (aS 1) 2) (h2 : M'.1 (aS 2) = M.1 (aS 2)) : tR M' T := ⟨h.1, h1.trans h.2.1, fun i x hx => by rw [h2]; exact h.2.2 i x hx⟩
theorem m_textClear {b : Bool} {C : pC} (hC : p_Lg b C) {d : Nat} {M : pM} {Q : pQ} (h : ∀ M', p_fr (f_cell (aS 1)) M M' → tR M' [] → Q M' none) : C d k_X6_clear M [vR (aS 1)] Q := by
  refine p_ent hC tb_X6_clear _ rfl rfl rfl (fun Z hZ => ?_)
  refine hZ _ _ _ _ (hZ _ _ _ _ (hZ _ _ _ _ ?_))
  show Z 5 _ _ _
  refine hZ _ _ _ _ ?_
  exact h _ (p_fr_wr p_fr_rf rfl) ⟨by simp, rfl, fun i x hx => by simp at hx⟩
def f_t2 : pA → Bool
  | .inl s => Nat.beq s 1 || Nat.beq s 2
  | _ => false
theorem m_append {b : Bool} {C : pC} (hC : p_Lg b C) {d : Nat} {M : pM} {Q : pQ} {T : List Int32} {x : Int32} (hd : 1 ≤ d) (hT : tR M T) (h1 : T.length < 200 → ∀ M', p_fr f_t2 M M' → tR M' (T ++ [x]) → Q M' (some (vI 1))) (h0 : T.length = 200 → Q M (some (vI 0))) : C d k_X6_append M [vR (aS 1), vI x] Q := by
  obtain ⟨l1, a1, a2⟩ := hT
  refine p_ent hC tb_X6_append _ rfl rfl rfl (fun Z hZ => ?_)
  refine hZ _ _ _ _ (hZ _ _ _ _ (hZ _ _ _ _ ?_))
  show Z 7 _ _ _
  rw [a1]
  refine hZ _ _ _ _ ⟨fun c1 => ?_, fun c1 => ?_⟩
  · skip
    have hlt := (nI_ltI (a := T.length) (b := 200) (by omega) (by omega)).mp c1
    refine hZ _ _ _ _ (hZ _ _ _ _ (hZ _ _ _ _ (hZ _ _ _ _ (hZ _ _ _ _ ?_))))
    show Z 21 _ _ _
    refine hZ _ _ _ _ ⟨d - 1, by omega, m_put hC _ a1 hlt rfl ?_⟩
    refine hZ _ _ _ _ (hZ _ _ _ _ (hZ _ _ _ _ (hZ _ _ _ _ (hZ _ _ _ _ (hZ _ _ _ _ (hZ _ _ _ _ ?_))))))
    show Z 35 _ _ _
    refine hZ _ _ _ _ ⟨Or.inr rfl, ?_⟩
    refine h1 hlt _ (p_fr_wr (p_fr_wr p_fr_rf rfl) rfl) ⟨by simp; omega, ?_, fun i y hy => ?_⟩
    · rw [p_wr_eq]
      show M.1 (aS 1) 2 + 1 = _
      rw [a1, nI_1]
      simp
    · show (p_wr M (aS 2) T.length x).1 (aS 2) i = y
      rw [p_wr_eq]
      by_cases e : i < T.length
      · rw [List.getElem?_append_left e] at hy
        simp only [upd, if_neg (show ¬ i = T.length by omega)]
        exact a2 i y hy
      · rw [List.getElem?_append_right (by omega)] at hy
        have := (List.getElem?_eq_some_iff.mp hy).1
        simp at this
        have e2 : i = T.length := by omega
        subst e2
        simp at hy
        simp [upd, hy]
  · skip
    refine hZ _ _ _ _ ?_
    show Z 11 _ _ _
    refine hZ _ _ _ _ ⟨Or.inl rfl, ?_⟩
    have := mt (nI_ltI (a := T.length) (b := 200) (by omega) (by omega)).mpr c1
    exact h0 (by omega)
theorem m_isFigure {b : Bool} {C : pC} (hC : p_Lg b C) {d : Nat} {M : pM} {Q : pQ} {x : Int32} (h1 : fig x = true → Q M (some (vI 1))) (h0 : fig x = false → Q M (some (vI 0))) : C d k_X6_isFigure M [vI x] Q := by
  refine p_ent hC tb_X6_isFigure _ rfl rfl rfl (fun Z hZ => ?_)
  refine hZ _ _ _ _ (hZ _ _ _ _ ?_)
  show Z 3 _ _ _
  refine hZ _ _ _ _ ⟨fun c1 => ?_, fun c1 => ?_⟩
  · skip
    refine hZ _ _ _ _ ?_
    show Z 17 _ _ _
    refine hZ _ _ _ _ ⟨Or.inl rfl, ?_⟩
    exact h0 (decide_eq_false (fun q => Int32.not_le.mpr c1 q.1))
  · skip
    refine hZ _ _ _ _ (hZ _ _ _ _ ?_)
    show Z 9 _ _ _
    refine hZ _ _ _ _ ⟨fun c2 => ?_, fun c2 => ?_⟩
    · skip
      refine hZ _ _ _ _ ?_
      show Z 17 _ _ _
      refine hZ _ _ _ _ ⟨Or.inl rfl, ?_⟩
      exact h0 (decide_eq_false (fun q => Int32.not_le.mpr c2 q.2))
    · skip
      refine hZ _ _ _ _ (hZ _ _ _ _ ?_)
      show Z 17 _ _ _
      refine hZ _ _ _ _ ⟨Or.inr rfl, ?_⟩
      exact h1 (decide_eq_true ⟨Int32.not_lt.mp c1, Int32.not_lt.mp c2⟩)
theorem m_peek {b : Bool} {C : pC} (hC : p_Lg b C) {d : Nat} {M : pM} {Q : pQ} {T : List Int32} {p : Nat} (hd : 1 ≤ d) (hT : tR M T) (hp : M.1 (aS 1) 3 = nI p) (hp9 : p < 2 ^ 31) (h : Q M (some (vI (pk T p)))) : C d k_X6_peek M [vR (aS 1)] Q := by
  obtain ⟨l1, a1, a2⟩ := hT
  refine p_ent hC tb_X6_peek _ rfl rfl rfl (fun Z hZ => ?_)
  refine hZ _ _ _ _ (hZ _ _ _ _ (hZ _ _ _ _ (hZ _ _ _ _ ?_)))
  show Z 8 _ _ _
  rw [a1, hp]
  refine hZ _ _ _ _ ⟨fun c1 => ?_, fun c1 => ?_⟩
  · skip
    have hge := (nI_leI (a := T.length) (b := p) (by omega) hp9).mp c1
    refine hZ _ _ _ _ ?_
    show Z 26 _ _ _
    refine hZ _ _ _ _ ?_
    rw [pk, List.getElem?_eq_none hge] at h
    exact h
  · skip
    have hlt : p < T.length := by
      have := mt (nI_leI (a := T.length) (b := p) (by omega) hp9).mpr c1
      omega
    refine hZ _ _ _ _ (hZ _ _ _ _ (hZ _ _ _ _ (hZ _ _ _ _ ?_)))
    show Z 19 _ _ _
    refine hZ _ _ _ _ ⟨d - 1, by omega, m_at hC p hp (show p < 200 by omega) rfl ?_⟩
    refine hZ _ _ _ _ ?_
    show Z 26 _ _ _
    refine hZ _ _ _ _ ?_
    rw [pk, List.getElem?_eq_getElem hlt] at h
    rw [a2 p _ (List.getElem?_eq_getElem hlt)]
    exact h
theorem m_textTake {b : Bool} {C : pC} (hC : p_Lg b C) {d : Nat} {M : pM} {Q : pQ} {T : List Int32} {p : Nat} (hd : 2 ≤ d) (hT : tR M T) (hp : M.1 (aS 1) 3 = nI p) (hp9 : p < 2 ^ 31) (h : ∀ M', p_fr (f_cell (aS 1)) M M' → tR M' T → M'.1 (aS 1) 3 = nI (p + 1) → Q M' (some (vI (pk T p)))) : C d k_X6_take M [vR (aS 1)] Q := by
  refine p_ent hC tb_X6_take _ rfl rfl rfl (fun Z hZ => ?_)
  refine hZ _ _ _ _ ?_
  show Z 1 _ _ _
  refine hZ _ _ _ _ ⟨d - 1, by omega, m_peek hC (by omega) hT hp hp9 ?_⟩
  refine hZ _ _ _ _ (hZ _ _ _ _ (hZ _ _ _ _ (hZ _ _ _ _ (hZ _ _ _ _ (hZ _ _ _ _ (hZ _ _ _ _ (hZ _ _ _ _ ?_)))))))
  show Z 16 _ _ _
  refine hZ _ _ _ _ ?_
  refine h _ (p_fr_wr p_fr_rf rfl) (tR_cg hT rfl rfl) ?_
  rw [p_wr_eq]
  show M.1 (aS 1) 3 + 1 = _
  rw [hp, nI_1]
theorem f_c1 (a : pA) (h : f_tx a = false) : f_cell (aS 1) a = false := by
  rcases a with s | r
  · simp only [f_tx, Bool.or_eq_false_iff] at h
    exact h.1
  · rcases r with r | r <;> rfl
theorem m_readNumbers {b : Bool} {C : pC} (hC : p_Lg b C) {d : Nat} {M : pM} {Q : pQ} {T : List Int32} {p many : Nat} {x : Int32} (ex : x = nI many) (hd : 3 ≤ d) (hm : many ≤ 4) (hT : tR M T) (hp : M.1 (aS 1) 3 = nI p) (hp9 : p ≤ 1000) (h1 : ∀ l q, rdN T p many = some (l, q) → ∀ M', p_fr f_tx M M' → tR M' T → M'.1 (aS 1) 3 = nI q → (∀ i x, l[i]? = some x → M'.1 (aS 3) i = x) → Q M' (some (vI 1))) (h0 : rdN T p many = none → ∀ M', p_fr f_tx M M' → tR M' T → Q M' (some (vI 0))) : C d k_X6_readNumbers M [vR (aS 1), vI x] Q := by
  subst ex
  refine p_ent hC tb_X6_readNumbers _ rfl rfl rfl (fun Z hZ => ?_)
  refine hZ _ _ _ _ (hZ _ _ _ _ ?_)
  show Z 2 _ _ _
  have loop : ∀ (m i p' : Nat) (acc : List Int32) (M2 : pM) (y : Option pV), i + m = many → p' ≤ 1000 + 3 * i → acc.length = i → p_fr f_tx M M2 → tR M2 T → M2.1 (aS 1) 3 = nI p' → (∀ k x, acc[k]? = some x → M2.1 (aS 3) k = x) → (∀ l q, rdN T p' m = some (l, q) → rdN T p many = some (acc ++ l, q)) → (rdN T p' m = none → rdN T p many = none) → Z 2 [some (vR (aS 1)), some (vI (nI many)), some (vI (nI i)), y] [] M2 := by
    intro m
    induction m with
    | zero =>
      intro i p' acc M2 y e1 e2 e3 f1 f2 f3 f4 f5 f6
      have : i = many := by omega
      subst this
      refine hZ _ _ _ _ (hZ _ _ _ _ ?_)
      show Z 4 _ _ _
      refine hZ _ _ _ _ (br_t (Int32.le_refl _) ?_)
      refine hZ _ _ _ _ ?_
      show Z 89 _ _ _
      refine hZ _ _ _ _ ⟨Or.inr rfl, ?_⟩
      exact h1 acc p' (by have := f5 [] p' rfl; rwa [List.append_nil] at this) M2 f1 f2 f3 f4
    | succ m ih =>
      intro i p' acc M2 y e1 e2 e3 f1 f2 f3 f4 f5 f6
      refine hZ _ _ _ _ (hZ _ _ _ _ ?_)
      show Z 4 _ _ _
      refine hZ _ _ _ _ (br_f (nI_ge (a := i) (b := many) (by omega) (by omega)) ?_)
      refine hZ _ _ _ _ ?_
      show Z 8 _ _ _
      refine hZ _ _ _ _ ⟨d - 1, by omega, m_peek hC (by omega) f2 f3 (by omega) ?_⟩
      refine hZ _ _ _ _ ⟨d - 1, by omega, m_isFigure hC (fun g1 => ?_) (fun g1 => ?_)⟩
      · skip
        refine hZ _ _ _ _ (p_tn (by decide) ?_)
        refine hZ _ _ _ _ ?_
        show Z 20 _ _ _
        refine hZ _ _ _ _ ⟨d - 1, by omega, m_textTake hC (by omega) f2 f3 (by omega) (fun M3 k1 k2 k3 => ?_)⟩
        have F3 : p_fr f_tx M M3 := f1.tr (k1.mono f_c1)
        have num3 : M3.1 (aS 3) = M2.1 (aS 3) := k1.1 (aS 3) rfl
        -- behind the number: its value v, the place q of the sign
        have tail : ∀ (v : Int32) (q : Nat) (M4 : pM), q ≤ p' + 2 → (∀ e : Int32, rd1 T p' e = if pk T q = e then some (v, q + 1) else none) → p_fr f_tx M M4 → tR M4 T → M4.1 (aS 1) 3 = nI q → M4.1 (aS 3) = M2.1 (aS 3) → Z 50 [some (vR (aS 1)), some (vI (nI many)), some (vI (nI i)), some (vI v)] [] M4 := by
          intro v q M4 hq hrd j1 j2 j3 j4
          refine hZ _ _ _ _ (hZ _ _ _ _ (hZ _ _ _ _ (hZ _ _ _ _ ?_)))
          show Z 56 _ _ _
          refine hZ _ _ _ _ ⟨d - 1, by omega, m_put hC i rfl (show i < 4 by omega) rfl ?_⟩
          refine hZ _ _ _ _ ?_
          show Z 60 _ _ _
          refine hZ _ _ _ _ ⟨d - 1, by omega, m_textTake hC (by omega) (tR_cg j2 rfl rfl) j3 (by omega) (fun M5 k4 k5 k6 => ?_)⟩
          refine hZ _ _ _ _ (hZ _ _ _ _ (hZ _ _ _ _ (hZ _ _ _ _ ?_)))
          show Z 67 _ _ _
          rw [show nI i + 1 = nI (i + 1) from nI_1 i]
          have F5 : p_fr f_tx M M5 := (p_fr_wr j1 rfl).tr (k4.mono f_c1)
          have num5 : M5.1 (aS 3) = upd (M2.1 (aS 3)) i v := by
            rw [k4.1 (aS 3) rfl, p_wr_eq, j4]
          have go82 : (pk T q = if m = 0 then 59 else 44) → Z 82 [some (vR (aS 1)), some (vI (nI many)), some (vI (nI i)), some (vI v)] [] M5 := by
            intro hs
            have h9 := hrd (if m = 0 then 59 else 44)
            rw [if_pos hs] at h9
            refine hZ _ _ _ _ (hZ _ _ _ _ ?_)
            show Z 2 _ _ _
            rw [show nI i + 1 = nI (i + 1) from nI_1 i]
            refine ih (i + 1) (q + 1) (acc ++ [v]) M5 _ (by omega) (by omega) (by simp [e3]) F5 k5 k6 ?_ ?_ ?_
            · intro k x hx
              rw [num5]
              by_cases e : k < i
              · rw [List.getElem?_append_left (by omega)] at hx
                simp only [upd, if_neg (show ¬ k = i by omega)]
                exact f4 k x hx
              · rw [List.getElem?_append_right (by omega)] at hx
                have := (List.getElem?_eq_some_iff.mp hx).1
                simp at this
                have e5 : k = i := by omega
                subst e5
                rw [e3] at hx
                simp at hx
                simp [upd, hx]
            · intro l r hl
              have := f5 (v :: l) r (by simp only [rdN, h9, hl])
              simpa using this
            · intro hl
              exact f6 (by simp only [rdN, h9, hl])
          have bad : ¬ (pk T q = if m = 0 then 59 else 44) → Q M5 (some (vI 0)) := by
            intro hs
            have h9 := hrd (if m = 0 then 59 else 44)
            rw [if_neg hs] at h9
            exact h0 (f6 (by simp only [rdN, h9])) M5 F5 k5
          by_cases em : m = 0
          · skip
            refine hZ _ _ _ _ (br_t (by rw [show i + 1 = many by omega]; exact Int32.le_refl _) ?_)
            refine hZ _ _ _ _ ?_
            show Z 77 _ _ _
            refine hZ _ _ _ _ ⟨fun c9 => ?_, fun c9 => ?_⟩
            · skip
              exact go82 (by rw [if_pos em]; exact c9)
            · skip
              refine hZ _ _ _ _ ?_
              show Z 81 _ _ _
              refine hZ _ _ _ _ ⟨Or.inl rfl, ?_⟩
              exact bad (by rw [if_pos em]; exact c9)
          · skip
            refine hZ _ _ _ _ (br_f (nI_ge (a := i + 1) (b := many) (by omega) (by omega)) ?_)
            refine hZ _ _ _ _ (hZ _ _ _ _ ?_)
            show Z 77 _ _ _
            refine hZ _ _ _ _ ⟨fun c9 => ?_, fun c9 => ?_⟩
            · skip
              exact go82 (by rw [if_neg em]; exact c9)
            · skip
              refine hZ _ _ _ _ ?_
              show Z 81 _ _ _
              refine hZ _ _ _ _ ⟨Or.inl rfl, ?_⟩
              exact bad (by rw [if_neg em]; exact c9)
        refine hZ _ _ _ _ (hZ _ _ _ _ (hZ _ _ _ _ (hZ _ _ _ _ ?_)))
        show Z 28 _ _ _
        refine hZ _ _ _ _ ⟨d - 1, by omega, m_peek hC (by omega) k2 k3 (by omega) ?_⟩
        refine hZ _ _ _ _ ⟨d - 1, by omega, m_isFigure hC (fun g2 => ?_) (fun g2 => ?_)⟩
        · skip
          refine hZ _ _ _ _ (br_f (by decide) ?_)
          refine hZ _ _ _ _ (hZ _ _ _ _ (hZ _ _ _ _ (hZ _ _ _ _ ?_)))
          show Z 42 _ _ _
          refine hZ _ _ _ _ ⟨d - 1, by omega, m_textTake hC (by omega) k2 k3 (by omega) (fun M4 k4 k5 k6 => ?_)⟩
          refine hZ _ _ _ _ (hZ _ _ _ _ (hZ _ _ _ _ (hZ _ _ _ _ ?_)))
          show Z 50 _ _ _
          exact tail _ (p' + 2) M4 (Nat.le_refl _) (fun e => by simp only [rd1, g1, g2, if_true]) (F3.tr (k4.mono f_c1)) k5 k6 (by rw [k4.1 (aS 3) rfl, num3])
        · skip
          refine hZ _ _ _ _ (br_t (rfl) ?_)
          exact tail _ (p' + 1) M3 (by omega) (fun e => by simp only [rd1, g1, g2, if_true]; rfl) F3 k2 k3 num3
      · skip
        refine hZ _ _ _ _ (p_fn (rfl) ?_)
        refine hZ _ _ _ _ ?_
        show Z 18 _ _ _
        refine hZ _ _ _ _ ⟨Or.inl rfl, ?_⟩
        exact h0 (f6 (by simp only [rdN, rd1, g1]; rfl)) M2 f1 f2
  exact loop many 0 p [] M none (Nat.zero_add _) (by omega) rfl p_fr_rf hT hp (fun k x hx => by simp at hx) (fun l q h => h) (fun h => h)
def f_tr (j : Fin 12) (a : pA) : Bool := f_tx a || f_room j a
theorem f_tr1 {j : Fin 12} (a : pA) (h : f_tr j a = false) : f_tx a = false := by
  simp only [f_tr, Bool.or_eq_false_iff] at h
  exact h.1
theorem f_tr2 {j : Fin 12} (a : pA) (h : f_tr j a = false) : f_room j a = false := by
  simp only [f_tr, Bool.or_eq_false_iff] at h
  exact h.2
theorem tR_room {M M' : pM} {T : List Int32} {j : Fin 12} (h : tR M T) (f : p_fr (f_room j) M M') : tR M' T := tR_cg h (by rw [f.1 (aS 1) rfl]) (f.1 (aS 2) rfl)
theorem m_readItem {b : Bool} {C : pC} (hC : p_Lg b C) {d : Nat} {M : pM} {Q : pQ} {T : List Int32} {p : Nat} {j : Fin 12} {ρ : pRm} (hd : 4 ≤ d) (hT : tR M T) (hp : M.1 (aS 1) 3 = nI p) (hp9 : p ≤ 900) (hR : cR M j ρ) (ok : okR ρ) (h1 : ∀ ρ' q, item T p ρ = some (ρ', q) → ∀ M', p_fr (f_tr j) M M' → tR M' T → M'.1 (aS 1) 3 = nI q → cR M' j ρ' → okR ρ' → Q M' (some (vI 1))) (h0 : item T p ρ = none → ∀ M', p_fr (f_tr j) M M' → tR M' T → Q M' (some (vI 0))) : C d k_X6_readItem M [vR (aS 1), vR (aR j 0)] Q := by
  refine p_ent hC tb_X6_readItem _ rfl rfl rfl (fun Z hZ => ?_)
  refine hZ _ _ _ _ ?_
  show Z 1 _ _ _
  refine hZ _ _ _ _ ⟨d - 1, by omega, m_textTake hC (by omega) hT hp (by omega) (fun M1 k1 k2 k3 => ?_)⟩
  have F1 : p_fr (f_tr j) M M1 := k1.mono (fun a ha => f_c1 a (f_tr1 a ha))
  have R1 : cR M1 j ρ := cR_cg (fun c => k1.1 _ rfl) hR
  refine hZ _ _ _ _ ?_
  refine ⟨fun s1 => ?_, fun s1 => ⟨fun s2 => ?_, fun s2 => ⟨fun s3 => ?_, fun s3 => ?_⟩⟩⟩
  · skip
    have ni1 : ¬ pk T p = 116 := by rw [s1]; decide
    have ni2 : ¬ pk T p = 102 := by rw [s1]; decide
    refine hZ _ _ _ _ (hZ _ _ _ _ ?_)
    show Z 108 _ _ _
    refine hZ _ _ _ _ ⟨d - 1, by omega, m_readNumbers hC (many := 4) rfl (by omega) (by omega) k2 k3 (by omega) (fun l q g1 M2 g2 g3 g4 g5 => ?_) (fun g1 M2 g2 g3 => ?_)⟩
    · skip
      have hl := (rdN_lt _ _ _ _ g1).2.2
      have F2 : p_fr (f_tr j) M M2 := F1.tr (g2.mono f_tr1)
      have R2 : cR M2 j ρ := cR_cg (fun c => g2.1 _ rfl) R1
      rcases l with _ | ⟨t, _ | ⟨f, _ | ⟨v, _ | ⟨w, _ | ⟨z, l⟩⟩⟩⟩⟩ <;> simp at hl
      have n0 := g5 0 t rfl
      have n1 := g5 1 f rfl
      have n2 := g5 2 v rfl
      have n3 := g5 3 w rfl
      refine hZ _ _ _ _ (br_f (by decide) ?_)
      refine hZ _ _ _ _ (hZ _ _ _ _ (hZ _ _ _ _ (hZ _ _ _ _ ?_)))
      show Z 120 _ _ _
      refine hZ _ _ _ _ ⟨d - 1, by omega, m_at hC 0 rfl (show 0 < 4 by omega) rfl ?_⟩
      rw [n0]
      refine hZ _ _ _ _ (hZ _ _ _ _ (hZ _ _ _ _ ?_))
      show Z 128 _ _ _
      refine hZ _ _ _ _ ⟨d - 1, by omega, m_at hC 1 rfl (show 1 < 4 by omega) rfl ?_⟩
      rw [n1]
      refine hZ _ _ _ _ (hZ _ _ _ _ (hZ _ _ _ _ ?_))
      show Z 136 _ _ _
      refine hZ _ _ _ _ ⟨d - 1, by omega, m_at hC 2 rfl (show 2 < 4 by omega) rfl ?_⟩
      rw [n2]
      refine hZ _ _ _ _ (hZ _ _ _ _ (hZ _ _ _ _ ?_))
      show Z 144 _ _ _
      refine hZ _ _ _ _ ⟨d - 1, by omega, m_at hC 3 rfl (show 3 < 4 by omega) rfl ?_⟩
      rw [n3]
      refine hZ _ _ _ _ ⟨d - 1, by omega, m_addClaim hC (by omega) R2 ok (fun u1 u2 M3 u3 u4 u5 => ?_) (fun u1 => ?_)⟩
      · skip
        refine hZ _ _ _ _ (br_f (by decide) ?_)
        refine hZ _ _ _ _ (hZ _ _ _ _ ?_)
        show Z 158 _ _ _
        refine hZ _ _ _ _ ⟨Or.inr rfl, ?_⟩
        exact h1 _ q (by simp only [item, if_neg ni1, if_neg ni2, if_pos s1, g1, if_pos (And.intro u1 u2)]) M3 (F2.tr (u3.mono f_tr2)) (tR_room g3 u3) (by rw [u3.1 (aS 1) rfl]; exact g4) u4 u5
      · skip
        refine hZ _ _ _ _ (br_t (rfl) ?_)
        refine hZ _ _ _ _ ?_
        show Z 158 _ _ _
        refine hZ _ _ _ _ ⟨Or.inl rfl, ?_⟩
        exact h0 (by simp only [item, if_neg ni1, if_neg ni2, if_pos s1, g1, if_neg u1]) M2 F2 g3
    · skip
      refine hZ _ _ _ _ (br_t (rfl) ?_)
      refine hZ _ _ _ _ ?_
      show Z 158 _ _ _
      refine hZ _ _ _ _ ⟨Or.inl rfl, ?_⟩
      exact h0 (by simp only [item, if_neg ni1, if_neg ni2, if_pos s1, g1]) M2 (F1.tr (g2.mono f_tr1)) g3
  · skip
    have ni1 : ¬ pk T p = 116 := by rw [s2]; decide
    refine hZ _ _ _ _ (hZ _ _ _ _ ?_)
    show Z 79 _ _ _
    refine hZ _ _ _ _ ⟨d - 1, by omega, m_readNumbers hC (many := 1) rfl (by omega) (by omega) k2 k3 (by omega) (fun l q g1 M2 g2 g3 g4 g5 => ?_) (fun g1 M2 g2 g3 => ?_)⟩
    · skip
      have hl := (rdN_lt _ _ _ _ g1).2.2
      have F2 : p_fr (f_tr j) M M2 := F1.tr (g2.mono f_tr1)
      have R2 : cR M2 j ρ := cR_cg (fun c => g2.1 _ rfl) R1
      rcases l with _ | ⟨v, _ | ⟨z, l⟩⟩ <;> simp at hl
      have n0 := g5 0 v rfl
      refine hZ _ _ _ _ (br_f (by decide) ?_)
      refine hZ _ _ _ _ (hZ _ _ _ _ (hZ _ _ _ _ (hZ _ _ _ _ ?_)))
      show Z 91 _ _ _
      refine hZ _ _ _ _ ⟨d - 1, by omega, m_at hC 0 rfl (show 0 < 4 by omega) rfl ?_⟩
      rw [n0]
      refine hZ _ _ _ _ ⟨d - 1, by omega, m_addFact hC (by omega) R2 ok (fun u1 u2 M3 u3 u4 u5 => ?_) (fun u1 => ?_)⟩
      · skip
        refine hZ _ _ _ _ (br_f (by decide) ?_)
        refine hZ _ _ _ _ (hZ _ _ _ _ ?_)
        show Z 105 _ _ _
        refine hZ _ _ _ _ ⟨Or.inr rfl, ?_⟩
        exact h1 _ q (by simp only [item, if_neg ni1, if_pos s2, g1, if_pos (And.intro u1 u2)]) M3 (F2.tr (u3.mono f_tr2)) (tR_room g3 u3) (by rw [u3.1 (aS 1) rfl]; exact g4) u4 u5
      · skip
        refine hZ _ _ _ _ (br_t (rfl) ?_)
        refine hZ _ _ _ _ ?_
        show Z 105 _ _ _
        refine hZ _ _ _ _ ⟨Or.inl rfl, ?_⟩
        exact h0 (by simp only [item, if_neg ni1, if_pos s2, g1, if_neg u1]) M2 F2 g3
    · skip
      refine hZ _ _ _ _ (br_t (rfl) ?_)
      refine hZ _ _ _ _ ?_
      show Z 105 _ _ _
      refine hZ _ _ _ _ ⟨Or.inl rfl, ?_⟩
      exact h0 (by simp only [item, if_neg ni1, if_pos s2, g1]) M2 (F1.tr (g2.mono f_tr1)) g3
  · skip
    refine hZ _ _ _ _ (hZ _ _ _ _ ?_)
    show Z 42 _ _ _
    refine hZ _ _ _ _ ⟨d - 1, by omega, m_readNumbers hC (many := 2) rfl (by omega) (by omega) k2 k3 (by omega) (fun l q g1 M2 g2 g3 g4 g5 => ?_) (fun g1 M2 g2 g3 => ?_)⟩
    · skip
      have hl := (rdN_lt _ _ _ _ g1).2.2
      have F2 : p_fr (f_tr j) M M2 := F1.tr (g2.mono f_tr1)
      have R2 : cR M2 j ρ := cR_cg (fun c => g2.1 _ rfl) R1
      rcases l with _ | ⟨t, _ | ⟨f, _ | ⟨z, l⟩⟩⟩ <;> simp at hl
      have n0 := g5 0 t rfl
      have n1 := g5 1 f rfl
      refine hZ _ _ _ _ (br_f (by decide) ?_)
      refine hZ _ _ _ _ (hZ _ _ _ _ (hZ _ _ _ _ (hZ _ _ _ _ ?_)))
      show Z 54 _ _ _
      refine hZ _ _ _ _ ⟨d - 1, by omega, m_at hC 0 rfl (show 0 < 4 by omega) rfl ?_⟩
      rw [n0]
      refine hZ _ _ _ _ (hZ _ _ _ _ (hZ _ _ _ _ ?_))
      show Z 62 _ _ _
      refine hZ _ _ _ _ ⟨d - 1, by omega, m_at hC 1 rfl (show 1 < 4 by omega) rfl ?_⟩
      rw [n1]
      refine hZ _ _ _ _ ⟨d - 1, by omega, m_addTeller hC (by omega) R2 ok (fun u0 u1 u2 M3 u3 u4 u5 => ?_) (fun u1 => ?_)⟩
      · skip
        refine hZ _ _ _ _ (br_f (by decide) ?_)
        refine hZ _ _ _ _ (hZ _ _ _ _ ?_)
        show Z 76 _ _ _
        refine hZ _ _ _ _ ⟨Or.inr rfl, ?_⟩
        exact h1 _ q (by simp only [item, if_pos s3, g1, if_pos (And.intro u0 (And.intro u1 u2))]) M3 (F2.tr (u3.mono f_tr2)) (tR_room g3 u3) (by rw [u3.1 (aS 1) rfl]; exact g4) u4 u5
      · skip
        refine hZ _ _ _ _ (br_t (rfl) ?_)
        refine hZ _ _ _ _ ?_
        show Z 76 _ _ _
        refine hZ _ _ _ _ ⟨Or.inl rfl, ?_⟩
        exact h0 (by simp only [item, if_pos s3, g1, if_neg u1]) M2 F2 g3
    · skip
      refine hZ _ _ _ _ (br_t (rfl) ?_)
      refine hZ _ _ _ _ ?_
      show Z 76 _ _ _
      refine hZ _ _ _ _ ⟨Or.inl rfl, ?_⟩
      exact h0 (by simp only [item, if_pos s3, g1]) M2 (F1.tr (g2.mono f_tr1)) g3
  · skip
    refine hZ _ _ _ _ ?_
    show Z 160 _ _ _
    refine hZ _ _ _ _ ⟨Or.inl rfl, ?_⟩
    have s1' : ¬ pk T p = 99 := s1
    have s2' : ¬ pk T p = 102 := s2
    have s3' : ¬ pk T p = 116 := s3
    exact h0 (by simp only [item, if_neg s1', if_neg s2', if_neg s3']) M1 F1 k2
def fltV (r : Option Nat) : Int32 := match r with
  | some p => nI p
  | none => -4
theorem m_readInto {b : Bool} {C : pC} (hC : p_Lg b C) {d : Nat} {M : pM} {Q : pQ} {T : List Int32} {j : Fin 12} (hd : 5 ≤ d) (hT : tR M T) (h : ∀ M', p_fr (f_tr j) M M' → tR M' T → ((rdT T 200 0 ρ0).1 = none → cR M' j (rdT T 200 0 ρ0).2 ∧ okR (rdT T 200 0 ρ0).2) → Q M' (some (vI (fltV (rdT T 200 0 ρ0).1)))) : C d k_X6_readInto M [vR (aS 1), vR (aR j 0)] Q := by
  have l1 := hT.1
  refine p_ent hC tb_X6_readInto _ rfl rfl rfl (fun Z hZ => ?_)
  refine hZ _ _ _ _ ?_
  show Z 1 _ _ _
  refine hZ _ _ _ _ ⟨d - 1, by omega, m_roomClear hC (fun M1 g1 g2 => ?_)⟩
  refine hZ _ _ _ _ (hZ _ _ _ _ (hZ _ _ _ _ (hZ _ _ _ _ (hZ _ _ _ _ ?_))))
  show Z 11 _ _ _
  have loop : ∀ (m i p : Nat) (ρ : pRm) (M2 : pM) (y : Option pV), i + m = 200 → p ≤ 800 → p_fr (f_tr j) M M2 → tR M2 T → M2.1 (aS 1) 3 = nI p → cR M2 j ρ → okR ρ → rdT T 200 0 ρ0 = rdT T m p ρ → Z 11 [some (vR (aS 1)), some (vR (aR j 0)), some (vI (nI i)), y] [] M2 := by
    intro m
    induction m with
    | zero =>
      intro i p ρ M2 y e1 e2 f1 f2 f3 f4 f5 f6
      have : i = 200 := by omega
      subst this
      refine hZ _ _ _ _ (hZ _ _ _ _ ?_)
      show Z 15 _ _ _
      refine hZ _ _ _ _ (br_t (Int32.le_refl _) ?_)
      refine hZ _ _ _ _ ?_
      show Z 52 _ _ _
      refine hZ _ _ _ _ ?_
      have := h M2 f1 f2
      rw [f6] at this
      exact this (fun _ => ⟨f4, f5⟩)
    | succ m ih =>
      intro i p ρ M2 y e1 e2 f1 f2 f3 f4 f5 f6
      refine hZ _ _ _ _ (hZ _ _ _ _ ?_)
      show Z 15 _ _ _
      refine hZ _ _ _ _ (br_f (nI_ge (a := i) (b := 200) (by omega) (by omega)) ?_)
      refine hZ _ _ _ _ (hZ _ _ _ _ (hZ _ _ _ _ (hZ _ _ _ _ ?_)))
      show Z 26 _ _ _
      rw [f3, f2.2.1]
      by_cases hlt : p < T.length
      · refine hZ _ _ _ _ (br_f (nI_ge hlt (by omega)) ?_)
        refine hZ _ _ _ _ (hZ _ _ _ _ (hZ _ _ _ _ (hZ _ _ _ _ (hZ _ _ _ _ ?_))))
        show Z 36 _ _ _
        rw [f3]
        refine hZ _ _ _ _ ⟨d - 1, by omega, m_readItem hC (by omega) f2 f3 (by omega) f4 f5 (fun ρ' q k1 M3 k2 k3 k4 k5 k6 => ?_) (fun k1 M3 k2 k3 => ?_)⟩
        · skip
          refine hZ _ _ _ _ (p_tn (by decide) ?_)
          refine hZ _ _ _ _ (hZ _ _ _ _ ?_)
          show Z 11 _ _ _
          rw [show nI i + 1 = nI (i + 1) from nI_1 i]
          have hq : q ≤ p + 13 := item_le k1
          refine ih (i + 1) q ρ' M3 _ (by omega) (by omega) (f1.tr k2) k3 k4 k5 k6 ?_
          rw [f6]
          simp only [rdT, if_pos hlt, k1]
        · skip
          refine hZ _ _ _ _ (p_fn (rfl) ?_)
          refine hZ _ _ _ _ ?_
          show Z 43 _ _ _
          refine hZ _ _ _ _ ?_
          have := h M3 (f1.tr k2) k3
          rw [f6] at this
          simp only [rdT, if_pos hlt, k1] at this
          exact this (fun q => by cases q)
      · skip
        refine hZ _ _ _ _ (br_t (nI_le (by omega) (by omega)) ?_)
        refine hZ _ _ _ _ ?_
        show Z 52 _ _ _
        refine hZ _ _ _ _ ?_
        have := h M2 f1 f2
        rw [f6] at this
        simp only [rdT, if_neg hlt] at this
        exact this (fun _ => ⟨f4, f5⟩)
  refine loop 200 0 0 ρ0 _ none rfl (by omega) (p_fr_wr (g1.mono f_tr2) rfl) (tR_cg (tR_room hT g1) rfl rfl) (by rw [p_wr_eq]; rfl) (cR_cg (fun c => rfl) g2) ?_ rfl
  exact ⟨by simp [ρ0], by simp [ρ0], by simp [ρ0], fun x hx => by simp [ρ0] at hx, 0, rfl, by simp [ρ0]⟩
