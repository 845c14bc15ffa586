/-! the class's calls: the order by which most are told -/
def tlI (ρ : pRm) (c : Nat) : Int32 := match ρ.2.2.2[c]? with
  | some x => x.1
  | none => 0
/-- how many of the first n claims could still be told -/
def tlb (ρ : pRm) (u g : Int32) : Nat → Int32
  | 0 => 0
  | c + 1 => if bt1 u (nI c) = 0 ∧ bt1 g (tlI ρ c) = 0 then tlb ρ u g c + 1 else tlb ρ u g c
/-- the search: m claims are left to be put, the iron s, the set u, the row l; acc: the most told so far, and by which row -/
def lkS (ρ : pRm) : Nat → pI → Int32 → List Nat → (Int32 × List Nat) → Int32 × List Nat
  | 0, s, u, l, acc => if bc s.2.2.1 + tlb ρ u s.2.2.2 ρ.2.2.2.length ≤ acc.1 then acc else (bc s.2.2.1, l)
  | m + 1, s, u, l, acc => if bc s.2.2.1 + tlb ρ u s.2.2.2 ρ.2.2.2.length ≤ acc.1 then acc else (List.range ρ.2.2.2.length).foldl (fun acc c => if bt1 u (nI c) = 0 then lkS ρ m (tk ρ s c).1 (u ||| ((1 : Int32) <<< (nI c &&& 31))) (l ++ [c]) acc else acc) acc
theorem m_tellable {b : Bool} {C : pC} (hC : p_Lg b C) {d : Nat} {M : pM} {Q : pQ} {ρ : pRm} {u g : Int32} (hd : 1 ≤ d) (hR : cR M 0 ρ) (ok : okR ρ) (h : Q M (some (vI (tlb ρ u g ρ.2.2.2.length)))) : C d k_X3_tellable M [vR (aR 0 0), vI u, vI g] Q := by
  have l3 := ok.2.2.1
  refine p_ent hC tb_X3_tellable _ rfl rfl rfl (fun Z hZ => ?_)
  refine hZ _ _ _ _ (hZ _ _ _ _ (hZ _ _ _ _ (hZ _ _ _ _ ?_)))
  show Z 5 _ _ _
  have loop : ∀ (n i : Nat), i + n = ρ.2.2.2.length → Z 5 [some (vR (aR 0 0)), some (vI u), some (vI g), some (vI (tlb ρ u g i)), some (vI (nI i))] [] M := by
    intro n
    induction n with
    | zero =>
      intro i e1
      have : i = ρ.2.2.2.length := by omega
      subst this
      refine hZ _ _ _ _ (hZ _ _ _ _ (hZ _ _ _ _ ?_))
      show Z 11 _ _ _
      refine hZ _ _ _ _ (br_t (by rw [hR.2.2.1]; exact Int32.le_refl _) ?_)
      refine hZ _ _ _ _ ?_
      show Z 49 _ _ _
      refine hZ _ _ _ _ ?_
      exact h
    | succ n ih =>
      intro i e1
      have hi : i < ρ.2.2.2.length := by omega
      have hx : ρ.2.2.2[i]? = some ρ.2.2.2[i] := List.getElem?_eq_getElem hi
      have etl : tlI ρ i = ρ.2.2.2[i].1 := by simp only [tlI, hx]
      have step := ih (i + 1) (by omega)
      rw [← nI_1] at step
      refine hZ _ _ _ _ (hZ _ _ _ _ (hZ _ _ _ _ ?_))
      show Z 11 _ _ _
      refine hZ _ _ _ _ (br_f (by rw [hR.2.2.1]; exact nI_ge hi (by omega)) ?_)
      refine hZ _ _ _ _ (hZ _ _ _ _ ?_)
      show Z 17 _ _ _
      refine hZ _ _ _ _ ⟨d - 1, by omega, m_bit hC ?_⟩
      by_cases c1 : bt1 u (nI i) = 0
      · refine hZ _ _ _ _ (p_fn (c1) ?_)
        refine hZ _ _ _ _ (hZ _ _ _ _ (hZ _ _ _ _ (hZ _ _ _ _ ?_)))
        show Z 30 _ _ _
        refine hZ _ _ _ _ ⟨d - 1, by omega, m_at hC i rfl (show i < 7 by omega) rfl ?_⟩
        rw [(hR.2.2.2.2.2 i _ hx).1]
        refine hZ _ _ _ _ ⟨d - 1, by omega, m_bit hC ?_⟩
        by_cases c2 : bt1 g ρ.2.2.2[i].1 = 0
        · refine hZ _ _ _ _ (p_fn (c2) ?_)
          refine hZ _ _ _ _ (hZ _ _ _ _ (hZ _ _ _ _ ?_))
          show Z 5 _ _ _
          have e2 : tlb ρ u g (i + 1) = tlb ρ u g i + 1 := if_pos ⟨c1, by rw [etl]; exact c2⟩
          rw [e2] at step
          exact step
        · skip
          refine hZ _ _ _ _ (p_tn (c2) ?_)
          refine hZ _ _ _ _ (hZ _ _ _ _ ?_)
          show Z 5 _ _ _
          have e2 : tlb ρ u g (i + 1) = tlb ρ u g i := if_neg (fun q => c2 (by rw [← etl]; exact q.2))
          rw [e2] at step
          exact step
      · skip
        refine hZ _ _ _ _ (p_tn (c1) ?_)
        refine hZ _ _ _ _ (hZ _ _ _ _ ?_)
        show Z 5 _ _ _
        have e2 : tlb ρ u g (i + 1) = tlb ρ u g i := if_neg (fun q => c1 q.1)
        rw [e2] at step
        exact step
  exact loop ρ.2.2.2.length 0 (Nat.zero_add _)
theorem m_stageAt {b : Bool} {C : pC} (hC : p_Lg b C) {d : Nat} {M : pM} {Q : pQ} {i : Int32} (n : Nat) (ei : i = nI n) (hn : n < 8) (h : Q M (some (.inr (.inr (M.2 (aS 8) n))))) : C d k_X3_stageAt M [vR (aS 7), vI i] Q := by
  subst ei
  refine p_ent hC tb_X3_stageAt _ rfl rfl rfl (fun Z hZ => ?_)
  refine hZ _ _ _ _ ?_
  show Z 1 _ _ _
  refine hZ _ _ _ _ (br_f (nI_pos (by omega)) ?_)
  refine hZ _ _ _ _ (hZ _ _ _ _ (hZ _ _ _ _ (hZ _ _ _ _ ?_)))
  show Z 10 _ _ _
  refine hZ _ _ _ _ (br_f (nI_ge (a := n) (b := 8) hn (by omega)) ?_)
  refine hZ _ _ _ _ (hZ _ _ _ _ (hZ _ _ _ _ ?_))
  show Z 18 _ _ _
  refine hZ _ _ _ _ ⟨vp_in_nI (N := 8) hn (by omega), ?_⟩
  refine hZ _ _ _ _ ?_
  show Z 23 _ _ _
  refine hZ _ _ _ _ ?_
  rw [nI_clamp (by omega)]
  exact h
def f_lk (k : Nat) : pA → Bool
  | .inl s => Nat.beq s 7 || (Nat.beq s 9 || Nat.beq s 10)
  | .inr (.inr i) => Nat.blt (k + 1) i.val
  | _ => false
theorem lk_sc {k : Nat} (a : pA) (h : f_sc a = false) : f_lk k a = false := by
  rcases a with s | ⟨r | i⟩
  · simp only [f_sc, Bool.or_eq_false_iff] at h
    simp only [f_lk, Bool.or_eq_false_iff]
    exact ⟨h.2.2.2.2.1, h.2.2.2.2.2.1, h.2.2.2.2.2.2⟩
  · rfl
  · cases h
theorem lk_up {k : Nat} (a : pA) (h : f_lk k a = false) : f_lk (k + 1) a = false := by
  rcases a with s | ⟨r | i⟩
  · exact h
  · rfl
  · refine p_blt_ge ?_
    have h : Nat.blt (k + 1) i.val = false := h
    rcases Nat.lt_or_ge (k + 1) i.val with q | q
    · exact absurd (Nat.ble_eq_true_of_le q) (by rw [show Nat.ble (k + 1 + 1) i.val = false from h]; decide)
    · omega
theorem lk_iron {k : Nat} {j : Fin 9} (hj : k + 1 < j.val) (a : pA) (h : f_lk k a = false) : f_iron j a = false := by
  rcases a with s | ⟨r | i⟩
  · rfl
  · rfl
  · refine f_iron_ne (fun e => ?_)
    subst e
    have h : Nat.blt (k + 1) i.val = false := h
    exact absurd (Nat.ble_eq_true_of_le hj) (by rw [show Nat.ble (k + 1 + 1) i.val = false from h]; decide)
theorem lk_self {k : Nat} {j : Fin 9} (hj : j.val ≤ k + 1) : f_lk k (aI j) = false := p_blt_ge hj
def rowR (M : pM) (a : Nat) (l : List Nat) : Prop := ∀ i x, l[i]? = some x → M.1 (aS a) i = nI x
theorem m_look {b : Bool} {C : pC} (hC : p_Lg b C) {ρ : pRm} (ok : okR ρ) : ∀ (m k d : Nat) (M : pM) (Q : pQ) (s : pI) (u : Int32) (l : List Nat) (acc : Int32 × List Nat), k + m = ρ.2.2.2.length → m + 4 ≤ d → cR M 0 ρ → stg M → iV M (Fin.ofNat 9 (k + 1)) = s → l.length = k → rowR M 9 l → M.1 (aS 7) 3 = acc.1 → rowR M 10 acc.2 → (∀ M', p_fr (f_lk k) M M' → (∀ i, i < k → M'.1 (aS 9) i = M.1 (aS 9) i) → M'.1 (aS 7) 3 = (lkS ρ m s u l acc).1 → rowR M' 10 (lkS ρ m s u l acc).2 → Q M' none) → C d k_X3_look M [vR (aS 7), vR (aR 0 0), vI (nI k), vI u] Q := by
  have l3 := ok.2.2.1
  intro m
  induction m with
  | zero =>
    intro k d M Q s u l acc e1 hd hR hst hs hl hp hm hb h
    have hk8 : k < 8 := by omega
    have es2 : M.1 (aI (Fin.ofNat 9 (k + 1))) 2 = s.2.2.1 := congrArg (fun q : pI => q.2.2.1) hs
    have es3 : M.1 (aI (Fin.ofNat 9 (k + 1))) 3 = s.2.2.2 := congrArg (fun q : pI => q.2.2.2) hs
    refine p_ent hC tb_X3_look _ rfl rfl rfl (fun Z hZ => ?_)
    refine hZ _ _ _ _ (hZ _ _ _ _ ?_)
    show Z 2 _ _ _
    refine hZ _ _ _ _ ⟨d - 1, by omega, m_stageAt hC k rfl hk8 ?_⟩
    rw [hst k hk8]
    refine hZ _ _ _ _ (hZ _ _ _ _ ?_)
    show Z 9 _ _ _
    refine hZ _ _ _ _ ?_
    refine hZ _ _ _ _ (hZ _ _ _ _ ?_)
    show Z 17 _ _ _
    rw [es2]
    refine hZ _ _ _ _ ⟨d - 1, by omega, m_bitCount hC ?_⟩
    refine hZ _ _ _ _ (hZ _ _ _ _ (hZ _ _ _ _ (hZ _ _ _ _ ?_)))
    show Z 27 _ _ _
    rw [es3]
    refine hZ _ _ _ _ ⟨d - 1, by omega, m_tellable hC (by omega) hR ok ?_⟩
    refine hZ _ _ _ _ (hZ _ _ _ _ (hZ _ _ _ _ ?_))
    show Z 35 _ _ _
    rw [hm]
    by_cases c1 : bc s.2.2.1 + tlb ρ u s.2.2.2 ρ.2.2.2.length ≤ acc.1
    · refine hZ _ _ _ _ (br_f (Int32.not_lt.mpr c1) ?_)
      refine hZ _ _ _ _ ?_
      have e2 : lkS ρ 0 s u l acc = acc := by simp only [lkS]; exact if_pos c1
      rw [e2] at h
      exact h M p_fr_rf (fun _ _ => rfl) hm hb
    · skip
      have e2 : lkS ρ 0 s u l acc = (bc s.2.2.1, l) := by simp only [lkS]; exact if_neg c1
      rw [e2] at h
      refine hZ _ _ _ _ (br_t (Int32.not_le.mp c1) ?_)
      refine hZ _ _ _ _ (hZ _ _ _ _ (hZ _ _ _ _ ?_))
      show Z 44 _ _ _
      refine hZ _ _ _ _ (p_fn (by rw [hR.2.2.1, show k = ρ.2.2.2.length by omega]) ?_)
      refine hZ _ _ _ _ (hZ _ _ _ _ (hZ _ _ _ _ ?_))
      show Z 53 _ _ _
      rw [es2]
      refine hZ _ _ _ _ ⟨d - 1, by omega, m_bitCount hC ?_⟩
      refine hZ _ _ _ _ (hZ _ _ _ _ (hZ _ _ _ _ (hZ _ _ _ _ (hZ _ _ _ _ ?_))))
      show Z 67 _ _ _
      refine hZ _ _ _ _ ⟨d - 1, by omega, m_copyRow2 hC (by omega) rfl rfl rfl (fun M1 g1 g2 => ?_)⟩
      refine hZ _ _ _ _ ?_
      refine h M1 ((p_fr_wr p_fr_rf rfl).tr (g1.mono (fun a ha => p_eq_ne (fun e => by rw [e] at ha; cases ha)))) (fun i hi => ?_) ?_ (fun i x hx => ?_)
      · rw [g1.1 (aS 9) rfl]
        rfl
      · rw [g1.1 (aS 7) rfl, p_wr_eq]
        rfl
      · have : i < 7 := by
          have q : i < l.length := (List.getElem?_eq_some_iff.mp hx).1
          omega
        rw [g2 i this]
        exact hp i x hx
  | succ m ih =>
    intro k d M Q s u l acc e1 hd hR hst hs hl hp hm hb h
    have hk7 : k < 7 := by omega
    have es2 : M.1 (aI (Fin.ofNat 9 (k + 1))) 2 = s.2.2.1 := congrArg (fun q : pI => q.2.2.1) hs
    have es3 : M.1 (aI (Fin.ofNat 9 (k + 1))) 3 = s.2.2.2 := congrArg (fun q : pI => q.2.2.2) hs
    have v1 : (Fin.ofNat 9 (k + 1)).val = k + 1 := Nat.mod_eq_of_lt (by omega)
    have v2 : (Fin.ofNat 9 (k + 1 + 1)).val = k + 1 + 1 := Nat.mod_eq_of_lt (by omega)
    have vne : Fin.ofNat 9 (k + 1) ≠ Fin.ofNat 9 (k + 1 + 1) := fun e => by have := congrArg Fin.val e; omega
    refine p_ent hC tb_X3_look _ rfl rfl rfl (fun Z hZ => ?_)
    refine hZ _ _ _ _ (hZ _ _ _ _ ?_)
    show Z 2 _ _ _
    refine hZ _ _ _ _ ⟨d - 1, by omega, m_stageAt hC k rfl (by omega) ?_⟩
    rw [hst k (by omega)]
    refine hZ _ _ _ _ (hZ _ _ _ _ ?_)
    show Z 9 _ _ _
    refine hZ _ _ _ _ ?_
    refine hZ _ _ _ _ (hZ _ _ _ _ ?_)
    show Z 17 _ _ _
    rw [es2]
    refine hZ _ _ _ _ ⟨d - 1, by omega, m_bitCount hC ?_⟩
    refine hZ _ _ _ _ (hZ _ _ _ _ (hZ _ _ _ _ (hZ _ _ _ _ ?_)))
    show Z 27 _ _ _
    rw [es3]
    refine hZ _ _ _ _ ⟨d - 1, by omega, m_tellable hC (by omega) hR ok ?_⟩
    refine hZ _ _ _ _ (hZ _ _ _ _ (hZ _ _ _ _ ?_))
    show Z 35 _ _ _
    rw [hm]
    by_cases c1 : bc s.2.2.1 + tlb ρ u s.2.2.2 ρ.2.2.2.length ≤ acc.1
    · refine hZ _ _ _ _ (br_f (Int32.not_lt.mpr c1) ?_)
      refine hZ _ _ _ _ ?_
      have e2 : lkS ρ (m + 1) s u l acc = acc := by simp only [lkS]; exact if_pos c1
      rw [e2] at h
      exact h M p_fr_rf (fun _ _ => rfl) hm hb
    · skip
      obtain ⟨f, ef⟩ : ∃ f : Int32 × List Nat → Nat → Int32 × List Nat, f = fun acc c => if bt1 u (nI c) = 0 then lkS ρ m (tk ρ s c).1 (u ||| ((1 : Int32) <<< (nI c &&& 31))) (l ++ [c]) acc else acc := ⟨_, rfl⟩
      have e2 : lkS ρ (m + 1) s u l acc = (List.range ρ.2.2.2.length).foldl f acc := by rw [ef]; simp only [lkS]; exact if_neg c1
      rw [e2] at h
      refine hZ _ _ _ _ (br_t (Int32.not_le.mp c1) ?_)
      refine hZ _ _ _ _ (hZ _ _ _ _ (hZ _ _ _ _ ?_))
      show Z 44 _ _ _
      refine hZ _ _ _ _ (p_tn (by rw [hR.2.2.1]; intro q; have := (nI_eq (a := k) (b := ρ.2.2.2.length) (by omega) (by omega)).mp q; omega) ?_)
      refine hZ _ _ _ _ (hZ _ _ _ _ (hZ _ _ _ _ (hZ _ _ _ _ ?_)))
      show Z 75 _ _ _
      rw [show nI k + 1 = nI (k + 1) from nI_1 k]
      refine hZ _ _ _ _ ⟨d - 1, by omega, m_stageAt hC (k + 1) rfl (by omega) ?_⟩
      rw [hst (k + 1) (by omega)]
      refine hZ _ _ _ _ (hZ _ _ _ _ (hZ _ _ _ _ ?_))
      show Z 83 _ _ _
      have loop : ∀ (n i : Nat) (M2 : pM), i + n = ρ.2.2.2.length → p_fr (f_lk k) M M2 → (∀ i, i < k → M2.1 (aS 9) i = M.1 (aS 9) i) → M2.1 (aS 7) 3 = ((List.range i).foldl f acc).1 → rowR M2 10 ((List.range i).foldl f acc).2 → Z 83 [some (vR (aS 7)), some (vR (aR 0 0)), some (vI (nI k)), some (vI u), some (vR (aI (Fin.ofNat 9 (k + 1)))), some (vR (aI (Fin.ofNat 9 (k + 1 + 1)))), some (vI (nI i))] [] M2 := by
        intro n
        induction n with
        | zero =>
          intro i M2 e9 f1 f2 f3 f4
          have : i = ρ.2.2.2.length := by omega
          subst this
          refine hZ _ _ _ _ ?_
          show Z 85 _ _ _
          refine hZ _ _ _ _ ?_
          refine hZ _ _ _ _ (hZ _ _ _ _ (hZ _ _ _ _ ?_))
          show Z 94 _ _ _
          refine hZ _ _ _ _ (br_t (by rw [f1.1 (aR 0 0) rfl, hR.2.2.1]; exact Int32.le_refl _) ?_)
          refine hZ _ _ _ _ ?_
          exact h M2 f1 f2 f3 f4
        | succ n ih2 =>
          intro i M2 e9 f1 f2 f3 f4
          have hi : i < ρ.2.2.2.length := by omega
          have step := fun M3 => ih2 (i + 1) M3 (by omega)
          rw [← nI_1, List.range_succ, List.foldl_append] at step
          generalize (List.range i).foldl f acc = ac at f3 f4 step
          have hR2 : cR M2 0 ρ := cR_cg (fun c => f1.1 _ rfl) hR
          have hs2 : iV M2 (Fin.ofNat 9 (k + 1)) = s := by rw [← hs]; simp only [iV, f1.1 _ (lk_self (k := k) (j := Fin.ofNat 9 (k + 1)) (by omega))]
          refine hZ _ _ _ _ ?_
          show Z 85 _ _ _
          refine hZ _ _ _ _ ?_
          refine hZ _ _ _ _ (hZ _ _ _ _ (hZ _ _ _ _ ?_))
          show Z 94 _ _ _
          refine hZ _ _ _ _ (br_f (by rw [hR2.2.2.1]; exact nI_ge hi (by omega)) ?_)
          refine hZ _ _ _ _ (hZ _ _ _ _ ?_)
          show Z 100 _ _ _
          refine hZ _ _ _ _ ⟨d - 1, by omega, m_bit hC ?_⟩
          by_cases c2 : bt1 u (nI i) = 0
          · refine hZ _ _ _ _ (p_fn (c2) ?_)
            refine hZ _ _ _ _ (hZ _ _ _ _ (hZ _ _ _ _ (hZ _ _ _ _ ?_)))
            show Z 113 _ _ _
            refine hZ _ _ _ _ ⟨d - 1, by omega, m_put hC k rfl (show k < 7 by omega) rfl ?_⟩
            refine hZ _ _ _ _ (hZ _ _ _ _ ?_)
            show Z 120 _ _ _
            refine hZ _ _ _ _ ⟨d - 1, by omega, m_ironCopy hC vne (fun M3 g1 g2 => ?_)⟩
            have R3 : cR M3 0 ρ := cR_cg (fun c => g1.1 _ rfl) (cR_cg (fun c => rfl) hR2)
            have s3 : iV M3 (Fin.ofNat 9 (k + 1 + 1)) = s := by rw [g2]; exact hs2
            refine hZ _ _ _ _ (hZ _ _ _ _ (hZ _ _ _ _ ?_))
            show Z 128 _ _ _
            refine hZ _ _ _ _ ⟨d - 1, by omega, m_take hC (by omega) R3 ok hi (fun M4 g3 g4 => ?_)⟩
            rw [s3] at g4
            refine hZ _ _ _ _ (hZ _ _ _ _ (hZ _ _ _ _ (hZ _ _ _ _ (hZ _ _ _ _ (hZ _ _ _ _ (hZ _ _ _ _ (hZ _ _ _ _ (hZ _ _ _ _ (hZ _ _ _ _ (hZ _ _ _ _ ?_))))))))))
            show Z 143 _ _ _
            rw [show nI k + 1 = nI (k + 1) from nI_1 k]
            have R4 : cR M4 0 ρ := cR_cg (fun c => g3.1 _ rfl) R3
            have e4 : M4.2 = M.2 := by rw [g3.2, g1.2]; exact f1.2
            have F4 : p_fr (f_lk k) M M4 := ((p_fr_wr f1 rfl).tr (g1.mono (lk_iron (by omega)))).tr (g3.mono (lk_iron (by omega)))
            have p4 : M4.1 (aS 9) = upd (M2.1 (aS 9)) k (nI i) := by rw [g3.1 (aS 9) rfl, g1.1 (aS 9) rfl, p_wr_eq]
            have m4 : M4.1 (aS 7) 3 = ac.1 := by rw [g3.1 (aS 7) rfl, g1.1 (aS 7) rfl]; exact f3
            have b4 : rowR M4 10 ac.2 := fun i x hx => by rw [g3.1 (aS 10) rfl, g1.1 (aS 10) rfl]; exact f4 i x hx
            refine hZ _ _ _ _ ⟨d - 1, by omega, ih (k + 1) (d - 1) M4 _ (tk ρ s i).1 _ (l ++ [i]) ac (by omega) (by omega) R4 (fun j hj => by rw [e4]; exact hst j hj) g4 (by simp [hl]) (fun j x hx => ?_) m4 b4 (fun M5 j1 j2 j3 j4 => ?_)⟩
            · rw [p4]
              by_cases ej : j < k
              · rw [List.getElem?_append_left (by omega)] at hx
                simp only [upd, if_neg (show ¬ j = k by omega)]
                rw [f2 j ej]
                exact hp j x hx
              · rw [List.getElem?_append_right (by omega)] at hx
                have := (List.getElem?_eq_some_iff.mp hx).1
                simp at this
                have ej2 : j = k := by omega
                subst ej2
                rw [hl] at hx
                simp at hx
                simp [upd, hx]
            · skip
              refine hZ _ _ _ _ (hZ _ _ _ _ ?_)
              show Z 83 _ _ _
              refine step M5 (F4.tr (j1.mono lk_up)) (fun j hj => ?_) ?_ ?_
              · rw [j2 j (by omega), p4]
                simp only [upd, if_neg (show ¬ j = k by omega)]
                exact f2 j hj
              · rw [j3, ef]
                simp only [List.foldl_cons, List.foldl_nil, if_pos c2]
              · rw [ef]
                simp only [List.foldl_cons, List.foldl_nil, if_pos c2]
                exact j4
          · skip
            refine hZ _ _ _ _ (p_tn (c2) ?_)
            refine hZ _ _ _ _ (hZ _ _ _ _ ?_)
            show Z 83 _ _ _
            refine step M2 f1 f2 ?_ ?_
            · rw [f3, ef]
              simp only [List.foldl_cons, List.foldl_nil, if_neg c2]
            · rw [ef]
              simp only [List.foldl_cons, List.foldl_nil, if_neg c2]
              exact f4
      exact loop ρ.2.2.2.length 0 M (Nat.zero_add _) p_fr_rf (fun _ _ => rfl) hm hb
def ord (ρ : pRm) : Int32 × List Nat := lkS ρ ρ.2.2.2.length s0 0 [] (-1, [])
theorem m_run {b : Bool} {C : pC} (hC : p_Lg b C) {d : Nat} {M : pM} {Q : pQ} {S : pS} (hd : 12 ≤ d) (hS : cS M S) (ok : okS S) (h : ∀ M', p_fr f_sc M M' → M'.1 (aS 7) 3 = (ord S.2.1).1 → rowR M' 10 (ord S.2.1).2 → Q M' none) : C d k_X3_run M [vR (aS 7), vR (aR 0 0)] Q := by
  have l3 := ok.1.2.2.1
  have hst := hS.2.2.2.2.2
  refine p_ent hC tb_X3_run _ rfl rfl rfl (fun Z hZ => ?_)
  refine hZ _ _ _ _ (hZ _ _ _ _ (hZ _ _ _ _ (hZ _ _ _ _ (hZ _ _ _ _ ?_))))
  show Z 7 _ _ _
  refine hZ _ _ _ _ ⟨d - 1, by omega, m_stageAt hC 0 rfl (by omega) ?_⟩
  rw [show (p_wr M (aS 7) 3 (-1)).2 (aS 8) 0 = some (aI 1) from hst 0 (by omega)]
  refine hZ _ _ _ _ (hZ _ _ _ _ ?_)
  show Z 12 _ _ _
  refine hZ _ _ _ _ ?_
  refine hZ _ _ _ _ ?_
  show Z 16 _ _ _
  refine hZ _ _ _ _ ⟨d - 1, by omega, m_cool hC (fun M1 g1 g2 => ?_)⟩
  refine hZ _ _ _ _ (hZ _ _ _ _ (hZ _ _ _ _ (hZ _ _ _ _ ?_)))
  show Z 23 _ _ _
  have F1 : p_fr f_sc M M1 := (p_fr_wr p_fr_rf rfl).tr (g1.mono (fun a ha => by rcases a with s | ⟨r | i⟩ <;> first | rfl | cases ha))
  refine hZ _ _ _ _ ⟨d - 1, by omega, m_look hC ok.1 S.2.1.2.2.2.length 0 (d - 1) M1 _ s0 0 [] (-1, []) (by omega) (by omega) (cS_sc F1 hS).2.1 (cS_sc F1 hS).2.2.2.2.2 g2 rfl (fun i x hx => by simp at hx) (by rw [g1.1 (aS 7) rfl, p_wr_eq]; rfl) (fun i x hx => by simp at hx) (fun M2 j1 _ j3 j4 => ?_)⟩
  refine hZ _ _ _ _ ?_
  exact h M2 (F1.tr (j1.mono lk_sc)) j3 j4
def sp_order (S : pS) (k : Int32) : pS × Int32 := (S, if k = -1 then (ord S.2.1).1 else match ix k S.2.1.2.2.2.length with
  | none => -1
  | some j => nI ((ord S.2.1).2.getD j 0))
theorem c_order {b : Bool} {C : pC} (hC : p_Lg b C) {d : Nat} {M : pM} {Q : pQ} {S : pS} {k : Int32} (hd : 13 ≤ d) (hS : cS M S) (ok : okS S) (hl : (ord S.2.1).2.length = S.2.1.2.2.2.length) (h : ∀ M', p_cl M M' → cS M' S → Q M' (some (vI (sp_order S k).2))) : C d k_X7_order M [vR (aS 0), vI k] Q := by
  have l3 := ok.1.2.2.1
  refine p_ent hC tb_X7_order _ rfl rfl rfl (fun Z hZ => ?_)
  refine hZ _ _ _ _ (hZ _ _ _ _ ?_)
  show Z 2 _ _ _
  by_cases e : k = -1
  · refine hZ _ _ _ _ (br_t (e) ?_)
    refine hZ _ _ _ _ (hZ _ _ _ _ (hZ _ _ _ _ (hZ _ _ _ _ ?_)))
    show Z 26 _ _ _
    refine hZ _ _ _ _ ⟨d - 1, by omega, m_run hC (by omega) hS ok (fun M1 g1 g2 g3 => ?_)⟩
    obtain ⟨k1, k2⟩ := cS_sc2 g1 hS
    have := h M1 k1 k2
    simp only [sp_order, if_pos e] at this
    refine hZ _ _ _ _ (hZ _ _ _ _ ?_)
    show Z 31 _ _ _
    refine hZ _ _ _ _ (p_fn (e) ?_)
    refine hZ _ _ _ _ (hZ _ _ _ _ (hZ _ _ _ _ (hZ _ _ _ _ ?_)))
    show Z 55 _ _ _
    refine hZ _ _ _ _ ?_
    rw [g2]
    exact this
  · skip
    refine hZ _ _ _ _ (br_f (e) ?_)
    refine hZ _ _ _ _ (hZ _ _ _ _ (hZ _ _ _ _ ?_))
    show Z 10 _ _ _
    refine hZ _ _ _ _ ⟨d - 1, by omega, m_isClaim hC hS.2.1 ok.1 (fun j b1 b2 b3 => ?_) (fun b1 => ?_)⟩
    · skip
      refine hZ _ _ _ _ (p_tn (by decide) ?_)
      refine hZ _ _ _ _ (hZ _ _ _ _ (hZ _ _ _ _ (hZ _ _ _ _ ?_)))
      show Z 26 _ _ _
      refine hZ _ _ _ _ ⟨d - 1, by omega, m_run hC (by omega) hS ok (fun M1 g1 g2 g3 => ?_)⟩
      obtain ⟨k1, k2⟩ := cS_sc2 g1 hS
      have := h M1 k1 k2
      simp only [sp_order, if_neg e, b1] at this
      refine hZ _ _ _ _ (hZ _ _ _ _ ?_)
      show Z 31 _ _ _
      refine hZ _ _ _ _ (p_tn (e) ?_)
      refine hZ _ _ _ _ (hZ _ _ _ _ (hZ _ _ _ _ (hZ _ _ _ _ ?_)))
      show Z 52 _ _ _
      refine hZ _ _ _ _ ⟨d - 1, by omega, m_at hC j b3 (show j < 7 by omega) rfl ?_⟩
      refine hZ _ _ _ _ ?_
      have hj : (ord S.2.1).2[j]? = some (ord S.2.1).2[j] := List.getElem?_eq_getElem (by omega)
      rw [g3 j _ hj]
      rw [List.getD_eq_getElem?_getD, hj] at this
      exact this
    · skip
      refine hZ _ _ _ _ (p_fn (rfl) ?_)
      refine hZ _ _ _ _ ?_
      show Z 17 _ _ _
      refine hZ _ _ _ _ ?_
      have := h M p_cl_rf hS
      simp only [sp_order, if_neg e, b1] at this
      exact this
