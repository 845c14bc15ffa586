/-! Sights and Shelf -/
abbrev pSn : Type := List (Int32 × Int32)
def sR (M : pM) (V : pSn) : Prop := V.length ≤ 6 ∧ M.1 (aS 11) 2 = nI V.length ∧ (∀ i x, V[i]? = some x → M.1 (aS 12) i = x.1 ∧ M.1 (aS 13) i = x.2) ∧ ∀ x ∈ V, ∃ t, x.1 = nI t ∧ t < 5
theorem sR_cg {M M' : pM} {V : pSn} (h : sR M V) (h1 : M'.1 (aS 11) = M.1 (aS 11)) (h2 : M'.1 (aS 12) = M.1 (aS 12)) (h3 : M'.1 (aS 13) = M.1 (aS 13)) : sR M' V := by
  simp only [sR, h1, h2, h3]
  exact h
def f_si : pA → Bool
  | .inl s => Nat.beq s 11 || (Nat.beq s 12 || Nat.beq s 13)
  | _ => false
theorem m_sightsClear {b : Bool} {C : pC} (hC : p_Lg b C) {d : Nat} {M : pM} {Q : pQ} (h : ∀ M', p_fr f_si M M' → sR M' [] → Q M' none) : C d k_X5_clear M [vR (aS 11)] Q := by
  refine p_ent hC tb_X5_clear _ rfl rfl rfl (fun Z hZ => ?_)
  refine hZ _ _ _ _ (hZ _ _ _ _ (hZ _ _ _ _ ?_))
  show Z 5 _ _ _
  refine hZ _ _ _ _ ?_
  exact h _ (p_fr_wr p_fr_rf rfl) ⟨by simp, rfl, fun i x hx => by simp at hx, fun x hx => by simp at hx⟩
theorem m_note {b : Bool} {C : pC} (hC : p_Lg b C) {d : Nat} {M : pM} {Q : pQ} {V : pSn} {x y : Int32} {t : Nat} (hd : 1 ≤ d) (hV : sR M V) (ex : x = nI t) (ht : t < 5) (h1 : V.length < 6 → ∀ M', p_fr f_si M M' → sR M' (V ++ [(x, y)]) → Q M' (some (vI 1))) (h0 : V.length = 6 → Q M (some (vI 0))) : C d k_X5_note M [vR (aS 11), vI x, vI y] Q := by
  obtain ⟨l1, a1, a2, a3⟩ := hV
  refine p_ent hC tb_X5_note _ rfl rfl rfl (fun Z hZ => ?_)
  refine hZ _ _ _ _ (hZ _ _ _ _ (hZ _ _ _ _ ?_))
  show Z 6 _ _ _
  rw [a1]
  refine hZ _ _ _ _ ⟨fun c1 => ?_, fun c1 => ?_⟩
  · skip
    have hlt := (nI_ltI (a := V.length) (b := 6) (by omega) (by omega)).mp c1
    refine hZ _ _ _ _ (hZ _ _ _ _ (hZ _ _ _ _ (hZ _ _ _ _ (hZ _ _ _ _ ?_))))
    show Z 20 _ _ _
    refine hZ _ _ _ _ ⟨d - 1, by omega, m_put hC _ a1 hlt rfl ?_⟩
    refine hZ _ _ _ _ (hZ _ _ _ _ (hZ _ _ _ _ (hZ _ _ _ _ (hZ _ _ _ _ ?_))))
    show Z 32 _ _ _
    refine hZ _ _ _ _ ⟨d - 1, by omega, m_put hC _ a1 hlt rfl ?_⟩
    refine hZ _ _ _ _ (hZ _ _ _ _ (hZ _ _ _ _ (hZ _ _ _ _ (hZ _ _ _ _ (hZ _ _ _ _ (hZ _ _ _ _ ?_))))))
    show Z 46 _ _ _
    refine hZ _ _ _ _ ⟨Or.inr rfl, ?_⟩
    refine h1 hlt _ (p_fr_wr (p_fr_wr (p_fr_wr p_fr_rf rfl) rfl) rfl) ⟨by simp; omega, ?_, fun i z hz => ?_, fun z hz => ?_⟩
    · rw [p_wr_eq]
      show M.1 (aS 11) 2 + 1 = _
      rw [a1, nI_1]
      simp
    · show (p_wr M (aS 12) V.length x).1 (aS 12) i = z.1 ∧ (p_wr M (aS 13) V.length y).1 (aS 13) i = z.2
      rw [p_wr_eq, p_wr_eq]
      by_cases e : i < V.length
      · rw [List.getElem?_append_left e] at hz
        simp only [upd, if_neg (show ¬ i = V.length by omega)]
        exact a2 i z hz
      · rw [List.getElem?_append_right (by omega)] at hz
        have := (List.getElem?_eq_some_iff.mp hz).1
        simp at this
        have e2 : i = V.length := by omega
        subst e2
        simp at hz
        simp [upd, ← hz]
    · rcases List.mem_append.mp hz with hz | hz
      · exact a3 z hz
      · rw [List.mem_singleton.mp hz]
        exact ⟨t, ex, ht⟩
  · skip
    refine hZ _ _ _ _ ?_
    show Z 10 _ _ _
    refine hZ _ _ _ _ ⟨Or.inl rfl, ?_⟩
    have := mt (nI_ltI (a := V.length) (b := 6) (by omega) (by omega)).mpr c1
    exact h0 (by omega)
/-- all that is seen would be so, by where the tellers let go -/
def agr (dr : Nat → Int32) (V : pSn) : Bool := V.all (fun x => decide (dr x.1.toNatClampNeg = x.2))
theorem m_agree {b : Bool} {C : pC} (hC : p_Lg b C) {d : Nat} {M : pM} {Q : pQ} {V : pSn} {dr : Nat → Int32} (hd : 1 ≤ d) (hV : sR M V) (hdr : ∀ t, t < 5 → M.1 (aS 6) t = dr t) (h1 : agr dr V = true → Q M (some (vI 1))) (h0 : agr dr V = false → Q M (some (vI 0))) : C d k_X5_agreeWith M [vR (aS 11), vR (aS 4)] Q := by
  obtain ⟨l1, a1, a2, a3⟩ := hV
  refine p_ent hC tb_X5_agreeWith _ rfl rfl rfl (fun Z hZ => ?_)
  refine hZ _ _ _ _ (hZ _ _ _ _ ?_)
  show Z 2 _ _ _
  have loop : ∀ (n i : Nat), i + n = V.length → agr dr (V.take i) = true → Z 2 [some (vR (aS 11)), some (vR (aS 4)), some (vI (nI i))] [] M := by
    intro n
    induction n with
    | zero =>
      intro i e1 e2
      have : i = V.length := by omega
      subst this
      rw [List.take_length] at e2
      refine hZ _ _ _ _ (hZ _ _ _ _ (hZ _ _ _ _ ?_))
      show Z 7 _ _ _
      refine hZ _ _ _ _ (br_t (by rw [a1]; exact Int32.le_refl _) ?_)
      refine hZ _ _ _ _ ?_
      show Z 45 _ _ _
      refine hZ _ _ _ _ ⟨Or.inr rfl, ?_⟩
      exact h1 e2
    | succ n ih =>
      intro i e1 e2
      have hi : i < V.length := by omega
      have hx : V[i]? = some V[i] := List.getElem?_eq_getElem hi
      obtain ⟨t, et, ht⟩ := a3 _ (List.getElem_mem hi)
      obtain ⟨b1, b2⟩ := a2 i _ hx
      have ecl : V[i].1.toNatClampNeg = t := by rw [et]; exact nI_clamp (by omega)
      refine hZ _ _ _ _ (hZ _ _ _ _ (hZ _ _ _ _ ?_))
      show Z 7 _ _ _
      refine hZ _ _ _ _ (br_f (by rw [a1]; exact nI_ge hi (by omega)) ?_)
      refine hZ _ _ _ _ (hZ _ _ _ _ (hZ _ _ _ _ (hZ _ _ _ _ (hZ _ _ _ _ ?_))))
      show Z 19 _ _ _
      refine hZ _ _ _ _ ⟨d - 1, by omega, m_at hC i rfl (show i < 6 by omega) rfl ?_⟩
      refine hZ _ _ _ _ ⟨d - 1, by omega, m_at hC t (by rw [b1]; exact et) ht rfl ?_⟩
      refine hZ _ _ _ _ (hZ _ _ _ _ (hZ _ _ _ _ ?_))
      show Z 30 _ _ _
      refine hZ _ _ _ _ ⟨d - 1, by omega, m_at hC i rfl (show i < 6 by omega) rfl ?_⟩
      rw [b2, hdr t ht]
      refine hZ _ _ _ _ ⟨fun c1 => ?_, fun c1 => ?_⟩
      · skip
        refine hZ _ _ _ _ (hZ _ _ _ _ ?_)
        show Z 2 _ _ _
        rw [show nI i + 1 = nI (i + 1) from nI_1 i]
        refine ih (i + 1) (by omega) ?_
        rw [List.take_succ_eq_append_getElem hi, agr, List.all_append, Bool.and_eq_true]
        exact ⟨e2, by simp [ecl, c1]⟩
      · skip
        refine hZ _ _ _ _ ?_
        show Z 37 _ _ _
        refine hZ _ _ _ _ ⟨Or.inl rfl, ?_⟩
        refine h0 ?_
        cases e9 : agr dr V with
        | false => rfl
        | true =>
          have := List.all_eq_true.mp e9 _ (List.getElem_mem hi)
          rw [ecl] at this
          exact absurd (of_decide_eq_true this) c1
  exact loop V.length 0 (Nat.zero_add _) rfl
/-- a shelf: its object, its row of rooms, how many it holds at most, which rooms; L: the rooms put by, the oldest first -/
def shR (M : pM) (so sa cap lo : Nat) (L : List pRm) : Prop := L.length ≤ cap ∧ M.1 (aS so) 1 = nI L.length ∧ ∃ σ : Nat → Fin 12, (∀ i, i < cap → M.2 (aS sa) i = some (aR (σ i) 0) ∧ lo ≤ (σ i).val ∧ (σ i).val < lo + cap) ∧ (∀ i j, i < cap → j < cap → σ i = σ j → i = j) ∧ ∀ i ρ, L[i]? = some ρ → cR M (σ i) ρ ∧ okR ρ
def p_fq (ch : pA → Bool) (sa : Nat) (M M' : pM) : Prop := (∀ a, ch a = false → M'.1 a = M.1 a) ∧ ∀ a, a ≠ aS sa → M'.2 a = M.2 a
def f_sh (so lo cap : Nat) : pA → Bool
  | .inl s => Nat.beq s so
  | .inr (.inl r) => Nat.ble lo r.1.val && Nat.blt r.1.val (lo + cap)
  | _ => false
theorem shR_cg {M M' : pM} {so sa cap lo : Nat} {L : List pRm} (h : shR M so sa cap lo L) (h1 : M'.1 (aS so) = M.1 (aS so)) (h2 : M'.2 (aS sa) = M.2 (aS sa)) (h3 : ∀ (j : Fin 12) (c : Nat), lo ≤ j.val → j.val < lo + cap → M'.1 (aR j c) = M.1 (aR j c)) : shR M' so sa cap lo L := by
  obtain ⟨a1, a2, σ, b1, b2, b3⟩ := h
  refine ⟨a1, by rw [h1]; exact a2, σ, fun i hi => by rw [h2]; exact b1 i hi, b2, fun i ρ hi => ?_⟩
  have hc : i < cap := Nat.lt_of_lt_of_le (List.getElem?_eq_some_iff.mp hi).1 a1
  exact ⟨cR_cg (fun c => h3 _ c (b1 i hc).2.1 (b1 i hc).2.2) (b3 i ρ hi).1, (b3 i ρ hi).2⟩
theorem m_shClearP {b : Bool} {C : pC} (hC : p_Lg b C) {d : Nat} {M : pM} {Q : pQ} (h : ∀ M', p_fr (f_cell (aS 14)) M M' → (∀ L, shR M 14 15 8 2 L → shR M' 14 15 8 2 []) → Q M' none) : C d k_X4_clear M [vR (aS 14)] Q := by
  refine p_ent hC tb_X4_clear _ rfl rfl rfl (fun Z hZ => ?_)
  refine hZ _ _ _ _ (hZ _ _ _ _ (hZ _ _ _ _ ?_))
  show Z 5 _ _ _
  refine hZ _ _ _ _ ?_
  refine h _ (p_fr_wr p_fr_rf rfl) (fun L hL => ?_)
  obtain ⟨a1, a2, σ, b1, b2, b3⟩ := hL
  exact ⟨by simp, rfl, σ, b1, b2, fun i ρ hi => by simp at hi⟩
theorem m_roomAtP {b : Bool} {C : pC} (hC : p_Lg b C) {d : Nat} {M : pM} {Q : pQ} {i : Int32} (n : Nat) (ei : i = nI n) (hn : n < 8) (h : Q M (some (.inr (.inr (M.2 (aS 15) n))))) : C d k_X4_roomAt M [vR (aS 14), vI i] Q := by
  subst ei
  refine p_ent hC tb_X4_roomAt _ rfl rfl rfl (fun Z hZ => ?_)
  refine hZ _ _ _ _ ?_
  show Z 1 _ _ _
  refine hZ _ _ _ _ (br_f (nI_pos (by omega)) ?_)
  refine hZ _ _ _ _ (hZ _ _ _ _ (hZ _ _ _ _ (hZ _ _ _ _ ?_)))
  show Z 10 _ _ _
  refine hZ _ _ _ _ (br_f (nI_ge (a := n) (b := 8) hn (by omega)) ?_)
  refine hZ _ _ _ _ (hZ _ _ _ _ (hZ _ _ _ _ ?_))
  show Z 18 _ _ _
  refine hZ _ _ _ _ ⟨vp_in_nI (N := 8) hn (by omega), ?_⟩
  refine hZ _ _ _ _ ?_
  show Z 23 _ _ _
  refine hZ _ _ _ _ ?_
  rw [nI_clamp (by omega)]
  exact h
theorem m_roomAtNP {b : Bool} {C : pC} (hC : p_Lg b C) {d : Nat} {M : pM} {Q : pQ} {i : Int32} (hi : i < 0) (h : Q M (some vN)) : C d k_X4_roomAt M [vR (aS 14), vI i] Q := by
  refine p_ent hC tb_X4_roomAt _ rfl rfl rfl (fun Z hZ => ?_)
  refine hZ _ _ _ _ ?_
  show Z 1 _ _ _
  refine hZ _ _ _ _ (br_t (hi) ?_)
  refine hZ _ _ _ _ ?_
  show Z 23 _ _ _
  refine hZ _ _ _ _ ?_
  exact h
theorem m_push0P {b : Bool} {C : pC} (hC : p_Lg b C) {d : Nat} {M : pM} {Q : pQ} {L : List pRm} {ρ : pRm} (hd : 4 ≤ d) (hlt : L.length < 8) (hL : shR M 14 15 8 2 L) (hR : cR M 0 ρ) (ok : okR ρ) (h : ∀ M', p_fr (f_sh 14 2 8) M M' → shR M' 14 15 8 2 (L ++ [ρ]) → Q M' none) (tb9 : Nat) (Z : pX) (hZ : p_Cl b C tb_X4_push d Q Z) : Z 16 [some (vR (aS 14)), some (vR (aR 0 0)), none] [] M := by
  obtain ⟨a1, a2, σ, b1, b2, b3⟩ := hL
  obtain ⟨c1, c2, c3⟩ := b1 L.length hlt
  have hne : (0 : Fin 12) ≠ σ L.length := fun e => by rw [← e] at c2; exact absurd c2 (by decide)
  refine hZ _ _ _ _ (hZ _ _ _ _ (hZ _ _ _ _ ?_))
  show Z 21 _ _ _
  rw [a2]
  refine hZ _ _ _ _ ⟨d - 1, by omega, m_roomAtP hC L.length rfl hlt ?_⟩
  rw [c1]
  refine hZ _ _ _ _ (hZ _ _ _ _ ?_)
  show Z 26 _ _ _
  refine hZ _ _ _ _ ?_
  refine hZ _ _ _ _ (hZ _ _ _ _ ?_)
  show Z 31 _ _ _
  refine hZ _ _ _ _ ⟨d - 1, by omega, m_roomCopy hC (by omega) hne hR ok (fun M1 g1 g2 => ?_)⟩
  have F1 : p_fr (f_sh 14 2 8) M M1 := g1.mono (fun a ha => by
    rcases a with s | ⟨⟨j, c⟩ | i⟩
    · rfl
    · refine f_room_ne (fun e => ?_) c
      subst e
      simp only [f_sh, Bool.and_eq_false_iff] at ha
      rcases ha with ha | ha
      · exact absurd (Nat.ble_eq_true_of_le c2) (by rw [ha]; decide)
      · exact absurd (Nat.ble_eq_true_of_le (show (σ L.length).val + 1 ≤ 2 + 8 from c3)) (by rw [show Nat.ble ((σ L.length).val + 1) (2 + 8) = false from ha]; decide)
    · rfl)
  refine hZ _ _ _ _ (hZ _ _ _ _ (hZ _ _ _ _ (hZ _ _ _ _ (hZ _ _ _ _ (hZ _ _ _ _ ?_)))))
  show Z 44 _ _ _
  refine hZ _ _ _ _ ?_
  have k0 : M1.1 (aS 14) 1 = nI L.length := by rw [g1.1 (aS 14) rfl]; exact a2
  refine h _ (p_fr_wr F1 rfl) ⟨by simp; omega, ?_, σ, fun i hi => ?_, b2, fun i ρ' hi => ?_⟩
  · rw [p_wr_eq]
    show M1.1 (aS 14) 1 + 1 = _
    rw [k0, nI_1]
    simp
  · show M1.2 (aS 15) i = _ ∧ _
    rw [g1.2]
    exact b1 i hi
  · by_cases e : i < L.length
    · rw [List.getElem?_append_left e] at hi
      have hci : i < 8 := by omega
      have hnei : σ i ≠ σ L.length := fun e9 => by have := b2 i L.length hci hlt e9; omega
      exact ⟨cR_cg (fun c => g1.1 _ (f_room_ne hnei c)) (b3 i ρ' hi).1, (b3 i ρ' hi).2⟩
    · rw [List.getElem?_append_right (by omega)] at hi
      have := (List.getElem?_eq_some_iff.mp hi).1
      simp at this
      have e2 : i = L.length := by omega
      subst e2
      simp at hi
      subst hi
      exact ⟨cR_cg (fun c => rfl) g2, ok⟩
theorem m_popP {b : Bool} {C : pC} (hC : p_Lg b C) {d : Nat} {M : pM} {Q : pQ} {L : List pRm} (hd : 3 ≤ d) (hL : shR M 14 15 8 2 L) (h1 : ∀ ρ L', L = L' ++ [ρ] → okR ρ → ∀ M', p_fr (fun a => f_room 0 a || f_cell (aS 14) a) M M' → cR M' 0 ρ → shR M' 14 15 8 2 L' → Q M' (some (vI 1))) (h0 : L = [] → Q M (some (vI 0))) : C d k_X4_popInto M [vR (aS 14), vR (aR 0 0)] Q := by
  obtain ⟨a1, a2, σ, b1, b2, b3⟩ := hL
  refine p_ent hC tb_X4_popInto _ rfl rfl rfl (fun Z hZ => ?_)
  refine hZ _ _ _ _ (hZ _ _ _ _ (hZ _ _ _ _ (hZ _ _ _ _ (hZ _ _ _ _ ?_))))
  show Z 7 _ _ _
  rw [a2]
  rcases List.eq_nil_or_concat L with e | ⟨L', ρ, e⟩
  · subst e
    refine hZ _ _ _ _ ⟨d - 1, by omega, m_roomAtNP hC (by decide) ?_⟩
    refine hZ _ _ _ _ (hZ _ _ _ _ ?_)
    show Z 12 _ _ _
    refine hZ _ _ _ _ ?_
    refine hZ _ _ _ _ ?_
    show Z 16 _ _ _
    refine hZ _ _ _ _ ⟨Or.inl rfl, ?_⟩
    exact h0 rfl
  · skip
    rw [List.concat_eq_append] at e
    have hlen : L.length = L'.length + 1 := by rw [e]; simp
    have hlt : L'.length < 8 := by omega
    have htop : L[L'.length]? = some ρ := by rw [e]; simp
    obtain ⟨c1, c2, c3⟩ := b1 L'.length hlt
    obtain ⟨r1, ok⟩ := b3 L'.length ρ htop
    have hne : σ L'.length ≠ (0 : Fin 12) := fun e9 => by rw [e9] at c2; exact absurd c2 (by decide)
    rw [hlen, nI_pred]
    refine hZ _ _ _ _ ⟨d - 1, by omega, m_roomAtP hC L'.length rfl hlt ?_⟩
    rw [c1]
    refine hZ _ _ _ _ (hZ _ _ _ _ ?_)
    show Z 12 _ _ _
    refine hZ _ _ _ _ ?_
    refine hZ _ _ _ _ (hZ _ _ _ _ ?_)
    show Z 19 _ _ _
    refine hZ _ _ _ _ ⟨d - 1, by omega, m_roomCopy hC (by omega) hne r1 ok (fun M1 g1 g2 => ?_)⟩
    refine hZ _ _ _ _ (hZ _ _ _ _ (hZ _ _ _ _ (hZ _ _ _ _ (hZ _ _ _ _ (hZ _ _ _ _ (hZ _ _ _ _ ?_))))))
    show Z 33 _ _ _
    refine hZ _ _ _ _ ⟨Or.inr rfl, ?_⟩
    have hse : M1.1 (aS 14) = M.1 (aS 14) := g1.1 (aS 14) rfl
    refine h1 ρ L' e ok _ (p_fr_wr (g1.mono (fun a ha => by simp only [Bool.or_eq_false_iff] at ha; exact ha.1)) (by simp [f_cell, p_eq_rf])) (cR_cg (fun c => rfl) g2) ⟨by omega, ?_, σ, fun i hi => ?_, b2, fun i ρ' hi => ?_⟩
    · rw [p_wr_eq]
      show M1.1 (aS 14) 1 - 1 = _
      rw [hse, a2, hlen, nI_pred]
    · show M1.2 (aS 15) i = _ ∧ _
      rw [g1.2]
      exact b1 i hi
    · have hi' : L[i]? = some ρ' := by rw [e, List.getElem?_append_left (List.getElem?_eq_some_iff.mp hi).1]; exact hi
      have hci : i < 8 := by
        have := (List.getElem?_eq_some_iff.mp hi).1
        omega
      have hn0 : σ i ≠ (0 : Fin 12) := fun e9 => by have := (b1 i hci).2.1; rw [e9] at this; exact absurd this (by decide)
      exact ⟨cR_cg (fun c => g1.1 _ (f_room_ne hn0 c)) (b3 i ρ' hi').1, (b3 i ρ' hi').2⟩
theorem m_shClearK {b : Bool} {C : pC} (hC : p_Lg b C) {d : Nat} {M : pM} {Q : pQ} (h : ∀ M', p_fr (f_cell (aS 16)) M M' → (∀ L, shR M 16 17 2 10 L → shR M' 16 17 2 10 []) → Q M' none) : C d k_X4_clear M [vR (aS 16)] Q := by
  refine p_ent hC tb_X4_clear _ rfl rfl rfl (fun Z hZ => ?_)
  refine hZ _ _ _ _ (hZ _ _ _ _ (hZ _ _ _ _ ?_))
  show Z 5 _ _ _
  refine hZ _ _ _ _ ?_
  refine h _ (p_fr_wr p_fr_rf rfl) (fun L hL => ?_)
  obtain ⟨a1, a2, σ, b1, b2, b3⟩ := hL
  exact ⟨by simp, rfl, σ, b1, b2, fun i ρ hi => by simp at hi⟩
theorem m_roomAtK {b : Bool} {C : pC} (hC : p_Lg b C) {d : Nat} {M : pM} {Q : pQ} {i : Int32} (n : Nat) (ei : i = nI n) (hn : n < 2) (h : Q M (some (.inr (.inr (M.2 (aS 17) n))))) : C d k_X4_roomAt M [vR (aS 16), vI i] Q := by
  subst ei
  refine p_ent hC tb_X4_roomAt _ rfl rfl rfl (fun Z hZ => ?_)
  refine hZ _ _ _ _ ?_
  show Z 1 _ _ _
  refine hZ _ _ _ _ (br_f (nI_pos (by omega)) ?_)
  refine hZ _ _ _ _ (hZ _ _ _ _ (hZ _ _ _ _ (hZ _ _ _ _ ?_)))
  show Z 10 _ _ _
  refine hZ _ _ _ _ (br_f (nI_ge (a := n) (b := 2) hn (by omega)) ?_)
  refine hZ _ _ _ _ (hZ _ _ _ _ (hZ _ _ _ _ ?_))
  show Z 18 _ _ _
  refine hZ _ _ _ _ ⟨vp_in_nI (N := 2) hn (by omega), ?_⟩
  refine hZ _ _ _ _ ?_
  show Z 23 _ _ _
  refine hZ _ _ _ _ ?_
  rw [nI_clamp (by omega)]
  exact h
theorem m_roomAtNK {b : Bool} {C : pC} (hC : p_Lg b C) {d : Nat} {M : pM} {Q : pQ} {i : Int32} (hi : i < 0) (h : Q M (some vN)) : C d k_X4_roomAt M [vR (aS 16), vI i] Q := by
  refine p_ent hC tb_X4_roomAt _ rfl rfl rfl (fun Z hZ => ?_)
  refine hZ _ _ _ _ ?_
  show Z 1 _ _ _
  refine hZ _ _ _ _ (br_t (hi) ?_)
  refine hZ _ _ _ _ ?_
  show Z 23 _ _ _
  refine hZ _ _ _ _ ?_
  exact h
theorem m_push0K {b : Bool} {C : pC} (hC : p_Lg b C) {d : Nat} {M : pM} {Q : pQ} {L : List pRm} {ρ : pRm} (hd : 4 ≤ d) (hlt : L.length < 2) (hL : shR M 16 17 2 10 L) (hR : cR M 0 ρ) (ok : okR ρ) (h : ∀ M', p_fr (f_sh 16 10 2) M M' → shR M' 16 17 2 10 (L ++ [ρ]) → Q M' none) (tb9 : Nat) (Z : pX) (hZ : p_Cl b C tb_X4_push d Q Z) : Z 16 [some (vR (aS 16)), some (vR (aR 0 0)), none] [] M := by
  obtain ⟨a1, a2, σ, b1, b2, b3⟩ := hL
  obtain ⟨c1, c2, c3⟩ := b1 L.length hlt
  have hne : (0 : Fin 12) ≠ σ L.length := fun e => by rw [← e] at c2; exact absurd c2 (by decide)
  refine hZ _ _ _ _ (hZ _ _ _ _ (hZ _ _ _ _ ?_))
  show Z 21 _ _ _
  rw [a2]
  refine hZ _ _ _ _ ⟨d - 1, by omega, m_roomAtK hC L.length rfl hlt ?_⟩
  rw [c1]
  refine hZ _ _ _ _ (hZ _ _ _ _ ?_)
  show Z 26 _ _ _
  refine hZ _ _ _ _ ?_
  refine hZ _ _ _ _ (hZ _ _ _ _ ?_)
  show Z 31 _ _ _
  refine hZ _ _ _ _ ⟨d - 1, by omega, m_roomCopy hC (by omega) hne hR ok (fun M1 g1 g2 => ?_)⟩
  have F1 : p_fr (f_sh 16 10 2) M M1 := g1.mono (fun a ha => by
    rcases a with s | ⟨⟨j, c⟩ | i⟩
    · rfl
    · refine f_room_ne (fun e => ?_) c
      subst e
      simp only [f_sh, Bool.and_eq_false_iff] at ha
      rcases ha with ha | ha
      · exact absurd (Nat.ble_eq_true_of_le c2) (by rw [ha]; decide)
      · exact absurd (Nat.ble_eq_true_of_le (show (σ L.length).val + 1 ≤ 10 + 2 from c3)) (by rw [show Nat.ble ((σ L.length).val + 1) (10 + 2) = false from ha]; decide)
    · rfl)
  refine hZ _ _ _ _ (hZ _ _ _ _ (hZ _ _ _ _ (hZ _ _ _ _ (hZ _ _ _ _ (hZ _ _ _ _ ?_)))))
  show Z 44 _ _ _
  refine hZ _ _ _ _ ?_
  have k0 : M1.1 (aS 16) 1 = nI L.length := by rw [g1.1 (aS 16) rfl]; exact a2
  refine h _ (p_fr_wr F1 rfl) ⟨by simp; omega, ?_, σ, fun i hi => ?_, b2, fun i ρ' hi => ?_⟩
  · rw [p_wr_eq]
    show M1.1 (aS 16) 1 + 1 = _
    rw [k0, nI_1]
    simp
  · show M1.2 (aS 17) i = _ ∧ _
    rw [g1.2]
    exact b1 i hi
  · by_cases e : i < L.length
    · rw [List.getElem?_append_left e] at hi
      have hci : i < 2 := by omega
      have hnei : σ i ≠ σ L.length := fun e9 => by have := b2 i L.length hci hlt e9; omega
      exact ⟨cR_cg (fun c => g1.1 _ (f_room_ne hnei c)) (b3 i ρ' hi).1, (b3 i ρ' hi).2⟩
    · rw [List.getElem?_append_right (by omega)] at hi
      have := (List.getElem?_eq_some_iff.mp hi).1
      simp at this
      have e2 : i = L.length := by omega
      subst e2
      simp at hi
      subst hi
      exact ⟨cR_cg (fun c => rfl) g2, ok⟩
theorem m_popK {b : Bool} {C : pC} (hC : p_Lg b C) {d : Nat} {M : pM} {Q : pQ} {L : List pRm} (hd : 3 ≤ d) (hL : shR M 16 17 2 10 L) (h1 : ∀ ρ L', L = L' ++ [ρ] → okR ρ → ∀ M', p_fr (fun a => f_room 0 a || f_cell (aS 16) a) M M' → cR M' 0 ρ → shR M' 16 17 2 10 L' → Q M' (some (vI 1))) (h0 : L = [] → Q M (some (vI 0))) : C d k_X4_popInto M [vR (aS 16), vR (aR 0 0)] Q := by
  obtain ⟨a1, a2, σ, b1, b2, b3⟩ := hL
  refine p_ent hC tb_X4_popInto _ rfl rfl rfl (fun Z hZ => ?_)
  refine hZ _ _ _ _ (hZ _ _ _ _ (hZ _ _ _ _ (hZ _ _ _ _ (hZ _ _ _ _ ?_))))
  show Z 7 _ _ _
  rw [a2]
  rcases List.eq_nil_or_concat L with e | ⟨L', ρ, e⟩
  · subst e
    refine hZ _ _ _ _ ⟨d - 1, by omega, m_roomAtNK hC (by decide) ?_⟩
    refine hZ _ _ _ _ (hZ _ _ _ _ ?_)
    show Z 12 _ _ _
    refine hZ _ _ _ _ ?_
    refine hZ _ _ _ _ ?_
    show Z 16 _ _ _
    refine hZ _ _ _ _ ⟨Or.inl rfl, ?_⟩
    exact h0 rfl
  · skip
    rw [List.concat_eq_append] at e
    have hlen : L.length = L'.length + 1 := by rw [e]; simp
    have hlt : L'.length < 2 := by omega
    have htop : L[L'.length]? = some ρ := by rw [e]; simp
    obtain ⟨c1, c2, c3⟩ := b1 L'.length hlt
    obtain ⟨r1, ok⟩ := b3 L'.length ρ htop
    have hne : σ L'.length ≠ (0 : Fin 12) := fun e9 => by rw [e9] at c2; exact absurd c2 (by decide)
    rw [hlen, nI_pred]
    refine hZ _ _ _ _ ⟨d - 1, by omega, m_roomAtK hC L'.length rfl hlt ?_⟩
    rw [c1]
    refine hZ _ _ _ _ (hZ _ _ _ _ ?_)
    show Z 12 _ _ _
    refine hZ _ _ _ _ ?_
    refine hZ _ _ _ _ (hZ _ _ _ _ ?_)
    show Z 19 _ _ _
    refine hZ _ _ _ _ ⟨d - 1, by omega, m_roomCopy hC (by omega) hne r1 ok (fun M1 g1 g2 => ?_)⟩
    refine hZ _ _ _ _ (hZ _ _ _ _ (hZ _ _ _ _ (hZ _ _ _ _ (hZ _ _ _ _ (hZ _ _ _ _ (hZ _ _ _ _ ?_))))))
    show Z 33 _ _ _
    refine hZ _ _ _ _ ⟨Or.inr rfl, ?_⟩
    have hse : M1.1 (aS 16) = M.1 (aS 16) := g1.1 (aS 16) rfl
    refine h1 ρ L' e ok _ (p_fr_wr (g1.mono (fun a ha => by simp only [Bool.or_eq_false_iff] at ha; exact ha.1)) (by simp [f_cell, p_eq_rf])) (cR_cg (fun c => rfl) g2) ⟨by omega, ?_, σ, fun i hi => ?_, b2, fun i ρ' hi => ?_⟩
    · rw [p_wr_eq]
      show M1.1 (aS 16) 1 - 1 = _
      rw [hse, a2, hlen, nI_pred]
    · show M1.2 (aS 17) i = _ ∧ _
      rw [g1.2]
      exact b1 i hi
    · have hi' : L[i]? = some ρ' := by rw [e, List.getElem?_append_left (List.getElem?_eq_some_iff.mp hi).1]; exact hi
      have hci : i < 2 := by
        have := (List.getElem?_eq_some_iff.mp hi).1
        omega
      have hn0 : σ i ≠ (0 : Fin 12) := fun e9 => by have := (b1 i hci).2.1; rw [e9] at this; exact absurd this (by decide)
      exact ⟨cR_cg (fun c => g1.1 _ (f_room_ne hn0 c)) (b3 i ρ' hi').1, (b3 i ρ' hi').2⟩
theorem m_pushK {b : Bool} {C : pC} (hC : p_Lg b C) {d : Nat} {M : pM} {Q : pQ} {L : List pRm} {ρ : pRm} (hd : 4 ≤ d) (hlt : L.length < 2) (hL : shR M 16 17 2 10 L) (hR : cR M 0 ρ) (ok : okR ρ) (h : ∀ M', p_fr (f_sh 16 10 2) M M' → shR M' 16 17 2 10 (L ++ [ρ]) → Q M' none) : C d k_X4_push M [vR (aS 16), vR (aR 0 0)] Q := by
  refine p_ent hC tb_X4_push _ rfl rfl rfl (fun Z hZ => ?_)
  refine hZ _ _ _ _ (hZ _ _ _ _ (hZ _ _ _ _ (hZ _ _ _ _ (hZ _ _ _ _ ?_))))
  show Z 9 _ _ _
  refine hZ _ _ _ _ (br_t (by rw [hL.2.1]; exact nI_lt (b := 2) hlt (by omega)) ?_)
  exact m_push0K hC hd hlt hL hR ok h 0 Z hZ
theorem m_dropOldest {b : Bool} {C : pC} (hC : p_Lg b C) {d : Nat} {M : pM} {Q : pQ} {x : pRm} {L : List pRm} (hd : 1 ≤ d) (h8 : L.length = 7) (hL : shR M 14 15 8 2 (x :: L)) (h : ∀ M', p_fq (f_cell (aS 14)) 15 M M' → shR M' 14 15 8 2 L → Q M' none) : C d k_X4_dropOldest M [vR (aS 14)] Q := by
  obtain ⟨a1, a2, σ, b1, b2, b3⟩ := hL
  refine p_ent hC tb_X4_dropOldest _ rfl rfl rfl (fun Z hZ => ?_)
  refine hZ _ _ _ _ (hZ _ _ _ _ ?_)
  show Z 2 _ _ _
  refine hZ _ _ _ _ ⟨d - 1, by omega, m_roomAtP hC 0 rfl (by omega) ?_⟩
  rw [(b1 0 (by omega)).1]
  refine hZ _ _ _ _ (hZ _ _ _ _ (hZ _ _ _ _ ?_))
  show Z 8 _ _ _
  have loop : ∀ (n i : Nat) (M2 : pM), i + n = 8 → 1 ≤ i → M2.1 = M.1 → (∀ a, a ≠ aS 15 → M2.2 a = M.2 a) → (∀ k, k < 8 → M2.2 (aS 15) k = some (aR (σ (if k + 1 < i then k + 1 else k)) 0)) → Z 8 [some (vR (aS 14)), some (vR (aR (σ 0) 0)), some (vI (nI i))] [] M2 := by
    intro n
    induction n with
    | zero =>
      intro i M2 e1 e2 f1 f2 f3
      have : i = 8 := by omega
      subst this
      refine hZ _ _ _ _ (hZ _ _ _ _ (hZ _ _ _ _ (hZ _ _ _ _ ?_)))
      show Z 14 _ _ _
      refine hZ _ _ _ _ (br_t (Int32.le_refl _) ?_)
      refine hZ _ _ _ _ (hZ _ _ _ _ (hZ _ _ _ _ ?_))
      show Z 42 _ _ _
      refine hZ _ _ _ _ (br_f (by decide) ?_)
      refine hZ _ _ _ _ (hZ _ _ _ _ (hZ _ _ _ _ (hZ _ _ _ _ (hZ _ _ _ _ (hZ _ _ _ _ (hZ _ _ _ _ (hZ _ _ _ _ ?_)))))))
      show Z 57 _ _ _
      refine hZ _ _ _ _ ⟨vp_in_nI (n := 7) (N := 8) (by omega) (by omega), ?_⟩
      refine hZ _ _ _ _ (hZ _ _ _ _ (hZ _ _ _ _ (hZ _ _ _ _ (hZ _ _ _ _ (hZ _ _ _ _ ?_)))))
      show Z 68 _ _ _
      refine hZ _ _ _ _ ?_
      have e7 : (Int32.ofNat 8 - 1).toNatClampNeg = 7 := by decide
      have hget : ∀ k, k < 8 → (p_wq M2 (aS 15) (Int32.ofNat 8 - 1).toNatClampNeg (some (aR (σ 0) 0))).2 (aS 15) k = some (aR (σ (if k + 1 < 8 then k + 1 else 0)) 0) := by
        intro k hk
        rw [p_wq_eq, e7]
        by_cases ek : k = 7
        · simp [va_up, ek]
        · simp only [va_up, if_neg ek]
          rw [f3 k hk, if_pos (show k + 1 < 8 by omega), if_pos (show k + 1 < 8 by omega)]
      refine h _ ⟨fun a ha => ?_, fun a ha => ?_⟩ ⟨by omega, ?_, fun k => σ (if k + 1 < 8 then k + 1 else 0), fun k hk => ?_, fun k l hk hl e => ?_, fun k ρ hk => ?_⟩
      · have : (p_wr (p_wq M2 (aS 15) (Int32.ofNat 8 - 1).toNatClampNeg (some (aR (σ 0) 0))) (aS 14) 1 ((p_wq M2 (aS 15) (Int32.ofNat 8 - 1).toNatClampNeg (some (aR (σ 0) 0))).1 (aS 14) 1 - 1)).1 a = M2.1 a := p_row_ne (fun e => by rw [e] at ha; cases ha)
        exact this.trans (by rw [f1])
      · exact (p_wq_ne ha).trans (f2 a ha)
      · rw [p_wr_eq]
        show M2.1 (aS 14) 1 - 1 = _
        rw [f1, a2]
        exact nI_pred _
      · refine ⟨hget k hk, ?_⟩
        dsimp only
        by_cases ek : k + 1 < 8
        · rw [if_pos ek]; exact (b1 (k + 1) ek).2
        · rw [if_neg ek]; exact (b1 0 (by omega)).2
      · have := b2 _ _ (by split <;> omega) (by split <;> omega) e
        split at this <;> split at this <;> omega
      · have hk7 : k < 7 := by
          have := (List.getElem?_eq_some_iff.mp hk).1
          omega
        have := b3 (k + 1) ρ hk
        dsimp only
        rw [show (if k + 1 < 8 then k + 1 else 0) = k + 1 from if_pos (by omega)]
        exact ⟨cR_cg (fun c => by show M2.1 _ = M.1 _; rw [f1]) this.1, this.2⟩
    | succ n ih =>
      intro i M2 e1 e2 f1 f2 f3
      refine hZ _ _ _ _ (hZ _ _ _ _ (hZ _ _ _ _ (hZ _ _ _ _ ?_)))
      show Z 14 _ _ _
      refine hZ _ _ _ _ (br_f (nI_ge (a := i) (b := 8) (by omega) (by omega)) ?_)
      refine hZ _ _ _ _ (hZ _ _ _ _ (hZ _ _ _ _ (hZ _ _ _ _ (hZ _ _ _ _ (hZ _ _ _ _ (hZ _ _ _ _ (hZ _ _ _ _ ?_)))))))
      show Z 29 _ _ _
      refine hZ _ _ _ _ ⟨vp_in_nI (n := i) (N := 8) (by omega) (by omega), ?_⟩
      have ei : M2.2 (aS 15) (nI i).toNatClampNeg = some (aR (σ i) 0) := by
        rw [nI_clamp (by omega), f3 i (by omega), if_neg (by omega)]
      have em : nI i - 1 = nI (i - 1) := by
        rw [show i = (i - 1) + 1 by omega]
        exact nI_pred _
      rw [ei, em]
      refine hZ _ _ _ _ ⟨vp_in_nI (n := i - 1) (N := 8) (by omega) (by omega), ?_⟩
      refine hZ _ _ _ _ (hZ _ _ _ _ ?_)
      show Z 8 _ _ _
      rw [show nI i + 1 = nI (i + 1) from nI_1 i]
      refine ih (i + 1) _ (by omega) (by omega) f1 (fun a ha => (p_wq_ne ha).trans (f2 a ha)) (fun k hk => ?_)
      rw [p_wq_eq, nI_clamp (by omega)]
      by_cases ek : k = i - 1
      · simp only [va_up, if_pos ek]
        rw [if_pos (show k + 1 < i + 1 by omega)]
        congr 3
        congr 1
        omega
      · simp only [va_up, if_neg ek]
        rw [f3 k hk]
        by_cases e5 : k + 1 < i
        · rw [if_pos e5, if_pos (by omega)]
        · rw [if_neg e5, if_neg (by omega)]
  exact loop 7 1 M rfl (Nat.le_refl _) rfl (fun _ _ => rfl) (fun k hk => by rw [if_neg (by omega)]; exact (b1 k hk).1)
/-- the past with a room more: the last 8 -/
def psh8 (L : List pRm) (ρ : pRm) : List pRm := (if L.length = 8 then L.tail else L) ++ [ρ]
theorem m_pushP {b : Bool} {C : pC} (hC : p_Lg b C) {d : Nat} {M : pM} {Q : pQ} {L : List pRm} {ρ : pRm} (hd : 4 ≤ d) (hL : shR M 14 15 8 2 L) (hR : cR M 0 ρ) (ok : okR ρ) (h : ∀ M', p_fq (f_sh 14 2 8) 15 M M' → shR M' 14 15 8 2 (psh8 L ρ) → Q M' none) : C d k_X4_push M [vR (aS 14), vR (aR 0 0)] Q := by
  have l8 := hL.1
  refine p_ent hC tb_X4_push _ rfl rfl rfl (fun Z hZ => ?_)
  refine hZ _ _ _ _ (hZ _ _ _ _ (hZ _ _ _ _ (hZ _ _ _ _ (hZ _ _ _ _ ?_))))
  show Z 9 _ _ _
  rw [hL.2.1]
  by_cases hlt : L.length < 8
  · refine hZ _ _ _ _ (br_t (nI_lt (b := 8) hlt (by omega)) ?_)
    refine m_push0P hC hd hlt hL hR ok (fun M' g1 g2 => h M' ⟨g1.1, fun a _ => by rw [g1.2]⟩ ?_) 0 Z hZ
    rw [psh8, if_neg (by omega)]
    exact g2
  · skip
    refine hZ _ _ _ _ (br_f (nI_nlt (a := L.length) (b := 8) (by omega) (by omega)) ?_)
    refine hZ _ _ _ _ ?_
    show Z 13 _ _ _
    cases L with
    | nil => exact absurd hlt (by decide)
    | cons x L =>
      have h7 : L.length = 7 := by
        simp only [List.length_cons] at hlt l8
        omega
      refine hZ _ _ _ _ ⟨d - 1, by omega, m_dropOldest hC (by omega) h7 hL (fun M1 g1 g2 => ?_)⟩
      have R1 : cR M1 0 ρ := cR_cg (fun c => g1.1 _ rfl) hR
      refine m_push0P hC hd (by omega) g2 R1 ok (fun M' k1 k2 => h M' ⟨fun a ha => ?_, fun a ha => ?_⟩ ?_) 0 Z hZ
      · refine (k1.1 a ha).trans (g1.1 a (p_eq_ne (fun e => ?_)))
        rw [e] at ha
        cases ha
      · rw [k1.2]
        exact g1.2 a ha
      · rw [psh8, if_pos (by simp [h7])]
        exact k2
