/-! PokerEvening's constructor: its cells, as the logic has them; what it does behind their making -/
def adC (h0 : Nat) (gx : Nat → Nat) (r0 r1 : Nat → Nat) (ge gs gi gg gp : Nat → Nat) (rp : Nat → Nat → Nat) (gk : Nat → Nat) (rk : Nat → Nat → Nat) : pA → Nat
  | .inl s => match s with
    | 0 => h0
    | 1 => gx 0
    | 2 => gx 1
    | 3 => gx 2
    | 4 => ge 0
    | 5 => ge 2
    | 6 => ge 3
    | 7 => gs 0
    | 8 => gs 1
    | 9 => gs 2
    | 10 => gs 3
    | 11 => gg 0
    | 12 => gg 1
    | 13 => gg 2
    | 14 => gp 0
    | 15 => gp 1
    | 16 => gk 0
    | _ => gk 1
  | .inr (.inl r) => match r.1.val with
    | 0 => r0 r.2
    | 1 => r1 r.2
    | j + 2 => if j < 8 then rp j r.2 else rk (j - 8) r.2
  | .inr (.inr i) => match i.val with
    | 0 => ge 1
    | j + 1 => gi j
def M0 : pM := (fun _ _ => 0, fun a i => match a with
  | .inl 8 => if i < 8 then some (aI (Fin.ofNat 9 (i + 1))) else none
  | .inl 15 => if i < 8 then some (aR (Fin.ofNat 12 (i + 2)) 0) else none
  | .inl 17 => if i < 2 then some (aR (Fin.ofNat 12 (i + 10)) 0) else none
  | _ => none)
def rmO (j : Nat) : List pA := (List.range 7).map (fun c => aR (Fin.ofNat 12 j) c)
/-- the cells in the order of their making -/
def ordL : List pA := aS 0 :: ((((((([aS 1, aS 2, aS 3] ++ rmO 0) ++ rmO 1) ++ [aS 4, aI 0, aS 5, aS 6]) ++ (aS 7 :: aS 8 :: aS 9 :: aS 10 :: (List.range 8).map (fun j => aI (Fin.ofNat 9 (j + 1))))) ++ [aS 11, aS 12, aS 13]) ++ (aS 14 :: aS 15 :: (List.range 8).flatMap (fun j => rmO (j + 2)))) ++ (aS 16 :: aS 17 :: (List.range 2).flatMap (fun j => rmO (j + 10))))
theorem ordL_b : ((q_as false).all (fun a => ordL.any (fun x => p_eq a x))) = true := by decide +kernel
theorem ordL_in : ∀ a ∈ q_as false, a ∈ ordL := fun a ha => by
  obtain ⟨x, h1, h2⟩ := List.any_eq_true.mp (List.all_eq_true.mp ordL_b a ha)
  rw [p_eq_iff.mp h2]
  exact h1
theorem ordL_al (a : pA) (h : p_al false a = true) : a ∈ ordL := ordL_in a (List.mem_of_getElem? (q_ix_ok false a h))
theorem rm_blk {D : va_G} {cA : Nat → ClassId} {ad : pA → Nat} {J : Nat} {g : Nat → Nat} (h : ∀ c, ad (aR (Fin.ofNat 12 J) c) = g c) : rmW cA g = (rmO J).map (fun a => (ad a, q_E (D, cA, ad) M0 a)) := by
  have e : (rmO J).map (fun a => (ad a, q_E (D, cA, ad) M0 a)) = rmW cA (fun c => ad (aR (Fin.ofNat 12 J) c)) := rfl
  rw [e, show (fun c => ad (aR (Fin.ofNat 12 J) c)) = g from funext h]
theorem q_of_ws {b : Bool} {A : Nat → Prop} {w : pW} {M : pM} {L : List pA} {H : Heap} (hL : ∀ a, p_al b a = true → a ∈ L) (hP : va_P w.1 vwCl (L.map (fun a => (w.2.2 a, q_E w M a))) H) (hD : va_D A (L.map (fun a => (w.2.2 a, q_E w M a)))) : q_H b w M H ∧ q_J b w ∧ ∀ a, p_al b a = true → A (w.2.2 a) := by
  have at' : ∀ a, p_al b a = true → ∃ i : Nat, L[i]? = some a ∧ (L.map (fun a => (w.2.2 a, q_E w M a)))[i]? = some (w.2.2 a, q_E w M a) := by
    intro a ha
    obtain ⟨i, hi⟩ := List.getElem?_of_mem (hL a ha)
    exact ⟨i, hi, by rw [List.getElem?_map, hi]; rfl⟩
  refine ⟨fun a ha => ?_, fun a a' ha ha' e => ?_, fun a ha => ?_⟩
  · obtain ⟨i, -, h2⟩ := at' a ha
    exact hP i _ h2
  · obtain ⟨i, h1, h2⟩ := at' a ha
    obtain ⟨j, h3, h4⟩ := at' a' ha'
    have hij := hD.1 i j _ _ h2 h4 e
    subst hij
    rw [h1] at h3
    exact Option.some.inj h3
  · obtain ⟨i, -, h2⟩ := at' a ha
    exact hD.2 i _ h2
theorem ir_blk {D : va_G} {cA : Nat → ClassId} {ad : pA → Nat} {gi : Nat → Nat} (h : ∀ j, j < 8 → ad (aI (Fin.ofNat 9 (j + 1))) = gi j) : irL 8 gi = ((List.range 8).map (fun j => aI (Fin.ofNat 9 (j + 1)))).map (fun a => (ad a, q_E (D, cA, ad) M0 a)) := by
  rw [irL, List.map_map]
  refine List.map_congr_left (fun j hj => ?_)
  have hj := List.mem_range.mp hj
  have e : ((fun a => (ad a, q_E (D, cA, ad) M0 a)) ∘ fun j => aI (Fin.ofNat 9 (j + 1))) j = (ad (aI (Fin.ofNat 9 (j + 1))), .inr (1, irV)) := rfl
  rw [e, h j hj]
theorem ro_blk {D : va_G} {cA : Nat → ClassId} {ad : pA → Nat} {n lo : Nat} {g : Nat → Nat → Nat} (h : ∀ j, j < n → ∀ c, ad (aR (Fin.ofNat 12 (j + lo)) c) = g j c) : roL cA n g = ((List.range n).flatMap (fun j => rmO (j + lo))).map (fun a => (ad a, q_E (D, cA, ad) M0 a)) := by
  rw [roL, List.map_flatMap]
  have e : ∀ L : List Nat, (∀ j ∈ L, j < n) → L.flatMap (fun j => rmW cA (g j)) = L.flatMap (fun j => (rmO (j + lo)).map (fun a => (ad a, q_E (D, cA, ad) M0 a))) := by
    intro L
    induction L with
    | nil => intro _; rfl
    | cons a L ih =>
      intro hL
      rw [List.flatMap_cons, List.flatMap_cons, ih (fun j hj => hL j (List.mem_cons_of_mem _ hj)), rm_blk (h a (hL a List.mem_cons_self))]
  exact e _ (fun j hj => List.mem_range.mp hj)
section Asm
variable {D : va_G} {cA : Nat → ClassId} {h0 : Nat} {gx r0 r1 ge gs gi gg gp : Nat → Nat} {rp : Nat → Nat → Nat} {gk : Nat → Nat} {rk : Nat → Nat → Nat}
theorem ad_i : ∀ j, j < 8 → adC h0 gx r0 r1 ge gs gi gg gp rp gk rk (aI (Fin.ofNat 9 (j + 1))) = gi j := by
  intro j hj
  rcases (show j = 0 ∨ j = 1 ∨ j = 2 ∨ j = 3 ∨ j = 4 ∨ j = 5 ∨ j = 6 ∨ j = 7 by omega) with rfl | rfl | rfl | rfl | rfl | rfl | rfl | rfl <;> rfl
theorem ad_p : ∀ j, j < 8 → ∀ c, adC h0 gx r0 r1 ge gs gi gg gp rp gk rk (aR (Fin.ofNat 12 (j + 2)) c) = rp j c := by
  intro j hj c
  rcases (show j = 0 ∨ j = 1 ∨ j = 2 ∨ j = 3 ∨ j = 4 ∨ j = 5 ∨ j = 6 ∨ j = 7 by omega) with rfl | rfl | rfl | rfl | rfl | rfl | rfl | rfl <;> rfl
theorem ad_k : ∀ j, j < 2 → ∀ c, adC h0 gx r0 r1 ge gs gi gg gp rp gk rk (aR (Fin.ofNat 12 (j + 10)) c) = rk j c := by
  intro j hj c
  rcases (show j = 0 ∨ j = 1 by omega) with rfl | rfl <;> rfl
theorem asm_rs : rwF 8 gi = fun i => (M0.2 (aS 8) i).map (adC h0 gx r0 r1 ge gs gi gg gp rp gk rk) := by
  funext i
  show (if i < 8 then some (gi i) else none) = Option.map _ (if i < 8 then some (aI (Fin.ofNat 9 (i + 1))) else none)
  by_cases h : i < 8
  · rw [if_pos h, if_pos h, Option.map_some, ad_i i h]
  · rw [if_neg h, if_neg h]
    rfl
theorem asm_rp : rwF 8 (fun j => rp j 0) = fun i => (M0.2 (aS 15) i).map (adC h0 gx r0 r1 ge gs gi gg gp rp gk rk) := by
  funext i
  show (if i < 8 then some (rp i 0) else none) = Option.map _ (if i < 8 then some (aR (Fin.ofNat 12 (i + 2)) 0) else none)
  by_cases h : i < 8
  · rw [if_pos h, if_pos h, Option.map_some, ad_p i h]
  · rw [if_neg h, if_neg h]
    rfl
theorem asm_rk : rwF 2 (fun j => rk j 0) = fun i => (M0.2 (aS 17) i).map (adC h0 gx r0 r1 ge gs gi gg gp rp gk rk) := by
  funext i
  show (if i < 2 then some (rk i 0) else none) = Option.map _ (if i < 2 then some (aR (Fin.ofNat 12 (i + 10)) 0) else none)
  by_cases h : i < 2
  · rw [if_pos h, if_pos h, Option.map_some, ad_k i h]
  · rw [if_neg h, if_neg h]
    rfl
theorem map_app8 {α β : Type} (F : α → β) (a b c d e f g h : List α) : ((((((((a.map F ++ b.map F) ++ c.map F) ++ d.map F) ++ e.map F) ++ f.map F) ++ g.map F)) ++ h.map F) = ((((((((a ++ b) ++ c) ++ d) ++ e) ++ f) ++ g)) ++ h).map F := by simp only [List.map_append]
theorem asm : ((h0, .inr (7, [.ref (gx 0), .ref (r0 0), .ref (r1 0), .ref (ge 0), .ref (gs 0), .ref (gg 0), .ref (gp 0), .ref (gk 0)])) :: (((((((txW cA gx ++ rmW cA r0) ++ rmW cA r1) ++ evW cA ge) ++ ((gs 0, .inr (3, [.ref (gs 1), .ref (gs 2), .ref (gs 3), .int 0])) :: (gs 1, .inl (cA 1, 8, kQ (rwF 8 gi))) :: (gs 2, kI cA 7) :: (gs 3, kI cA 7) :: irL 8 gi)) ++ siW cA gg) ++ ((gp 0, .inr (4, [.ref (gp 1), .int 0])) :: (gp 1, .inl (cA 2, 8, kQ (rwF 8 (fun j => rp j 0)))) :: roL cA 8 rp)) ++ ((gk 0, .inr (4, [.ref (gk 1), .int 0])) :: (gk 1, .inl (cA 2, 2, kQ (rwF 2 (fun j => rk j 0)))) :: roL cA 2 rk)) : va_W) = ordL.map (fun a => (adC h0 gx r0 r1 ge gs gi gg gp rp gk rk a, q_E (D, cA, adC h0 gx r0 r1 ge gs gi gg gp rp gk rk) M0 a)) := by
  obtain ⟨ad, ead⟩ : ∃ ad, ad = adC h0 gx r0 r1 ge gs gi gg gp rp gk rk := ⟨_, rfl⟩
  have b1 : txW cA gx = [aS 1, aS 2, aS 3].map (fun a => (ad a, q_E (D, cA, ad) M0 a)) := by rw [ead]; rfl
  have b2 : rmW cA r0 = (rmO 0).map (fun a => (ad a, q_E (D, cA, ad) M0 a)) := rm_blk (fun c => by rw [ead]; rfl)
  have b3 : rmW cA r1 = (rmO 1).map (fun a => (ad a, q_E (D, cA, ad) M0 a)) := rm_blk (fun c => by rw [ead]; rfl)
  have b4 : evW cA ge = [aS 4, aI 0, aS 5, aS 6].map (fun a => (ad a, q_E (D, cA, ad) M0 a)) := by rw [ead]; rfl
  have b5 : ((gs 0, .inr (3, [.ref (gs 1), .ref (gs 2), .ref (gs 3), .int 0])) :: (gs 1, .inl (cA 1, 8, kQ (rwF 8 gi))) :: (gs 2, kI cA 7) :: (gs 3, kI cA 7) :: irL 8 gi : va_W) = (aS 7 :: aS 8 :: aS 9 :: aS 10 :: (List.range 8).map (fun j => aI (Fin.ofNat 9 (j + 1)))).map (fun a => (ad a, q_E (D, cA, ad) M0 a)) := by
    rw [List.map_cons, List.map_cons, List.map_cons, List.map_cons, ← ir_blk (D := D) (cA := cA) (ad := ad) (gi := gi) (by rw [ead]; exact ad_i), asm_rs (h0 := h0) (gx := gx) (r0 := r0) (r1 := r1) (ge := ge) (gs := gs) (gg := gg) (gp := gp) (rp := rp) (gk := gk) (rk := rk), ead]
    rfl
  have b6 : siW cA gg = [aS 11, aS 12, aS 13].map (fun a => (ad a, q_E (D, cA, ad) M0 a)) := by rw [ead]; rfl
  have b7 : ((gp 0, .inr (4, [.ref (gp 1), .int 0])) :: (gp 1, .inl (cA 2, 8, kQ (rwF 8 (fun j => rp j 0)))) :: roL cA 8 rp : va_W) = (aS 14 :: aS 15 :: (List.range 8).flatMap (fun j => rmO (j + 2))).map (fun a => (ad a, q_E (D, cA, ad) M0 a)) := by
    rw [List.map_cons, List.map_cons, ← ro_blk (D := D) (cA := cA) (ad := ad) (n := 8) (lo := 2) (g := rp) (by rw [ead]; exact ad_p), asm_rp (h0 := h0) (gx := gx) (r0 := r0) (r1 := r1) (ge := ge) (gs := gs) (gi := gi) (gg := gg) (gp := gp) (gk := gk) (rk := rk), ead]
    rfl
  have b8 : ((gk 0, .inr (4, [.ref (gk 1), .int 0])) :: (gk 1, .inl (cA 2, 2, kQ (rwF 2 (fun j => rk j 0)))) :: roL cA 2 rk : va_W) = (aS 16 :: aS 17 :: (List.range 2).flatMap (fun j => rmO (j + 10))).map (fun a => (ad a, q_E (D, cA, ad) M0 a)) := by
    rw [List.map_cons, List.map_cons, ← ro_blk (D := D) (cA := cA) (ad := ad) (n := 2) (lo := 10) (g := rk) (by rw [ead]; exact ad_k), asm_rk (h0 := h0) (gx := gx) (r0 := r0) (r1 := r1) (ge := ge) (gs := gs) (gi := gi) (gg := gg) (gp := gp) (rp := rp) (gk := gk), ead]
    rfl
  have b0 : ((h0, .inr (7, [.ref (gx 0), .ref (r0 0), .ref (r1 0), .ref (ge 0), .ref (gs 0), .ref (gg 0), .ref (gp 0), .ref (gk 0)])) : Nat × va_E) = (ad (aS 0), q_E (D, cA, ad) M0 (aS 0)) := by rw [ead]; rfl
  rw [b0, b1, b2, b3, b4, b5, b6, b7, b8, ← ead, ordL]
  exact congrArg (List.cons _) (map_app8 _ _ _ _ _ _ _ _ _)
end Asm
/-- the first room -/
def ρ1 : pRm := ([(0, 10), (1, 8), (2, 12), (3, 9)], 4, 5, [(0, 0, 1, 9), (0, 1, 1, 8), (1, 2, 0, 14), (0, 3, 1, 6), (2, 1, 1, 5), (3, 3, 0, 20), (2, 0, 0, 4)])
def S0 : pS := ([], ρ1, [], [], [])
def eqLs {α : Type} (f : α → α → Bool) : List α → List α → Bool
  | [], [] => true
  | a :: l, b :: m => f a b && eqLs f l m
  | _, _ => false
theorem eqLs_eq {α : Type} {f : α → α → Bool} (hf : ∀ a b, f a b = true → a = b) : ∀ l m : List α, eqLs f l m = true → l = m := by
  intro l
  induction l with
  | nil => intro m h; cases m with
    | nil => rfl
    | cons => cases h
  | cons a l ih => intro m h; cases m with
    | nil => cases h
    | cons b m =>
      simp only [eqLs, Bool.and_eq_true] at h
      rw [hf _ _ h.1, ih m h.2]
def eqT (a b : pTl) : Bool := decide (a.1 = b.1) && decide (a.2 = b.2)
def eqC (a b : pCl) : Bool := decide (a.1 = b.1) && (decide (a.2.1 = b.2.1) && (decide (a.2.2.1 = b.2.2.1) && decide (a.2.2.2 = b.2.2.2)))
def eqR (a b : pRm) : Bool := eqLs eqT a.1 b.1 && (Nat.beq a.2.1 b.2.1 && (decide (a.2.2.1 = b.2.2.1) && eqLs eqC a.2.2.2 b.2.2.2))
theorem eqR_eq (a b : pRm) (h : eqR a b = true) : a = b := by
  obtain ⟨a1, a2, a3, a4⟩ := a
  obtain ⟨b1, b2, b3, b4⟩ := b
  simp only [eqR, Bool.and_eq_true, decide_eq_true_eq] at h
  obtain ⟨h1, h2, h3, h4⟩ := h
  have e1 := eqLs_eq (f := eqT) (fun x y h => by
    simp only [eqT, Bool.and_eq_true, decide_eq_true_eq] at h
    exact Prod.ext h.1 h.2) _ _ h1
  have e4 := eqLs_eq (f := eqC) (fun x y h => by
    simp only [eqC, Bool.and_eq_true, decide_eq_true_eq] at h
    exact Prod.ext h.1 (Prod.ext h.2.1 (Prod.ext h.2.2.1 h.2.2.2))) _ _ h4
  rw [e1, Nat.eq_of_beq_eq_true h2, h3, e4]
theorem rd_b : ((rdT k_ch 200 0 ρ0).1.isNone && eqR (rdT k_ch 200 0 ρ0).2 ρ1) = true := by decide +kernel
theorem rd_first : rdT k_ch 200 0 ρ0 = (none, ρ1) := by
  have h := rd_b
  simp only [Bool.and_eq_true] at h
  have e1 : (rdT k_ch 200 0 ρ0).1 = none := by
    cases e : (rdT k_ch 200 0 ρ0).1 with
    | none => rfl
    | some x => rw [e] at h; cases h.1
  exact Prod.ext e1 (eqR_eq _ _ h.2)
theorem k_take (i : Fin 99) : k_ch.take i.val ++ [k_by i.val] = k_ch.take (i.val + 1) := by
  have hl : i.val < k_ch.length := i.isLt
  rw [List.take_succ, List.getElem?_eq_getElem hl, k_by, List.getD_eq_getElem?_getD, List.getElem?_eq_getElem hl]
  rfl
theorem k7_tail {C : pC} (hC : p_Lg false C) {d : Nat} {Q : pQ} {Z : pX} (hd : 6 ≤ d) (hZ : p_Cl false C tb_X7_init d Q Z) (hSL : ∀ ls st M, Nat.ble (p_cat st) 8 = true → Z 103 ls (vI 99 :: st) M → Z 98 ls st M) (hCA : ∀ ls st M i, p_lg ls 1 = some (vI (nI i)) → i < 99 → Nat.ble (p_cat st) 7 = true → Z 116 ls (vI (k_by i) :: st) M → Z 110 ls st M) (h : ∀ M ls, cS M S0 → M.2 = M0.2 → Z 145 ls [] M) : Z 95 [some (vR (aS 0)), none] [] M0 := by
  refine hZ _ _ _ _ (hZ _ _ _ _ ?_)
  show Z 97 _ _ _
  have loop : ∀ (n i : Nat) (M : pM), i + n = 99 → tR M (k_ch.take i) → p_fr f_t2 M0 M → Z 97 [some (vR (aS 0)), some (vI (nI i))] [] M := by
    intro n
    induction n with
    | zero =>
      intro i M e1 f1 f2
      have : i = 99 := by omega
      subst this
      rw [show k_ch.take 99 = k_ch from rfl] at f1
      refine hZ _ _ _ _ ?_
      show Z 98 _ _ _
      refine hSL _ _ _ rfl ?_
      refine hZ _ _ _ _ (br_t (by decide) ?_)
      refine hZ _ _ _ _ (hZ _ _ _ _ (hZ _ _ _ _ (hZ _ _ _ _ ?_)))
      show Z 134 _ _ _
      refine hZ _ _ _ _ ⟨d - 1, by omega, m_readInto hC (j := 0) (by omega) f1 (fun M1 g1 g2 g3 => ?_)⟩
      refine hZ _ _ _ _ (hZ _ _ _ _ (hZ _ _ _ _ ?_))
      show Z 142 _ _ _
      refine hZ _ _ _ _ ⟨d - 1, by omega, m_textClear hC (fun M2 g4 g5 => ?_)⟩
      rw [rd_first] at g3
      obtain ⟨g3, -⟩ := g3 rfl
      have e2 : M2.2 = M0.2 := by rw [g4.2, g1.2, f2.2]
      have eS : ∀ s, s ≠ 1 → s ≠ 2 → s ≠ 3 → M2.1 (aS s) = M0.1 (aS s) := by
        intro s h1 h2 h3
        rw [g4.1 (aS s) (p_eq_ne (fun e => h1 (Sum.inl.inj e))), g1.1 (aS s) (by simp only [f_tr, f_tx, f_room, p_beq_f h1, p_beq_f h3]; rfl), f2.1 (aS s) (by simp only [f_t2, p_beq_f h1, p_beq_f h2]; rfl)]
      refine h M2 _ ⟨g5, cR_cg (fun c => g4.1 _ rfl) g3, ⟨Nat.zero_le _, by rw [eS 11 (by decide) (by decide) (by decide)]; rfl, (fun i x hx => by cases hx), (fun x hx => by cases hx)⟩, ⟨Nat.zero_le _, by rw [eS 14 (by decide) (by decide) (by decide)]; rfl, fun i => Fin.ofNat 12 (i + 2), fun i hi => ⟨by rw [e2]; exact if_pos hi, by rw [show (Fin.ofNat 12 (i + 2)).val = i + 2 from Nat.mod_eq_of_lt (by omega)]; omega⟩, fun i j hi hj e => ?_, (fun i ρ hx => by cases hx)⟩, ⟨Nat.zero_le _, by rw [eS 16 (by decide) (by decide) (by decide)]; rfl, fun i => Fin.ofNat 12 (i + 10), fun i hi => ⟨by rw [e2]; exact if_pos hi, by rw [show (Fin.ofNat 12 (i + 10)).val = i + 10 from Nat.mod_eq_of_lt (by omega)]; omega⟩, fun i j hi hj e => ?_, (fun i ρ hx => by cases hx)⟩, fun i hi => by rw [e2]; exact if_pos hi⟩ e2
      · have := congrArg Fin.val e
        rw [show (Fin.ofNat 12 (i + 2)).val = i + 2 from Nat.mod_eq_of_lt (by omega), show (Fin.ofNat 12 (j + 2)).val = j + 2 from Nat.mod_eq_of_lt (by omega)] at this
        omega
      · have := congrArg Fin.val e
        rw [show (Fin.ofNat 12 (i + 10)).val = i + 10 from Nat.mod_eq_of_lt (by omega), show (Fin.ofNat 12 (j + 10)).val = j + 10 from Nat.mod_eq_of_lt (by omega)] at this
        omega
    | succ n ih =>
      intro i M e1 f1 f2
      have hi : i < 99 := by omega
      have hlen : (k_ch.take i).length = i := by rw [List.length_take]; exact Nat.min_eq_left (by show i ≤ 99; omega)
      refine hZ _ _ _ _ ?_
      show Z 98 _ _ _
      refine hSL _ _ _ rfl ?_
      refine hZ _ _ _ _ (br_f (nI_ge (b := 99) hi (by omega)) ?_)
      refine hZ _ _ _ _ (hZ _ _ _ _ ?_)
      show Z 110 _ _ _
      refine hCA _ _ _ i rfl hi rfl ?_
      refine hZ _ _ _ _ ⟨d - 1, by omega, m_append hC (by omega) f1 (fun _ M1 g1 g2 => ?_) (fun e => by omega)⟩
      refine hZ _ _ _ _ (hZ _ _ _ _ (hZ _ _ _ _ ?_))
      show Z 97 _ _ _
      rw [show nI i + 1 = nI (i + 1) from nI_1 i]
      have ek := k_take ⟨i, hi⟩
      simp only at ek
      rw [ek] at g2
      exact ih (i + 1) M1 (by omega) g2 (f2.tr g1)
  exact loop 99 0 M0 rfl ⟨Nat.zero_le _, rfl, fun i x hx => by simp at hx⟩ p_fr_rf
