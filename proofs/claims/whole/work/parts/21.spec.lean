/-! THE VALUE of a room, and what an evening is: a room is (tellers: kind, grip; how many facts; facts as bits; claims: teller, fact, side, weight) -/
abbrev pTl : Type := Int32 × Int32
abbrev pCl : Type := Int32 × (Int32 × (Int32 × Int32))
abbrev pRm : Type := List pTl × (Nat × (Int32 × List pCl))
abbrev pI : Type := Int32 × (Int32 × (Int32 × Int32))
/-- memory M' is M but for the cells of ch -/
def p_fr (ch : pA → Bool) (M M' : pM) : Prop := (∀ a, ch a = false → M'.1 a = M.1 a) ∧ M'.2 = M.2
theorem p_fr_rf {ch : pA → Bool} {M : pM} : p_fr ch M M := ⟨fun _ _ => rfl, rfl⟩
theorem p_fr.tr {ch : pA → Bool} {M M' M'' : pM} (h : p_fr ch M M') (h2 : p_fr ch M' M'') : p_fr ch M M'' := ⟨fun a ha => (h2.1 a ha).trans (h.1 a ha), h2.2.trans h.2⟩
theorem p_fr.mono {ch ch' : pA → Bool} {M M' : pM} (h : p_fr ch M M') (hm : ∀ a, ch' a = false → ch a = false) : p_fr ch' M M' := ⟨fun a ha => h.1 a (hm a ha), h.2⟩
theorem p_fr_row {ch : pA → Bool} {M M' : pM} {a : pA} {r : Nat → Int32} (h : p_fr ch M M') (ha : ch a = true) : p_fr ch M (p_row M' a r) := ⟨fun q hq => (p_row_ne (fun e => by rw [e, ha] at hq; cases hq)).trans (h.1 q hq), h.2⟩
theorem p_fr_wr {ch : pA → Bool} {M M' : pM} {a : pA} {k : Nat} {x : Int32} (h : p_fr ch M M') (ha : ch a = true) : p_fr ch M (p_wr M' a k x) := p_fr_row h ha
theorem p_wr_eq {M : pM} {a : pA} {k : Nat} {x : Int32} : (p_wr M a k x).1 a = upd (M.1 a) k x := p_row_eq
def f_room (j : Fin 12) : pA → Bool
  | .inr (.inl r) => Nat.beq r.1.val j.val
  | _ => false
def f_iron (i : Fin 9) : pA → Bool
  | .inr (.inr k) => Nat.beq k.val i.val
  | _ => false
/-- the evening's cells -/
def f_ev : pA → Bool
  | .inl s => Nat.beq s 4 || (Nat.beq s 5 || Nat.beq s 6)
  | .inr (.inr k) => Nat.beq k.val 0
  | _ => false
theorem f_room_self (j : Fin 12) (c : Nat) : f_room j (aR j c) = true := by simp [f_room]
theorem f_iron_self (i : Fin 9) : f_iron i (aI i) = true := by simp [f_iron]
theorem f_room_ne {j j' : Fin 12} (h : j' ≠ j) (c : Nat) : f_room j (aR j' c) = false := by
  simp only [f_room]
  exact p_beq_f (fun e => h (Fin.ext e))
theorem f_iron_ne {i i' : Fin 9} (h : i' ≠ i) : f_iron i (aI i') = false := by
  simp only [f_iron]
  exact p_beq_f (fun e => h (Fin.ext e))
/-- room j of the class holds the value ρ -/
def cR (M : pM) (j : Fin 12) (ρ : pRm) : Prop :=
  M.1 (aR j 0) 6 = nI ρ.1.length ∧ M.1 (aR j 0) 7 = nI ρ.2.1 ∧ M.1 (aR j 0) 8 = nI ρ.2.2.2.length ∧ M.1 (aR j 0) 9 = ρ.2.2.1 ∧ (∀ i x, ρ.1[i]? = some x → M.1 (aR j 1) i = x.1 ∧ M.1 (aR j 2) i = x.2) ∧ (∀ i x, ρ.2.2.2[i]? = some x → M.1 (aR j 3) i = x.1 ∧ M.1 (aR j 4) i = x.2.1 ∧ M.1 (aR j 5) i = x.2.2.1 ∧ M.1 (aR j 6) i = x.2.2.2)
theorem cR_cg {M M' : pM} {j : Fin 12} {ρ : pRm} (h : ∀ c, M'.1 (aR j c) = M.1 (aR j c)) (hR : cR M j ρ) : cR M' j ρ := by
  simp only [cR, h]
  exact hR
theorem cR_fr {ch : pA → Bool} {M M' : pM} {j : Fin 12} {ρ : pRm} (h : p_fr ch M M') (hc : ∀ c, ch (aR j c) = false) (hR : cR M j ρ) : cR M' j ρ := cR_cg (fun c => h.1 _ (hc c)) hR
/-- a room that can be -/
def okR (ρ : pRm) : Prop := ρ.1.length ≤ 5 ∧ ρ.2.1 ≤ 6 ∧ ρ.2.2.2.length ≤ 7 ∧ (∀ x ∈ ρ.2.2.2, ∃ t f : Nat, x.1 = nI t ∧ t < ρ.1.length ∧ x.2.1 = nI f ∧ f < ρ.2.1 ∧ (x.2.2.1 = 0 ∨ x.2.2.1 = 1)) ∧ ∃ n, ρ.2.2.1 = nI n ∧ n < 2 ^ ρ.2.1
def bi (f : Bool) : Int32 := if f then 1 else 0
/-- by how much it is hotter -/
def hg (k : Int32) (f : Bool) (h : Int32) : Int32 := if k = 1 then (if f then h else 1) / 2 else if k = 2 then (if f then 2 * h else 1) else if k = 3 then (if f then h else 1) + 1 else (if f then h else 1)
def bt1 (x i : Int32) : Int32 := x >>> (i &&& 31) &&& 1
/-- a claim is false -/
def fl (τ : Int32) (x : pCl) : Bool := decide (¬ bt1 τ x.2.1 = x.2.2.1)
/-- a claim's turn: the iron (heat, holder, told, gone) behind it, how hot it was -/
def tk1 (y : pTl) (τ : Int32) (x : pCl) (s : pI) (c : Nat) : pI × Int32 :=
  if bt1 s.2.2.2 x.1 = 1 then (s, -4) else
  if y.2 < (if s.2.1 = x.1 then s.1 else s.1 / 2) + hg y.1 (fl τ x) x.2.2.2 then
    ((0, x.1, s.2.2.1 ||| ((1 : Int32) <<< (nI c &&& 31)), s.2.2.2 ||| ((1 : Int32) <<< (x.1 &&& 31))), (if s.2.1 = x.1 then s.1 else s.1 / 2) + hg y.1 (fl τ x) x.2.2.2)
  else (((if s.2.1 = x.1 then s.1 else s.1 / 2) + hg y.1 (fl τ x) x.2.2.2, x.1, s.2.2.1 ||| ((1 : Int32) <<< (nI c &&& 31)), s.2.2.2), (if s.2.1 = x.1 then s.1 else s.1 / 2) + hg y.1 (fl τ x) x.2.2.2)
def tk (ρ : pRm) (s : pI) (c : Nat) : pI × Int32 := match ρ.2.2.2[c]? with
  | none => (s, 0)
  | some x => match ρ.1[x.1.toNatClampNeg]? with
    | none => (s, 0)
    | some y => tk1 y ρ.2.2.1 x s c
theorem tk_at {ρ : pRm} {c : Nat} {x : pCl} {t : Nat} {y : pTl} {s : pI} (hx : ρ.2.2.2[c]? = some x) (ht : x.1 = nI t) (h5 : t < 2 ^ 31) (hy : ρ.1[t]? = some y) : tk ρ s c = tk1 y ρ.2.2.1 x s c := by
  simp only [tk, hx, ht, nI_clamp h5, hy]
/-- claim c of a room that can be, and its teller -/
theorem okR_cl {ρ : pRm} (ok : okR ρ) {c : Nat} (hc : c < ρ.2.2.2.length) : ∃ (x : pCl) (t f : Nat) (y : pTl), ρ.2.2.2[c]? = some x ∧ x.1 = nI t ∧ t < 5 ∧ t < ρ.1.length ∧ x.2.1 = nI f ∧ f < ρ.2.1 ∧ f < 6 ∧ (x.2.2.1 = 0 ∨ x.2.2.1 = 1) ∧ ρ.1[t]? = some y ∧ ∀ s, tk ρ s c = tk1 y ρ.2.2.1 x s c := by
  have hx : ρ.2.2.2[c]? = some ρ.2.2.2[c] := List.getElem?_eq_getElem hc
  obtain ⟨t, f, h1, h2, h3, h4, h5⟩ := ok.2.2.2.1 _ (List.getElem_mem hc)
  have hy : ρ.1[t]? = some ρ.1[t] := List.getElem?_eq_getElem h2
  have k5 := ok.1
  have k6 := ok.2.1
  exact ⟨_, t, f, _, hx, h1, by omega, h2, h3, h4, by omega, h5, hy, fun s => tk_at hx h1 (by omega) hy⟩
/-- the evening: iron, most, hot of each claim, where each teller lets go (7: not) -/
abbrev pE : Type := pI × (Int32 × ((Nat → Int32) × (Nat → Int32)))
def tl (ρ : pRm) (c : Nat) : Nat := match ρ.2.2.2[c]? with
  | none => 0
  | some x => x.1.toNatClampNeg
def ev1 (ρ : pRm) (E : pE) (c : Nat) : pE := ((tk ρ E.1 c).1, p_max E.2.1 (tk ρ E.1 c).2, upd E.2.2.1 c (tk ρ E.1 c).2, if (tk ρ E.1 c).1.2.2.2 = E.1.2.2.2 then E.2.2.2 else upd E.2.2.2 (tl ρ c) (nI c))
def s0 : pI := (0, -1, 0, 0)
def E0 : pE := (s0, 0, fun _ => -4, fun _ => 7)
def evL (ρ : pRm) (l : List Nat) : pE := l.foldl (ev1 ρ) E0
def ev (ρ : pRm) : pE := evL ρ (List.range ρ.2.2.2.length)
theorem evL_snoc (ρ : pRm) (l : List Nat) (c : Nat) : evL ρ (l ++ [c]) = ev1 ρ (evL ρ l) c := by simp [evL]
theorem evL_succ (ρ : pRm) (n : Nat) : evL ρ (List.range (n + 1)) = ev1 ρ (evL ρ (List.range n)) n := by rw [List.range_succ, evL_snoc]
def iV (M : pM) (i : Fin 9) : pI := (M.1 (aI i) 0, M.1 (aI i) 1, M.1 (aI i) 2, M.1 (aI i) 3)
