/-! THE STATE: text, room, what is seen, the past, what is kept; the answers, as the class gives them -/
abbrev pS : Type := List Int32 × (pRm × (pSn × (List pRm × List pRm)))
def stg (M : pM) : Prop := ∀ i : Nat, i < 8 → M.2 (aS 8) i = some (aI (Fin.ofNat 9 (i + 1)))
def cS (M : pM) (S : pS) : Prop := tR M S.1 ∧ cR M 0 S.2.1 ∧ sR M S.2.2.1 ∧ shR M 14 15 8 2 S.2.2.2.1 ∧ shR M 16 17 2 10 S.2.2.2.2 ∧ stg M
/-- rooms with the same tellers but for grips, and as many facts -/
def alk (ρ' ρ : pRm) : Prop := ρ'.1.map Prod.fst = ρ.1.map Prod.fst ∧ ρ'.2.1 = ρ.2.1
def okS (S : pS) : Prop := okR S.2.1 ∧ 1 ≤ S.2.1.1.length ∧ 1 ≤ S.2.1.2.1 ∧ (∀ x ∈ S.2.2.1, ∃ t, x.1 = nI t ∧ t < S.2.1.1.length) ∧ (∀ ρ' ∈ S.2.2.2.1, okR ρ' ∧ alk ρ' S.2.1) ∧ ∀ ρ' ∈ S.2.2.2.2, okR ρ' ∧ alk ρ' S.2.1
/-- the model's cells stay -/
def p_cl (M M' : pM) : Prop := ∀ s, 18 ≤ s → M'.1 (aS s) = M.1 (aS s)
theorem p_cl_rf {M : pM} : p_cl M M := fun _ _ => rfl
theorem p_cl.tr {M M' M'' : pM} (h : p_cl M M') (h2 : p_cl M' M'') : p_cl M M'' := fun s hs => (h2 s hs).trans (h s hs)
theorem p_fr.q {ch : pA → Bool} {M M' : pM} (sa : Nat) (h : p_fr ch M M') : p_fq ch sa M M' := ⟨h.1, fun a _ => by rw [h.2]⟩
theorem p_fq.cl {ch : pA → Bool} {sa : Nat} {M M' : pM} (h : p_fq ch sa M M') (hc : ∀ s, 18 ≤ s → ch (aS s) = false) : p_cl M M' := fun s hs => h.1 _ (hc s hs)
theorem n18 {s k : Nat} (hs : 18 ≤ s) (hk : k < 18) : Nat.beq s k = false := p_beq_f (by omega)
theorem cl_tx : ∀ s, 18 ≤ s → f_tx (aS s) = false := fun s hs => by simp only [f_tx, n18 hs (show 1 < 18 by omega), n18 hs (show 3 < 18 by omega)]; rfl
theorem cl_t2 : ∀ s, 18 ≤ s → f_t2 (aS s) = false := fun s hs => by simp only [f_t2, n18 hs (show 1 < 18 by omega), n18 hs (show 2 < 18 by omega)]; rfl
theorem cl_si : ∀ s, 18 ≤ s → f_si (aS s) = false := fun s hs => by simp only [f_si, n18 hs (show 11 < 18 by omega), n18 hs (show 12 < 18 by omega), n18 hs (show 13 < 18 by omega)]; rfl
theorem cl_ev : ∀ s, 18 ≤ s → f_ev (aS s) = false := fun s hs => by simp only [f_ev, n18 hs (show 4 < 18 by omega), n18 hs (show 5 < 18 by omega), n18 hs (show 6 < 18 by omega)]; rfl
theorem cl_cell {k : Nat} (hk : k < 18) : ∀ s, 18 ≤ s → f_cell (aS k) (aS s) = false := fun s hs => n18 hs hk
theorem cl_room {j : Fin 12} : ∀ s, 18 ≤ s → f_room j (aS s) = false := fun _ _ => rfl
theorem cl_tr {j : Fin 12} : ∀ s, 18 ≤ s → f_tr j (aS s) = false := fun s hs => by simp only [f_tr, cl_tx s hs]; rfl
theorem cl_sh {so lo cap : Nat} (hk : so < 18) : ∀ s, 18 ≤ s → f_sh so lo cap (aS s) = false := fun s hs => n18 hs hk
theorem tR_q {ch : pA → Bool} {sa : Nat} {M M' : pM} {T : List Int32} (h : p_fq ch sa M M') (h1 : ch (aS 1) = false) (h2 : ch (aS 2) = false) (hT : tR M T) : tR M' T := tR_cg hT (by rw [h.1 _ h1]) (h.1 _ h2)
theorem cR_q {ch : pA → Bool} {sa : Nat} {M M' : pM} {j : Fin 12} {ρ : pRm} (h : p_fq ch sa M M') (hc : ∀ c, ch (aR j c) = false) (hR : cR M j ρ) : cR M' j ρ := cR_cg (fun c => h.1 _ (hc c)) hR
theorem sR_q {ch : pA → Bool} {sa : Nat} {M M' : pM} {V : pSn} (h : p_fq ch sa M M') (h1 : ch (aS 11) = false) (h2 : ch (aS 12) = false) (h3 : ch (aS 13) = false) (hV : sR M V) : sR M' V := sR_cg hV (h.1 _ h1) (h.1 _ h2) (h.1 _ h3)
theorem shR_q {ch : pA → Bool} {sa : Nat} {M M' : pM} {so sa' cap lo : Nat} {L : List pRm} (h : p_fq ch sa M M') (h1 : ch (aS so) = false) (h2 : sa' ≠ sa) (h3 : ∀ (j : Fin 12) (c : Nat), lo ≤ j.val → j.val < lo + cap → ch (aR j c) = false) (hL : shR M so sa' cap lo L) : shR M' so sa' cap lo L :=
  shR_cg hL (h.1 _ h1) (h.2 _ (fun e => h2 (Sum.inl.inj e))) (fun j c a b => h.1 _ (h3 j c a b))
theorem stg_q {ch : pA → Bool} {sa : Nat} {M M' : pM} (h : p_fq ch sa M M') (h2 : 8 ≠ sa) (hM : stg M) : stg M' := fun i hi => by rw [h.2 (aS 8) (fun e => h2 (Sum.inl.inj e))]; exact hM i hi
theorem r_lo {j : Fin 12} {k : Fin 12} (c : Nat) (h : k.val < j.val) : f_room k (aR j c) = false := f_room_ne (fun e => by rw [e] at h; omega) c
theorem r_lo0 {j : Fin 12} (c : Nat) (h : 2 ≤ j.val) : f_room 0 (aR j c) = false := r_lo c (show (0 : Nat) < j.val by omega)
theorem r_lo1 {j : Fin 12} (c : Nat) (h : 2 ≤ j.val) : f_room 1 (aR j c) = false := r_lo c (show (1 : Nat) < j.val by omega)
theorem p_blt_ge {n m : Nat} (h : m ≤ n) : Nat.blt n m = false := by
  cases e : Nat.blt n m with
  | false => rfl
  | true =>
    have := Nat.le_of_ble_eq_true e
    omega
theorem sh_a {j : Fin 12} (c : Nat) (h : 10 ≤ j.val) : f_sh 14 2 8 (aR j c) = false := by
  simp only [f_sh, Bool.and_eq_false_iff]
  exact Or.inr (p_blt_ge (by omega))
theorem sh_b {j : Fin 12} (c : Nat) (h : j.val < 10) : f_sh 16 10 2 (aR j c) = false := by
  simp only [f_sh, Bool.and_eq_false_iff]
  refine Or.inl ?_
  cases e : Nat.ble 10 j.val with
  | false => rfl
  | true =>
    have := Nat.le_of_ble_eq_true e
    omega
/-- only scratch cells have changed: the evening, the trial room, the search, the irons, the numbers read -/
def f_sc : pA → Bool
  | .inl s => Nat.beq s 3 || (Nat.beq s 4 || (Nat.beq s 5 || (Nat.beq s 6 || (Nat.beq s 7 || (Nat.beq s 9 || Nat.beq s 10)))))
  | .inr (.inl r) => Nat.beq r.1.val 1
  | .inr (.inr _) => true
theorem cl_sc : ∀ s, 18 ≤ s → f_sc (aS s) = false := fun s hs => by simp only [f_sc, n18 hs (show 3 < 18 by omega), n18 hs (show 4 < 18 by omega), n18 hs (show 5 < 18 by omega), n18 hs (show 6 < 18 by omega), n18 hs (show 7 < 18 by omega), n18 hs (show 9 < 18 by omega), n18 hs (show 10 < 18 by omega)]; rfl
theorem sc_ev (a : pA) (h : f_sc a = false) : f_ev a = false := by
  rcases a with s | ⟨r | i⟩
  · simp only [f_sc, Bool.or_eq_false_iff] at h
    simp only [f_ev, Bool.or_eq_false_iff]
    exact ⟨h.2.1, h.2.2.1, h.2.2.2.1⟩
  · rfl
  · cases h
theorem sc_tr (a : pA) (h : f_sc a = false) : f_room 1 a = false := by
  rcases a with s | ⟨r | i⟩
  · rfl
  · exact h
  · rfl
theorem cS_sc {M M' : pM} {S : pS} (h : p_fr f_sc M M') (hS : cS M S) : cS M' S := by
  have F := h.q 99
  obtain ⟨a1, a2, a3, a4, a5, a6⟩ := hS
  have sc1 : ∀ (j : Fin 12) (c : Nat), 2 ≤ j.val → f_sc (aR j c) = false := fun j c hj => p_beq_f (show j.val ≠ 1 by omega)
  exact ⟨tR_q F rfl rfl a1, cR_q F (fun c => rfl) a2, sR_q F rfl rfl rfl a3, shR_q F rfl (by decide) (fun j c h1 _ => sc1 j c h1) a4, shR_q F rfl (by decide) (fun j c h1 _ => sc1 j c (by omega)) a5, stg_q F (by decide) a6⟩
-- what the calls answer
def sp_write (S : pS) (x : Int32) : pS × Int32 := if 32 ≤ x ∧ x ≤ 126 then (if S.1.length < 200 then ((S.1 ++ [x], S.2), nI (S.1.length + 1)) else (S, -3)) else (S, -1)
def sp_wipe (S : pS) : pS × Int32 := (([], S.2), nI S.1.length)
def sp_fault (S : pS) : pS × Int32 := (S, fltV (rdT S.1 200 0 ρ0).1)
def sp_lay (S : pS) : pS × Int32 := if (rdT S.1 200 0 ρ0).1 = none ∧ 1 ≤ (rdT S.1 200 0 ρ0).2.1.length ∧ 1 ≤ (rdT S.1 200 0 ρ0).2.2.1 then ((S.1, (rdT S.1 200 0 ρ0).2, [], [], []), nI (rdT S.1 200 0 ρ0).2.1.length) else (S, -2)
def sp_teller (S : pS) (t w : Int32) : pS × Int32 := (S, match ix t S.2.1.1.length with
  | none => -1
  | some k => match S.2.1.1[k]? with
    | none => -1
    | some y => if w = 0 then y.1 else if w = 1 then y.2 else -1)
def sp_fact (S : pS) (f : Int32) : pS × Int32 := (S, match ix f S.2.1.2.1 with
  | none => -1
  | some _ => bt1 S.2.1.2.2.1 f)
def sp_claim (S : pS) (c w : Int32) : pS × Int32 := (S, match ix c S.2.1.2.2.2.length with
  | none => -1
  | some k => match S.2.1.2.2.2[k]? with
    | none => -1
    | some x => if w = 0 then x.1 else if w = 1 then x.2.1 else if w = 2 then x.2.2.1 else if w = 3 then x.2.2.2 else if w = 4 then bi (fl S.2.1.2.2.1 x) else -1)
def trR (ρ : pRm) (f : Int32) : pRm := (ρ.1, ρ.2.1, ρ.2.2.1 ^^^ ((1 : Int32) <<< (f &&& 31)), ρ.2.2.2)
def adR (ρ : pRm) (t f v h : Int32) : pRm := (ρ.1, ρ.2.1, ρ.2.2.1, ρ.2.2.2 ++ [(t, f, v, h)])
def grR (ρ : pRm) (k : Nat) (g : Int32) : pRm := (ρ.1.set k ((ρ.1.getD k (0, 0)).1, g), ρ.2)
def act (S : pS) (ρ : pRm) : pS := (S.1, ρ, S.2.2.1, psh8 S.2.2.2.1 S.2.1, S.2.2.2.2)
def sp_turn (S : pS) (f : Int32) : pS × Int32 := match ix f S.2.1.2.1 with
  | none => (S, -1)
  | some _ => (act S (trR S.2.1 f), bt1 (trR S.2.1 f).2.2.1 f)
def sp_add (S : pS) (t f v h : Int32) : pS × Int32 := if alw S.2.1 t f v h = true then (if S.2.1.2.2.2.length < 7 then (act S (adR S.2.1 t f v h), nI S.2.1.2.2.2.length) else (S, -3)) else (S, -1)
def sp_strike (S : pS) (c : Int32) : pS × Int32 := match ix c S.2.1.2.2.2.length with
  | none => (S, -1)
  | some k => (act S (rmR S.2.1 k), nI (S.2.1.2.2.2.length - 1))
def sp_shift (S : pS) (c k : Int32) : pS × Int32 := match ix c S.2.1.2.2.2.length with
  | none => (S, -1)
  | some a => match ix k S.2.1.2.2.2.length with
    | none => (S, -1)
    | some e => if c = k then (S, -2) else (act S (mvR S.2.1 a e), c - k + 10)
def sp_grip (S : pS) (t g : Int32) : pS × Int32 := match ix t S.2.1.1.length with
  | none => (S, -1)
  | some k => if 1 ≤ g ∧ g ≤ 40 then (match S.2.1.1[k]? with
    | none => (S, -1)
    | some y => if y.2 = g then (S, -2) else (act S (grR S.2.1 k g), y.2)) else (S, -1)
def sp_undo (S : pS) : pS × Int32 := match S.2.2.2.1.reverse with
  | [] => (S, -2)
  | ρ :: r => ((S.1, ρ, S.2.2.1, r.reverse, S.2.2.2.2), nI r.length)
def sp_keep (S : pS) : pS × Int32 := if S.2.2.2.2.length < 2 then ((S.1, S.2.1, S.2.2.1, S.2.2.2.1, S.2.2.2.2 ++ [S.2.1]), nI (S.2.2.2.2.length + 1)) else (S, -3)
def sp_back (S : pS) : pS × Int32 := match S.2.2.2.2.reverse with
  | [] => (S, -2)
  | ρ :: r => ((S.1, ρ, S.2.2.1, [], r.reverse), nI r.length)
def sp_forget (S : pS) : pS × Int32 := ((S.1, S.2.1, [], S.2.2.2), nI S.2.2.1.length)
def sp_seen (S : pS) (t k : Int32) : pS × Int32 := match ix t S.2.1.1.length with
  | none => (S, -1)
  | some _ => if 0 ≤ k ∧ k ≤ 7 then (if S.2.2.1.length < 6 then ((S.1, S.2.1, S.2.2.1 ++ [(t, k)], S.2.2.2), nI (S.2.2.1.length + 1)) else (S, -3)) else (S, -1)
