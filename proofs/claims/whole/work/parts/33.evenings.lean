/-! the class's calls: evenings by draws -/
def dX (z i : Int32) : Int64 := 7919 * z.toInt64 + 6151 * i.toInt64 + 1
def drw (z i : Int32) : Int32 := ((dX z i * dX z i - dX z i * dX z i / 65521 * 65521) / 2).toInt32
theorem m_draw {b : Bool} {C : pC} (hC : p_Lg b C) {d : Nat} {M : pM} {Q : pQ} {z i : Int32} (h : Q M (some (vI (drw z i)))) : C d k_X7_draw M [vI z, vI i] Q := by
  have e1 : ¬ (65521 : Int64) = 0 := by decide
  have e2 : ¬ (2 : Int64) = 0 := by decide
  refine p_ent hC tb_X7_draw _ rfl rfl rfl (fun Z hZ => ?_)
  refine hZ _ _ _ _ (hZ _ _ _ _ (hZ _ _ _ _ (hZ _ _ _ _ (hZ _ _ _ _ (hZ _ _ _ _ (hZ _ _ _ _ (hZ _ _ _ _ (hZ _ _ _ _ (hZ _ _ _ _ (hZ _ _ _ _ (hZ _ _ _ _ (hZ _ _ _ _ (hZ _ _ _ _ (hZ _ _ _ _ (hZ _ _ _ _ ?_)))))))))))))))
  show Z 22 _ _ _
  refine hZ _ _ _ _ ⟨e1, ?_⟩
  refine hZ _ _ _ _ ?_
  show Z 26 _ _ _
  refine hZ _ _ _ _ ⟨e2, ?_⟩
  refine hZ _ _ _ _ ?_
  show Z 28 _ _ _
  refine hZ _ _ _ _ ?_
  exact h
theorem drw_nI {z i : Nat} (hz : z ≤ 9999) (hi : i ≤ 60) : drw (nI z) (nI i) = nI ((7919 * z + 6151 * i + 1) * (7919 * z + 6151 * i + 1) % 65521 / 2) := by
  have e1 : dX (nI z) (nI i) = lN (7919 * z + 6151 * i + 1) := by
    rw [dX, nI_l (by omega), nI_l (by omega), show (7919 : Int64) = lN 7919 from rfl, show (6151 : Int64) = lN 6151 from rfl, show (1 : Int64) = lN 1 from rfl, lN_mul, lN_mul, lN_add, lN_add]
  have hn : 7919 * z + 6151 * i + 1 ≤ 80000000 := by omega
  have hm : (7919 * z + 6151 * i + 1) * (7919 * z + 6151 * i + 1) ≤ 80000000 * 80000000 := Nat.mul_le_mul hn hn
  generalize 7919 * z + 6151 * i + 1 = n at *
  have h63 : n * n < 2 ^ 63 := by omega
  rw [drw, e1, lN_mul, show (65521 : Int64) = lN 65521 from rfl, show (2 : Int64) = lN 2 from rfl, pk_lRem h63 (by omega) (by omega), pk_lDiv (by have := Nat.mod_lt (n * n) (show 65521 > 0 by omega); omega) (by omega) (by omega), lN_i]
theorem xor_in : ∀ (m : Fin 7) (n : Fin 64) (k : Fin 6), n.val < 2 ^ m.val → k.val < m.val → nI n.val ^^^ ((1 : Int32) <<< (nI k.val &&& 31)) = nI (n.val ^^^ 2 ^ k.val) ∧ n.val ^^^ 2 ^ k.val < 2 ^ m.val := by decide +kernel
theorem okR_tr {ρ : pRm} {k : Nat} (ok : okR ρ) (hk : k < ρ.2.1) : okR (trR ρ (nI k)) := by
  have l2 := ok.2.1
  obtain ⟨n, en, hn⟩ := ok.2.2.2.2
  have h64 : n < 64 := Nat.lt_of_lt_of_le hn (Nat.pow_le_pow_right (by omega) l2)
  obtain ⟨h1, h2⟩ := xor_in ⟨ρ.2.1, by omega⟩ ⟨n, h64⟩ ⟨k, by omega⟩ hn hk
  exact ⟨ok.1, l2, ok.2.2.1, ok.2.2.2.1, _, by show ρ.2.2.1 ^^^ _ = _; rw [en]; exact h1, h2⟩
def st1 (ρ : pRm) (w : Int32) : pRm := if w / 8 - w / 8 / 2 * 2 = 0 then trR ρ (w - w / nI ρ.2.1 * nI ρ.2.1) else ρ
def st2 (ρ : pRm) (w : Int32) : pRm := if w / 16 - w / 16 / 4 * 4 = 0 ∧ 0 < ρ.2.2.2.length then mvR ρ 0 (ρ.2.2.2.length - 1) else ρ
def stR (ρ : pRm) (w : Int32) : pRm := st2 (st1 ρ w) w
theorem st1_fm (ρ : pRm) (w : Int32) : (st1 ρ w).2.1 = ρ.2.1 ∧ (st1 ρ w).1 = ρ.1 ∧ (st1 ρ w).2.2.2 = ρ.2.2.2 := by
  simp only [st1]
  split <;> exact ⟨rfl, rfl, rfl⟩
theorem stR_fm (ρ : pRm) (w : Int32) : (stR ρ w).2.1 = ρ.2.1 ∧ (stR ρ w).1 = ρ.1 := by
  obtain ⟨h1, h2, h3⟩ := st1_fm ρ w
  simp only [stR, st2]
  split
  · exact ⟨h1, h2⟩
  · exact ⟨h1, h2⟩
theorem okR_st1 {ρ : pRm} {n : Nat} (ok : okR ρ) (hf : 1 ≤ ρ.2.1) (hn : n < 2 ^ 31) : okR (st1 ρ (nI n)) := by
  have l2 := ok.2.1
  simp only [st1]
  split
  · rw [pk_rem hn (by omega) (by omega)]
    exact okR_tr ok (Nat.mod_lt _ (by omega))
  · exact ok
theorem okR_st {ρ : pRm} {n : Nat} (ok : okR ρ) (hf : 1 ≤ ρ.2.1) (hn : n < 2 ^ 31) : okR (stR ρ (nI n)) := by
  have h1 := okR_st1 ok hf hn
  simp only [stR, st2]
  split
  · rename_i e
    exact okR_mv h1 e.2 (by omega)
  · exact h1
theorem m_stir {b : Bool} {C : pC} (hC : p_Lg b C) {d : Nat} {M : pM} {Q : pQ} {ρ : pRm} {w : Int32} {n : Nat} (hd : 3 ≤ d) (ew : w = nI n) (hn : n < 2 ^ 31) (hR : cR M 1 ρ) (ok : okR ρ) (hf : 1 ≤ ρ.2.1) (h : ∀ M', p_fr (f_room 1) M M' → cR M' 1 (stR ρ w) → Q M' none) : C d k_X7_stir M [vR (aR 1 0), vI w] Q := by
  have l2 := ok.2.1
  have l3 := ok.2.2.1
  have hf0 : ¬ nI ρ.2.1 = 0 := nI_ne0 (by omega) (by omega)
  have e8 : ¬ (8 : Int32) = 0 := by decide
  have e2 : ¬ (2 : Int32) = 0 := by decide
  have e16 : ¬ (16 : Int32) = 0 := by decide
  have e4 : ¬ (4 : Int32) = 0 := by decide
  refine p_ent hC tb_X7_stir _ rfl rfl rfl (fun Z hZ => ?_)
  refine hZ _ _ _ _ (hZ _ _ _ _ ?_)
  show Z 4 _ _ _
  refine hZ _ _ _ _ (br_f (by rw [hR.2.1]; exact nI_nle (by omega) (by omega)) ?_)
  refine hZ _ _ _ _ (hZ _ _ _ _ ?_)
  show Z 10 _ _ _
  refine hZ _ _ _ _ ⟨e8, ?_⟩
  refine hZ _ _ _ _ ?_
  show Z 12 _ _ _
  refine hZ _ _ _ _ ⟨e2, ?_⟩
  have two : ∀ M1 : pM, p_fr (f_room 1) M M1 → cR M1 1 (st1 ρ w) → Z 26 [some (vR (aR 1 0)), some (vI w)] [] M1 := by
    intro M1 g1 g2
    have ok1 : okR (st1 ρ w) := by rw [ew]; exact okR_st1 ok hf hn
    have l4 := ok1.2.2.1
    refine hZ _ _ _ _ (hZ _ _ _ _ ?_)
    show Z 29 _ _ _
    refine hZ _ _ _ _ ⟨e16, ?_⟩
    refine hZ _ _ _ _ ?_
    show Z 31 _ _ _
    refine hZ _ _ _ _ ⟨e4, ?_⟩
    by_cases c1 : w / 16 - w / 16 / 4 * 4 = 0
    · refine hZ _ _ _ _ (p_fn (c1) ?_)
      refine hZ _ _ _ _ (hZ _ _ _ _ ?_)
      show Z 39 _ _ _
      rw [g2.2.2.1]
      by_cases c2 : 0 < (st1 ρ w).2.2.2.length
      · refine hZ _ _ _ _ (br_f (nI_nle c2 (by omega)) ?_)
        refine hZ _ _ _ _ (hZ _ _ _ _ (hZ _ _ _ _ (hZ _ _ _ _ (hZ _ _ _ _ (hZ _ _ _ _ ?_)))))
        show Z 50 _ _ _
        rw [g2.2.2.1, show nI (st1 ρ w).2.2.2.length - 1 = nI ((st1 ρ w).2.2.2.length - 1) from by rw [show (st1 ρ w).2.2.2.length = ((st1 ρ w).2.2.2.length - 1) + 1 by omega]; exact nI_pred _]
        refine hZ _ _ _ _ ⟨d - 1, by omega, m_moveClaim hC 0 ((st1 ρ w).2.2.2.length - 1) rfl rfl (by omega) g2 ok1 c2 (by omega) (fun M2 g3 g4 => ?_)⟩
        refine hZ _ _ _ _ ?_
        refine h M2 (g1.tr g3) ?_
        rw [stR, st2, if_pos ⟨c1, c2⟩]
        exact g4
      · skip
        refine hZ _ _ _ _ (br_t (by rw [show (st1 ρ w).2.2.2.length = 0 by omega]; decide) ?_)
        refine hZ _ _ _ _ ?_
        refine h M1 g1 ?_
        rw [stR, st2, if_neg (fun q => c2 q.2)]
        exact g2
    · skip
      refine hZ _ _ _ _ (p_tn (c1) ?_)
      refine hZ _ _ _ _ ?_
      refine h M1 g1 ?_
      rw [stR, st2, if_neg (fun q => c1 q.1)]
      exact g2
  by_cases c1 : w / 8 - w / 8 / 2 * 2 = 0
  · refine hZ _ _ _ _ (p_fn (c1) ?_)
    refine hZ _ _ _ _ (hZ _ _ _ _ (hZ _ _ _ _ (hZ _ _ _ _ ?_)))
    show Z 22 _ _ _
    rw [hR.2.1]
    refine hZ _ _ _ _ ⟨hf0, ?_⟩
    refine hZ _ _ _ _ ⟨d - 1, by omega, m_turnFact hC hR (fun M1 g1 g2 => ?_)⟩
    exact two M1 g1 (by rw [st1, if_pos c1]; exact g2)
  · skip
    refine hZ _ _ _ _ (p_tn (c1) ?_)
    exact two M p_fr_rf (by rw [st1, if_neg c1]; exact hR)
def evs (ρ : pRm) (z : Int32) : Nat → pRm × (Int32 × (Int32 × Int32))
  | 0 => (ρ, 0, 0, 0)
  | i + 1 => (stR (evs ρ z i).1 (drw z (nI i)), (evs ρ z i).2.1 + bc (ev (stR (evs ρ z i).1 (drw z (nI i)))).1.2.2.2, (evs ρ z i).2.2.1 + bc (ev (stR (evs ρ z i).1 (drw z (nI i)))).1.2.2.1, p_max (evs ρ z i).2.2.2 (ev (stR (evs ρ z i).1 (drw z (nI i)))).2.1)
theorem evs_ok {ρ : pRm} {z : Nat} (hz : z ≤ 9999) (ok : okR ρ) (hf : 1 ≤ ρ.2.1) : ∀ i, i ≤ 60 → okR (evs ρ (nI z) i).1 ∧ (evs ρ (nI z) i).1.2.1 = ρ.2.1 ∧ (evs ρ (nI z) i).1.1 = ρ.1 := by
  intro i
  induction i with
  | zero => intro _; exact ⟨ok, rfl, rfl⟩
  | succ i ih =>
    intro hi
    obtain ⟨h1, h2, h3⟩ := ih (by omega)
    obtain ⟨f1, f2⟩ := stR_fm (evs ρ (nI z) i).1 (drw (nI z) (nI i))
    refine ⟨?_, by show (stR _ _).2.1 = _; rw [f1, h2], by show (stR _ _).1 = _; rw [f2, h3]⟩
    show okR (stR _ _)
    rw [drw_nI hz (by omega)]
    exact okR_st h1 (by omega) (by have := Nat.mod_lt ((7919 * z + 6151 * i + 1) * (7919 * z + 6151 * i + 1)) (show 65521 > 0 by omega); omega)
def sp_evenings (S : pS) (z n w : Int32) : pS × Int32 := (S, if (0 ≤ z ∧ z ≤ 9999) ∧ (1 ≤ n ∧ n ≤ 60) ∧ (0 ≤ w ∧ w ≤ 2) then (if w = 0 then (evs S.2.1 z n.toNatClampNeg).2.1 else if w = 1 then (evs S.2.1 z n.toNatClampNeg).2.2.1 else (evs S.2.1 z n.toNatClampNeg).2.2.2) else -1)
theorem i_in {x : Int32} {n : Nat} (hn : n < 2 ^ 31) (h1 : 0 ≤ x) (h2 : x ≤ nI n) : ∃ k, k ≤ n ∧ x = nI k := by
  obtain ⟨k, hk, e⟩ := nI_of (Int32.not_lt.mpr h1)
  rw [e] at h2
  exact ⟨k, (nI_leI hk hn).mp h2, e⟩
theorem c_evenings {b : Bool} {C : pC} (hC : p_Lg b C) {d : Nat} {M : pM} {Q : pQ} {S : pS} {z n w : Int32} (hd : 5 ≤ d) (hS : cS M S) (ok : okS S) (h : ∀ M', p_cl M M' → cS M' S → Q M' (some (vI (sp_evenings S z n w).2))) : C d k_X7_evenings M [vR (aS 0), vI z, vI n, vI w] Q := by
  refine p_ent hC tb_X7_evenings _ rfl rfl rfl (fun Z hZ => ?_)
  refine hZ _ _ _ _ (hZ _ _ _ _ (hZ _ _ _ _ ?_))
  show Z 5 _ _ _
  refine hZ _ _ _ _ ⟨d - 1, by omega, m_within hC (fun a1 a2 => ?_) (fun a1 => ?_)⟩
  · skip
    refine hZ _ _ _ _ (br_f (by decide) ?_)
    refine hZ _ _ _ _ (hZ _ _ _ _ (hZ _ _ _ _ ?_))
    show Z 15 _ _ _
    refine hZ _ _ _ _ ⟨d - 1, by omega, m_within hC (fun b1 b2 => ?_) (fun b1 => ?_)⟩
    · skip
      refine hZ _ _ _ _ (br_f (by decide) ?_)
      refine hZ _ _ _ _ (hZ _ _ _ _ (hZ _ _ _ _ ?_))
      show Z 24 _ _ _
      refine hZ _ _ _ _ ⟨d - 1, by omega, m_within hC (fun c1 c2 => ?_) (fun c1 => ?_)⟩
      · skip
        obtain ⟨z', hz, ez⟩ := i_in (n := 9999) (by omega) a1 a2
        obtain ⟨n', hn, en⟩ := i_in (n := 60) (by omega) (show (0 : Int32) ≤ n by grind) b2
        have ecl : n.toNatClampNeg = n' := by rw [en]; exact nI_clamp (by omega)
        refine hZ _ _ _ _ (p_tn (by decide) ?_)
        refine hZ _ _ _ _ (hZ _ _ _ _ (hZ _ _ _ _ (hZ _ _ _ _ (hZ _ _ _ _ (hZ _ _ _ _ (hZ _ _ _ _ (hZ _ _ _ _ (hZ _ _ _ _ (hZ _ _ _ _ ?_)))))))))
        show Z 49 _ _ _
        refine hZ _ _ _ _ ⟨d - 1, by omega, m_roomCopy hC (by omega) (by decide) hS.2.1 ok.1 (fun M1 g1 g2 => ?_)⟩
        refine hZ _ _ _ _ (hZ _ _ _ _ ?_)
        show Z 55 _ _ _
        have loop : ∀ (m i : Nat) (M2 : pM), i + m = n' → p_fr f_sc M M2 → cR M2 1 (evs S.2.1 z i).1 → Z 55 [some (vR (aS 0)), some (vI z), some (vI n), some (vI w), some (vI (evs S.2.1 z i).2.1), some (vI (evs S.2.1 z i).2.2.1), some (vI (evs S.2.1 z i).2.2.2), some (vI (nI i))] [] M2 := by
          intro m
          induction m with
          | zero =>
            intro i M2 e1 f1 f2
            have : i = n' := by omega
            subst this
            obtain ⟨j1, j2⟩ := cS_sc2 f1 hS
            have := h M2 j1 j2
            simp only [sp_evenings] at this
            rw [if_pos ⟨⟨a1, a2⟩, ⟨b1, b2⟩, ⟨c1, c2⟩⟩, ecl] at this
            refine hZ _ _ _ _ (hZ _ _ _ _ ?_)
            show Z 58 _ _ _
            refine hZ _ _ _ _ (br_t (by rw [en]; exact Int32.le_refl _) ?_)
            refine hZ _ _ _ _ ?_
            show Z 142 _ _ _
            refine hZ _ _ _ _ ?_
            refine ⟨fun s1 => ?_, fun s1 => ⟨fun s2 => ?_, fun s2 => ?_⟩⟩
            · skip
              refine hZ _ _ _ _ ?_
              show Z 170 _ _ _
              refine hZ _ _ _ _ ?_
              rw [if_pos s1] at this
              exact this
            · skip
              refine hZ _ _ _ _ ?_
              show Z 173 _ _ _
              refine hZ _ _ _ _ ?_
              rw [if_neg s1, if_pos s2] at this
              exact this
            · skip
              refine hZ _ _ _ _ ?_
              show Z 176 _ _ _
              refine hZ _ _ _ _ ?_
              rw [if_neg s1, if_neg s2] at this
              exact this
          | succ m ih =>
            intro i M2 e1 f1 f2
            have hi : i ≤ 60 := by omega
            have step := fun M3 f3 => ih (i + 1) M3 (by omega) f3
            rw [← nI_1] at step
            obtain ⟨o1, o2, o3⟩ := evs_ok (ρ := S.2.1) hz ok.1 ok.2.2.1 i hi
            have ed : drw z (nI i) = nI ((7919 * z' + 6151 * i + 1) * (7919 * z' + 6151 * i + 1) % 65521 / 2) := by rw [ez]; exact drw_nI hz hi
            rw [← ez] at o1 o2 o3
            have hb : (7919 * z' + 6151 * i + 1) * (7919 * z' + 6151 * i + 1) % 65521 / 2 < 2 ^ 31 := by
              have := Nat.mod_lt ((7919 * z' + 6151 * i + 1) * (7919 * z' + 6151 * i + 1)) (show 65521 > 0 by omega)
              omega
            have okst : okR (stR (evs S.2.1 z i).1 (drw z (nI i))) := by
              rw [ed]
              exact okR_st o1 (by rw [o2]; exact ok.2.2.1) hb
            refine hZ _ _ _ _ (hZ _ _ _ _ ?_)
            show Z 58 _ _ _
            refine hZ _ _ _ _ (br_f (by rw [en]; exact nI_ge (by omega) (by omega)) ?_)
            refine hZ _ _ _ _ (hZ _ _ _ _ (hZ _ _ _ _ (hZ _ _ _ _ ?_)))
            show Z 68 _ _ _
            refine hZ _ _ _ _ ⟨d - 1, by omega, m_draw hC ?_⟩
            refine hZ _ _ _ _ ⟨d - 1, by omega, m_stir hC (by omega) ed hb f2 o1 (by rw [o2]; exact ok.2.2.1) (fun M3 g3 g4 => ?_)⟩
            refine hZ _ _ _ _ (hZ _ _ _ _ (hZ _ _ _ _ (hZ _ _ _ _ ?_)))
            show Z 82 _ _ _
            refine hZ _ _ _ _ ⟨d - 1, by omega, m_hold hC (by omega) g4 okst (fun M4 g5 g6 => ?_)⟩
            refine hZ _ _ _ _ (hZ _ _ _ _ (hZ _ _ _ _ (hZ _ _ _ _ (hZ _ _ _ _ ?_))))
            show Z 97 _ _ _
            rw [show M4.1 (aI 0) 3 = (ev (stR (evs S.2.1 z i).1 (drw z (nI i)))).1.2.2.2 from congrArg (fun q : pI => q.2.2.2) g6.1]
            refine hZ _ _ _ _ ⟨d - 1, by omega, m_bitCount hC ?_⟩
            refine hZ _ _ _ _ (hZ _ _ _ _ (hZ _ _ _ _ (hZ _ _ _ _ (hZ _ _ _ _ (hZ _ _ _ _ (hZ _ _ _ _ ?_))))))
            show Z 115 _ _ _
            rw [show M4.1 (aI 0) 2 = (ev (stR (evs S.2.1 z i).1 (drw z (nI i)))).1.2.2.1 from congrArg (fun q : pI => q.2.2.1) g6.1]
            refine hZ _ _ _ _ ⟨d - 1, by omega, m_bitCount hC ?_⟩
            refine hZ _ _ _ _ (hZ _ _ _ _ (hZ _ _ _ _ (hZ _ _ _ _ (hZ _ _ _ _ (hZ _ _ _ _ ?_)))))
            show Z 130 _ _ _
            rw [g6.2.1]
            refine hZ _ _ _ _ ⟨by omega, ?_⟩
            refine hZ _ _ _ _ (hZ _ _ _ _ (hZ _ _ _ _ ?_))
            show Z 55 _ _ _
            exact step M4 ((f1.tr (sc_room1 g3)).tr (g5.mono sc_ev)) (cR_cg (fun c => g5.1 _ rfl) g4)
        exact loop n' 0 M1 (Nat.zero_add _) (sc_room1 g1) g2
      · skip
        refine hZ _ _ _ _ (p_fn (rfl) ?_)
        refine hZ _ _ _ _ ?_
        show Z 31 _ _ _
        refine hZ _ _ _ _ ?_
        have := h M p_cl_rf hS
        simp only [sp_evenings] at this
        rw [if_neg (fun q => c1 q.2.2)] at this
        exact this
    · skip
      refine hZ _ _ _ _ (br_t (rfl) ?_)
      refine hZ _ _ _ _ ?_
      show Z 31 _ _ _
      refine hZ _ _ _ _ ?_
      have := h M p_cl_rf hS
      simp only [sp_evenings] at this
      rw [if_neg (fun q => b1 q.2.1)] at this
      exact this
  · skip
    refine hZ _ _ _ _ (br_t (rfl) ?_)
    refine hZ _ _ _ _ ?_
    show Z 31 _ _ _
    refine hZ _ _ _ _ ?_
    have := h M p_cl_rf hS
    simp only [sp_evenings] at this
    rw [if_neg (fun q => a1 q.1)] at this
    exact this
