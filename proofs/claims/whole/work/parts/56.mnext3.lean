/-! the model: next, over the facts -/
theorem nI_sub {a b : Nat} (h : b ≤ a) : nI a - nI b = nI (a - b) := by
  have e : nI a = nI (a - b) + nI b := by rw [nI_add]; congr 1; omega
  rw [e]
  exact Int32.add_sub_cancel _ _
theorem pm_nI {a b : Nat} (ha : a < 2 ^ 31) (hb : b < 2 ^ 31) : p_max (nI a) (nI b) = nI (max a b) := by
  unfold p_max
  by_cases q : a < b
  · rw [if_pos (nI_lt q hb), Nat.max_eq_right (by omega)]
  · rw [if_neg (nI_nlt (by omega) ha), Nat.max_eq_left (by omega)]
theorem n_next {C : pC} (hC : p_Lg true C) {d : Nat} {M : pM} {Q : pQ} {S : pS} {t w : Int32} (hd : 4 ≤ d) (hS : mS M S) (ok : okS S) (h : ∀ M', mfA M M' → mS M' S → Q M' (some (vI (sp_next S t w).2))) : C d k_X8_next M [vR (aS 18), vI t, vI w] Q := by
  have l1 := ok.1.1
  have l2 := ok.1.2.1
  have l3 := ok.1.2.2.1
  have p6 := pw6 ok.1
  have R := hS.2.1
  refine p_ent hC tb_X8_next _ rfl rfl rfl (fun Z hZ => ?_)
  refine hZ _ _ _ _ (hZ _ _ _ _ ?_)
  show Z 2 _ _ _
  refine hZ _ _ _ _ ⟨d - 1, by omega, n_isTeller hC (by omega) R ok.1 (fun k b1 b2 b3 => ?_) (fun b1 => ?_)⟩
  · skip
    refine hZ _ _ _ _ (br_f (by decide) ?_)
    refine hZ _ _ _ _ (hZ _ _ _ _ (hZ _ _ _ _ ?_))
    show Z 12 _ _ _
    refine hZ _ _ _ _ ⟨d - 1, by omega, n_in hC (fun c1 c2 => ?_) (fun c1 => ?_)⟩
    · skip
      refine hZ _ _ _ _ (p_tn (by decide) ?_)
      refine hZ _ _ _ _ (hZ _ _ _ _ (hZ _ _ _ _ ?_))
      show Z 26 _ _ _
      rw [R.2.2.1]
      simp only [sp_next, b1, if_pos (And.intro c1 c2)] at h
      by_cases e7 : S.2.1.2.2.2.length < 7
      · refine hZ _ _ _ _ (p_tn ((fun e => absurd ((nI_eq (a := S.2.1.2.2.2.length) (b := 7) (by omega) (by omega)).mp e) (by omega))) ?_)
        refine hZ _ _ _ _ (hZ _ _ _ _ (hZ _ _ _ _ (hZ _ _ _ _ (hZ _ _ _ _ (hZ _ _ _ _ (hZ _ _ _ _ (hZ _ _ _ _ (hZ _ _ _ _ ?_))))))))
        show Z 48 _ _ _
        generalize hg : (fun i => fit (wR S.2.1 i) S.2.2.1) = g
        have hin : ∀ j, j < 2 ^ S.2.1.2.1 → inB (fwW S.2.1 S.2.2.1 (2 ^ S.2.1.2.1)) j = g j := fun j hj => by rw [in_fw _ _ (by omega) hj, ← hg]
        have w0 : bcL (fwW S.2.1 S.2.2.1 (2 ^ S.2.1.2.1)) = nI (cn g (2 ^ S.2.1.2.1)) := by rw [bc_fw _ _ (by omega), ← hg]
        have wz : fwW S.2.1 S.2.2.1 (2 ^ S.2.1.2.1) = 0 ↔ cn g (2 ^ S.2.1.2.1) = 0 := by rw [← hg]; exact ⟨fw_n0 _ _ (by omega), fw_0 _ _ _⟩
        generalize hF : fwW S.2.1 S.2.2.1 (2 ^ S.2.1.2.1) = F at h hin w0 wz
        have cle := cn_le g (2 ^ S.2.1.2.1)
        have hle := fun f => hN_le S.2.1 g k t f w (2 ^ S.2.1.2.1)
        have loop : ∀ (n i : Nat) (M2 : pM) (b4 b5 : Int32) (x7 x8 x9 x10 : Option pV), i + n = S.2.1.2.1 → nxF S.2.1.2.2.2.length M M2 → (cn g (2 ^ S.2.1.2.1) = 0 ∧ b4 = -4) ∨ (0 < cn g (2 ^ S.2.1.2.1) ∧ ((i = 0 ∧ b4 = -4 ∧ b5 = 1048576) ∨ (1 ≤ i ∧ b4 = (nxN S.2.1 F k t w i).1 ∧ b5 = (nxN S.2.1 F k t w i).2))) → Z 48 [some (vR (aS 18)), some (vI t), some (vI w), some (vI (M.1 (aS 18) 3)), some (vI b4), some (vI b5), some (vI (nI i)), x7, x8, x9, x10] [] M2 := by
          intro n
          induction n with
          | zero =>
            intro i M2 b4 b5 x7 x8 x9 x10 e1 f1 f2
            have : i = S.2.1.2.1 := by omega
            subst this
            refine hZ _ _ _ _ (hZ _ _ _ _ (hZ _ _ _ _ ?_))
            show Z 54 _ _ _
            refine hZ _ _ _ _ (br_t (by rw [f1.1.2.1 1 rfl, R.2.1]; exact Int32.le_refl _) ?_)
            refine hZ _ _ _ _ (hZ _ _ _ _ (hZ _ _ _ _ (hZ _ _ _ _ ?_)))
            show Z 242 _ _ _
            refine hZ _ _ _ _ ?_
            have N2 := nxF_t (x := M.1 (aS 18) 3) f1
            have hA : mfA M (p_wr M2 (aS 18) 3 (M.1 (aS 18) 3)) := mfA_of N2.1 (lo18 (by decide))
            have E3 : (p_wr M2 (aS 18) 3 (M.1 (aS 18) 3)).1 (aS 18) 3 = M.1 (aS 18) 3 := by rw [p_wr_eq, us]
            generalize p_wr M2 (aS 18) 3 (M.1 (aS 18) 3) = M3 at N2 hA E3 ⊢
            have hS3 : mS M3 S := by
              obtain ⟨a1, a2, a3, a4, a5⟩ := hS
              refine ⟨mT_cg a1 (N2.1.2.1 14 rfl) (N2.1.1 27 (by decide) rfl), ?_, mV_cg a3 (N2.1.2.1 10 rfl) (N2.1.1 25 (by decide) rfl) (N2.1.1 26 (by decide) rfl), mL_cg a4 (N2.1.2.1 30 rfl) (N2.1.1 35 (by decide) rfl), mL_cg a5 (N2.1.2.1 34 rfl) (N2.1.1 38 (by decide) rfl)⟩
              obtain ⟨n, n1, n2⟩ := okR_t64 ok.1
              have := mR_x (i := n) a2 N2 (by rw [E3, a2.2.2.2.1, n2])
              have e : wR S.2.1 n = S.2.1 := by simp only [wR, ← n2]
              rw [e] at this
              exact this
            have hh := h M3 hA hS3
            rcases f2 with ⟨z1, z2⟩ | ⟨z1, ⟨y1, _⟩ | ⟨-, y2, y3⟩⟩
            · rw [if_neg (fun q => q.2 (wz.mpr z1))] at hh
              rw [z2]
              exact hh
            · have := ok.2.2.1
              omega
            · rw [if_pos ⟨e7, fun q => by have := wz.mp q; omega⟩] at hh
              rw [y2]
              exact hh
          | succ n ih =>
            intro i M2 b4 b5 x7 x8 x9 x10 e1 f1 f2
            have hi : i < S.2.1.2.1 := by omega
            have ha : alw S.2.1 t (nI i) 1 w = true := by
              simp only [alw, b1, ix_nI hi (by omega), c1, c2, Option.isSome_some]
              decide
            refine hZ _ _ _ _ (hZ _ _ _ _ (hZ _ _ _ _ ?_))
            show Z 54 _ _ _
            refine hZ _ _ _ _ (br_f (by rw [f1.1.2.1 1 rfl, R.2.1]; exact nI_ge hi (by omega)) ?_)
            refine hZ _ _ _ _ (hZ _ _ _ _ (hZ _ _ _ _ (hZ _ _ _ _ (hZ _ _ _ _ (hZ _ _ _ _ ?_)))))
            show Z 66 _ _ _
            refine n_wdrop hC (k := k) hS ok b3 b2 e7 ha hg.symm hd hZ _ _ _ _ (fun M3 f3 => ?_) (2 ^ S.2.1.2.1) 0 M2 (Nat.zero_add _) f1
            have hl := hle (nI i)
            have step := fun b4 b5 x9 x10 => ih (i + 1) M3 b4 b5 (some (vI (nI (hN S.2.1 g k t (nI i) w (2 ^ S.2.1.2.1))))) (some (vI (nI (cn g (2 ^ S.2.1.2.1))))) x9 x10 (by omega) f3
            have nxs : nxN S.2.1 F k t w (i + 1) = if nI (max (hN S.2.1 g k t (nI i) w (2 ^ S.2.1.2.1)) (cn g (2 ^ S.2.1.2.1) - hN S.2.1 g k t (nI i) w (2 ^ S.2.1.2.1))) < (nxN S.2.1 F k t w i).2 then (nI i, nI (max (hN S.2.1 g k t (nI i) w (2 ^ S.2.1.2.1)) (cn g (2 ^ S.2.1.2.1) - hN S.2.1 g k t (nI i) w (2 ^ S.2.1.2.1)))) else nxN S.2.1 F k t w i := by
              simp only [nxN, wd_hN S.2.1 F g k t (nI i) w _ hin, w0, nI_sub hl, pm_nI (show hN S.2.1 g k t (nI i) w (2 ^ S.2.1.2.1) < 2 ^ 31 by omega) (show cn g (2 ^ S.2.1.2.1) - hN S.2.1 g k t (nI i) w (2 ^ S.2.1.2.1) < 2 ^ 31 by omega)]
            rw [← nI_1] at step
            have mx : max (hN S.2.1 g k t (nI i) w (2 ^ S.2.1.2.1)) (cn g (2 ^ S.2.1.2.1) - hN S.2.1 g k t (nI i) w (2 ^ S.2.1.2.1)) ≤ cn g (2 ^ S.2.1.2.1) := by omega
            generalize hN S.2.1 g k t (nI i) w (2 ^ S.2.1.2.1) = H at hl step nxs mx ⊢
            have key : ∀ v, v = nI (max H (cn g (2 ^ S.2.1.2.1) - H)) → Z 180 [some (vR (aS 18)), some (vI t), some (vI w), some (vI (M.1 (aS 18) 3)), some (vI b4), some (vI b5), some (vI (nI i)), some (vI (nI H)), some (vI (nI (cn g (2 ^ S.2.1.2.1)))), some (vI (nI (2 ^ S.2.1.2.1))), x10] [vI v] M3 := by
              intro v ev
              subst ev
              refine hZ _ _ _ _ (hZ _ _ _ _ ?_)
              show Z 184 _ _ _
              rcases f2 with ⟨z1, z2⟩ | ⟨z1, y⟩
              · refine hZ _ _ _ _ (br_t (by rw [z1]; exact Int32.le_refl _) ?_)
                refine hZ _ _ _ _ (hZ _ _ _ _ (hZ _ _ _ _ ?_))
                show Z 203 _ _ _
                refine hZ _ _ _ _ (br_t (rfl) ?_)
                refine hZ _ _ _ _ (hZ _ _ _ _ (hZ _ _ _ _ ?_))
                show Z 217 _ _ _
                refine hZ _ _ _ _ (br_t (rfl) ?_)
                refine hZ _ _ _ _ (hZ _ _ _ _ (hZ _ _ _ _ (hZ _ _ _ _ ?_)))
                show Z 48 _ _ _
                exact step _ _ _ _ (Or.inl ⟨z1, z2⟩)
              · skip
                refine hZ _ _ _ _ (br_f (nI_nle z1 (by omega)) ?_)
                refine hZ _ _ _ _ (hZ _ _ _ _ ?_)
                show Z 191 _ _ _
                have yes : nI (max H (cn g (2 ^ S.2.1.2.1) - H)) < b5 → nxN S.2.1 F k t w (i + 1) = (nI i, nI (max H (cn g (2 ^ S.2.1.2.1) - H))) → Z 191 [some (vR (aS 18)), some (vI t), some (vI w), some (vI (M.1 (aS 18) 3)), some (vI b4), some (vI b5), some (vI (nI i)), some (vI (nI H)), some (vI (nI (cn g (2 ^ S.2.1.2.1)))), some (vI (nI (max H (cn g (2 ^ S.2.1.2.1) - H)))), x10] [vI b5, vI (nI (max H (cn g (2 ^ S.2.1.2.1) - H)))] M3 := by
                  intro q e
                  refine hZ _ _ _ _ (br_f (by grind) ?_)
                  refine hZ _ _ _ _ (hZ _ _ _ _ (hZ _ _ _ _ (hZ _ _ _ _ ?_)))
                  show Z 203 _ _ _
                  refine hZ _ _ _ _ (br_f (by decide) ?_)
                  refine hZ _ _ _ _ (hZ _ _ _ _ (hZ _ _ _ _ (hZ _ _ _ _ ?_)))
                  show Z 217 _ _ _
                  refine hZ _ _ _ _ (br_f (by decide) ?_)
                  refine hZ _ _ _ _ (hZ _ _ _ _ (hZ _ _ _ _ (hZ _ _ _ _ (hZ _ _ _ _ ?_))))
                  show Z 48 _ _ _
                  exact step _ _ _ _ (Or.inr ⟨z1, Or.inr ⟨by omega, by rw [e], by rw [e]⟩⟩)
                rcases y with ⟨y1, y2, y3⟩ | ⟨y1, y2, y3⟩
                · refine yes (by rw [y3]; exact nI_lt (b := 1048576) (by omega) (by omega)) ?_
                  rw [nxs]
                  refine if_pos ?_
                  rw [y1]
                  show _ < nI (2 ^ S.2.1.2.1) + 1
                  rw [nI_1]
                  exact nI_lt (by omega) (by omega)
                · by_cases q : nI (max H (cn g (2 ^ S.2.1.2.1) - H)) < (nxN S.2.1 F k t w i).2
                  · rw [if_pos q] at nxs
                    exact yes (by rw [y3]; exact q) nxs
                  · skip
                    rw [if_neg q] at nxs
                    refine hZ _ _ _ _ (br_t (by rw [y3]; grind) ?_)
                    refine hZ _ _ _ _ (hZ _ _ _ _ (hZ _ _ _ _ ?_))
                    show Z 203 _ _ _
                    refine hZ _ _ _ _ (br_t (rfl) ?_)
                    refine hZ _ _ _ _ (hZ _ _ _ _ (hZ _ _ _ _ ?_))
                    show Z 217 _ _ _
                    refine hZ _ _ _ _ (br_t (rfl) ?_)
                    refine hZ _ _ _ _ (hZ _ _ _ _ (hZ _ _ _ _ (hZ _ _ _ _ ?_)))
                    show Z 48 _ _ _
                    exact step _ _ _ _ (Or.inr ⟨z1, Or.inr ⟨by omega, by rw [nxs]; exact y2, by rw [nxs]; exact y3⟩⟩)
            refine hZ _ _ _ _ (hZ _ _ _ _ (hZ _ _ _ _ (hZ _ _ _ _ ?_)))
            show Z 167 _ _ _
            rw [nI_sub hl]
            by_cases q : H ≤ cn g (2 ^ S.2.1.2.1) - H
            · refine hZ _ _ _ _ (br_t (nI_le q (by omega)) ?_)
              refine hZ _ _ _ _ (hZ _ _ _ _ (hZ _ _ _ _ ?_))
              show Z 180 _ _ _
              rw [nI_sub hl]
              exact key _ (by rw [Nat.max_eq_right q])
            · skip
              refine hZ _ _ _ _ (br_f (nI_ge (by omega) (by omega)) ?_)
              refine hZ _ _ _ _ (hZ _ _ _ _ ?_)
              show Z 180 _ _ _
              exact key _ (by rw [Nat.max_eq_left (by omega)])
        exact loop S.2.1.2.1 0 M _ _ none none none none (Nat.zero_add _) nxF_rf (by
          by_cases q : cn g (2 ^ S.2.1.2.1) = 0
          · exact Or.inl ⟨q, rfl⟩
          · exact Or.inr ⟨by omega, Or.inl ⟨rfl, rfl, rfl⟩⟩)
      · skip
        refine hZ _ _ _ _ (p_fn (by rw [show S.2.1.2.2.2.length = 7 by omega]; rfl) ?_)
        refine hZ _ _ _ _ ?_
        show Z 31 _ _ _
        refine hZ _ _ _ _ ?_
        have := h M mfr_rf hS
        rw [if_neg (fun q => e7 q.1)] at this
        exact this
    · skip
      refine hZ _ _ _ _ (p_fn (rfl) ?_)
      refine hZ _ _ _ _ ?_
      show Z 19 _ _ _
      refine hZ _ _ _ _ ?_
      have := h M mfr_rf hS
      simp only [sp_next, b1, if_neg c1] at this
      exact this
  · skip
    refine hZ _ _ _ _ (br_t (rfl) ?_)
    refine hZ _ _ _ _ ?_
    show Z 19 _ _ _
    refine hZ _ _ _ _ ?_
    have := h M mfr_rf hS
    simp only [sp_next, b1] at this
    exact this
