/-! order: the pruned search finds the first best of all rows, in their order -/
/-- all rows of k of the numbers r, the lowest ahead -/
def pm : Nat → List Nat → List (List Nat)
  | 0, _ => [[]]
  | k + 1, r => r.flatMap (fun c => (pm k (r.filter (fun i => i != c))).map (fun q => c :: q))
def va (ρ : pRm) (l : List Nat) : Int32 := bc (evL ρ l).1.2.2.1
def up (ρ : pRm) (acc : Int32 × List Nat) (l : List Nat) : Int32 × List Nat := if va ρ l ≤ acc.1 then acc else (va ρ l, l)
def unu (n : Nat) (u : Int32) : List Nat := (List.range n).filter (fun c => decide (bt1 u (nI c) = 0))
def tlF (ρ : pRm) (u g : Int32) (c : Nat) : Bool := decide (bt1 u (nI c) = 0 ∧ bt1 g (tlI ρ c) = 0)
theorem tlb_cn (ρ : pRm) (u g : Int32) : ∀ n, tlb ρ u g n = nI (cn (tlF ρ u g) n) := by
  intro n
  induction n with
  | zero => rfl
  | succ n ih =>
    simp only [tlb, cn, tlF, decide_eq_true_eq]
    split
    · rw [ih, nI_1]
    · exact ih
theorem cn_mono {f g : Nat → Bool} : ∀ n, (∀ c, c < n → f c = true → g c = true) → cn f n ≤ cn g n := by
  intro n
  induction n with
  | zero => intro _; exact Nat.le_refl _
  | succ n ih =>
    intro h
    have i1 := ih (fun c hc => h c (by omega))
    have i2 := h n (by omega)
    simp only [cn]
    split
    · rename_i e
      rw [if_pos (i2 e)]
      omega
    · split <;> omega
theorem cn_drop {f g : Nat → Bool} {c0 : Nat} (hg : g c0 = true) (hf : f c0 = false) : ∀ n, c0 < n → (∀ c, c < n → f c = true → g c = true) → cn f n + 1 ≤ cn g n := by
  intro n
  induction n with
  | zero => intro h; omega
  | succ n ih =>
    intro h0 h
    simp only [cn]
    by_cases e : c0 = n
    · subst e
      have := cn_mono c0 (f := f) (g := g) (fun c hc => h c (by omega))
      rw [hf, if_neg (by decide), if_pos hg]
      omega
    · have i1 := ih (by omega) (fun c hc => h c (by omega))
      have i2 := h n (by omega)
      split
      · rename_i e
        rw [if_pos (i2 e)]
        omega
      · split <;> omega
def kb (n : Nat) : Nat := (bc (nI n)).toNatClampNeg
theorem bc_kb : ∀ n : Fin 128, bc (nI n.val) = nI (kb n.val) ∧ kb n.val ≤ 7 := by decide +kernel
theorem kb_or : ∀ (n : Fin 128) (c : Fin 7), kb (n.val ||| (1 <<< c.val)) ≤ kb n.val + 1 := by decide +kernel
theorem bt_u : ∀ (n : Fin 128) (c i : Fin 7), bt1 (nI n.val ||| ((1 : Int32) <<< (nI c.val &&& 31))) (nI i.val) = if i = c then 1 else bt1 (nI n.val) (nI i.val) := by decide +kernel
theorem unu_or {n m c : Nat} (hn : n ≤ 7) (hm : m < 128) (hc : c < 7) : unu n (nI m ||| ((1 : Int32) <<< (nI c &&& 31))) = (unu n (nI m)).filter (fun i => i != c) := by
  simp only [unu, List.filter_filter]
  refine List.filter_congr (fun i hi => ?_)
  have hi := List.mem_range.mp hi
  have b := bt_u ⟨m, hm⟩ ⟨c, hc⟩ ⟨i, by omega⟩
  simp only [Fin.mk.injEq] at b
  rw [b]
  by_cases e : i = c
  · rw [if_pos e, e]
    simp
  · rw [if_neg e]
    simp [e]
/-- how many could be told at best -/
def bnd (ρ : pRm) (l : List Nat) (u : Int32) : Int32 := bc (evL ρ l).1.2.2.1 + tlb ρ u (evL ρ l).1.2.2.2 ρ.2.2.2.length
theorem bnd_n {ρ : pRm} {l : List Nat} {u : Int32} {n : Nat} (hn : n < 128) (e : (evL ρ l).1.2.2.1 = nI n) : bnd ρ l u = nI (kb n + cn (tlF ρ u (evL ρ l).1.2.2.2) ρ.2.2.2.length) := by
  have k := (bc_kb ⟨n, hn⟩).1
  simp only at k
  rw [bnd, e, k, tlb_cn, nI_add]
theorem tlI_ok {ρ : pRm} (ok : okR ρ) {c : Nat} (hc : c < ρ.2.2.2.length) : ∃ t, t < 5 ∧ tlI ρ c = nI t := by
  obtain ⟨x, t, f, y, hx, xt, t5, _⟩ := okR_cl ok hc
  exact ⟨t, t5, by simp only [tlI, hx, xt]⟩
theorem tk1_ng {y : pTl} {τ : Int32} {x : pCl} {s : pI} {c : Nat} (b1 : ¬ bt1 s.2.2.2 x.1 = 1) : (tk1 y τ x s c).1.2.2.1 = s.2.2.1 ||| ((1 : Int32) <<< (nI c &&& 31)) ∧ ((tk1 y τ x s c).1.2.2.2 = s.2.2.2 ∨ (tk1 y τ x s c).1.2.2.2 = s.2.2.2 ||| ((1 : Int32) <<< (x.1 &&& 31))) := by
  simp only [tk1, if_neg b1]
  generalize (if s.2.1 = x.1 then s.1 else s.1 / 2) + hg y.1 (fl τ x) x.2.2.2 = w
  by_cases e : y.2 < w
  · simp only [if_pos e]
    exact ⟨trivial, Or.inr trivial⟩
  · simp only [if_neg e]
    exact ⟨trivial, Or.inl trivial⟩
theorem bnd_s {ρ : pRm} (ok : okR ρ) {l : List Nat} {m c : Nat} (hl : ∀ c ∈ l, c < ρ.2.2.2.length) (hm : m < 128) (hc : c < ρ.2.2.2.length) (hu : bt1 (nI m) (nI c) = 0) : bnd ρ (l ++ [c]) (nI m ||| ((1 : Int32) <<< (nI c &&& 31))) ≤ bnd ρ l (nI m) := by
  have l3 := ok.2.2.1
  obtain ⟨-, ⟨n, n1, n2⟩, ⟨g, g1, g2⟩, -, -⟩ := evL_I ok l hl
  obtain ⟨x, t, f, y, hx, xt, t5, tl1, xf, f1, f6, xv, hy, hk⟩ := okR_cl ok hc
  have etl : tlI ρ c = nI t := by simp only [tlI, hx, xt]
  have hbu : ∀ i, i < 7 → bt1 (nI m ||| ((1 : Int32) <<< (nI c &&& 31))) (nI i) = if i = c then 1 else bt1 (nI m) (nI i) := fun i hi => by
    have b := bt_u ⟨m, hm⟩ ⟨c, by omega⟩ ⟨i, hi⟩
    simp only [Fin.mk.injEq] at b
    exact b
  have hor := or_t ⟨n, n1⟩ ⟨c, by omega⟩
  have hkb := kb_or ⟨n, n1⟩ ⟨c, by omega⟩
  have k7 := (bc_kb ⟨n, n1⟩).2
  simp only at hor hkb k7
  have es : (evL ρ (l ++ [c])).1 = (tk1 y ρ.2.2.1 x (evL ρ l).1 c).1 := by rw [evL_snoc, ← hk]; rfl
  have cl := cn_le (tlF ρ (nI m) (evL ρ l).1.2.2.2) ρ.2.2.2.length
  by_cases b1 : bt1 (evL ρ l).1.2.2.2 x.1 = 1
  · have e1 : (evL ρ (l ++ [c])).1 = (evL ρ l).1 := by rw [es, tk1, if_pos b1]
    rw [bnd_n n1 n2, bnd_n n1 (by rw [e1, n2]), e1]
    have := cn_mono (f := tlF ρ (nI m ||| ((1 : Int32) <<< (nI c &&& 31))) (evL ρ l).1.2.2.2) (g := tlF ρ (nI m) (evL ρ l).1.2.2.2) ρ.2.2.2.length (fun i hi h => by
      simp only [tlF, decide_eq_true_eq] at h ⊢
      rw [hbu i (by omega)] at h
      by_cases e : i = c
      · rw [if_pos e] at h
        exact absurd h.1 (by decide)
      · rw [if_neg e] at h
        exact h)
    exact nI_le (by omega) (by omega)
  · have hg0 : bt1 (nI g) (nI t) = 0 := by
      rw [g2, xt] at b1
      rcases b01_g ⟨g, g1⟩ ⟨t, t5⟩ with q | q
      · exact absurd q b1
      · exact q
    have e1 : (evL ρ (l ++ [c])).1.2.2.1 = nI (n ||| 1 <<< c) := by
      rw [es, (tk1_ng b1).1, ← hor.1, ← n2]
    have e2 : ∀ i, i < ρ.2.2.2.length → bt1 (evL ρ (l ++ [c])).1.2.2.2 (tlI ρ i) = 0 → bt1 (evL ρ l).1.2.2.2 (tlI ρ i) = 0 := by
      intro i hi q
      obtain ⟨v, v5, ev⟩ := tlI_ok ok hi
      rw [es] at q
      rcases (tk1_ng (y := y) (τ := ρ.2.2.1) (c := c) b1).2 with z | z
      · rw [z] at q
        exact q
      · have hb := bt_g ⟨g, g1⟩ ⟨t, t5⟩ ⟨v, v5⟩
        simp only [Fin.mk.injEq] at hb
        rw [z, g2, xt, ev, hb] at q
        rw [g2, ev]
        by_cases e : v = t
        · rw [if_pos e] at q
          exact absurd q (by decide)
        · rw [if_neg e] at q
          exact q
    rw [bnd_n n1 n2, bnd_n hor.2 e1]
    have := cn_drop (f := tlF ρ (nI m ||| ((1 : Int32) <<< (nI c &&& 31))) (evL ρ (l ++ [c])).1.2.2.2) (g := tlF ρ (nI m) (evL ρ l).1.2.2.2) (c0 := c) (by
      simp only [tlF, decide_eq_true_eq]
      exact ⟨hu, by rw [g2, etl]; exact hg0⟩) (by
      simp only [tlF, decide_eq_false_iff_not]
      rw [hbu c (by omega), if_pos rfl]
      exact fun q => absurd q.1 (by decide)) ρ.2.2.2.length hc (fun i hi h => by
      simp only [tlF, decide_eq_true_eq] at h ⊢
      rw [hbu i (by omega)] at h
      by_cases e : i = c
      · rw [if_pos e] at h
        exact absurd h.1 (by decide)
      · rw [if_neg e] at h
        exact ⟨h.1, e2 i hi h.2⟩)
    exact nI_le (by omega) (by omega)
theorem mem_unu {n c : Nat} {u : Int32} : c ∈ unu n u ↔ c < n ∧ bt1 u (nI c) = 0 := by
  simp only [unu, List.mem_filter, List.mem_range, decide_eq_true_eq]
theorem bnd_all {ρ : pRm} (ok : okR ρ) : ∀ (k : Nat) (l : List Nat) (m : Nat), (∀ c ∈ l, c < ρ.2.2.2.length) → m < 128 → ∀ r ∈ pm k (unu ρ.2.2.2.length (nI m)), va ρ (l ++ r) ≤ bnd ρ l (nI m) := by
  have l3 := ok.2.2.1
  intro k
  induction k with
  | zero =>
    intro l m hl hm r hr
    simp only [pm, List.mem_singleton] at hr
    subst hr
    obtain ⟨-, ⟨n, n1, n2⟩, -, -, -⟩ := evL_I ok l hl
    have k1 := bc_kb ⟨n, n1⟩
    simp only at k1
    have cl := cn_le (tlF ρ (nI m) (evL ρ l).1.2.2.2) ρ.2.2.2.length
    rw [List.append_nil, va, bnd_n n1 n2, n2, k1.1]
    exact nI_le (by omega) (by omega)
  | succ k ih =>
    intro l m hl hm r hr
    simp only [pm, List.mem_flatMap, List.mem_map] at hr
    obtain ⟨c, hc, q, hq, rfl⟩ := hr
    obtain ⟨hc1, hc2⟩ := mem_unu.mp hc
    have hor := or_t ⟨m, hm⟩ ⟨c, by omega⟩
    simp only at hor
    rw [← unu_or l3 hm (by omega), hor.1] at hq
    have i1 := ih (l ++ [c]) (m ||| 1 <<< c) (fun i hi => by
      rcases List.mem_append.mp hi with z | z
      · exact hl i z
      · rw [List.mem_singleton.mp z]; exact hc1) hor.2 q hq
    have i2 := bnd_s ok hl hm hc1 hc2
    rw [← hor.1] at i1
    rw [List.append_assoc] at i1
    exact Int32.le_trans i1 i2
theorem up_idle {ρ : pRm} : ∀ (L : List (List Nat)) (acc : Int32 × List Nat), (∀ r ∈ L, va ρ r ≤ acc.1) → L.foldl (up ρ) acc = acc := by
  intro L
  induction L with
  | nil => intro acc _; rfl
  | cons a L ih =>
    intro acc h
    have e : up ρ acc a = acc := if_pos (h a List.mem_cons_self)
    rw [List.foldl_cons, e]
    exact ih acc (fun r hr => h r (List.mem_cons_of_mem _ hr))
theorem unu_nd (n : Nat) (u : Int32) : (unu n u).Nodup := List.nodup_range.filter _
theorem len_er : ∀ (r : List Nat) (c : Nat), r.Nodup → c ∈ r → (r.filter (fun i => i != c)).length + 1 = r.length := by
  intro r
  induction r with
  | nil => intro c _ h; cases h
  | cons a r ih =>
    intro c hn hc
    have hn2 := List.nodup_cons.mp hn
    by_cases e : a = c
    · subst e
      have : r.filter (fun i => i != a) = r := List.filter_eq_self.mpr (fun i hi => by
        simp only [bne_iff_ne, ne_eq]
        intro q
        subst q
        exact hn2.1 hi)
      rw [List.filter_cons, if_neg (by simp), this]
      rfl
    · have hc2 : c ∈ r := by
        rcases List.mem_cons.mp hc with q | q
        · exact absurd q.symm e
        · exact q
      rw [List.filter_cons, if_pos (by simp [e]), List.length_cons, List.length_cons, ← ih c hn2.2 hc2]
theorem lk_pm {ρ : pRm} (ok : okR ρ) : ∀ (k : Nat) (l : List Nat) (m : Nat) (acc : Int32 × List Nat), (∀ c ∈ l, c < ρ.2.2.2.length) → m < 128 → (unu ρ.2.2.2.length (nI m)).length = k → lkS ρ k (evL ρ l).1 (nI m) l acc = ((pm k (unu ρ.2.2.2.length (nI m))).map (fun q => l ++ q)).foldl (up ρ) acc := by
  have l3 := ok.2.2.1
  intro k
  induction k with
  | zero =>
    intro l m acc hl hm h0
    have e0 : tlb ρ (nI m) (evL ρ l).1.2.2.2 ρ.2.2.2.length = 0 := by
      rw [tlb_cn]
      have e1 : cn (tlF ρ (nI m) (evL ρ l).1.2.2.2) ρ.2.2.2.length ≤ cn (fun _ => false) ρ.2.2.2.length := cn_mono _ (fun c hc h => by
        simp only [tlF, decide_eq_true_eq] at h
        have : c ∈ unu ρ.2.2.2.length (nI m) := mem_unu.mpr ⟨hc, h.1⟩
        rw [List.eq_nil_of_length_eq_zero h0] at this
        cases this)
      have e2 : ∀ n, cn (fun _ => false) n = 0 := by
        intro n
        induction n with
        | zero => rfl
        | succ n ih => simp only [cn]; rw [if_neg (by decide)]; exact ih
      rw [e2] at e1
      rw [show cn (tlF ρ (nI m) (evL ρ l).1.2.2.2) ρ.2.2.2.length = 0 by omega]
      rfl
    simp only [lkS, e0, pm, List.map_cons, List.map_nil, List.foldl_cons, List.foldl_nil, List.append_nil, up, va]
    rw [show bc (evL ρ l).1.2.2.1 + 0 = bc (evL ρ l).1.2.2.1 from Int32.add_zero _]
    rfl
  | succ k ih =>
    intro l m acc hl hm h0
    simp only [lkS]
    by_cases c1 : bc (evL ρ l).1.2.2.1 + tlb ρ (nI m) (evL ρ l).1.2.2.2 ρ.2.2.2.length ≤ acc.1
    · rw [if_pos c1]
      refine (up_idle _ acc (fun r hr => ?_)).symm
      obtain ⟨q, hq, rfl⟩ := List.mem_map.mp hr
      exact Int32.le_trans (bnd_all ok (k + 1) l m hl hm q hq) c1
    · rw [if_neg c1]
      have e1 : ∀ (L : List Nat) (acc : Int32 × List Nat), (∀ c ∈ L, c < ρ.2.2.2.length) → L.foldl (fun acc c => if bt1 (nI m) (nI c) = 0 then lkS ρ k (tk ρ (evL ρ l).1 c).1 (nI m ||| ((1 : Int32) <<< (nI c &&& 31))) (l ++ [c]) acc else acc) acc = (((L.filter (fun c => decide (bt1 (nI m) (nI c) = 0))).flatMap (fun c => (pm k ((unu ρ.2.2.2.length (nI m)).filter (fun i => i != c))).map (fun q => c :: q))).map (fun q => l ++ q)).foldl (up ρ) acc := by
        intro L
        induction L with
        | nil => intro acc _; rfl
        | cons c L ih2 =>
          intro acc hL
          have hc := hL c List.mem_cons_self
          have hL2 := fun i hi => hL i (List.mem_cons_of_mem _ hi)
          rw [List.foldl_cons, ih2 _ hL2, List.filter_cons]
          by_cases c2 : bt1 (nI m) (nI c) = 0
          · have hor := or_t ⟨m, hm⟩ ⟨c, by omega⟩
            simp only at hor
            have es : (tk ρ (evL ρ l).1 c).1 = (evL ρ (l ++ [c])).1 := by rw [evL_snoc]; rfl
            have hu := unu_or (n := ρ.2.2.2.length) l3 hm (show c < 7 by omega)
            have hlen := len_er (unu ρ.2.2.2.length (nI m)) c (unu_nd _ _) (mem_unu.mpr ⟨hc, c2⟩)
            rw [if_pos c2, if_pos (by rw [decide_eq_true_eq]; exact c2), es, hor.1, ih (l ++ [c]) (m ||| 1 <<< c) acc (fun i hi => by
              rcases List.mem_append.mp hi with z | z
              · exact hl i z
              · rw [List.mem_singleton.mp z]; exact hc) hor.2 (by rw [← hor.1, hu]; omega), ← hor.1, hu, List.flatMap_cons, List.map_append, List.foldl_append, List.map_map]
            congr 2
            refine List.map_congr_left (fun q _ => ?_)
            simp
          · rw [if_neg c2, if_neg (by rw [decide_eq_true_eq]; exact c2)]
      rw [e1 _ acc (fun c hc => List.mem_range.mp hc)]
      rfl
theorem unu_0 {n : Nat} (hn : n ≤ 7) : unu n 0 = List.range n := by
  refine List.filter_eq_self.mpr (fun c hc => ?_)
  have hc := List.mem_range.mp hc
  have : ∀ u : Fin 7, bt1 0 (nI u.val) = 0 := by decide
  exact decide_eq_true (this ⟨c, by omega⟩)
theorem ord_pm {ρ : pRm} (ok : okR ρ) : ord ρ = (pm ρ.2.2.2.length (List.range ρ.2.2.2.length)).foldl (up ρ) (-1, []) := by
  have l3 := ok.2.2.1
  have := lk_pm ok ρ.2.2.2.length [] 0 (-1, []) (fun c hc => by cases hc) (by omega) (by rw [show nI 0 = 0 from rfl, unu_0 l3, List.length_range])
  rw [show nI 0 = 0 from rfl, unu_0 l3] at this
  rw [ord, show s0 = (evL ρ []).1 from rfl, this]
  congr 1
  have : ∀ L : List (List Nat), L.map (fun q => [] ++ q) = L := fun L => by simp
  exact this _
