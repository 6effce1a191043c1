theorem Rel.plan {ng N M nx : Nat} {sh ln : Nat → Nat} {iv iv' : wI} {rv rv' : wJ} {m m' : wI} (h : Rel ng N M nx sh ln iv rv m) (hi : ∀ a, (a < 7 ∨ a = 8 ∨ 12 < a) → iv' a = iv a) (hr : ∀ a, a ≠ 8 → rv' a = rv a) (hr8 : ∀ j, rv' 8 j = rv 8 j ∨ sh (rv' 8 j) ≠ 0) (hm : ∀ a, a ≠ 1 → a < 36 → m' a = m a) (hm1 : ∀ j, j ≠ 30 → m' 1 j = m 1 j) : Rel ng N M nx sh ln iv' rv' m' := by
  obtain ⟨hB, hV, hSc, hSt, hRc, hCt, hCu, hFr, hGr, hWa, hGp, hLg⟩ := h
  have m24 := hm 24 (by decide) (by decide)
  refine ⟨hB, fun a j => ?_, ?_, hSt.congr (hi 6 (by decide)) (hm 17 (by decide) (by decide)), hRc.congr (fun a ha => hi a (by omega)) (hr 3 (by decide)) (hm 15 (by decide) (by decide)) (hm 16 (by decide) (by decide)), hCt.congr (hi 5 (by decide)) m24, hCu.congr (fun i _ => hi _ (by omega)) (fun i _ => hr _ (by omega)) (fun a ha => hi a (by omega)) (hr 4 (by decide)) (fun a x y => hm a (by omega) (by omega)), hFr.congr m24 (hm 29 (by decide) (by decide)), hGr.congr (by rw [hr 1 (by decide)]) m24, hWa.congr (by rw [hr 1 (by decide)]) m24, hGp.congr (fun g hg => hi _ (by omega)) (fun g hg => hr _ (by omega)) (hr 2 (by decide)) m24 (hm 25 (by decide) (by decide)) (hm 26 (by decide) (by decide)) (hm 30 (by decide) (by decide)) (hm 31 (by decide) (by decide)) (hm 32 (by decide) (by decide)), hLg.congr (by rw [hi 1 (by decide)]) m24 (hm 28 (by decide) (by decide)) (hm 23 (by decide) (by decide))⟩
  · by_cases e : a = 8
    · subst e
      rcases hr8 j with q | q
      · rw [q]; exact hV 8 j
      · exact Or.inr q
    · rw [hr a e]; exact hV a j
  · unfold RSc
    rw [hi 1 (by decide), hm1 4 (by decide), hm1 8 (by decide), hm1 0 (by decide), hm1 1 (by decide), hm1 3 (by decide), hm1 2 (by decide), hm1 25 (by decide), hm1 23 (by decide), hm1 24 (by decide)]
    exact hSc
theorem keep_ok {ng n : Nat} {sh : Nat → Nat} {rv : wJ} (hn : n ≤ 5) (hr : ∀ i, i < n → sh (rv 8 i) = 1 ∧ 100 ≤ rv 8 i) (iv : wI) (h7 : iv 7 5 = nI n) : ∃ iv', fX2_keepOrder ng sh iv rv = some iv' ∧ (∀ a, a ≠ 9 → iv' a = iv a) ∧ ∀ i, i < n → iv' 9 i = iv (rv 8 i) 0 := by
  have lp : ∀ (d k f : Nat) (iv : wI), k + d = n → d < f → iv 7 5 = nI n → ∃ iv', fX2_keepOrder_2 ng sh f iv rv (nI k) = some iv' ∧ (∀ a, a ≠ 9 → iv' a = iv a) ∧ (∀ i, i < k → iv' 9 i = iv 9 i) ∧ ∀ i, k ≤ i → i < n → iv' 9 i = iv (rv 8 i) 0 := by
    intro d
    induction d with
    | zero =>
      intro k f iv hk hf h7
      obtain ⟨f, rfl⟩ : ∃ g, f = g + 1 := ⟨f - 1, by omega⟩
      exact ⟨iv, by rw [fX2_keepOrder_2.eq_2, h7, if_pos (nI_le (by omega) (by omega))], fun _ _ => rfl, fun _ _ => rfl, fun i _ _ => by omega⟩
    | succ d ih =>
      intro k f iv hk hf h7
      obtain ⟨f, rfl⟩ : ∃ g, f = g + 1 := ⟨f - 1, by omega⟩
      obtain ⟨s1, s2⟩ := hr k (by omega)
      rw [fX2_keepOrder_2.eq_2, h7, if_neg (nI_ge (by omega) (by omega)), wGd_t (vp_in_nI (show k < 5 by omega) (by decide)), toNat_nI (by omega), wGd_t s1, nI_1]
      simp only [wLt]
      obtain ⟨iv', a, b, c, e⟩ := ih (k + 1) f (wU iv 9 k (iv (rv 8 k) 0)) (by omega) (by omega) (by rw [wU_ne 7 (by decide)]; exact h7)
      refine ⟨iv', a, fun x hx => by rw [b x hx, wU_ne x hx], fun i hi => ?_, fun i h1 h2 => ?_⟩
      · rw [c i (by omega), wU_g, if_pos rfl, if_neg (by omega)]
      · by_cases q : i = k
        · subst q
          rw [c i (by omega), wU_g, if_pos rfl, if_pos rfl]
        · rw [e i (by omega) h2, wU_ne _ (by have := (hr i h2).2; omega)]
  obtain ⟨iv', a, b, c, e⟩ := lp n 0 wN iv (by omega) (by unfold wN; omega) h7
  refine ⟨iv', ?_, b, fun i hi => e i (by omega) hi⟩
  unfold fX2_keepOrder
  rw [nI_0] at a
  rw [a]
  rfl
theorem m_keep {n : Nat} {x2 x3 : Int32} (hn : n ≤ 5) (m : wI) : ∃ m', fX5_plans_124 wN m (nI n) x2 x3 0 = some m' ∧ (∀ a, a ≠ 39 → m' a = m a) ∧ ∀ i, i < n → m' 39 i = m 37 i := by
  have lp : ∀ (d k f : Nat) (m : wI), k + d = n → d < f → ∃ m', fX5_plans_124 f m (nI n) x2 x3 (nI k) = some m' ∧ (∀ a, a ≠ 39 → m' a = m a) ∧ (∀ i, i < k → m' 39 i = m 39 i) ∧ ∀ i, k ≤ i → i < n → m' 39 i = m 37 i := by
    intro d
    induction d with
    | zero =>
      intro k f m hk hf
      obtain ⟨f, rfl⟩ : ∃ g, f = g + 1 := ⟨f - 1, by omega⟩
      exact ⟨m, by rw [fX5_plans_124.eq_2, if_pos (nI_le (by omega) (by omega))], fun _ _ => rfl, fun _ _ => rfl, fun i _ _ => by omega⟩
    | succ d ih =>
      intro k f m hk hf
      obtain ⟨f, rfl⟩ : ∃ g, f = g + 1 := ⟨f - 1, by omega⟩
      rw [fX5_plans_124.eq_2, if_neg (nI_ge (by omega) (by omega)), wGd_t (vp_in_nI (show k < 5 by omega) (by decide)), toNat_nI (by omega), nI_1]
      simp only [wLt]
      obtain ⟨m', a, b, c, e⟩ := ih (k + 1) f (wU m 39 k (m 37 k)) (by omega) (by omega)
      refine ⟨m', a, fun x hx => by rw [b x hx, wU_ne x hx], fun i hi => ?_, fun i h1 h2 => ?_⟩
      · rw [c i (by omega), wU_g, if_pos rfl, if_neg (by omega)]
      · by_cases q : i = k
        · subst q
          rw [c i (by omega), wU_g, if_pos rfl, if_pos rfl]
        · rw [e i (by omega) h2, wU_ne 37 (by decide)]
  obtain ⟨m', a, b, c, e⟩ := lp n 0 wN m (by omega) (by unfold wN; omega)
  rw [nI_0] at a
  exact ⟨m', a, b, fun i hi => e i (by omega) hi⟩
def Pln (ng n : Nat) (w : Nat → Nat) (sh : Nat → Nat) (iv : wI) (rv : wJ) (m : wI) : Prop := OrdOK n w sh iv ∧ (∀ j, j < n → sh (rv (w j + 100) 1) = 4 ∧ 1000 ≤ rv (w j + 100) 1 ∧ RecOK (iv (rv (w j + 100) 1)) (m 19 (w j)) (m 20 (w j)) ∧ m 36 j = nI (w j)) ∧ m 1 0 = nI ng
theorem Pln.keep {ng n : Nat} {w : Nat → Nat} {sh : Nat → Nat} {iv iv' : wI} {rv rv' : wJ} {m m' : wI} (h : Pln ng n w sh iv rv m) (hi : ∀ a, 100 ≤ a → iv' a = iv a) (h7 : iv' 7 5 = iv 7 5) (hr : ∀ a, a ≠ 8 → rv' a = rv a) (hm : ∀ a, a = 19 ∨ a = 20 ∨ a = 36 → m' a = m a) (h1 : m' 1 0 = m 1 0) : Pln ng n w sh iv' rv' m' := by
  obtain ⟨⟨a1, a2, a3, a4⟩, b, c⟩ := h
  refine ⟨⟨by rw [h7]; exact a1, a2, fun j hj => by rw [hi _ (by omega)]; exact a3 j hj, a4⟩, fun j hj => ?_, by rw [h1]; exact c⟩
  obtain ⟨b1, b2, b3, b4⟩ := b j hj
  rw [hr _ (by omega), hi _ (by omega), hm 19 (by simp), hm 20 (by simp), hm 36 (by simp)]
  exact ⟨b1, b2, b3, b4⟩
theorem plan_sum {ng n x : Nat} {w : Nat → Nat} {sh : Nat → Nat} {iv : wI} {rv : wJ} {m : wI} (h1 : 1 ≤ ng) (h3 : ng ≤ 3) (h : Pln ng n w sh iv rv m) (hx : x < fct n) (ha : OrdAt n w rv (pm n x)) :
    ∃ m1 iv' m2 r, fX5_orders m (nI x) (nI n) = some m1 ∧ fX2_sumOfOrder ng sh iv rv = some (iv', r) ∧ fX5_sumOf m1 (nI n) = some (m2, r) ∧ 0 ≤ r.toInt ∧ (∀ a, a ≠ 10 → a ≠ 11 → a ≠ 12 → iv' a = iv a) ∧ (∀ a, a ≠ 37 → a ≠ 38 → m2 a = m a) ∧ ∀ j, j < n → m2 37 j = nI (w ((pm n x).getD j 0)) ∧ rv 8 j = w ((pm n x).getD j 0) + 100 ∧ iv (rv 8 j) 0 = nI (w ((pm n x).getD j 0)) ∧ sh (rv 8 j) = 1 := by
  obtain ⟨⟨a1, a2, a3, a4⟩, b, c⟩ := h
  obtain ⟨m1, o1, o2, o3⟩ := orders_ok m (show n < 6 by omega) hx
  have key : ∀ j, j < n → (pm n x).getD j 0 < n ∧ rv 8 j = w ((pm n x).getD j 0) + 100 := ha.2
  obtain ⟨iv', m2, r, s1, s2, s3, s4, s5⟩ := sum_ok (ng := ng) (n := n) (sh := sh) (iv := iv) (rv := rv) (m := m1) (c := fun j => w ((pm n x).getD j 0)) (gb := fun j => iv (rv (rv 8 j) 1) 1) (bb := fun j => iv (rv (rv 8 j) 1) 2) (sb := fun j => iv (rv (rv 8 j) 1) 3) h1 h3 a2
    (fun j hj => by
      obtain ⟨k1, k2⟩ := key j hj
      obtain ⟨b1, b2, ⟨-, b4, ⟨b5, b6⟩, ⟨b7, b8⟩, ⟨b9, b10⟩, -⟩, -⟩ := b _ k1
      simp only [k2]
      rw [le_iff] at b5 b6 b7 b8 b9 b10
      have t1 : (1 : Int32).toInt = 1 := by decide
      have t9 : (9 : Int32).toInt = 9 := by decide
      have t30 : (30 : Int32).toInt = 30 := by decide
      have t0 : (0 : Int32).toInt = 0 := by decide
      have t20 : (20 : Int32).toInt = 20 := by decide
      omega)
    (fun j hj => by
      obtain ⟨k1, k2⟩ := key j hj
      obtain ⟨b1, b2, -⟩ := b _ k1
      rw [k2]
      exact ⟨(a3 _ k1).1, b1, b2⟩) a1 (fun j hj => ⟨rfl, rfl, rfl⟩)
    (fun j hj => by
      obtain ⟨k1, k2⟩ := key j hj
      obtain ⟨b1, b2, ⟨⟨c0, c1, c2, c3, c4, c5⟩, -⟩, b4⟩ := b _ k1
      simp only [k2]
      rw [o3 j hj, b4, o2 19 (by decide)]
      refine ⟨rfl, (a3 _ k1).2.2, ?_, ?_, ?_⟩
      · unfold fX5_grind; rw [c1]
      · unfold fX5_brew; rw [c2]
      · unfold fX5_steam; rw [c3]) (by rw [o2 1 (by decide)]; exact c)
  refine ⟨m1, iv', m2, r, o1, s1, s2, s5, s3, fun a x y => by rw [s4 a y, o2 a x], fun j hj => ?_⟩
  obtain ⟨k1, k2⟩ := key j hj
  rw [s4 37 (by decide), o3 j hj, (b _ k1).2.2.2]
  refine ⟨rfl, k2, ?_, ?_⟩
  · rw [k2]; exact (a3 _ k1).2.1
  · rw [k2]; exact (a3 _ k1).1
theorem fct_le : ∀ n, n < 6 → fct n ≤ 120 ∧ 0 < fct n := by decide +kernel
theorem fct_5 : ∀ n, n < 6 → fct n < 120 ∨ fct n = 120 := by decide +kernel
def Bst (n : Nat) (iv m : wI) : Prop := iv 7 6 = m 1 30 ∧ 0 ≤ (m 1 30).toInt ∧ ∀ i, i < n → iv 9 i = m 39 i
theorem ne_m1 {x : Int32} (h : 0 ≤ x.toInt) : ¬ x = -1 := fun e => by
  subst e
  have : ((-1) : Int32).toInt = -1 := by decide
  omega
theorem best_lp {ng n : Nat} {w : Nat → Nat} {sh : Nat → Nat} (h1 : 1 ≤ ng) (h3 : ng ≤ 3) (hn1 : 1 ≤ n) : ∀ (d x f1 f2 : Nat) (iv : wI) (rv : wJ) (m : wI), x + 1 + d = fct n → d < f1 → d < f2 → Pln ng n w sh iv rv m → OrdAt n w rv (pm n x) → Bst n iv m →
    ∃ iv' rv' m', fX2_findBest_14 ng sh f1 iv rv (nI (x + 1)) = some (iv', rv') ∧ fX5_plans_73 f2 m (nI n) (nI (fct n)) (nI (x + 1)) = some m' ∧ (∀ a, (a < 7 ∨ a = 8 ∨ 12 < a) → iv' a = iv a) ∧ iv' 7 5 = iv 7 5 ∧ (∀ a, a ≠ 8 → rv' a = rv a) ∧ (∀ j, rv' 8 j = rv 8 j ∨ sh (rv' 8 j) ≠ 0) ∧ (∀ a, a ≠ 1 → a < 37 → m' a = m a) ∧ (∀ j, j ≠ 30 → m' 1 j = m 1 j) ∧ Bst n iv' m' := by
  intro d
  induction d with
  | zero =>
    intro x f1 f2 iv rv m hx hf1 hf2 hP hA hB
    have hn : n < 6 := by have := hP.1.2.1; omega
    obtain ⟨fl, fp⟩ := fct_le n hn
    obtain ⟨f1, rfl⟩ : ∃ g, f1 = g + 1 := ⟨f1 - 1, by omega⟩
    obtain ⟨f2, rfl⟩ : ∃ g, f2 = g + 1 := ⟨f2 - 1, by omega⟩
    have g2 : fX5_plans_73 (f2 + 1) m (nI n) (nI (fct n)) (nI (x + 1)) = some m := by rw [fX5_plans_73.eq_2, if_pos (nI_le (by omega) (by omega))]
    rw [g2, fX2_findBest_14.eq_2]
    rcases fct_5 n hn with e | e
    · have no := nO_ok (n - 1) (by omega) x (by rw [show n - 1 + 1 = n by omega]; omega)
      rw [show n - 1 + 1 = n by omega, if_neg (by omega)] at no
      obtain ⟨rv', u1, u2, u3, u4⟩ := next_ok (ng := ng) hP.1 hA no
      rw [if_neg (show ¬ (120 : Int32) ≤ nI (x + 1) from nI_ge (b := 120) (by omega) (by decide)), u1]
      refine ⟨iv, rv', m, by simp [wB2], rfl, fun _ _ => rfl, rfl, u3, fun j => ?_, fun _ _ _ => rfl, fun _ _ => rfl, hB⟩
      by_cases q : n ≤ j
      · exact Or.inl (u4 j q)
      · obtain ⟨p1, p2⟩ := u2.2 j (by omega)
        exact Or.inr (by rw [p2, (hP.1.2.2.1 _ p1).1]; decide)
    · rw [if_pos (show (120 : Int32) ≤ nI (x + 1) from nI_le (a := 120) (by omega) (by omega))]
      exact ⟨iv, rv, m, rfl, rfl, fun _ _ => rfl, rfl, fun _ _ => rfl, fun _ => Or.inl rfl, fun _ _ _ => rfl, fun _ _ => rfl, hB⟩
  | succ d ih =>
    intro x f1 f2 iv rv m hx hf1 hf2 hP hA hB
    have hn : n < 6 := by have := hP.1.2.1; omega
    obtain ⟨fl, fp⟩ := fct_le n hn
    obtain ⟨f1, rfl⟩ : ∃ g, f1 = g + 1 := ⟨f1 - 1, by omega⟩
    obtain ⟨f2, rfl⟩ : ∃ g, f2 = g + 1 := ⟨f2 - 1, by omega⟩
    have no := nO_ok (n - 1) (by omega) x (by rw [show n - 1 + 1 = n by omega]; omega)
    rw [show n - 1 + 1 = n by omega, if_pos (by omega)] at no
    obtain ⟨rv1, u1, u2, u3, u4⟩ := next_ok (ng := ng) hP.1 hA no
    have hP1 : Pln ng n w sh iv rv1 m := hP.keep (fun _ _ => rfl) rfl u3 (fun _ _ => rfl) rfl
    obtain ⟨m1, iv2, m2, r, s1, s2, s3, s4, s5, s6, s7⟩ := plan_sum h1 h3 hP1 (show x + 1 < fct n by omega) u2
    have r8 : ∀ j, rv1 8 j = rv 8 j ∨ sh (rv1 8 j) ≠ 0 := fun j => by
      by_cases q : n ≤ j
      · exact Or.inl (u4 j q)
      · obtain ⟨p1, p2⟩ := u2.2 j (by omega)
        exact Or.inr (by rw [p2, (hP.1.2.2.1 _ p1).1]; decide)
    rw [fX2_findBest_14.eq_2, fX5_plans_73.eq_2, if_neg (show ¬ (120 : Int32) ≤ nI (x + 1) from nI_ge (b := 120) (by omega) (by decide)), if_neg (nI_ge (by omega) (by omega)), if_neg (show ¬ nI n ≤ 0 from nI_nle (by omega) (by omega)), u1, s1]
    simp only [wB2, wBd, if_true, show ¬ (1 : Int32) = 0 by decide, if_false]
    rw [s2, s3]
    simp only
    have m30 : m2 1 30 = m 1 30 := by rw [s6 1 (by decide) (by decide)]
    have i76 : iv2 7 6 = m 1 30 := by rw [s5 7 (by decide) (by decide) (by decide)]; exact hB.1
    rw [m30, i76, if_neg (ne_m1 hB.2.1), nI_1]
    have hP2 : Pln ng n w sh iv2 rv1 m2 := hP1.keep (fun a ha => s5 a (by omega) (by omega) (by omega)) (by rw [s5 7 (by decide) (by decide) (by decide)]) (fun _ _ => rfl) (fun a ha => s6 a (by omega) (by omega)) (by rw [s6 1 (by decide) (by decide)])
    by_cases q : m 1 30 ≤ r
    · rw [if_pos q, if_neg (show ¬ r < m 1 30 from fun u => lt_nle u q)]
      obtain ⟨iv', rv', m', t1, t2, t3, t4, t5, t6, t7, t8, t9⟩ := ih (x + 1) f1 f2 iv2 rv1 m2 (by omega) (by omega) (by omega) hP2 u2 ⟨by rw [i76, m30], by rw [m30]; exact hB.2.1, fun i hi => by rw [s5 9 (by decide) (by decide) (by decide), s6 39 (by decide) (by decide)]; exact hB.2.2 i hi⟩
      refine ⟨iv', rv', m', t1, t2, fun a ha => by rw [t3 a ha, s5 a (by omega) (by omega) (by omega)], by rw [t4, s5 7 (by decide) (by decide) (by decide)], fun a ha => by rw [t5 a ha, u3 a ha], fun j => ?_, fun a x y => by rw [t7 a x y, s6 a (by omega) (by omega)], fun j hj => by rw [t8 j hj, s6 1 (by decide) (by decide)], t9⟩
      rcases t6 j with v | v
      · rw [v]; exact r8 j
      · exact Or.inr v
    · have q' : r < m 1 30 := by rw [le_iff] at q; rw [lt_iff]; omega
      rw [if_neg q, if_pos q']
      simp only [wLt]
      obtain ⟨iv3, k1, k2, k3⟩ := keep_ok (ng := ng) (sh := sh) (rv := rv1) (n := n) (by omega) (fun i hi => by
        obtain ⟨-, e2, -, e4⟩ := s7 i hi
        exact ⟨e4, by omega⟩) (wU iv2 7 6 r) (by rw [wU_g, if_pos rfl, if_neg (by decide), s5 7 (by decide) (by decide) (by decide)]; exact hP.1.1)
      obtain ⟨m3, l1, l2, l3⟩ := m_keep (n := n) (x2 := nI (fct n)) (x3 := nI (x + 1)) (by omega) (wU m2 1 30 r)
      rw [k1, l1]
      simp only
      have i7 : ∀ j, iv3 7 j = if j = 6 then r else iv2 7 j := fun j => by rw [k2 7 (by decide), wU_g, if_pos rfl]
      have io : ∀ a, a ≠ 7 → a ≠ 9 → iv3 a = iv2 a := fun a x y => by rw [k2 a y, wU_ne a x]
      have mo : ∀ a, a ≠ 1 → a ≠ 39 → m3 a = m2 a := fun a x y => by rw [l2 a y, wU_ne a x]
      have mi : ∀ j, m3 1 j = if j = 30 then r else m2 1 j := fun j => by rw [l2 1 (by decide), wU_g, if_pos rfl]
      obtain ⟨iv', rv', m', t1, t2, t3, t4, t5, t6, t7, t8, t9⟩ := ih (x + 1) f1 f2 iv3 rv1 m3 (by omega) (by omega) (by omega) (hP2.keep (fun a ha => io a (by omega) (by omega)) (by rw [i7, if_neg (by decide)]) (fun _ _ => rfl) (fun a ha => mo a (by omega) (by omega)) (by rw [mi, if_neg (by decide)])) u2 ⟨by rw [i7, if_pos rfl, mi, if_pos rfl], by rw [mi, if_pos rfl]; exact s4, fun i hi => by
          obtain ⟨e1, e2, e3, e4⟩ := s7 i hi
          rw [k3 i hi, l3 i hi, wU_ne 37 (by decide), e1, wU_ne _ (by omega), s5 _ (by omega) (by omega) (by omega), e3]⟩
      refine ⟨iv', rv', m', t1, t2, fun a ha => by rw [t3 a ha, io a (by omega) (by omega), s5 a (by omega) (by omega) (by omega)], by rw [t4, i7, if_neg (by decide), s5 7 (by decide) (by decide) (by decide)], fun a ha => by rw [t5 a ha, u3 a ha], fun j => ?_, fun a x y => by rw [t7 a x y, mo a x (by omega), s6 a (by omega) (by omega)], fun j hj => by rw [t8 j hj, mi, if_neg hj, s6 1 (by decide) (by decide)], t9⟩
      rcases t6 j with v | v
      · rw [v]; exact r8 j
      · exact Or.inr v
theorem find_ok {ng n : Nat} {w : Nat → Nat} {sh : Nat → Nat} {iv : wI} {rv : wJ} {m : wI} (h1 : 1 ≤ ng) (h3 : ng ≤ 3) (hn1 : 1 ≤ n) (hP : Pln ng n w sh iv rv m) (hA : OrdAt n w rv (pm n 0)) :
    ∃ iv' rv' m', fX2_findBest ng sh iv rv = some (iv', rv') ∧ fX5_plans_73 wN (wU m 1 30 (-1)) (nI n) (nI (fct n)) 0 = some m' ∧ (∀ a, (a < 7 ∨ a = 8 ∨ 12 < a) → iv' a = iv a) ∧ iv' 7 5 = iv 7 5 ∧ (∀ a, a ≠ 8 → rv' a = rv a) ∧ (∀ j, rv' 8 j = rv 8 j ∨ sh (rv' 8 j) ≠ 0) ∧ (∀ a, a ≠ 1 → a < 37 → m' a = m a) ∧ (∀ j, j ≠ 30 → m' 1 j = m 1 j) ∧ Bst n iv' m' := by
  have hn : n < 6 := by have := hP.1.2.1; omega
  obtain ⟨fl, fp⟩ := fct_le n hn
  have hP0 : Pln ng n w sh iv rv (wU m 1 30 (-1)) := hP.keep (fun _ _ => rfl) rfl (fun _ _ => rfl) (fun a ha => wU_ne a (by omega)) (by simp [wU_g])
  obtain ⟨m1, iv2, m2, r, s1, s2, s3, s4, s5, s6, s7⟩ := plan_sum h1 h3 hP0 (show 0 < fct n by omega) hA
  unfold fX2_findBest
  rw [show wN = 999 + 1 from rfl, fX5_plans_73.eq_2, ← nI_0, if_neg (nI_ge (by omega) (by omega)), if_neg (show ¬ nI n ≤ nI 0 from nI_ge (by omega) (by omega)), s1, s2]
  simp only [wB2, wBd]
  rw [s3]
  simp only
  rw [show m2 1 30 = -1 by rw [s6 1 (by decide) (by decide), wU_g, if_pos rfl, if_pos rfl], if_pos rfl]
  simp only [wLt]
  obtain ⟨iv3, k1, k2, k3⟩ := keep_ok (ng := ng) (sh := sh) (rv := rv) (n := n) (by omega) (fun i hi => by
    obtain ⟨-, e2, -, e4⟩ := s7 i hi
    exact ⟨e4, by omega⟩) (wU iv2 7 6 r) (by rw [wU_g, if_pos rfl, if_neg (by decide), s5 7 (by decide) (by decide) (by decide)]; exact hP.1.1)
  obtain ⟨m3, l1, l2, l3⟩ := m_keep (n := n) (x2 := nI (fct n)) (x3 := nI 0) (by omega) (wU m2 1 30 r)
  rw [nI_0] at l1 ⊢
  rw [k1, show (999 + 1) = wN from rfl, l1]
  simp only
  have i7 : ∀ j, iv3 7 j = if j = 6 then r else iv2 7 j := fun j => by rw [k2 7 (by decide), wU_g, if_pos rfl]
  have io : ∀ a, a ≠ 7 → a ≠ 9 → iv3 a = iv2 a := fun a x y => by rw [k2 a y, wU_ne a x]
  have mo : ∀ a, a ≠ 1 → a ≠ 39 → m3 a = m2 a := fun a x y => by rw [l2 a y, wU_ne a x]
  have mi : ∀ j, m3 1 j = if j = 30 then r else m2 1 j := fun j => by rw [l2 1 (by decide), wU_g, if_pos rfl]
  obtain ⟨iv', rv', m', t1, t2, t3, t4, t5, t6, t7, t8, t9⟩ := best_lp h1 h3 hn1 (fct n - 1) 0 wN 999 iv3 rv m3 (by omega) (by unfold wN; omega) (by omega) (hP0.keep (fun a ha => by rw [io a (by omega) (by omega), s5 a (by omega) (by omega) (by omega)]) (by rw [i7, if_neg (by decide), s5 7 (by decide) (by decide) (by decide)]) (fun _ _ => rfl) (fun a ha => by rw [mo a (by omega) (by omega), s6 a (by omega) (by omega)]) (by rw [mi, if_neg (by decide), s6 1 (by decide) (by decide)])) hA ⟨by rw [i7, if_pos rfl, mi, if_pos rfl], by rw [mi, if_pos rfl]; exact s4, fun i hi => by
      obtain ⟨e1, e2, e3, e4⟩ := s7 i hi
      rw [k3 i hi, l3 i hi, wU_ne 37 (by decide), e1, wU_ne _ (by omega), s5 _ (by omega) (by omega) (by omega), e3]⟩
  rw [show (1 : Int32) = nI (0 + 1) from rfl, show (0 : Int32) + nI (0 + 1) = nI (0 + 1) by decide, t1, t2]
  refine ⟨iv', rv', m', rfl, rfl, fun a ha => by rw [t3 a ha, io a (by omega) (by omega), s5 a (by omega) (by omega) (by omega)], by rw [t4, i7, if_neg (by decide), s5 7 (by decide) (by decide) (by decide)], t5, t6, fun a x y => by rw [t7 a x y, mo a x (by omega), s6 a (by omega) (by omega), wU_ne a x], fun j hj => by rw [t8 j hj, mi, if_neg hj, s6 1 (by decide) (by decide), wU_g, if_pos rfl, if_neg hj], t9⟩
