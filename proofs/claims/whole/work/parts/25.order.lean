theorem RAt.more {N : Nat} {rv rv' : wJ} {m m' : wI} {f : Nat} {s : Int32} (h : RAt N rv m f s) (h1 : rv' 1 f = rv 1 f) (h2 : m' 24 = m 24) (h3 : m 24 N ≠ s) : RAt (N + 1) rv' m' f s := by
  unfold RAt at *
  rw [h1, h2]
  rcases h with ⟨a, b⟩ | ⟨c, a, b, d, e⟩
  · exact Or.inl ⟨a, fun i hi => by by_cases q : i = N; { subst q; exact h3 }; exact b i (by omega)⟩
  · exact Or.inr ⟨c, by omega, b, d, fun i hi x => by by_cases q : i = N; { subst q; exact absurd x h3 }; exact e i (by omega) x⟩
theorem GrpR.more {N g : Nat} {iv iv' : wI} {rv rv' : wJ} {m m' : wI} (h : GrpR N iv rv m g) (h1 : iv' (g + 13) = iv (g + 13)) (h2 : rv' (g + 13) = rv (g + 13)) (h3 : rv' 2 = rv 2) (h4 : ∀ a, 24 ≤ a → a ≤ 26 → m' a = m a) (h5 : ∀ a, 30 ≤ a → a ≤ 32 → m' a = m a) (hN : m 24 N ≠ 3) : GrpR (N + 1) iv' rv' m' g := by
  unfold GrpR at *
  rw [h1, h2, h3, h4 24 (by decide) (by decide), h4 25 (by decide) (by decide), h4 26 (by decide) (by decide), h5 30 (by decide) (by decide), h5 31 (by decide) (by decide), h5 32 (by decide) (by decide)]
  obtain ⟨a, b, c, d, e⟩ := h
  refine ⟨a, b, c, d, ?_⟩
  have key : (∀ i, i < N → m 24 i = 3 → m 26 i ≠ nI g) → ∀ i, i < N + 1 → m 24 i = 3 → m 26 i ≠ nI g := fun k i hi x => by
    by_cases q : i = N
    · subst q; exact absurd x hN
    · exact k i (by omega) x
  rcases e with ⟨k1, k2, k3, k4, k5⟩ | ⟨k1, k2, k3, k4, k5⟩ | ⟨c, hc, k2, k3, k4, k5, k6, k7, k8⟩
  · exact Or.inl ⟨k1, k2, k3, k4, key k5⟩
  · exact Or.inr (Or.inl ⟨k1, k2, k3, k4, key k5⟩)
  · refine Or.inr (Or.inr ⟨c, by omega, k2, k3, k4, k5, k6, k7, fun i hi x y => ?_⟩)
    by_cases q : i = N
    · subst q; exact absurd x hN
    · exact k8 i (by omega) x y
theorem Rel.cup {ng N M nx j : Nat} {x3 x4 : Int32} {sh ln : Nat → Nat} {iv iv' : wI} {rv rv' : wJ} {m m' : wI} (h : Rel ng N M nx sh ln iv rv m) (hN : N < 100) (hj : j < M)
    (hi : ∀ a, a ≠ 1 → a ≠ 5 → a ≠ N + 100 → iv' a = iv a) (hi1 : ∀ q, iv' 1 q = if q = 4 then nI (N + 1) else iv 1 q) (hi5 : ∀ q, iv' 5 q = if q = 0 then iv 5 0 + 1 else iv 5 q)
    (hc : iv' (N + 100) 0 = nI N ∧ iv' (N + 100) 2 = x4 ∧ iv' (N + 100) 3 = x3 ∧ iv' (N + 100) 4 = iv 1 12 ∧ iv' (N + 100) 5 = 0 ∧ iv' (N + 100) 6 = -1 ∧ iv' (N + 100) 9 = 0)
    (hr : ∀ a, a ≠ 4 → a ≠ N + 100 → rv' a = rv a) (hr4 : ∀ q, rv' 4 q = if q = N then N + 100 else rv 4 q) (hrc : ∀ q, rv' (N + 100) q = if q = 1 then rv 3 j else 0)
    (hm : ∀ a, a ≠ 1 → ¬ (19 ≤ a ∧ a ≤ 23) → a ≠ 28 → m' a = m a) (hm1 : ∀ q, m' 1 q = if q = 8 then nI (N + 1) else m 1 q) (hmc : ∀ a, 19 ≤ a → a ≤ 28 → ∀ q, q ≠ N → m' a q = m a q)
    (h19 : m' 19 N = m 15 j) (h20 : m' 20 N = m 16 j) (h21 : m' 21 N = x4) (h22 : m' 22 N = x3) (h23 : m' 23 N = m 1 2) (h28 : m' 28 N = -1) : Rel ng (N + 1) M nx (va_up sh (N + 100) 1) (va_up ln (N + 100) 0) iv' rv' m' := by
  obtain ⟨⟨b1, b2, b3, b4, b5, b6, b7, b8, b9, b10⟩, hV, hSc, hSt, hRc, hCt, hCu, hFr, hGr, hWa, hGp, hLg⟩ := h
  have hs : ∀ a, a ≠ N + 100 → va_up sh (N + 100) 1 a = sh a := fun a ha => va_up_ne _ _ ha
  have hsn : ∀ a, sh a ≠ 0 → va_up sh (N + 100) 1 a ≠ 0 := fun a ha => by
    by_cases e : a = N + 100
    · subst e; rw [va_up_self]; decide
    · rw [hs a e]; exact ha
  have m24 : m' 24 = m 24 := hm 24 (by decide) (by omega) (by decide)
  have h0 : m 24 N = 0 := (hFr N (Nat.le_refl _)).1
  refine ⟨⟨b1.new (by omega), b2, b3, by omega, b5, b6, fun g hg => by rw [hs _ (by omega)]; exact b7 g hg, fun i hi => ?_, fun r x y => by rw [hs _ (by omega)]; exact b9 r (by omega) y, fun r x => by rw [hs _ (by omega)]; exact b10 r x⟩, fun a q => ?_, ?_, hSt.congr (hi 6 (by decide) (by decide) (by omega)) (hm 17 (by decide) (by omega) (by decide)), fun i hiM => ?_, fun k hk => ?_, fun i hiN => ?_, fun i hiN => ?_, hGr.more (by rw [hr 1 (by decide) (by omega)]) m24 (by rw [h0]; decide), hWa.more (by rw [hr 1 (by decide) (by omega)]) m24 (by rw [h0]; decide), fun g hg => (hGp g hg).more (hi _ (by omega) (by omega) (by omega)) (hr _ (by omega) (by omega)) (hr 2 (by decide) (by omega)) (fun a x y => hm a (by omega) (by omega) (by omega)) (fun a x y => hm a (by omega) (by omega) (by omega)) (by rw [h0]; decide), ?_⟩
  · by_cases e : i = N
    · subst e; rw [va_up_self]
    · rw [hs _ (by omega)]; exact b8 i (by omega)
  · by_cases e4 : a = 4
    · subst e4
      rw [hr4]
      split
      · exact Or.inr (by rw [va_up_self]; decide)
      · rcases hV 4 q with u | u
        · exact Or.inl u
        · exact Or.inr (hsn _ u)
    · by_cases ec : a = N + 100
      · subst ec
        rw [hrc]
        split
        · rcases hV 3 j with u | u
          · exact Or.inl u
          · exact Or.inr (hsn _ u)
        · exact Or.inl rfl
      · rw [hr a e4 ec]
        rcases hV a q with u | u
        · exact Or.inl u
        · exact Or.inr (hsn _ u)
  · obtain ⟨s1, ⟨s2, s3⟩, s4⟩ := hSc
    unfold RSc
    simp only [hi1, hm1]
    simp
    exact ⟨s1, s4⟩
  · obtain ⟨a1, a2, a3⟩ := hRc i hiM
    rw [hr 3 (by decide) (by omega), hs _ (by omega), hi _ (by omega) (by omega) (by omega), hm 15 (by decide) (by omega) (by decide), hm 16 (by decide) (by omega) (by decide)]
    exact ⟨a1, a2, a3⟩
  · rw [hi5, m24, cnt, h0]
    by_cases e : k = 0
    · subst e
      rw [if_pos rfl, if_pos (show (0 : Int32) = nI 0 from rfl), hCt 0 (by decide), nI_1]
    · rw [if_neg e, if_neg (fun q => e ((nI_eq (a := k) (b := 0) (by omega) (by decide)).mp q.symm)), hCt k hk]; rfl
  · by_cases e : i = N
    · subst e
      obtain ⟨c0, c2, c3, c4, c5, c6, c9⟩ := hc
      obtain ⟨r1, r2, r3⟩ := hRc j hj
      unfold CupR
      rw [hr4, if_pos rfl, hrc, if_pos rfl, hrc, if_neg (by decide), hs _ (by omega), hi (rv 3 j) (by omega) (by omega) (by omega), c0, c2, c3, c4, c5, c6, c9, h19, h20, h21, h22, h23, h28, m24, h0, hm 29 (by decide) (by omega) (by decide), (hFr i (Nat.le_refl _)).2]
      refine ⟨rfl, rfl, ⟨r1, r2, r3⟩, rfl, rfl, ?_, rfl, rfl, rfl, fun x => absurd x (by decide), fun x => by rcases x with x | x <;> exact absurd x (by decide), ⟨0, by decide, rfl⟩, fun x => absurd x (by decide), fun _ => rfl⟩
      obtain ⟨-, -, -, -, -, -, s, -⟩ := hSc
      exact s
    · have := hCu i (by omega)
      unfold CupR at this ⊢
      obtain ⟨a1, a2, ⟨a3, a4, a5⟩, a6⟩ := this
      have hx : ∀ a, 19 ≤ a → a ≤ 29 → m' a i = m a i := fun a x y => by
        by_cases q : a = 29
        · subst q; rw [hm 29 (by decide) (by omega) (by decide)]
        · exact hmc a x (by omega) i e
      rw [hr4, if_neg e, hr (i + 100) (by omega) (by omega), hi (i + 100) (by omega) (by omega) (by omega), hs _ (by omega), hi _ (by omega) (by omega) (by omega), hx 19 (by decide) (by decide), hx 20 (by decide) (by decide), hx 21 (by decide) (by decide), hx 22 (by decide) (by decide), hx 23 (by decide) (by decide), hx 24 (by decide) (by decide), hx 25 (by decide) (by decide), hx 26 (by decide) (by decide), hx 27 (by decide) (by decide), hx 28 (by decide) (by decide), hx 29 (by decide) (by decide)]
      exact ⟨a1, a2, ⟨a3, a4, a5⟩, a6⟩
  · rw [m24, hm 29 (by decide) (by omega) (by decide)]
    exact hFr i (by omega)
  · unfold RLg at *
    obtain ⟨l1, l2, l3⟩ := hLg
    rw [hi1, if_neg (by decide), m24]
    refine ⟨l1, fun i hiN x => ?_, ?_⟩
    · have e : i ≠ N := fun q => by rw [q, h0] at x; exact absurd x (by decide)
      rw [hmc 28 (by decide) (by decide) i e, hmc 23 (by decide) (by decide) i e]
      exact l2 i (by omega) x
    · rcases l3 with l3 | ⟨i, x, y, z⟩
      · exact Or.inl l3
      · have e : i ≠ N := by omega
        exact Or.inr ⟨i, by omega, y, by rw [hmc 28 (by decide) (by decide) i e, hmc 23 (by decide) (by decide) i e]; exact z⟩
def fxI (iv : wI) (n : Nat) (c : Int32) : wI := wU (wU iv 1 4 (nI n)) 5 0 c
theorem fxI_o (iv : wI) (n : Nat) (c : Int32) (a : Nat) (h1 : a ≠ 1) (h5 : a ≠ 5) : fxI iv n c a = iv a := by unfold fxI; rw [wU_ne a h5, wU_ne a h1]
theorem fxI_1 (iv : wI) (n : Nat) (c : Int32) (q : Nat) : fxI iv n c 1 q = if q = 4 then nI n else iv 1 q := by unfold fxI; rw [wU_ne 1 (by decide), wU_g, if_pos rfl]
theorem fxI_5 (iv : wI) (n : Nat) (c : Int32) (q : Nat) : fxI iv n c 5 q = if q = 0 then c else iv 5 q := by unfold fxI; rw [wU_g, if_pos rfl, wU_ne 5 (by decide)]
theorem order_lp {ng N M nx n j : Nat} {x3 : Int32} (hj : j < M) (hn : N + n ≤ 100) : ∀ (d k f1 f2 : Nat) (c : Int32) (sh ln : Nat → Nat) (iv : wI) (rv : wJ) (m : wI), k + d = n → d < f1 → d < f2 → Rel ng (N + k) M nx sh ln (fxI iv (N + k) c) rv m →
    ∃ sh' ln' iv' rv' m', fX4_order_54 f1 sh ln iv rv (nI j) (nI n) x3 (nI N) (nI k) = some (sh', ln', iv', rv') ∧ fX5_order_55 f2 m (nI j) (nI n) x3 (nI N) (nI k) = some m' ∧ Rel ng (N + n) M nx sh' ln' (fxI iv' (N + n) (c + nI d)) rv' m' ∧ iv' 1 4 = iv 1 4 ∧ iv' 5 0 = iv 5 0 := by
  intro d
  induction d with
  | zero =>
    intro k f1 f2 c sh ln iv rv m hk h1 h2 h
    obtain ⟨f1, rfl⟩ : ∃ f, f1 = f + 1 := ⟨f1 - 1, by omega⟩
    obtain ⟨f2, rfl⟩ : ∃ f, f2 = f + 1 := ⟨f2 - 1, by omega⟩
    have e : k = n := by omega
    subst e
    rw [fX4_order_54.eq_2, fX5_order_55.eq_2, if_pos (nI_le (Nat.le_refl _) (by omega)), if_pos (nI_le (Nat.le_refl _) (by omega))]
    exact ⟨sh, ln, iv, rv, m, rfl, rfl, by rw [show c + nI 0 = c by simp [nI_0]]; exact h, rfl, rfl⟩
  | succ d ih =>
    intro k f1 f2 c sh ln iv rv m hk h1 h2 h
    obtain ⟨f1, rfl⟩ : ∃ f, f1 = f + 1 := ⟨f1 - 1, by omega⟩
    obtain ⟨f2, rfl⟩ : ∃ f, f2 = f + 1 := ⟨f2 - 1, by omega⟩
    obtain ⟨q1, q2, q3, q4, q5, q6, q7, q8, q9⟩ := h.N
    obtain ⟨w1, w2, w3, w4, w5, w6, w7⟩ := h.fix
    have hB := h.1
    have hV := h.2.1
    have s0 : sh (N + k + 100) = 0 := hB.2.2.2.2.2.2.2.2.1 _ (by omega) (by omega)
    have fr : wFr sh rv (N + k + 100) := ⟨by omega, s0, fun a q e => by
      rcases hV a q with u | u
      · omega
      · rw [e] at u; exact u s0, Or.inl (by omega)⟩
    rw [fX4_order_54.eq_2, fX5_order_55.eq_2, if_neg (nI_ge (by omega) (by omega)), if_neg (nI_ge (by omega) (by omega))]
    rw [nI_add, toNat_nI (show N + k < 2 ^ 31 by omega), toNat_nI (show j < 2 ^ 31 by omega), nI_1]
    rw [wGd_t w1, wGd_t w4, wGd_t fr]
    simp only [wLt]
    rw [wGd_t (show va_up sh (N + k + 100) 1 1 = 5 by rw [va_up_ne _ _ (by omega)]; exact w1), wGd_t (show va_up sh (N + k + 100) 1 3 = 11 by rw [va_up_ne _ _ (by omega)]; exact w2), show va_up ln (N + k + 100) 0 3 = 8 by rw [va_up_ne _ _ (by omega)]; exact w3, wGd_t (vp_in_nI (show j < 8 by omega) (by decide))]
    simp only [fX0_init, wLt, wB2]
    rw [wGd_t (show va_up sh (N + k + 100) 1 4 = 9 by rw [va_up_ne _ _ (by omega)]; exact w4), show va_up ln (N + k + 100) 0 4 = 100 by rw [va_up_ne _ _ (by omega)]; exact w5, wGd_t (vp_in_nI (show N + k < 100 by omega) (by decide))]
    rw [show va_up rv (N + k + 100) (fun _ => 0) 3 j = rv 3 j by rw [va_up_ne _ _ (by omega)], show va_up iv (N + k + 100) (fun _ => 0) 1 12 = iv 1 12 by rw [va_up_ne _ _ (by omega)]]
    rw [wGd_t (vp_in_nI (show j < 8 by omega) (by decide)), q3, wGd_t (vp_in_nI (show N + k < 100 by omega) (by decide)), toNat_nI (show N + k < 2 ^ 31 by omega)]
    have y1 : wU m 19 (N + k) (m 15 j) 1 8 = nI (N + k) := by rw [wU_ne 1 (by decide), q3]
    rw [y1, wGd_t (vp_in_nI (show N + k < 100 by omega) (by decide)), toNat_nI (show N + k < 2 ^ 31 by omega)]
    generalize hm2 : wU (wU m 19 (N + k) (m 15 j)) 20 (N + k) (wU m 19 (N + k) (m 15 j) 16 j) = m2
    have y2 : m2 1 8 = nI (N + k) := by rw [← hm2, wU_ne 1 (by decide), y1]
    rw [y2, wGd_t (vp_in_nI (show N + k < 100 by omega) (by decide)), toNat_nI (show N + k < 2 ^ 31 by omega)]
    have y3 : wU m2 21 (N + k) (nI N) 1 8 = nI (N + k) := by rw [wU_ne 1 (by decide), y2]
    rw [y3, wGd_t (vp_in_nI (show N + k < 100 by omega) (by decide)), toNat_nI (show N + k < 2 ^ 31 by omega)]
    generalize hm4 : wU (wU m2 21 (N + k) (nI N)) 22 (N + k) x3 = m4
    have y4 : m4 1 8 = nI (N + k) := by rw [← hm4, wU_ne 1 (by decide), y3]
    rw [y4, wGd_t (vp_in_nI (show N + k < 100 by omega) (by decide)), toNat_nI (show N + k < 2 ^ 31 by omega)]
    have y5 : wU m4 23 (N + k) (m4 1 2) 1 8 = nI (N + k) := by rw [wU_ne 1 (by decide), y4]
    rw [y5, wGd_t (vp_in_nI (show N + k < 100 by omega) (by decide)), toNat_nI (show N + k < 2 ^ 31 by omega)]
    have y6 : wU (wU m4 23 (N + k) (m4 1 2)) 28 (N + k) (-1) 1 8 = nI (N + k) := by rw [wU_ne 1 (by decide), y5]
    rw [y6, nI_1]
    have z2 : m4 1 2 = m 1 2 := by rw [← hm4, ← hm2, wU_ne 1 (by decide), wU_ne 1 (by decide), wU_ne 1 (by decide), wU_ne 1 (by decide)]
    have z16 : wU m 19 (N + k) (m 15 j) 16 j = m 16 j := by rw [wU_ne 16 (by decide)]
    rw [z2]
    rw [z16] at hm2
    generalize hm6 : wU (wU (wU m4 23 (N + k) (m 1 2)) 28 (N + k) (-1)) 1 8 (nI (N + k + 1)) = m6
    have em : ∀ a q, m6 a q = if a = 1 then (if q = 8 then nI (N + k + 1) else m 1 q) else if q = N + k then (if a = 19 then m 15 j else if a = 20 then m 16 j else if a = 21 then nI N else if a = 22 then x3 else if a = 23 then m 1 2 else if a = 28 then -1 else m a q) else m a q := by
      intro a q
      rw [← hm6, ← hm4, ← hm2]
      simp only [wU_g]
      grind
    generalize hI : wU (wU (wU (wU (wU (wU (wU (wU (wU (va_up iv (N + k + 100) fun _ => 0) (N + k + 100) 5 0) (N + k + 100) 6 (-1)) (N + k + 100) 7 0) (N + k + 100) 8 0) (N + k + 100) 9 0) (N + k + 100) 0 (nI (N + k))) (N + k + 100) 2 (nI N)) (N + k + 100) 3 x3) (N + k + 100) 4 (iv 1 12) = iv2
    have eI : ∀ a, a ≠ N + k + 100 → iv2 a = iv a := fun a ha => by rw [← hI, wU_ne a ha, wU_ne a ha, wU_ne a ha, wU_ne a ha, wU_ne a ha, wU_ne a ha, wU_ne a ha, wU_ne a ha, wU_ne a ha, va_up_ne _ _ ha]
    have eC : iv2 (N + k + 100) 0 = nI (N + k) ∧ iv2 (N + k + 100) 2 = nI N ∧ iv2 (N + k + 100) 3 = x3 ∧ iv2 (N + k + 100) 4 = iv 1 12 ∧ iv2 (N + k + 100) 5 = 0 ∧ iv2 (N + k + 100) 6 = -1 ∧ iv2 (N + k + 100) 9 = 0 := by
      rw [← hI]; simp only [wU_g]; simp
    have R := h.cup (j := j) (x3 := x3) (x4 := nI N) (iv' := fxI iv2 (N + k + 1) (c + 1)) (rv' := wV (wV (wV (va_up rv (N + k + 100) fun _ => 0) (N + k + 100) 10 0) (N + k + 100) 1 (rv 3 j)) 4 (N + k) (N + k + 100)) (m' := m6) (by omega) hj
      (fun a x y z => by rw [fxI_o _ _ _ _ x y, fxI_o _ _ _ _ x y, eI a z]) (fun q => by rw [fxI_1, fxI_1, eI 1 (by omega)]; split <;> rfl) (fun q => by rw [fxI_5, fxI_5, fxI_5, eI 5 (by omega)]; split <;> simp_all)
      (by rw [fxI_o _ _ _ _ (by omega) (by omega), fxI_1, if_neg (by decide)]; exact eC)
      (fun a x y => by rw [wV_ne a x, wV_ne a y, wV_ne a y, va_up_ne _ _ y]) (fun q => by rw [wV_g, if_pos rfl, wV_ne 4 (by omega), wV_ne 4 (by omega), va_up_ne _ _ (show 4 ≠ N + k + 100 by omega)]) (fun q => by rw [wV_ne _ (by omega)]; simp only [wV_g]; simp [va_up_self])
      (fun a x y z => by funext q; rw [em, if_neg x]; grind) (fun q => by rw [em, if_pos rfl]) (fun a x y q z => by rw [em, if_neg (by omega), if_neg z])
      (by rw [em]; simp) (by rw [em]; simp) (by rw [em]; simp) (by rw [em]; simp) (by rw [em]; simp) (by rw [em]; simp)
    obtain ⟨sh', ln', iv', rv', m', i1, i2, i3, i4, i5⟩ := ih (k + 1) f1 f2 (c + 1) _ _ iv2 _ m6 (by omega) (by omega) (by omega) R
    refine ⟨sh', ln', iv', rv', m', i1, i2, ?_, by rw [i4, eI 1 (by omega)], by rw [i5, eI 5 (by omega)]⟩
    rw [show c + nI (d + 1) = c + 1 + nI d by rw [nI_succ]; grind]
    exact i3
theorem two_lt {c : Int32} (h : nI 2 ≤ c) : 1 < c := by
  rw [show nI 2 = (2 : Int32) by decide] at h
  grind
theorem nlt_10 {b : Int32} (h : ¬ b < 1) : ¬ b < 0 := by grind
theorem add_sub_I (a b : Int32) : a + b - b = a := by grind
theorem sub_100 {N : Nat} (h : N ≤ 100) : (100 : Int32) - nI N = nI (100 - N) := by
  rw [show (100 : Int32) = nI 100 by decide, show nI 100 = nI (100 - N) + nI N by rw [nI_add, show 100 - N + N = 100 by omega], add_sub_I]
theorem lane_1 {l : Nat} (h : l < 2) : ¬ 1 < nI l := by
  rcases (show l = 0 ∨ l = 1 by omega) with e | e <;> subst e <;> decide
theorem le_100 {n : Nat} (h : n ≤ 100) : nI n ≤ 100 := by
  rw [show (100 : Int32) = nI 100 by decide]
  exact nI_le h (by decide)
theorem nle_100 {n : Nat} (h : 100 < n) (h2 : n < 2 ^ 31) : ¬ nI n ≤ 100 := by
  rw [show (100 : Int32) = nI 100 by decide]
  exact nI_ge h h2
theorem wBd_some {α β : Type} (x : α) (k : α → Option β) : wBd (some x) k = k x := rfl
theorem one_ne : ((1 : Int32) = 0) = False := eq_false (by decide)
theorem among_01 (a b : Int32) : fX4_isAmong a b = some 0 ∨ fX4_isAmong a b = some 1 := by
  unfold fX4_isAmong
  by_cases u1 : a < 0
  · exact Or.inl (by rw [if_pos u1])
  · by_cases u2 : b ≤ a
    · exact Or.inl (by rw [if_neg u1, if_pos u2])
    · exact Or.inr (by rw [if_neg u1, if_neg u2])
theorem sim_order {ng N M nx : Nat} {sh ln : Nat → Nat} {iv : wI} {rv : wJ} {m : wI} (h : Rel ng N M nx sh ln iv rv m) (a b c : Int32) : ∃ N' sh' ln' iv' rv' m' r, fX4_order sh ln iv rv a b c = some (sh', ln', iv', rv', r) ∧ fX5_order m a b c = some (m', r) ∧ Rel ng N' M nx sh' ln' iv' rv' m' := by
  obtain ⟨q1, q2, q3, q4, q5, q6, q7, q8, q9⟩ := h.N
  unfold fX4_order fX5_order
  generalize hF : fX4_order_54 7 sh ln iv rv = F
  generalize hG : fX5_order_55 wN m = G
  rw [wGd_t h.fix.1, q8, q9, q2, q3]
  rcases pk_ix a (n := M) (by omega) with h0 | h0 | ⟨j, hj, rfl⟩
  · rw [among_no (Or.inl h0), in_no (Or.inl h0) (by omega)]
    exact ⟨N, sh, ln, iv, rv, m, -1, by simp [wBd], by simp [wBd], h⟩
  · rw [among_no (Or.inr h0), in_no (Or.inr h0) (by omega)]
    exact ⟨N, sh, ln, iv, rv, m, -1, by simp [wBd], by simp [wBd], h⟩
  rw [among_yes hj (by omega), in_yes hj (by omega), in_eq b, in_eq c]
  by_cases b1 : b < 1
  · refine ⟨N, sh, ln, iv, rv, m, -1, ?_, ?_, h⟩
    · rcases among_01 c 2 with e | e
      · rw [e]; simp only [wBd_some, one_ne, if_true, if_false]
      · rw [e]; simp only [wBd_some, one_ne, if_true, if_false, b1]
    · rw [if_pos b1, wBd_some, if_neg (by decide), wBd_some, if_pos rfl]
  by_cases b2 : 6 < b
  · refine ⟨N, sh, ln, iv, rv, m, -1, ?_, ?_, h⟩
    · rcases among_01 c 2 with e | e
      · rw [e]; simp only [wBd_some, one_ne, if_true, if_false]
      · rw [e]; simp only [wBd_some, one_ne, if_true, if_false, b1, b2]
    · rw [if_neg b1, if_pos b2, wBd_some, if_neg (by decide), wBd_some, if_pos rfl]
  have b3 : b ≤ 6 := nlt_le b2
  have b0 : ¬ b < 0 := nlt_10 b1
  obtain ⟨n, hn, rfl⟩ := nI_of2 (M := 6) (n := 6) rfl b0 b3
  rcases pk_ix c (n := 2) (by decide) with h0 | h0 | ⟨l, hl, rfl⟩
  · rw [show (2 : Int32) = nI 2 from rfl, among_no (Or.inl h0)]
    exact ⟨N, sh, ln, iv, rv, m, -1, by simp only [wBd_some, one_ne, if_true, if_false], by simp only [wBd_some, one_ne, if_true, if_false, b1, b2, h0], h⟩
  · rw [show (2 : Int32) = nI 2 from rfl, among_no (Or.inr h0)]
    have c1 : 1 < c := two_lt h0
    exact ⟨N, sh, ln, iv, rv, m, -1, by simp only [wBd_some, one_ne, if_true, if_false], by simp only [wBd_some, one_ne, if_true, if_false, b1, b2, c1, ite_self], h⟩
  rw [show (2 : Int32) = nI 2 from rfl, among_yes hl (by decide)]
  have l0 : ¬ nI l < 0 := nI_pos (by omega)
  have l1 : ¬ 1 < nI l := lane_1 hl
  simp only [wBd_some, b1, b2, l0, l1, if_false, show ¬ (1 : Int32) = 0 by decide]
  rw [sub_100 q1, nI_add]
  by_cases hr : N + n ≤ 100
  · rw [if_pos (nI_le (by omega) (by omega)), if_pos (le_100 hr)]
    have h0 : Rel ng (N + 0) M nx sh ln (fxI iv (N + 0) (iv 5 0)) rv m := by
      have : fxI iv (N + 0) (iv 5 0) = iv := by
        unfold fxI
        rw [wU_id iv 1 4 _ (by rw [q2]; rfl), wU_id iv 5 0 _ rfl]
      rw [this]; exact h
    obtain ⟨sh', ln', iv', rv', m', i1, i2, i3, i4, i5⟩ := order_lp (x3 := nI l) hj hr n 0 7 wN (iv 5 0) sh ln iv rv m (by omega) (by omega) (by unfold wN; omega) h0
    rw [nI_0, hF] at i1
    rw [nI_0, hG] at i2
    rw [i1, i2]
    simp only [wB4]
    obtain ⟨w1, w2, w3, w4, w5, w6, w7⟩ := i3.fix
    rw [wGd_t w1, i4, q2, nI_add]
    simp only [wLt]
    rw [wGd_t w6, w7, wGd_t v_0_8]
    refine ⟨N + n, sh', ln', _, _, _, _, rfl, rfl, ?_⟩
    rw [show (0 : Int32).toNatClampNeg = 0 from rfl, show wU iv' 1 4 (nI (N + n)) 5 0 = iv 5 0 by rw [wU_ne 5 (by decide), i5]]
    exact i3
  · rw [if_neg (nI_ge (by omega) (by omega)), if_neg (nle_100 (by omega) (by omega))]
    exact ⟨N, sh, ln, iv, rv, m, -1, rfl, rfl, h⟩
