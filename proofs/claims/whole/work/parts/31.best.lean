theorem cnt_mono {f : Nat → Int32} {h : Int32} {k : Nat} : ∀ {n : Nat}, k ≤ n → cnt f h k ≤ cnt f h n
  | 0, hk => by rw [show k = 0 by omega]; exact Nat.le_refl _
  | n + 1, hk => by
    by_cases e : k = n + 1
    · rw [e]; exact Nat.le_refl _
    · have := cnt_mono (f := f) (h := h) (k := k) (n := n) (by omega)
      have e2 : cnt f h (n + 1) = cnt f h n + if f n = h then 1 else 0 := rfl
      omega
theorem wait_lp {ng N M nx : Nat} {sh ln : Nat → Nat} {iv0 : wI} {rv0 : wJ} {m0 : wI} (h : Rel ng N M nx sh ln iv0 rv0 m0) (h5 : cnt (m0 24) 0 N ≤ 5) : ∀ (d k f1 f2 : Nat) (iv : wI) (rv : wJ) (m : wI) (w : Nat → Nat), k + d = N → d < f1 → d < f2 → (∀ a, a ≠ 7 → iv a = iv0 a) → (∀ a, a ≠ 8 → rv a = rv0 a) → (∀ j, rv 8 j = rv0 8 j ∨ sh (rv 8 j) ≠ 0) → (∀ a, a ≠ 36 → m a = m0 a) → iv 7 5 = nI (cnt (m0 24) 0 k) → (∀ j, j < cnt (m0 24) 0 k → w j < k ∧ rv 8 j = w j + 100 ∧ m 36 j = nI (w j)) → (∀ i j, i < cnt (m0 24) 0 k → j < cnt (m0 24) 0 k → (w i ≤ w j ↔ i ≤ j)) →
    ∃ (iv' : wI) (rv' : wJ) (m' : wI) (w' : Nat → Nat) (f' : Nat), fX4_planWaiting_31 ng sh f1 iv rv (nI k) = some (iv', rv') ∧ fX5_plans_4 f2 m (nI (cnt (m0 24) 0 k)) (nI k) = fX5_plans_4 (f' + 1) m' (nI (cnt (m0 24) 0 N)) (nI N) ∧ (∀ a, a ≠ 7 → iv' a = iv0 a) ∧ (∀ a, a ≠ 8 → rv' a = rv0 a) ∧ (∀ j, rv' 8 j = rv0 8 j ∨ sh (rv' 8 j) ≠ 0) ∧ (∀ a, a ≠ 36 → m' a = m0 a) ∧ iv' 7 5 = nI (cnt (m0 24) 0 N) ∧ (∀ j, j < cnt (m0 24) 0 N → w' j < N ∧ rv' 8 j = w' j + 100 ∧ m' 36 j = nI (w' j)) ∧ ∀ i j, i < cnt (m0 24) 0 N → j < cnt (m0 24) 0 N → (w' i ≤ w' j ↔ i ≤ j) := by
  obtain ⟨q1, q2, q3, q4, q5, q6, q7, q8, q9⟩ := h.N
  intro d
  induction d with
  | zero =>
    intro k f1 f2 iv rv m w hk hf1 hf2 hi hr hr8 hm h7 hw hw2
    obtain ⟨f1, rfl⟩ : ∃ g, f1 = g + 1 := ⟨f1 - 1, by omega⟩
    obtain ⟨f2, rfl⟩ : ∃ g, f2 = g + 1 := ⟨f2 - 1, by omega⟩
    have e : k = N := by omega
    subst e
    exact ⟨iv, rv, m, w, f2, by rw [fX4_planWaiting_31.eq_2, hi 1 (by decide), q2, if_pos (nI_le (by omega) (by omega))], rfl, hi, hr, hr8, hm, h7, hw, hw2⟩
  | succ d ih =>
    intro k f1 f2 iv rv m w hk hf1 hf2 hi hr hr8 hm h7 hw hw2
    obtain ⟨f1, rfl⟩ : ∃ g, f1 = g + 1 := ⟨f1 - 1, by omega⟩
    obtain ⟨f2, rfl⟩ : ∃ g, f2 = g + 1 := ⟨f2 - 1, by omega⟩
    have hkN : k < N := by omega
    have hB := h.1
    have hCu := h.2.2.2.2.2.2.1
    have sk : sh (k + 100) = 1 := hB.2.2.2.2.2.2.2.1 k hkN
    obtain ⟨a1, a2, -, -, -, -, a9, -⟩ := hCu k hkN
    have cs : cnt (m0 24) 0 (k + 1) = cnt (m0 24) 0 k + if m0 24 k = 0 then 1 else 0 := rfl
    have cm : cnt (m0 24) 0 (k + 1) ≤ cnt (m0 24) 0 N := cnt_mono (by omega)
    rw [fX4_planWaiting_31.eq_2, fX5_plans_4.eq_2, hi 1 (by decide), q2, hm 1 (by decide), q3, if_neg (nI_ge (by omega) (by omega)), if_neg (nI_ge (by omega) (by omega)), wGd_t (vp_in_nI (show k < 100 by omega) (by decide)), toNat_nI (by omega), wGd_t (vp_in_nI (show k < 100 by omega) (by decide)), hr 4 (by decide), a1, wGd_t sk, hi (k + 100) (by omega), a9, hm 24 (by decide), nI_1 k]
    by_cases e0 : m0 24 k = 0
    · rw [if_pos e0] at cs
      generalize hc : cnt (m0 24) 0 k = c at *
      rw [if_pos e0, if_pos e0, if_neg (show ¬ nI c = 5 from fun q => by have := (nI_eq (a := c) (b := 5) (by omega) (by decide)).mp q; omega), wGd_t (vp_in_nI (show c < 5 by omega) (by decide)), toNat_nI (by omega)]
      unfold fX2_add
      rw [h7, if_neg (show ¬ (5 : Int32) ≤ nI c from nI_ge (b := 5) (by omega) (by decide)), wGd_t (vp_in_nI (show c < 5 by omega) (by decide)), wGd_t sk, toNat_nI (by omega)]
      simp only [wLt, wB2]
      rw [nI_1, ← cs]
      refine ih (k + 1) f1 f2 _ _ _ (fun j => if j = c then k else w j) (by omega) (by omega) (by omega) (fun a ha => by rw [wU_ne a ha]; exact hi a ha) (fun a ha => by rw [wV_ne a ha]; exact hr a ha) (fun j => ?_) (fun a ha => by rw [wU_ne a ha]; exact hm a ha) (by rw [wU_g, if_pos rfl, if_pos rfl]) (fun j hj => ?_) (fun i j hi' hj' => ?_)
      · rw [wV_g, if_pos rfl]
        split
        · exact Or.inr (by rw [sk]; decide)
        · exact hr8 j
      · rw [wV_g, if_pos rfl, wU_g, if_pos rfl]
        by_cases e : j = c
        · simp only [e, if_true]
          exact ⟨by omega, trivial, trivial⟩
        · simp only [e, if_false]
          obtain ⟨x, y, z⟩ := hw j (by omega)
          exact ⟨by omega, y, z⟩
      · show (if i = c then k else w i) ≤ (if j = c then k else w j) ↔ i ≤ j
        by_cases ei : i = c
        · by_cases ej : j = c
          · rw [if_pos ei, if_pos ej]; omega
          · rw [if_pos ei, if_neg ej]
            have := (hw j (by omega)).1
            omega
        · by_cases ej : j = c
          · rw [if_neg ei, if_pos ej]
            have := (hw i (by omega)).1
            omega
          · rw [if_neg ei, if_neg ej]
            exact hw2 i j (by omega) (by omega)
    · replace cs : cnt (m0 24) 0 (k + 1) = cnt (m0 24) 0 k := by rw [cs, if_neg e0]; rfl
      rw [if_neg e0, if_neg e0, ← cs]
      exact ih (k + 1) f1 f2 iv rv m w (by omega) (by omega) (by omega) hi hr hr8 hm (by rw [cs]; exact h7) (fun j hj => by
        obtain ⟨x, y, z⟩ := hw j (by omega)
        exact ⟨by omega, y, z⟩) (fun i j hi' hj' => hw2 i j (by omega) (by omega))
theorem many_lp {N : Nat} {m0 : wI} (hN : m0 1 8 = nI N) (hL : N ≤ 100) (h5 : 5 < cnt (m0 24) 0 N) : ∀ (d k f : Nat) (m : wI), k + d = N → d < f → (∀ a, a ≠ 36 → m a = m0 a) → cnt (m0 24) 0 k ≤ 5 → ∃ m', fX5_plans_4 f m (nI (cnt (m0 24) 0 k)) (nI k) = some (m', -1) ∧ ∀ a, a ≠ 36 → m' a = m0 a := by
  intro d
  induction d with
  | zero => intro k f m hk hf hm hc; rw [show k = N by omega] at hc; omega
  | succ d ih =>
    intro k f m hk hf hm hc
    obtain ⟨f, rfl⟩ : ∃ g, f = g + 1 := ⟨f - 1, by omega⟩
    have cs : cnt (m0 24) 0 (k + 1) = cnt (m0 24) 0 k + if m0 24 k = 0 then 1 else 0 := rfl
    rw [fX5_plans_4.eq_2, hm 1 (by decide), hN, if_neg (nI_ge (by omega) (by omega)), wGd_t (vp_in_nI (show k < 100 by omega) (by decide)), toNat_nI (by omega), hm 24 (by decide), nI_1 k]
    by_cases e0 : m0 24 k = 0
    · rw [if_pos e0] at cs ⊢
      generalize hcc : cnt (m0 24) 0 k = c at *
      by_cases e5 : c = 5
      · subst e5
        rw [if_pos (show nI 5 = 5 from rfl)]
        exact ⟨m, rfl, hm⟩
      · rw [if_neg (show ¬ nI c = 5 from fun q => by have := (nI_eq (a := c) (b := 5) (by omega) (by decide)).mp q; omega), wGd_t (vp_in_nI (show c < 5 by omega) (by decide)), toNat_nI (by omega)]
        simp only [wLt]
        rw [nI_1, ← cs]
        exact ih (k + 1) f _ (by omega) (by omega) (fun a ha => by rw [wU_ne a ha]; exact hm a ha) (by omega)
    · replace cs : cnt (m0 24) 0 (k + 1) = cnt (m0 24) 0 k := by rw [cs, if_neg e0]; rfl
      rw [if_neg e0, ← cs]
      exact ih (k + 1) f m (by omega) (by omega) hm (by omega)
theorem o51_m (m : wI) : ∀ (n : Nat) (a b c : Int32), fX5_plans_51 n m a b c = fX5_plans_51 n z0 a b c
  | 0, _, _, _ => by rw [fX5_plans_51.eq_1, fX5_plans_51.eq_1]
  | n + 1, a, b, c => by rw [fX5_plans_51.eq_2, fX5_plans_51.eq_2, o51_m m n]
theorem o51_ok : ∀ n, n < 6 → fX5_plans_51 wN z0 (nI n) 1 2 = some (nI (fct n)) := by decide +kernel
theorem plan_both {ng N M nx : Nat} {sh ln : Nat → Nat} {iv : wI} {rv : wJ} {m : wI} (h : Rel ng N M nx sh ln iv rv m) : ∃ iv' rv' m', ∃ b r : Int32, fX4_planWaiting ng sh iv rv = some (iv', rv', b) ∧ fX5_plans m = some (m', r) ∧ Rel ng N M nx sh ln iv' rv' m' ∧ Rel ng N M nx sh ln iv rv m' ∧ ((b = 0 ∧ r = -1) ∨ (b = 1 ∧ 1 ≤ cnt (m 24) 0 N ∧ cnt (m 24) 0 N ≤ 5 ∧ r = nI (cnt (m 24) 0 N) ∧ Bst (cnt (m 24) 0 N) iv' m' ∧ iv' 7 5 = nI (cnt (m 24) 0 N))) := by
  obtain ⟨q1, q2, q3, q4, q5, q6, q7, q8, q9⟩ := h.N
  have c0 : iv 5 0 = nI (cnt (m 24) 0 N) := by
    have := h.2.2.2.2.2.1 0 (by decide)
    rw [nI_0] at this
    exact this
  have cl := cnt_le (m 24) 0 N
  unfold fX4_planWaiting fX5_plans
  rw [wGd_t v_0_8, show (0 : Int32).toNatClampNeg = 0 from rfl, c0]
  by_cases h5 : cnt (m 24) 0 N ≤ 5
  · obtain ⟨iv1, rv1, m1, w, f', g1, g2, g3, g4, g5, g6, g7, g8, g9⟩ := wait_lp h h5 N 0 wN wN (wU iv 7 5 0) rv m (fun _ => 0) (by omega) (by unfold wN; omega) (by unfold wN; omega) (fun a ha => wU_ne a ha) (fun _ _ => rfl) (fun _ => Or.inl rfl) (fun _ _ => rfl) (by rw [wU_g, if_pos rfl, if_pos rfl]; rfl) (fun j hj => absurd hj (by unfold cnt; omega)) (fun i j hi hj => absurd hj (by unfold cnt; omega))
    rw [show cnt (m 24) 0 0 = 0 from rfl, nI_0] at g2
    rw [nI_0] at g1
    rw [g2, fX5_plans_4.eq_2, g6 1 (by decide), q3, if_pos (nI_le (Nat.le_refl _) (by omega)), o51_m, o51_ok _ (by omega)]
    simp only [wBd, wLt]
    by_cases h1 : cnt (m 24) 0 N = 0
    · rw [h1]
      rw [if_pos (show nI 0 < 1 by decide), show wN = 999 + 1 from rfl, fX5_plans_73.eq_2, if_neg (show ¬ nI (fct 0) ≤ 0 by decide), if_pos (show nI 0 ≤ 0 by decide)]
      simp only
      rw [if_pos (show nI 0 = 0 from rfl)]
      have R : Rel ng N M nx sh ln iv rv (wU m1 1 30 (-1)) := h.plan (fun _ _ => rfl) (fun _ _ => rfl) (fun _ => Or.inl rfl) (fun a x y => by rw [wU_ne a x, g6 a (by omega)]) (fun j hj => by rw [wU_g, if_pos rfl, if_neg hj, g6 1 (by decide)])
      exact ⟨iv, rv, _, 0, -1, rfl, rfl, R, R, Or.inl ⟨rfl, rfl⟩⟩
    · rw [if_neg (show ¬ nI (cnt (m 24) 0 N) < 1 from nI_nlt (b := 1) (by omega) (by omega)), if_pos (show nI (cnt (m 24) 0 N) ≤ 5 from nI_le (b := 5) h5 (by decide))]
      unfold fX2_clear
      simp only [wLt]
      rw [g1]
      simp only [wB2]
      have hP : Pln ng (cnt (m 24) 0 N) w sh iv1 rv1 m1 := by
        refine ⟨⟨g7, h5, fun j hj => ?_, g9⟩, fun j hj => ?_, by rw [g6 1 (by decide)]; exact q6⟩
        · obtain ⟨x, y, z⟩ := g8 j hj
          refine ⟨h.1.2.2.2.2.2.2.2.1 _ x, ?_, by omega⟩
          rw [g3 _ (by omega)]
          exact (h.2.2.2.2.2.2.1 _ x).2.1
        · obtain ⟨x, y, z⟩ := g8 j hj
          obtain ⟨-, -, ⟨a3, a4, a5⟩, -⟩ := h.2.2.2.2.2.2.1 _ x
          rw [g4 _ (by omega), g3 _ (by omega), g6 19 (by decide), g6 20 (by decide)]
          exact ⟨a3, a4, a5, z⟩
      have hA : OrdAt (cnt (m 24) 0 N) w rv1 (pm (cnt (m 24) 0 N) 0) := by
        refine ⟨(pm_lt _ (by omega) 0 (fct_le _ (by omega)).2).1, fun i hi => ?_⟩
        rw [pm_0 _ (by omega) i hi]
        exact ⟨hi, (g8 i hi).2.1⟩
      obtain ⟨iv2, rv2, m2, k1, k2, k3, k4, k5, k6, k7, k8, k9⟩ := find_ok q5 q4 (by omega) hP hA
      rw [k1, k2]
      simp only
      rw [if_neg (show ¬ nI (cnt (m 24) 0 N) = 0 from nI_ne0 (by omega) (by omega))]
      have R1 : Rel ng N M nx sh ln iv2 rv2 m2 := h.plan (fun a ha => by rw [k3 a ha, g3 a (by omega)]) (fun a ha => by rw [k5 a ha, g4 a ha]) (fun j => by
        rcases k6 j with e | e
        · rw [e]; exact g5 j
        · exact Or.inr e) (fun a x y => by rw [k7 a x (by omega), g6 a (by omega)]) (fun j hj => by rw [k8 j hj, g6 1 (by decide)])
      have R2 : Rel ng N M nx sh ln iv rv m2 := h.plan (fun _ _ => rfl) (fun _ _ => rfl) (fun _ => Or.inl rfl) (fun a x y => by rw [k7 a x (by omega), g6 a (by omega)]) (fun j hj => by rw [k8 j hj, g6 1 (by decide)])
      exact ⟨iv2, rv2, m2, 1, _, rfl, rfl, R1, R2, Or.inr ⟨rfl, by omega, h5, rfl, k9, by rw [k4]; exact g7⟩⟩
  · obtain ⟨m', a, b⟩ := many_lp q3 q1 (by omega) N 0 wN m (by omega) (by unfold wN; omega) (fun _ _ => rfl) (by unfold cnt; omega)
    rw [show cnt (m 24) 0 0 = 0 from rfl, nI_0] at a
    have R : Rel ng N M nx sh ln iv rv m' := h.plan (fun _ _ => rfl) (fun _ _ => rfl) (fun _ => Or.inl rfl) (fun a x y => by rw [b a (by omega)]) (fun j hj => by rw [b 1 (by decide)])
    rw [a, if_neg (show ¬ nI (cnt (m 24) 0 N) < 1 from nI_nlt (b := 1) (by omega) (by omega)), if_neg (show ¬ nI (cnt (m 24) 0 N) ≤ 5 from nI_ge (a := 5) (by omega) (by omega))]
    exact ⟨iv, rv, m', 0, -1, rfl, rfl, R, R, Or.inl ⟨rfl, rfl⟩⟩
theorem sim_sum {ng N M nx : Nat} {sh ln : Nat → Nat} {iv : wI} {rv : wJ} {m : wI} (h : Rel ng N M nx sh ln iv rv m) : ∃ iv' rv' m' r, fX4_sum ng sh iv rv = some (iv', rv', r) ∧ fX5_sum m = some (m', r) ∧ Rel ng N M nx sh ln iv' rv' m' := by
  obtain ⟨iv', rv', m', b, r, a1, a2, a3, a4, a5⟩ := plan_both h
  unfold fX4_sum fX5_sum
  rw [a1, a2]
  simp only [wB3, wB2]
  rcases a5 with ⟨e1, e2⟩ | ⟨e1, e2, e3, e4, e5, e6⟩
  · subst e1 e2
    exact ⟨iv', rv', m', -1, rfl, rfl, a3⟩
  · subst e1 e4
    rw [if_neg (show ¬ (1 : Int32) = 0 by decide), if_neg (nI_ne_m1 (by omega)), e5.1]
    exact ⟨iv', rv', m', _, rfl, rfl, a3⟩
theorem in_m2 (a : Int32) : fX5_in a 0 ((-1) - 1) = some 0 := by
  unfold fX5_in
  by_cases h : a < 0
  · rw [if_pos h]
  · rw [if_neg h, if_pos (by grind)]
theorem sim_best {ng N M nx : Nat} {sh ln : Nat → Nat} {iv : wI} {rv : wJ} {m : wI} (h : Rel ng N M nx sh ln iv rv m) (a : Int32) : ∃ iv' rv' m' r, fX4_best ng sh iv rv a = some (iv', rv', r) ∧ fX5_best m a = some (m', r) ∧ Rel ng N M nx sh ln iv' rv' m' := by
  obtain ⟨q1, q2, q3, q4, q5, q6, q7, q8, q9⟩ := h.N
  obtain ⟨iv', rv', m', b, r, a1, a2, a3, a4, a5⟩ := plan_both h
  have c0 : iv 5 0 = nI (cnt (m 24) 0 N) := by
    have := h.2.2.2.2.2.1 0 (by decide)
    rw [nI_0] at this
    exact this
  have cl := cnt_le (m 24) 0 N
  unfold fX4_best fX5_best
  rw [wGd_t v_0_8, show (0 : Int32).toNatClampNeg = 0 from rfl, c0, a1, a2]
  simp only [wB2, wB3]
  rcases a5 with ⟨e1, e2⟩ | ⟨e1, e2, e3, e4, e5, e6⟩
  · subst e1 e2
    rw [in_m2]
    rcases among_01 a (nI (cnt (m 24) 0 N)) with e | e
    · rw [e]
      exact ⟨iv, rv, m', -1, rfl, rfl, a4⟩
    · rw [e]
      exact ⟨iv', rv', m', -1, rfl, rfl, a3⟩
  · subst e1 e4
    rcases pk_ix a (n := cnt (m 24) 0 N) (by omega) with h0 | h0 | ⟨j, hj, rfl⟩
    · rw [among_no (Or.inl h0), in_no (Or.inl h0) (by omega)]
      exact ⟨iv, rv, m', -1, rfl, rfl, a4⟩
    · rw [among_no (Or.inr h0), in_no (Or.inr h0) (by omega)]
      exact ⟨iv, rv, m', -1, rfl, rfl, a4⟩
    · rw [among_yes hj (by omega), in_yes hj (by omega)]
      unfold fX2_bestAt
      rw [e6, among_yes hj (by omega), wGd_t (vp_in_nI (show j < 5 by omega) (by decide)), toNat_nI (by omega)]
      simp only [wBd, show ¬ (1 : Int32) = 0 by decide, if_false]
      rw [wGd_t (vp_in_nI (show j < 5 by omega) (by decide)), e5.2.2 j hj]
      exact ⟨iv', rv', m', _, rfl, rfl, a3⟩
