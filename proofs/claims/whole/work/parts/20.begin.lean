theorem st_sub {x a : Int32} (h1 : 0 ≤ x) (h2 : x ≤ 100000) (ha : 0 ≤ a) (h : a ≤ x) : 0 ≤ x - a ∧ x - a ≤ 100000 := by grind
theorem nlt_le {x a : Int32} (h : ¬ x < a) : a ≤ x := by grind
theorem lt_nle {x a : Int32} (h : x < a) : ¬ a ≤ x := by grind
theorem c_firstThat {ng N M nx k : Nat} {sh ln : Nat → Nat} {iv : wI} {rv : wJ} {m : wI} (h : Rel ng N M nx sh ln iv rv m) (hk : k < 8) : fX4_firstThat ng sh iv rv (nI k) = some (oR (fst (fun i => m 24 i = nI k) 0 N)) := by
  obtain ⟨q1, q2, q3, q4, q5, q6, q7, q8, q9⟩ := h.N
  obtain ⟨hB, hV, hSc, hSt, hRc, hCt, hCu, hFr, hGr, hWa, hGp, hLg⟩ := id h
  unfold fX4_firstThat
  rw [wGd_t (vp_in_nI hk (by decide)), toNat_nI (by omega), hCt k hk]
  by_cases z : nI (cnt (m 24) (nI k) N) = 0
  · rw [if_pos z]
    have hz : cnt (m 24) (nI k) N = 0 := by
      have := cnt_le (m 24) (nI k) N
      exact (nI_eq (b := 0) (by omega) (by omega)).mp z
    rw [fst_no (fun i hi => cnt_zero hz i hi)]
    rfl
  · rw [if_neg z]
    have lp : ∀ (n d j : Nat), j + d = N → d < n → fX4_firstThat_13 ng sh n iv rv (nI k) (nI j) = some (oR (fst (fun i => m 24 i = nI k) j d)) := by
      intro n
      induction n with
      | zero => intro d j h1 h2; omega
      | succ n ih =>
        intro d j h1 h2
        rw [fX4_firstThat_13.eq_2, q2]
        cases d with
        | zero => rw [if_pos (nI_le (by omega) (by omega))]; rfl
        | succ d =>
          have cup := hCu j (by omega)
          rw [if_neg (nI_ge (by omega) (by omega)), wGd_t (vp_in_nI (show j < 100 by omega) (by decide)), toNat_nI (by omega), nI_1 j, cup.1, wGd_t (hB.2.2.2.2.2.2.2.1 j (by omega)), cup.2.2.2.2.2.2.1]
          unfold fst
          by_cases he : m 24 j = nI k
          · rw [if_pos he, if_pos he]; rfl
          · rw [if_neg he, if_neg he]; exact ih d (j + 1) (by omega) (by omega)
    exact lp wN N 0 (by omega) (by unfold wN; omega)
/-- a cup begins to be ground, or to be steamed -/
theorem Rel.begin {ng N M nx c s k st f : Nat} {amt tog : Int32} {sh ln : Nat → Nat} {iv : wI} {rv : wJ} {m : wI} (h : Rel ng N M nx sh ln iv rv m) (hc : c < N) (hs : m 24 c = nI s) (hs8 : s < 8) (hk8 : k < 8) (hst : st < 3) (hn : s ≠ 3 ∧ k ≠ 3 ∧ s ≠ 6 ∧ k ≠ 6 ∧ k ≠ 2) (ha : 0 ≤ amt) (ha2 : amt ≤ m 17 st)
    (hA8 : ∀ (rv' : wJ) (m' : wI), off c (nI k) m m' → rv' 1 8 = wV rv 1 f (c + 100) 1 8 → RAt N rv' m' 8 1) (hA9 : ∀ (rv' : wJ) (m' : wI), off c (nI k) m m' → rv' 1 9 = wV rv 1 f (c + 100) 1 9 → RAt N rv' m' 9 5) :
    ∃ iv' rv', fX4_turn ng sh (wU (wU iv 6 st (m 17 st - amt)) (c + 100) 7 tog) (wV rv 1 f (c + 100)) (c + 100) (nI k) = some (iv', rv') ∧ Rel ng N M nx sh ln iv' rv' (wU (wU (wU m 17 st (m 17 st - amt)) 24 c (nI k)) 25 c tog) := by
  obtain ⟨q1, q2, q3, q4, q5, q6, q7, q8, q9⟩ := h.N
  obtain ⟨hB, hV, hSc, hSt, hRc, hCt, hCu, hFr, hGr, hWa, hGp, hLg⟩ := id h
  have hcup := hCu c hc
  obtain ⟨a1, a2, ⟨a3, a4, a5⟩, a6, a7, a8, a9, a10, a11, a12, a13, a14, a15, a16⟩ := id hcup
  have sc : sh (c + 100) = 1 := hB.2.2.2.2.2.2.2.1 c hc
  have ne : ∀ j, j < 8 → s ≠ j → m 24 c ≠ nI j := fun j hj e => by rw [hs]; exact fun q => e ((nI_eq (by omega) (by omega)).mp q)
  have nk : ∀ j, j < 8 → k ≠ j → nI k ≠ nI j := fun j hj e q => e ((nI_eq (by omega) (by omega)).mp q)
  have hC2 : RCt N (wU (wU iv 6 st (m 17 st - amt)) (c + 100) 7 tog) m := hCt.congr (by rw [wU_ne 5 (by omega), wU_ne 5 (by decide)]) rfl
  obtain ⟨iv1, rv1, e0, e1, e2, e3, e4, e5, e6, e8⟩ := turn_ok (ng := ng) (k := k) (s := s) (rv := wV rv 1 f (c + 100)) sc (iv := wU (wU iv 6 st (m 17 st - amt)) (c + 100) 7 tog) (by simp only [wU_g]; simp; rw [a9, hs]) hs8 hk8 q1 hc hs hC2
  refine ⟨iv1, rv1, e0, ?_⟩
  generalize hm' : wU (wU (wU m 17 st (m 17 st - amt)) 24 c (nI k)) 25 c tog = m'
  have ho : off c (nI k) m m' := by
    rw [← hm']
    refine off_up ?_ (fun a x y i hi => ?_) (fun a x y => ?_)
    · rw [wU_ne 24 (by decide), wU_self, wU_ne 24 (by decide)]
    · simp only [wU_g]; simp [hi, show ¬ a = 17 by omega]
    · rw [wU_ne a (by omega), wU_ne a (by omega), wU_ne a (by omega)]
  have oiv : ∀ a, a ≠ 5 → a ≠ c + 100 → a ≠ 6 → iv1 a = iv a := fun a x y z => by rw [e1 a x y, wU_ne a y, wU_ne a z]
  have orv : ∀ a, a ≠ 1 → a ≠ c + 100 → rv1 a = rv a := fun a x y => by rw [e4 a y, wV_ne a x]
  have om : ∀ a, a ≠ 24 → a ≠ 25 → a ≠ 17 → m' a = m a := fun a x y z => by rw [← hm', wU_ne a y, wU_ne a x, wU_ne a z]
  have hV2 : RV sh (wV rv 1 f (c + 100)) := by
    intro a j
    simp only [wV_g]
    split
    · split
      · exact Or.inr (by rw [sc]; decide)
      · exact hV _ _
    · exact hV _ _
  refine h.move hc (k := k) ho (hV2.turn (fun a ha j => Or.inl (by rw [e4 a ha])) e5 e6) ?_ ?_ (fun a ha hb => oiv a (by omega) hb (by omega)) (fun a ha hb => orv a (by omega) hb) (orv 3 (by decide) (by omega)) (orv 4 (by decide) (by omega)) (om 15 (by decide) (by decide) (by decide)) (om 16 (by decide) (by decide) (by decide)) (fun j hj => by rw [e8 j hj, ho.1]) ?_ (hA8 rv1 m' ho (by rw [e4 1 (by omega)])) (hA9 rv1 m' ho (by rw [e4 1 (by omega)])) (fun g hg => (hGp g hg).keep ho (ne 3 (by decide) hn.1) (nk 3 (by decide) hn.2.1) (oiv _ (by omega) (by omega) (by omega)) (orv _ (by omega) (by omega)) (by rw [orv 2 (by decide) (by omega)]) (by rw [om 30 (by decide) (by decide) (by decide)]) (by rw [om 31 (by decide) (by decide) (by decide)]) (by rw [om 32 (by decide) (by decide) (by decide)])) (hLg.keep ho (ne 6 (by decide) hn.2.2.1) (nk 6 (by decide) hn.2.2.2.1) (by rw [oiv 1 (by decide) (by omega) (by decide)]))
  · unfold RSc; rw [om 1 (by decide) (by decide) (by decide), oiv 1 (by decide) (by omega) (by decide)]; exact hSc
  · intro j hj
    rw [e1 6 (by decide) (by omega), ← hm', wU_ne 6 (by omega), wU_ne 17 (by decide), wU_ne 17 (by decide)]
    simp only [wU_g]
    obtain ⟨t1, t2, t3⟩ := hSt j hj
    by_cases e : j = st
    · subst e; simp; exact st_sub t2 t3 ha ha2
    · simp [e]; exact ⟨t1, t2, t3⟩
  · refine hcup.turned (k := k) ho hk8 (by rw [orv 4 (by decide) (by omega)]) (fun j hj => by rw [e5 j hj, wV_ne _ (by omega)]) (fun a ha => oiv a (by omega) (by omega) (by omega)) (fun j hj => ?_) e3 ?_ ?_ (fun e => absurd e hn.2.2.2.2) (fun _ => ?_) (fun e => absurd e hn.2.1) (fun _ => e6)
    · rw [e2 j (by omega)]; simp only [wU_g]; simp [show ¬ j = 7 by omega, show ¬ c + 100 = 6 by omega]
    · rw [e2 6 (by decide), om 28 (by decide) (by decide) (by decide)]; simp only [wU_g]; simp [show ¬ c + 100 = 6 by omega]; exact a10
    · rw [e2 9 (by decide), om 29 (by decide) (by decide) (by decide)]; simp only [wU_g]; simp [show ¬ c + 100 = 6 by omega]; exact a11
    · rw [e2 7 (by decide), ← hm']; simp [wU_g]
theorem begin_steam {ng N M nx : Nat} {sh ln : Nat → Nat} {iv : wI} {rv : wJ} {m : wI} (h : Rel ng N M nx sh ln iv rv m) : ∃ iv' rv' m', fX4_beginSteam ng sh iv rv = some (iv', rv') ∧ fX5_steams m = some m' ∧ Rel ng N M nx sh ln iv' rv' m' := by
  obtain ⟨q1, q2, q3, q4, q5, q6, q7, q8, q9⟩ := h.N
  obtain ⟨hB, hV, hSc, hSt, hRc, hCt, hCu, hFr, hGr, hWa, hGp, hLg⟩ := id h
  obtain ⟨r, p1, p2⟩ := h.mayTake 3
  have f4 := c_firstThat (k := 4) h (by decide)
  unfold fX4_beginSteam fX5_steams
  rw [m_firstOf 4 q3 q1, m_countOf 5 q3 q1, p1, p2, hWa.cnt, show (4 : Int32) = nI 4 from rfl, f4]
  simp only [wBd, show (2 : Int32).toNatClampNeg = 2 from rfl, wGd_t v_2_3]
  cases hf : fst (fun i => m 24 i = nI 4) 0 N with
  | none =>
    refine ⟨iv, rv, m, ?_, by simp [oI], h⟩
    simp only [oR]
    split
    · split <;> rfl
    · rfl
  | some c =>
    obtain ⟨-, hc, c4⟩ := fst_some hf
    have hc : c < N := by omega
    obtain ⟨a1, a2, ⟨a3, a4, a5⟩, a6, a7, a8, a9, a10, a11, a12, a13, a14, a15, a16⟩ := hCu c hc
    have sc : sh (c + 100) = 1 := hB.2.2.2.2.2.2.2.1 c hc
    have hm1 : ¬ nI c = -1 := nI_ne_m1 (by omega)
    have h5 : iv (rv (c + 100) 1) 5 = m 20 c - m 20 c / 1000 * 1000 := a5.1.2.2.2.2.2
    have h3 : iv (rv (c + 100) 1) 3 = m 19 c / 10 - m 19 c / 10 / 100 * 100 := a5.1.2.2.2.1
    have t := hSt 2 (by decide)
    simp only [oI, oR, hm1, if_false, show ¬ c + 100 = 0 by omega, toNat_nI (show c < 2 ^ 31 by omega), wGd_t (vp_in_nI (show c < 100 by omega) (show 100 < 2 ^ 31 by decide)), wGd_t sc, wGd_t a3, h5, t.1, wLt]
    by_cases z : rv 1 9 = 0
    · rw [if_pos z, if_pos z, if_neg (show ¬ (0 : Int32) < nI 0 by decide)]
      by_cases hr : r = 0
      · exact ⟨iv, rv, m, by simp [hr], by simp [hr], h⟩
      · simp only [hr, if_false]
        by_cases hl : m 20 c - m 20 c / 1000 * 1000 ≤ m 17 2
        · simp only [hl, if_true]
          have w : wU iv 6 2 (m 17 2 - (m 20 c - m 20 c / 1000 * 1000)) (rv (c + 100) 1) 3 = m 19 c / 10 - m 19 c / 10 / 100 * 100 := by rw [wU_ne _ (by omega)]; exact h3
          rw [w]
          obtain ⟨iv', rv', e0, R⟩ := h.begin (s := 4) (k := 5) (st := 2) (f := 9) (tog := m 19 c / 10 - m 19 c / 10 / 100 * 100) hc c4 (by decide) (by decide) (by decide) (by decide) (by rw [← h5]; exact a5.2.2.2.2.2.2) hl (fun rv' m' ho e => hGr.keep ho (by rw [c4]; decide) (by decide) (by rw [e]; simp [wV_g])) (fun rv' m' ho e => Or.inr ⟨c, hc, by rw [e]; simp [wV_g], ho.at, fun i hi e2 => by
            by_cases hic : i = c
            · exact hic
            · rw [ho.ne hic] at e2
              rcases hWa with ⟨-, w2⟩ | ⟨d, w1, w2, w3, w4⟩
              · exact absurd e2 (w2 i hi)
              · omega⟩)
          refine ⟨iv', rv', _, by rw [show (5 : Int32) = nI 5 from rfl, e0]; rfl, ?_, R⟩
          unfold fX5_steam fX5_begins
          simp only [toNat_nI (show c < 2 ^ 31 by omega), wGd_t (vp_in_nI (show c < 100 by omega) (show 100 < 2 ^ 31 by decide)), wLt, wU_g]
          simp
          rfl
        · exact ⟨iv, rv, m, by simp [hl], by simp [hl], h⟩
    · rw [if_neg z, if_neg z, if_pos (show (0 : Int32) < nI 1 by decide)]
      exact ⟨iv, rv, m, rfl, rfl, h⟩
theorem m_isFree {m : wI} {N g : Nat} (hN : m 1 8 = nI N) (hL : N ≤ 100) (hg : g < 3) : fX5_isFree m (nI g) = some (if m 30 g = 0 ∧ m 32 g = 0 ∧ fst (fun i => m 24 i = 3 ∧ m 26 i = nI g) 0 N = none then 1 else 0) := by
  have lp0 : ∀ (n d k : Nat), k + d = N → d < n → fX5_isFree_26 n m (nI g) 0 (nI k) = some 0 := by
    intro n
    induction n with
    | zero => intro d k h1 h2; omega
    | succ n ih =>
      intro d k h1 h2
      rw [fX5_isFree_26.eq_2, hN]
      cases d with
      | zero => rw [if_pos (nI_le (by omega) (by omega))]
      | succ d => rw [if_neg (nI_ge (by omega) (by omega)), if_pos rfl, nI_1 k]; exact ih d (k + 1) (by omega) (by omega)
  have lp : ∀ (n d k : Nat), k + d = N → d < n → fX5_isFree_26 n m (nI g) 1 (nI k) = some (if fst (fun i => m 24 i = 3 ∧ m 26 i = nI g) k d = none then 1 else 0) := by
    intro n
    induction n with
    | zero => intro d k h1 h2; omega
    | succ n ih =>
      intro d k h1 h2
      rw [fX5_isFree_26.eq_2, hN]
      cases d with
      | zero => rw [if_pos (nI_le (by omega) (by omega))]; simp [fst]
      | succ d =>
        rw [if_neg (nI_ge (by omega) (by omega)), if_neg (by decide), wGd_t (vp_in_nI (by omega) (by decide)), toNat_nI (by omega), nI_1 k]
        unfold fst
        by_cases e3 : m 24 k = 3
        · by_cases e6 : m 26 k = nI g
          · simp only [e3, e6, if_true, and_self]
            rw [lp0 n d (k + 1) (by omega) (by omega)]
            simp
          · simp only [e3, e6, if_true, if_false, and_false]
            exact ih d (k + 1) (by omega) (by omega)
        · simp only [e3, if_false, false_and]
          exact ih d (k + 1) (by omega) (by omega)
  unfold fX5_isFree
  rw [wGd_t (vp_in_nI hg (by decide)), toNat_nI (by omega)]
  have l0 := lp0 wN N 0 (by omega) (by unfold wN; omega)
  have l1 := lp wN N 0 (by omega) (by unfold wN; omega)
  rw [show nI 0 = (0 : Int32) from rfl] at l0 l1
  have nr0 : narrow .boolean (.int 0) = .int 0 := rfl
  have nr1 : narrow .boolean (.int 1) = .int 1 := rfl
  by_cases e0 : m 30 g = 0
  · by_cases e2 : m 32 g = 0
    · simp only [e0, e2, if_true, wBd, l1, true_and]
      split
      · rw [wGd_t nr1]
      · rw [wGd_t nr0]
    · simp only [e0, e2, if_true, if_false, wBd, l0, false_and, and_false]
      rw [wGd_t nr0]
  · simp only [e0, if_false, wBd, l0, false_and]
    rw [wGd_t nr0]
theorem Rel.free {ng N M nx g : Nat} {sh ln : Nat → Nat} {iv : wI} {rv : wJ} {m : wI} (h : Rel ng N M nx sh ln iv rv m) (hg : g < ng) : ∃ r : Int32, fX1_canBegin ng sh iv rv (g + 13) = some r ∧ fX5_isFree m (nI g) = some r ∧ (r ≠ 0 → rv (g + 13) 5 = 0 ∧ iv (g + 13) 1 = 0 ∧ m 30 g = 0 ∧ m 32 g = 0 ∧ ∀ i, i < N → m 24 i = 3 → m 26 i ≠ nI g) := by
  obtain ⟨q1, q2, q3, q4, q5, q6, q7, q8, q9⟩ := h.N
  obtain ⟨b1, b2, b3, b4, k⟩ := h.2.2.2.2.2.2.2.2.2.2.1 g hg
  rw [m_isFree q3 q1 (by omega)]
  unfold fX1_canBegin
  rw [b4]
  rcases k with ⟨k1, k2, k3, k4, k5⟩ | ⟨k1, k2, k3, k4, k5⟩ | ⟨c, k1, k2, k3, k4, k5, k6, k7, k8⟩
  · rw [fst_no (fun i hi e => k5 i hi e.1 e.2)]
    by_cases e : m 32 g = 0
    · exact ⟨1, by simp [k2, e], by simp [k4, e], fun _ => ⟨k1, k2, k4, e, k5⟩⟩
    · exact ⟨0, by simp [k2, e], by simp [e], fun q => absurd rfl q⟩
  · have : ¬ m 30 g = 0 := by grind
    exact ⟨0, by simp [k2], by simp [this], fun q => absurd rfl q⟩
  · rw [fst_uniq k1 ⟨k6, k7⟩ (fun i hi e => k8 i hi e.1 e.2)]
    exact ⟨0, by simp [k3], by simp, fun q => absurd rfl q⟩
theorem begin_rinse {ng N M nx : Nat} {sh ln : Nat → Nat} {iv : wI} {rv : wJ} {m : wI} (h : Rel ng N M nx sh ln iv rv m) : ∃ iv' m', fX4_beginRinses ng sh iv rv = some iv' ∧ fX5_cleans m = some m' ∧ Rel ng N M nx sh ln iv' rv m' := by
  obtain ⟨q1, q2, q3, q4, q5, q6, q7, q8, q9⟩ := h.N
  unfold fX4_beginRinses fX5_cleans
  rw [m_countOf 0 q3 q1, m_countOf 2 q3 q1]
  simp only [wBd]
  have ca := cnt_le (m 24) 0 N
  have cb' := cnt_le (m 24) 2 N
  have hz : (nI (cnt (m 24) 0 N) + nI (cnt (m 24) 2 N) = 0) ↔ (cnt (m 24) 0 N = 0 ∧ cnt (m 24) 2 N = 0) := by
    rw [nI_add]
    have := nI_eq (a := cnt (m 24) 0 N + cnt (m 24) 2 N) (b := 0) (by omega) (by omega)
    exact ⟨fun e => by have := this.mp e; omega, fun e => this.mpr (by omega)⟩
  have lp : ∀ (n d k : Nat) (iv m1 : wI), k + d = ng → d < n → Rel ng N M nx sh ln iv rv m1 → m1 24 = m 24 → ∃ iv' m', fX4_beginRinses_10 ng sh n iv rv (nI ng) (nI k) = some iv' ∧ fX5_cleans_22 n m1 (if cnt (m 24) 0 N = 0 ∧ cnt (m 24) 2 N = 0 then 1 else 0) (nI k) = some m' ∧ Rel ng N M nx sh ln iv' rv m' := by
    intro n
    induction n with
    | zero => intro d k iv m1 h1 h2; omega
    | succ n ih =>
      intro d k iv m1 h1 h2 R h24
      obtain ⟨p1, p2, p3, p4, p5, p6, p7, p8, p9⟩ := R.N
      rw [fX4_beginRinses_10.eq_2, fX5_cleans_22.eq_2, p6]
      cases d with
      | zero => exact ⟨iv, m1, by rw [if_pos (nI_le (by omega) (by omega))], by rw [if_pos (nI_le (by omega) (by omega))], R⟩
      | succ d =>
        have hk : k < ng := by omega
        obtain ⟨hB, hV, hSc, hSt, hRc, hCt, hCu, hFr, hGr, hWa, hGp, hLg⟩ := id R
        obtain ⟨g1, g2, g3, g4, gk⟩ := id (hGp k hk)
        have sg : sh (k + 13) = 2 := hB.2.2.2.2.2.2.1 k hk
        obtain ⟨r, f1, f2, f3⟩ := R.free hk
        obtain ⟨w, m1', m2'⟩ := R.mayTake 2
        rw [if_neg (nI_ge hk (by omega)), if_neg (nI_ge hk (by omega)), wGd_t (vp_in_nI hk (by omega)), toNat_nI (by omega), nI_1 k, g1, wGd_t sg, f1, f2]
        simp only [wBd]
        have skip := ih d (k + 1) iv m1 (by omega) (by omega) R h24
        by_cases r0 : r = 0
        · rw [if_pos r0, if_pos r0]; exact skip
        · rw [if_neg r0, if_neg r0, wGd_t (vp_in_nI (show k < 3 by omega) (by decide))]
          obtain ⟨u1, u2, u3, u4, u5⟩ := f3 r0
          have ct0 := hCt 0 (by decide)
          have ct2 := hCt 2 (by decide)
          have cz : ∀ x : Nat, x ≤ 100 → (nI x = 0 ↔ x = 0) := fun x hx => by rw [show (0 : Int32) = nI 0 from rfl, nI_eq (by omega) (by omega)]
          have due : fX4_isRinseDue ng sh iv rv (k + 13) = some (if 10 ≤ m1 31 k then 1 else if m1 31 k < 5 then 0 else if cnt (m 24) 0 N = 0 ∧ cnt (m 24) 2 N = 0 then 1 else 0) := by
            unfold fX4_isRinseDue
            rw [wGd_t sg, g3, wGd_t v_0_8, wGd_t v_2_8, show (0 : Int32).toNatClampNeg = 0 from rfl, show (2 : Int32).toNatClampNeg = 2 from rfl, ct0, ct2, h24, show nI 0 = (0 : Int32) from rfl, show nI 2 = (2 : Int32) from rfl]
            by_cases d10 : m1 31 k < 10
            · have : ¬ 10 ≤ m1 31 k := lt_nle d10
              rw [if_pos d10, if_neg this]
              by_cases d5 : m1 31 k < 5
              · rw [if_pos d5, if_pos d5]
              · rw [if_neg d5, if_neg d5]
                by_cases z0 : cnt (m 24) 0 N = 0
                · rw [if_pos ((cz _ (by omega)).mpr z0)]
                  by_cases z2 : cnt (m 24) 2 N = 0
                  · rw [if_pos ((cz _ (by omega)).mpr z2), if_pos ⟨z0, z2⟩]
                  · rw [if_neg (fun e => z2 ((cz _ (by omega)).mp e)), if_neg (fun e => z2 e.2)]
                · rw [if_neg (fun e => z0 ((cz _ (by omega)).mp e)), if_neg (fun e => z0 e.1)]
            · have : 10 ≤ m1 31 k := nlt_le d10
              rw [if_neg d10, if_pos this]
          rw [due]
          simp only [wGd_t v_1_3, show (1 : Int32).toNatClampNeg = 1 from rfl, m1', m2']
          have t := hSt 1 (by decide)
          rw [t.1]
          -- the deed itself
          have deed : 20 ≤ m1 17 1 → Rel ng N M nx sh ln (wU (wU (wU iv 6 1 (m1 17 1 - 20)) (k + 13) 1 2) (k + 13) 2 6) rv (wU (wU m1 17 1 (m1 17 1 - 20)) 30 k 6) := by
            intro hw
            refine R.grp (g := k) (fun a x y z => by rw [wU_ne a x, wU_ne a x, wU_ne a z]) (fun a x y z _ _ => by rw [wU_ne a z, wU_ne a y]) (fun d hd => by simp [wU_g, hd]) hk ?_ ?_ ?_ ?_
            · unfold RSc; rw [wU_ne 1 (by omega), wU_ne 1 (by omega), wU_ne 1 (by decide), wU_ne 1 (by decide), wU_ne 1 (by decide)]; exact hSc
            · intro j hj
              rw [wU_ne 6 (by omega), wU_ne 6 (by omega), wU_ne 17 (by decide)]
              simp only [wU_g]
              obtain ⟨t1, t2, t3⟩ := hSt j hj
              by_cases e : j = 1
              · subst e; simp; exact st_sub t2 t3 (by decide) hw
              · simp [e]; exact ⟨t1, t2, t3⟩
            · unfold GrpR
              simp only [wU_g]
              simp [show ¬ k + 13 = 6 by omega]
              exact ⟨g1, g2, g3, g4, u1, u5⟩
            · simp [wU_g, show ¬ 1 = k + 13 by omega]
          have fin : ∀ (b : Int32), 20 ≤ m1 17 1 → ∃ iv' m', wLt (wU iv 6 1 (m1 17 1 - 20)) (fun iv15 => match fX1_begin ng sh iv15 rv (k + 13) 2 6 with | none => none | some iv17 => fX4_beginRinses_10 ng sh n iv17 rv (nI ng) (nI (k + 1))) = some iv' ∧ fX5_cleans_22 n (wU (wU m1 17 1 (m1 17 1 - 20)) 30 k 6) (if cnt (m 24) 0 N = 0 ∧ cnt (m 24) 2 N = 0 then 1 else 0) (nI (k + 1)) = some m' ∧ Rel ng N M nx sh ln iv' rv m' := by
            intro b hw
            unfold fX1_begin
            simp only [wLt]
            exact ih d (k + 1) _ _ (by omega) (by omega) (deed hw) (by rw [wU_ne 24 (by decide), wU_ne 24 (by decide)]; exact h24)
          by_cases d10 : 10 ≤ m1 31 k
          · simp only [d10, if_true, show ¬ (1 : Int32) = 0 by decide, if_false]
            by_cases w0 : w = 0
            · simp only [w0, if_true]
              by_cases hw : m1 17 1 < 20
              · simp only [hw, if_true]; exact skip
              · simp only [hw, if_false]; exact skip
            · simp only [w0, if_false]
              by_cases hw : m1 17 1 < 20
              · have : ¬ 20 ≤ m1 17 1 := lt_nle hw
                simp only [hw, this, if_true, if_false]; exact skip
              · have hw' : 20 ≤ m1 17 1 := nlt_le hw
                simp only [hw, hw', if_true, if_false]
                exact fin 0 hw'
          · simp only [d10, if_false]
            by_cases d5 : m1 31 k < 5
            · simp only [d5, if_true]; exact skip
            · simp only [d5, if_false]
              by_cases id : cnt (m 24) 0 N = 0 ∧ cnt (m 24) 2 N = 0
              · have skip' := skip
                have fin' := fin
                simp only [id, and_self, if_true, show ¬ (1 : Int32) = 0 by decide, if_false] at skip' fin' ⊢
                by_cases w0 : w = 0
                · simp only [w0, if_true]
                  by_cases hw : m1 17 1 < 20
                  · simp only [hw, if_true]; exact skip'
                  · simp only [hw, if_false]; exact skip'
                · simp only [w0, if_false]
                  by_cases hw : m1 17 1 < 20
                  · have : ¬ 20 ≤ m1 17 1 := lt_nle hw
                    simp only [hw, this, if_true, if_false]; exact skip'
                  · have hw' : 20 ≤ m1 17 1 := nlt_le hw
                    simp only [hw, hw', if_true, if_false]
                    exact fin' 0 hw'
              · simp only [id, if_false, if_true] at skip ⊢; exact skip
  obtain ⟨iv', m', e1, e2, R⟩ := lp wN ng 0 iv m (by omega) (by unfold wN; omega) h rfl
  refine ⟨iv', m', by rw [show (0 : Int32) = nI 0 from rfl, e1], ?_, R⟩
  rw [show (if nI (cnt (m 24) 0 N) + nI (cnt (m 24) 2 N) = 0 then some (1 : Int32) else some 0) = some (if cnt (m 24) 0 N = 0 ∧ cnt (m 24) 2 N = 0 then 1 else 0) by
    by_cases e : cnt (m 24) 0 N = 0 ∧ cnt (m 24) 2 N = 0
    · rw [if_pos (hz.mpr e), if_pos e]
    · rw [if_neg (fun q => e (hz.mp q)), if_neg e]]
  simp only
  rw [show (0 : Int32) = nI 0 from rfl] at e2 ⊢
  rw [e2]
