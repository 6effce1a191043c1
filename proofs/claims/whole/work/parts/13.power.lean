def sumTo (f : Nat → Nat) : Nat → Nat
  | 0 => 0
  | n + 1 => sumTo f n + f n
theorem sumTo_s (f : Nat → Nat) (n : Nat) : sumTo f (n + 1) = sumTo f n + f n := rfl
theorem v_0_3 : vp_in 0 3 := vp_in_nI (n := 0) (by decide) (by decide)
theorem v_1_3 : vp_in 1 3 := vp_in_nI (n := 1) (by decide) (by decide)
theorem v_2_3 : vp_in 2 3 := vp_in_nI (n := 2) (by decide) (by decide)
theorem v_0_8 : vp_in 0 8 := vp_in_nI (n := 0) (by decide) (by decide)
theorem v_2_8 : vp_in 2 8 := vp_in_nI (n := 2) (by decide) (by decide)
theorem v_6_8 : vp_in 6 8 := vp_in_nI (n := 6) (by decide) (by decide)
theorem sumTo_congr {f g : Nat → Nat} : ∀ {n : Nat}, (∀ i, i < n → f i = g i) → sumTo f n = sumTo g n
  | 0, _ => rfl
  | n + 1, h => by unfold sumTo; rw [sumTo_congr (fun i hi => h i (by omega)), h n (by omega)]
theorem sumTo_add {f g : Nat → Nat} : ∀ {n : Nat}, sumTo (fun i => f i + g i) n = sumTo f n + sumTo g n
  | 0 => rfl
  | n + 1 => by unfold sumTo; rw [sumTo_add (n := n)]; omega
theorem sumTo_one {c : Nat} : ∀ {n : Nat}, c < n → sumTo (fun i => if i = c then 1 else 0) n = 1
  | 0, h => by omega
  | n + 1, h => by
    unfold sumTo
    by_cases hn : n = c
    · subst hn
      rw [sumTo_congr (g := fun _ => 0) (fun i hi => if_neg (by omega))]
      have : ∀ k, sumTo (fun _ => 0) k = 0 := by
        intro k
        induction k with
        | zero => rfl
        | succ k ih => unfold sumTo; rw [ih]
      rw [this, if_pos rfl]
    · rw [sumTo_one (by omega), if_neg hn]
/-- cups that brew in group g -/
def cb (m : wI) (g : Nat) : Nat → Nat
  | 0 => 0
  | n + 1 => cb m g n + if m 24 n = 3 ∧ m 26 n = nI g then 1 else 0
theorem cb_none {m : wI} {g : Nat} : ∀ {n : Nat}, (∀ i, i < n → m 24 i = 3 → m 26 i ≠ nI g) → cb m g n = 0
  | 0, _ => rfl
  | n + 1, hh => by
    unfold cb
    rw [cb_none (n := n) (fun i hi => hh i (by omega)), if_neg (fun e => hh n (by omega) e.1 e.2)]
theorem cb_one {m : wI} {g c : Nat} : ∀ {n : Nat}, c < n → m 24 c = 3 → m 26 c = nI g → (∀ i, i < n → m 24 i = 3 → m 26 i = nI g → i = c) → cb m g n = 1
  | 0, hc, _, _, _ => by omega
  | n + 1, hc, he, h2, hu => by
    unfold cb
    by_cases hn : c = n
    · subst hn
      rw [cb_none (n := c) (fun i hi e e2 => absurd (hu i (by omega) e e2) (by omega)), if_pos ⟨he, h2⟩]
    · rw [cb_one (n := n) (by omega) he h2 (fun i hi => hu i (by omega)), if_neg (fun e => hn (hu n (by omega) e.1 e.2).symm)]
theorem cb_sum {m : wI} {ng : Nat} (hg : ng ≤ 3) : ∀ {n : Nat}, (∀ i, i < n → m 24 i = 3 → ∃ g, g < ng ∧ m 26 i = nI g) → cnt (m 24) 3 n = sumTo (fun g => cb m g n) ng
  | 0, _ => by
    have : ∀ k, sumTo (fun g => cb m g 0) k = 0 := by
      intro k
      induction k with
      | zero => rfl
      | succ k ih => unfold sumTo; rw [ih]; rfl
    rw [this]; rfl
  | n + 1, h => by
    unfold cnt
    rw [cb_sum hg (n := n) (fun i hi => h i (by omega))]
    by_cases he : m 24 n = 3
    · obtain ⟨g, h1, h2⟩ := h n (by omega) he
      rw [if_pos he, show sumTo (fun g => cb m g (n + 1)) ng = sumTo (fun g' => cb m g' n + if g' = g then 1 else 0) ng from sumTo_congr (fun i hi => by
        show cb m i n + _ = cb m i n + _
        by_cases hi2 : i = g
        · rw [if_pos ⟨he, by rw [hi2]; exact h2⟩, if_pos hi2]
        · rw [if_neg (fun e => hi2 (by have := e.2; rw [h2] at this; exact ((nI_eq (by omega) (by omega)).mp this).symm)), if_neg hi2]), sumTo_add, sumTo_one h1]
    · rw [if_neg he, Nat.add_zero]
      exact sumTo_congr (fun i hi => by
        show cb m i n = cb m i n + _
        rw [if_neg (fun e => he e.1), Nat.add_zero])
/-- groups that rinse; groups that are not free; groups that brew -/
def rn (m : wI) (g : Nat) : Nat := if m 30 g ≤ 0 then 0 else 1
def nf (iv : wI) (g : Nat) : Nat := if iv (g + 13) 1 = 0 then 0 else 1
def br (iv : wI) (g : Nat) : Nat := if iv (g + 13) 1 = 1 then 1 else 0
theorem sumTo_le {f : Nat → Nat} (h : ∀ i, f i ≤ 1) : ∀ n, sumTo f n ≤ n
  | 0 => Nat.le_refl _
  | n + 1 => by unfold sumTo; have := sumTo_le h n; have := h n; omega
theorem grp_nf {N : Nat} {iv : wI} {rv : wJ} {m : wI} {g : Nat} (h : GrpR N iv rv m g) : nf iv g = cb m g N + rn m g ∧ br iv g = cb m g N := by
  obtain ⟨-, -, -, -, k⟩ := h
  unfold nf rn br
  rcases k with ⟨k1, k2, k3, k4, k5⟩ | ⟨k1, k2, k3, k4, k5⟩ | ⟨c, k1, k2, k3, k4, k5, k6, k7, k8⟩
  · rw [cb_none k5]; simp [k2, k4]
  · have : ¬ m 30 g ≤ 0 := by grind
    rw [cb_none k5]; simp [k2, this]
  · rw [cb_one k1 k6 k7 k8]; simp [k3, k5]
def pw (ng N : Nat) (m : wI) : Nat := 4 * cnt (m 24) 1 N + 2 * cnt (m 24) 3 N + 3 * cnt (m 24) 5 N + 2 * sumTo (rn m) ng
theorem m_power {m : wI} {ng N : Nat} (hN : m 1 8 = nI N) (hL : N ≤ 100) (hg : m 1 0 = nI ng) (hg3 : ng ≤ 3) : fX5_power m = some (nI (pw ng N m)) := by
  have lp : ∀ (n k b : Nat), k ≤ ng → ng < k + n → fX5_power_26 n m (nI (b + 2 * sumTo (rn m) k)) (nI k) = some (nI (b + 2 * sumTo (rn m) ng)) := by
    intro n
    induction n with
    | zero => intro k b h1 h2; omega
    | succ n ih =>
      intro k b h1 h2
      rw [fX5_power_26.eq_2, hg]
      by_cases hk : ng ≤ k
      · rw [if_pos (nI_le hk (by omega)), show k = ng by omega]
      · rw [if_neg (nI_ge (by omega) (by omega)), wGd_t (vp_in_nI (by omega) (by decide)), toNat_nI (by omega), nI_1 k]
        have := ih (k + 1) b (by omega) (by omega)
        rw [sumTo_s] at this
        by_cases he : m 30 k ≤ 0
        · rw [if_pos he, show nI (b + 2 * sumTo (rn m) k) + 0 = nI (b + 2 * (sumTo (rn m) k + rn m k)) by unfold rn; rw [if_pos he]; simp]
          exact this
        · rw [if_neg he, show nI (b + 2 * sumTo (rn m) k) + 2 = nI (b + 2 * (sumTo (rn m) k + rn m k)) by
            unfold rn; rw [if_neg he, show (2 : Int32) = nI 2 from rfl, nI_add]; congr 1]
          exact this
  unfold fX5_power
  rw [m_countOf 1 hN hL, m_countOf 3 hN hL, m_countOf 5 hN hL]
  simp only [wBd, wLt]
  rw [show (4 : Int32) = nI 4 from rfl, show (2 : Int32) = nI 2 from rfl, show (3 : Int32) = nI 3 from rfl, pk_mul, pk_mul, pk_mul, nI_add, nI_add]
  have := lp wN 0 (4 * cnt (m 24) (nI 1) N + 2 * cnt (m 24) (nI 3) N + 3 * cnt (m 24) (nI 5) N) (by omega) (by unfold wN; omega)
  simp only [sumTo, Nat.mul_zero, Nat.add_zero] at this
  rw [show (0 : Int32) = nI 0 from rfl, show (1 : Int32) = nI 1 from rfl, show (5 : Int32) = nI 5 from rfl, this]
  rfl
theorem RAt.cnt {N : Nat} {rv : wJ} {m : wI} {f : Nat} {s : Int32} (h : RAt N rv m f s) : cnt (m 24) s N = if rv 1 f = 0 then 0 else 1 := by
  rcases h with ⟨h1, h2⟩ | ⟨c, h1, h2, h3, h4⟩
  · rw [cnt_none h2, if_pos h1]
  · rw [cnt_one h1 h3 h4, if_neg (by omega)]
theorem Rel.brews {ng N M nx : Nat} {sh ln : Nat → Nat} {iv : wI} {rv : wJ} {m : wI} (h : Rel ng N M nx sh ln iv rv m) : cnt (m 24) 3 N = sumTo (br iv) ng ∧ cnt (m 24) 3 N + sumTo (rn m) ng = sumTo (nf iv) ng := by
  obtain ⟨hB, hV, hSc, hSt, hRc, hCt, hCu, hFr, hGr, hWa, hGp, hLg⟩ := h
  have h1 : cnt (m 24) 3 N = sumTo (fun g => cb m g N) ng := cb_sum hB.2.2.1 (fun i hi e => by
    obtain ⟨g, hg, g1, -⟩ := (hCu i hi).2.2.2.2.2.2.2.2.2.2.2.2.1 e
    exact ⟨g, hg, g1⟩)
  constructor
  · rw [h1]; exact sumTo_congr (fun g hg => (grp_nf (hGp g hg)).2.symm)
  · rw [h1, ← sumTo_add]; exact sumTo_congr (fun g hg => (grp_nf (hGp g hg)).1.symm)
theorem Rel.power {ng N M nx : Nat} {sh ln : Nat → Nat} {iv : wI} {rv : wJ} {m : wI} (h : Rel ng N M nx sh ln iv rv m) : fX4_powerThatGoes ng sh iv rv = some (nI (pw ng N m)) ∧ fX5_power m = some (nI (pw ng N m)) ∧ pw ng N m ≤ 13 := by
  obtain ⟨q1, q2, q3, q4, q5, q6, q7, q8, q9⟩ := h.N
  obtain ⟨w1, w2⟩ := h.brews
  obtain ⟨hB, hV, hSc, hSt, hRc, hCt, hCu, hFr, hGr, hWa, hGp, hLg⟩ := h
  have c1 := hGr.cnt
  have c5 := hWa.cnt
  have hn : sumTo (nf iv) ng ≤ ng := sumTo_le (fun i => by unfold nf; split <;> omega) ng
  have hp : pw ng N m = (if rv 1 8 = 0 then 0 else 4) + (if rv 1 9 = 0 then 0 else 3) + 2 * sumTo (nf iv) ng := by
    unfold pw
    rw [c1, c5, ← w2]
    split <;> split <;> omega
  refine ⟨?_, m_power q3 q1 q6 q4, by rw [hp]; split <;> split <;> omega⟩
  have lp : ∀ (n k b : Nat), k ≤ ng → ng < k + n → fX4_powerThatGoes_33 ng sh n iv rv (nI ng) (nI (b + 2 * sumTo (nf iv) k)) (nI k) = some (nI (b + 2 * sumTo (nf iv) ng)) := by
    intro n
    induction n with
    | zero => intro k b h1 h2; omega
    | succ n ih =>
      intro k b h1 h2
      rw [fX4_powerThatGoes_33.eq_2]
      by_cases hk : ng ≤ k
      · rw [if_pos (nI_le hk (by omega)), show k = ng by omega]
      · rw [if_neg (nI_ge (by omega) (by omega)), wGd_t (vp_in_nI (by omega) (by omega)), toNat_nI (by omega), nI_1 k, (hGp k (by omega)).1, wGd_t (hB.2.2.2.2.2.2.1 k (by omega))]
        have := ih (k + 1) b (by omega) (by omega)
        rw [sumTo_s] at this
        by_cases he : iv (k + 13) 1 = 0
        · rw [if_pos he, show nI (b + 2 * sumTo (nf iv) k) = nI (b + 2 * (sumTo (nf iv) k + nf iv k)) by unfold nf; rw [if_pos he]; simp]
          exact this
        · rw [if_neg he, show nI (b + 2 * sumTo (nf iv) k) + 2 = nI (b + 2 * (sumTo (nf iv) k + nf iv k)) by
            unfold nf; rw [if_neg he, show (2 : Int32) = nI 2 from rfl, nI_add]; congr 1]
          exact this
  unfold fX4_powerThatGoes
  have l2 := lp wN 0 ((if rv 1 8 = 0 then 0 else 4) + (if rv 1 9 = 0 then 0 else 3)) (by omega) (by unfold wN; omega)
  simp only [sumTo, Nat.mul_zero, Nat.add_zero] at l2
  rw [← hp] at l2
  by_cases e1 : rv 1 8 = 0 <;> by_cases e2 : rv 1 9 = 0
  · simp only [e1, e2, if_true, wBd] at l2 ⊢
    rw [show (0 : Int32) = nI 0 from rfl, l2]
  · simp only [e1, e2, if_true, if_false, wBd] at l2 ⊢
    rw [show (0 : Int32) + 3 = nI (0 + 3) from rfl, show (0 : Int32) = nI 0 from rfl, l2]
  · simp only [e1, e2, if_true, if_false, wBd] at l2 ⊢
    rw [show (0 : Int32) + 4 = nI (4 + 0) from rfl, show (0 : Int32) = nI 0 from rfl, l2]
  · simp only [e1, e2, if_false, wBd] at l2 ⊢
    rw [show (0 : Int32) + 4 + 3 = nI (4 + 3) from rfl, show (0 : Int32) = nI 0 from rfl, l2]
/-- is there power for more *)-/
theorem Rel.mayTake {ng N M nx : Nat} {sh ln : Nat → Nat} {iv : wI} {rv : wJ} {m : wI} (h : Rel ng N M nx sh ln iv rv m) (a : Int32) : ∃ r : Int32, fX4_isPowerFor ng sh iv rv a = some r ∧ fX5_mayTake m a = some r := by
  obtain ⟨p1, p2, -⟩ := h.power
  unfold fX4_isPowerFor fX5_mayTake
  rw [p1, p2]
  simp only [wBd]
  rw [show iv 1 10 = m 1 1 from h.2.2.1.2.2.2.1]
  by_cases e : m 1 1 < nI (pw ng N m) + a
  · exact ⟨0, by rw [if_pos e], by rw [if_pos e]⟩
  · exact ⟨1, by rw [if_neg e], by rw [if_neg e]⟩
theorem sim_count {ng N M nx : Nat} {sh ln : Nat → Nat} {iv : wI} {rv : wJ} {m : wI} (h : Rel ng N M nx sh ln iv rv m) (a : Int32) : ∃ r, fX4_count ng sh iv rv a = some r ∧ fX5_count m a = some r := by
  obtain ⟨q1, q2, q3, q4, q5, q6, q7, q8, q9⟩ := h.N
  obtain ⟨p1, p2, -⟩ := h.power
  obtain ⟨hB, hV, ⟨s1, s2, s3, s4, s5, s6, s7, s8, s9, s10⟩, hSt, hRc, hCt, hCu, hFr, hGr, hWa, hGp, hLg⟩ := h
  unfold fX4_count fX5_count
  rw [p1, p2, m_countOf 6 q3 q1, m_countOf 0 q3 q1]
  have t0 := (hSt 0 (by decide)).1
  have t1 := (hSt 1 (by decide)).1
  have t2 := (hSt 2 (by decide)).1
  have c0 := hCt 0 (by decide)
  have c6 := hCt 6 (by decide)
  simp only [wBd, show (0 : Int32).toNatClampNeg = 0 from rfl, show (1 : Int32).toNatClampNeg = 1 from rfl, show (2 : Int32).toNatClampNeg = 2 from rfl, show (6 : Int32).toNatClampNeg = 6 from rfl, wGd_t v_0_3, wGd_t v_1_3, wGd_t v_2_3, wGd_t v_0_8, wGd_t v_6_8, t0, t1, t2, c0, c6, q2, q3, s6, s7, s8, s9, s10]
  have lg : ∀ (n d k : Nat) (x : Int32), k + d = N → d < n → 0 ≤ x → (∀ i, i < k → m 24 i = 6 → m 28 i - m 23 i ≤ x) → (x = 0 ∨ ∃ i, i < N ∧ m 24 i = 6 ∧ x = m 28 i - m 23 i) → fX5_count_139 n m x (nI k) = some (iv 1 16) := by
    intro n
    induction n with
    | zero => intro d k x h1 h2; omega
    | succ n ih =>
      intro d k x h1 h2 g1 g2 g3
      rw [fX5_count_139.eq_2, q3]
      cases d with
      | zero =>
        rw [if_pos (nI_le (by omega) (by omega))]
        obtain ⟨l1, l2, l3⟩ := hLg
        have hk : k = N := by omega
        subst hk
        have e1 : x ≤ iv 1 16 := by
          rcases g3 with g3 | ⟨i, i1, i2, i3⟩
          · rw [g3]; exact l1
          · rw [i3]; exact l2 i i1 i2
        have e2 : iv 1 16 ≤ x := by
          rcases l3 with l3 | ⟨i, i1, i2, i3⟩
          · rw [l3]; exact g1
          · rw [i3]; exact g2 i i1 i2
        rw [show x = iv 1 16 by grind]
      | succ d =>
        rw [if_neg (nI_ge (by omega) (by omega)), wGd_t (vp_in_nI (by omega) (by decide)), toNat_nI (by omega), nI_1 k]
        by_cases he : m 24 k = 6
        · rw [if_pos he]
          by_cases hl : m 28 k - m 23 k ≤ x
          · rw [if_pos hl]
            exact ih d (k + 1) x (by omega) (by omega) g1 (fun i hi e => by
              by_cases hik : i = k
              · rw [hik]; exact hl
              · exact g2 i (by omega) e) g3
          · rw [if_neg hl]; unfold wLt
            exact ih d (k + 1) _ (by omega) (by omega) (by grind) (fun i hi e => by
              by_cases hik : i = k
              · rw [hik]; grind
              · have := g2 i (by omega) e; grind) (Or.inr ⟨k, by omega, he, rfl⟩)
        · rw [if_neg he]
          exact ih d (k + 1) x (by omega) (by omega) g1 (fun i hi e => by
            by_cases hik : i = k
            · exact absurd (hik ▸ e) he
            · exact g2 i (by omega) e) g3
  have l12 := lg wN N 0 0 (by omega) (by unfold wN; omega) (by decide) (fun i hi => by omega) (Or.inl rfl)
  rw [show (0 : Int32) = nI 0 from rfl] at l12
  by_cases a0 : a = 0
  · exact ⟨m 1 2, by simp [a0], by simp [a0]⟩
  by_cases a1 : a = 1
  · exact ⟨m 1 3, by simp [a1], by simp [a1]⟩
  by_cases a2 : a = 2
  · exact ⟨nI (pw ng N m), by simp [a2], by simp [a2]⟩
  by_cases a3 : a = 3
  · exact ⟨nI N, by simp [a3], by simp [a3]⟩
  by_cases a4 : a = 4
  · exact ⟨nI (cnt (m 24) 6 N), by simp [a4]; rfl, by simp [a4]⟩
  by_cases a5 : a = 5
  · exact ⟨nI (cnt (m 24) 0 N), by simp [a5]; rfl, by simp [a5]⟩
  by_cases a6 : a = 6
  · exact ⟨m 17 0, by simp [a6], by simp [a6]⟩
  by_cases a7 : a = 7
  · exact ⟨m 17 1, by simp [a7], by simp [a7]⟩
  by_cases a8 : a = 8
  · exact ⟨m 17 2, by simp [a8], by simp [a8]⟩
  by_cases a9 : a = 9
  · exact ⟨m 1 23, by simp [a9], by simp [a9]⟩
  by_cases a10 : a = 10
  · exact ⟨m 1 24, by simp [a10], by simp [a10]⟩
  by_cases a11 : a = 11
  · exact ⟨m 1 25, by simp [a11], by simp [a11]⟩
  by_cases a12 : a = 12
  · have l13 : fX5_count_139 wN m 0 0 = some (iv 1 16) := l12
    exact ⟨iv 1 16, by simp [a12], by simp [a12, l13]⟩
  exact ⟨-1, by simp [a0, a1, a2, a3, a4, a5, a6, a7, a8, a9, a10, a11, a12], by simp [a0, a1, a2, a3, a4, a5, a6, a7, a8, a9, a10, a11, a12]⟩
