theorem wU_2 (f : wI) (c j : Nat) (x y : Int32) : wU (wU f c j x) c j y = wU f c j y := by
  funext a b
  simp only [wU_g]
  split
  · split <;> simp
  · rfl
theorem Rel.heat {ng N M nx : Nat} {sh ln : Nat → Nat} {iv : wI} {rv : wJ} {m : wI} (h : Rel ng N M nx sh ln iv rv m) (x : Int32) : Rel ng N M nx sh ln (wU iv 1 11 x) rv (wU m 1 3 x) := by
  refine h.scalar (fun a ha => wU_ne a ha) (fun a ha => wU_ne a ha) ?_ (by simp [wU_g])
  obtain ⟨-, -, ⟨a1, a2, a3, a4, a5, a6, a7, a8, a9⟩, -⟩ := h
  unfold RSc
  simp only [wU_g]
  simp
  exact ⟨a1, a2, a3, a4, a5, a7, a8, a9⟩
theorem Rel.now {ng N M nx : Nat} {sh ln : Nat → Nat} {iv : wI} {rv : wJ} {m : wI} (h : Rel ng N M nx sh ln iv rv m) (x : Int32) : Rel ng N M nx sh ln (wU iv 1 12 x) rv (wU m 1 2 x) := by
  refine h.scalar (fun a ha => wU_ne a ha) (fun a ha => wU_ne a ha) ?_ (by simp [wU_g])
  obtain ⟨-, -, ⟨a1, a2, a3, a4, a5, a6, a7, a8, a9⟩, -⟩ := h
  unfold RSc
  simp only [wU_g]
  simp
  exact ⟨a1, a2, a3, a4, a5, a6, a8, a9⟩
theorem ring1 (h a : Int32) : h - 1 - a - 8 = h - (1 + a + 8) := by grind
theorem ring2 (h a : Int32) : h - 1 - a = h - (1 + a + 0) := by grind
theorem ring3 (h a : Int32) : h - a - 5 = h - (a + 5) := by grind
theorem pow_iff {l p : Int32} (h1 : 6 ≤ l) (h2 : l ≤ 30) (h3 : 0 ≤ p) (h4 : p ≤ 13) : l < p + 6 ↔ l - p < 6 := by grind
/-- the heat, and the clock: the rest of a tick -/
theorem tick3 {ng N M nx : Nat} {sh ln : Nat → Nat} {iv : wI} {rv : wJ} {m : wI} (h : Rel ng N M nx sh ln iv rv m) : ∃ (x : Int32), fX4_changeHeat ng sh iv rv = some (wU iv 1 11 x) ∧ Rel ng N M nx sh ln (wU iv 1 11 x) rv (wU m 1 3 x) ∧ ∃ h0, h0 = m 1 3 - (1 + 5 * nI (cnt (m 24) 3 N) + 8 * nI (cnt (m 24) 5 N)) ∧ ((950 ≤ h0 ∧ x = h0) ∨ (¬ 950 ≤ h0 ∧ ∃ p, fX5_power (wU m 1 3 h0) = some p ∧ ((m 1 1 - p < 6 ∧ x = h0) ∨ (¬ m 1 1 - p < 6 ∧ x = h0 + 14)))) := by
  obtain ⟨q1, q2, q3, q4, q5, q6, q7, q8, q9⟩ := h.N
  obtain ⟨w1, w2⟩ := h.brews
  obtain ⟨hB, hV, hSc, hSt, hRc, hCt, hCu, hFr, hGr, hWa, hGp, hLg⟩ := id h
  have hh : iv 1 11 = m 1 3 := hSc.2.2.2.2.2.1
  have lp : ∀ (n d k : Nat) (y : Int32), k + d = ng → d < n → fX4_changeHeat_20 ng sh n (wU iv 1 11 (y - nI (5 * sumTo (br iv) k))) rv (nI ng) (nI k) = some (wU iv 1 11 (y - nI (5 * sumTo (br iv) ng))) := by
    intro n
    induction n with
    | zero => intro d k y h1 h2; omega
    | succ n ih =>
      intro d k y h1 h2
      rw [fX4_changeHeat_20.eq_2]
      cases d with
      | zero => rw [if_pos (nI_le (by omega) (by omega)), show k = ng by omega]
      | succ d =>
        have hk : k < ng := by omega
        rw [if_neg (nI_ge hk (by omega)), wGd_t (vp_in_nI hk (by omega)), toNat_nI (by omega), nI_1 k, (hGp k hk).1, wGd_t (hB.2.2.2.2.2.2.1 k hk), wU_ne (k + 13) (by omega)]
        have key := ih d (k + 1) y (by omega) (by omega)
        rw [sumTo_s] at key
        by_cases e : iv (k + 13) 1 = 1
        · rw [if_pos e]
          simp only [wLt]
          rw [wU_2, show wU iv 1 11 (y - nI (5 * sumTo (br iv) k)) 1 11 = y - nI (5 * sumTo (br iv) k) by simp [wU_g], ring3, show (5 : Int32) = nI 5 from rfl, nI_add, show 5 * sumTo (br iv) k + 5 = 5 * (sumTo (br iv) k + br iv k) by unfold br; rw [if_pos e]; omega]
          exact key
        · rw [if_neg e]
          rw [show sumTo (br iv) k + br iv k = sumTo (br iv) k by unfold br; rw [if_neg e]; omega] at key
          exact key
  have l0 := lp wN ng 0 (m 1 3 - 1) (by omega) (by unfold wN; omega)
  rw [show (m 1 3 - 1) - nI (5 * sumTo (br iv) 0) = m 1 3 - 1 by show _ - (0 : Int32) = _; grind, ← w1, show nI 0 = (0 : Int32) from rfl] at l0
  -- what heat it is
  obtain ⟨h0, hh0⟩ : ∃ h0, h0 = m 1 3 - (1 + 5 * nI (cnt (m 24) 3 N) + 8 * nI (cnt (m 24) 5 N)) := ⟨_, rfl⟩
  have R0 := h.heat h0
  obtain ⟨p1, p2, p3⟩ := R0.power
  have e5 : nI (5 * cnt (m 24) 3 N) = 5 * nI (cnt (m 24) 3 N) := (pk_mul 5 (cnt (m 24) 3 N)).symm
  have mid : (if rv 1 9 = 0 then some (wU iv 1 11 (m 1 3 - 1 - nI (5 * cnt (m 24) 3 N))) else wLt (wU (wU iv 1 11 (m 1 3 - 1 - nI (5 * cnt (m 24) 3 N))) 1 11 (wU iv 1 11 (m 1 3 - 1 - nI (5 * cnt (m 24) 3 N)) 1 11 - 8)) (fun (iv20 : wI) => some iv20)) = some (wU iv 1 11 h0) := by
    rw [e5]
    by_cases z : rv 1 9 = 0
    · rw [if_pos z, hh0, hWa.cnt, if_pos z, ring2]; rfl
    · rw [if_neg z, wLt, wU_2, show wU iv 1 11 (m 1 3 - 1 - 5 * nI (cnt (m 24) 3 N)) 1 11 = m 1 3 - 1 - 5 * nI (cnt (m 24) 3 N) by simp [wU_g], hh0, hWa.cnt, if_neg z, ring1]; rfl
  have pwn : nI (pw ng N (wU m 1 3 h0)) ≤ 13 := nI_le (b := 13) p3 (by decide)
  have pwp : 0 ≤ nI (pw ng N (wU m 1 3 h0)) := nI_pos' (by omega)
  have lim := hSc.2.2.2.2.1
  have li : wU iv 1 11 h0 1 10 = m 1 1 := by simp [wU_g]; exact hSc.2.2.2.1
  have heq : fX4_changeHeat ng sh iv rv = (if 950 ≤ h0 then some (wU iv 1 11 h0) else if m 1 1 < nI (pw ng N (wU m 1 3 h0)) + 6 then some (wU iv 1 11 h0) else some (wU iv 1 11 (h0 + 14))) := by
    unfold fX4_changeHeat
    simp only [wLt]
    rw [hh, l0]
    simp only [wBd]
    simp only [wLt] at mid
    rw [mid]
    simp only
    rw [show wU iv 1 11 h0 1 11 = h0 by simp [wU_g]]
    by_cases hot : 950 ≤ h0
    · rw [if_pos hot, if_pos hot]
    · rw [if_neg hot, if_neg hot]
      unfold fX4_isPowerFor
      rw [p1]
      simp only [wBd, li]
      by_cases e : m 1 1 < nI (pw ng N (wU m 1 3 h0)) + 6
      · rw [if_pos e, if_pos e]; rfl
      · rw [if_neg e, if_neg e]
        simp only
        rw [if_neg (show ¬ (1 : Int32) = 0 by decide), wU_2]
  have pi := pow_iff lim.1 lim.2 pwp pwn
  rw [heq]
  by_cases hot : 950 ≤ h0
  · exact ⟨h0, by rw [if_pos hot], R0, h0, hh0, Or.inl ⟨hot, rfl⟩⟩
  · rw [if_neg hot]
    by_cases e : m 1 1 < nI (pw ng N (wU m 1 3 h0)) + 6
    · exact ⟨h0, by rw [if_pos e], R0, h0, hh0, Or.inr ⟨hot, _, p2, Or.inl ⟨pi.mp e, rfl⟩⟩⟩
    · exact ⟨h0 + 14, by rw [if_neg e], h.heat _, h0, hh0, Or.inr ⟨hot, _, p2, Or.inr ⟨fun q => e (pi.mpr q), rfl⟩⟩⟩
theorem tick {ng N M nx n : Nat} {x1 x2 : Int32} {sh ln : Nat → Nat} {iv : wI} {rv : wJ} {m : wI} (h : Rel ng N M nx sh ln iv rv m) (hx : ¬ x1 ≤ x2) (hn : ¬ 20000 ≤ m 1 2) : ∃ iv' rv' m', fX4_goOneTick ng sh iv rv = some (iv', rv') ∧ fX5_go_15 (n + 1) m x1 x2 = fX5_go_15 n m' x1 (x2 + 1) ∧ Rel ng N M nx sh ln iv' rv' m' := by
  obtain ⟨q1, q2, q3, q4, q5, q6, q7, q8, q9⟩ := h.N
  obtain ⟨iv1, rv1, iv2, rv2, iv3, rv3, iv4, rv4, a1, a2, a3, a4, R4⟩ := tick1 h
  obtain ⟨iv5, rv5, m5, b1, b2, R5⟩ := begin_steam R4
  obtain ⟨iv6, m6, c1, c2, R6⟩ := begin_rinse R5
  obtain ⟨iv7, rv7, m7, d1, d2, R7⟩ := begin_brew R6
  obtain ⟨iv8, rv8, m8, e1, e2, R8⟩ := begin_grind R7
  obtain ⟨x, f1, R9, h0, g1, g2⟩ := tick3 R8
  obtain ⟨z1, z2, z3, -⟩ := R8.N
  have hnow : wU iv8 1 11 x 1 12 = wU m8 1 3 x 1 2 := R9.2.2.1.2.2.2.2.2.2.1
  refine ⟨_, _, wU (wU m8 1 3 x) 1 2 (wU m8 1 3 x 1 2 + 1), ?_, ?_, R9.now _⟩
  · unfold fX4_goOneTick
    rw [a1]; simp only [wB2]
    rw [a2]; simp only [wB2]
    rw [a3]; simp only [wB2]
    rw [a4]; simp only [wB2]
    rw [b1]; simp only [wB2]
    rw [c1]; simp only [wBd]
    rw [d1]; simp only [wB2]
    rw [e1]; simp only [wB2]
    rw [f1]; simp only [wBd, wLt]
    rw [hnow]
  · rw [fX5_go_15.eq_2, if_neg hx, if_neg hn, m_goesOn q3 q1 q6 q4]
    simp only [wBd]
    rw [b2]; simp only
    rw [c2]; simp only
    rw [d2]; simp only
    rw [e2]; simp only
    rw [m_countOf 3 z3 z1, m_countOf 5 z3 z1]
    simp only [wLt]
    rw [← g1, show wU m8 1 3 h0 1 3 = h0 by simp [wU_g]]
    rcases g2 with ⟨u1, u2⟩ | ⟨u1, p, u2, ⟨u3, u4⟩ | ⟨u3, u4⟩⟩
    · rw [if_pos u1, u2]
    · rw [if_neg u1, u2]; simp only
      rw [show wU m8 1 3 h0 1 1 = m8 1 1 by simp [wU_g], if_pos u3, u4]
    · rw [if_neg u1, u2]; simp only
      rw [show wU m8 1 3 h0 1 1 = m8 1 1 by simp [wU_g], if_neg u3, u4, wU_2]
theorem sim_go {ng N M nx : Nat} {sh ln : Nat → Nat} {iv : wI} {rv : wJ} {m : wI} (h : Rel ng N M nx sh ln iv rv m) (a : Int32) : ∃ iv' rv' m' r, fX4_go ng sh iv rv a = some (iv', rv', r) ∧ fX5_go m a = some (m', r) ∧ Rel ng N M nx sh ln iv' rv' m' := by
  unfold fX4_go fX5_go
  rw [in_eq a 0 500]
  by_cases h1 : a < 0
  · exact ⟨iv, rv, m, -1, by rw [if_pos h1], by simp [h1, wBd], h⟩
  · by_cases h2 : 500 < a
    · exact ⟨iv, rv, m, -1, by rw [if_neg h1, if_neg (by grind)], by simp [h1, h2, wBd], h⟩
    · obtain ⟨b, hb, rfl⟩ := nI_of2 (M := 500) (n := 500) rfl h1 (nlt_le h2)
      have lp : ∀ (n k : Nat) (iv : wI) (rv : wJ) (m : wI), k ≤ b → b < k + n → Rel ng N M nx sh ln iv rv m → ∃ iv' rv' m', fX4_go_15 ng sh n iv rv (nI b) (nI k) = some (iv', rv') ∧ fX5_go_15 n m (nI b) (nI k) = some m' ∧ Rel ng N M nx sh ln iv' rv' m' := by
        intro n
        induction n with
        | zero => intro k iv rv m h1 h2; omega
        | succ n ih =>
          intro k iv rv m h1 h2 R
          have hnow : iv 1 12 = m 1 2 := R.2.2.1.2.2.2.2.2.2.1
          rw [fX4_go_15.eq_2, hnow]
          by_cases hk : b ≤ k
          · exact ⟨iv, rv, m, by rw [if_pos (nI_le hk (by omega))], by rw [fX5_go_15.eq_2, if_pos (nI_le hk (by omega))], R⟩
          · rw [if_neg (nI_ge (by omega) (by omega))]
            by_cases hn : 20000 ≤ m 1 2
            · exact ⟨iv, rv, m, by rw [if_pos hn], by rw [fX5_go_15.eq_2, if_neg (nI_ge (by omega) (by omega)), if_pos hn], R⟩
            · rw [if_neg hn]
              obtain ⟨iv', rv', m', e1, e2, R'⟩ := tick (n := n) (x1 := nI b) (x2 := nI k) R (nI_ge (by omega) (by omega)) hn
              rw [e1, e2, nI_1 k]
              simp only [wB2]
              exact ih (k + 1) iv' rv' m' (by omega) (by omega) R'
      obtain ⟨iv', rv', m', e1, e2, R'⟩ := lp wN 0 iv rv m (by omega) (by unfold wN; omega) h
      rw [show nI 0 = (0 : Int32) from rfl] at e1 e2
      refine ⟨iv', rv', m', m' 1 2, ?_, ?_, R'⟩
      · rw [if_neg h1, if_pos (by grind), e1]
        simp only [wB2]
        rw [show iv' 1 12 = m' 1 2 from R'.2.2.1.2.2.2.2.2.2.1]
      · simp only [h1, h2, if_false, wBd]
        rw [if_neg (show ¬ (1 : Int32) = 0 by decide), e2]
