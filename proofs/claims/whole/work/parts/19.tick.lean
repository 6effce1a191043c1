theorem lt_up {k : Nat} {x : Int32} (hk : k ≤ 3) (h : x < nI k) : x < nI (k + 1) := by
  rw [lt_iff, nI_toInt (by omega)] at *
  omega
theorem lt_sp {k : Nat} {x : Int32} (hk : k ≤ 3) (h : x < nI (k + 1)) (h2 : ¬ x < nI k) : x = nI k := by
  rw [lt_iff, nI_toInt (by omega)] at *
  rw [eq_iff, nI_toInt (by omega)]
  omega
theorem ms_idle {m : wI} {c : Nat} (h1 : m 24 c ≠ 1) (h2 : m 24 c ≠ 2) (h3 : m 24 c ≠ 3) (h5 : m 24 c ≠ 5) : ms m c = m := by
  unfold ms
  rw [if_neg h2, if_neg (by simp [h1, h3, h5])]
theorem ms_1 {m : wI} {c : Nat} (h : m 24 c = 1) : ms m c = goes m c ∧ (ms m c 24 c = 1 ∨ ms m c 24 c = 2) := by
  have e : ms m c = goes m c := by unfold ms; rw [if_neg (by rw [h]; decide), if_pos (Or.inl h)]
  refine ⟨e, ?_⟩
  rw [e]
  unfold goes
  rw [if_pos h]
  split <;> simp [wU_g, h]
theorem ms_5 {m : wI} {c : Nat} (h : m 24 c = 5) : ms m c = goes m c ∧ (ms m c 24 c = 5 ∨ ms m c 24 c = 6) := by
  have e : ms m c = goes m c := by unfold ms; rw [if_neg (by rw [h]; decide), if_pos (Or.inr (Or.inr h))]
  refine ⟨e, ?_⟩
  rw [e]
  unfold goes
  rw [if_neg (show ¬ m 24 c = 1 by rw [h]; decide), if_neg (show ¬ m 24 c = 3 by rw [h]; decide)]
  split <;> simp [wU_g, h]
theorem ms_3 {m : wI} {c : Nat} (h : m 24 c = 3) : ms m c = goes m c ∧ (ms m c 24 c = 3 ∨ ms m c 24 c = 4 ∨ ms m c 24 c = 6) := by
  have e : ms m c = goes m c := by unfold ms; rw [if_neg (by rw [h]; decide), if_pos (Or.inr (Or.inl h))]
  refine ⟨e, ?_⟩
  rw [e]
  unfold goes
  rw [if_neg (show ¬ m 24 c = 1 by rw [h]; decide), if_pos h]
  (repeat' split) <;> simp [wU_g, h]
theorem ms_2 {m : wI} {c : Nat} (h : m 24 c = 2) (h2 : ¬ m 1 2 - m 27 c < 30) : ms m c = spl m c := by
  unfold ms
  rw [if_pos h, if_neg h2]
theorem ms_2n {m : wI} {c : Nat} (h : m 24 c = 2) (h2 : m 1 2 - m 27 c < 30) : ms m c = m := by
  unfold ms
  rw [if_pos h, if_pos h2]
theorem ms_26 (m : wI) (c : Nat) : ms m c 26 c = m 26 c := by
  unfold ms goes spl
  (repeat' split) <;> simp [wU_g]
theorem ms_new {m : wI} {c : Nat} (h : m 24 c ≠ 2) (h2 : ms m c 24 c = 2) : ms m c 27 c = m 1 2 := by
  unfold ms goes at *
  rw [if_neg h] at *
  revert h2
  (repeat' split) <;> simp_all [wU_g]
theorem adv_c {N ng : Nat} {S G : Nat → Bool} {m : wI} {a c : Nat} (h : S c = false) (h1 : 24 ≤ a) (h2 : a ≤ 29) : adv N ng S G m a c = m a c := by
  unfold adv
  rw [if_neg (by omega), if_pos ⟨h1, h2⟩, h]
  rfl
theorem adv_t {N ng : Nat} {S G : Nat → Bool} {m : wI} {a c : Nat} (h : S c = true) (h1 : 24 ≤ a) (h2 : a ≤ 29) : adv N ng S G m a c = ms m c a c := by
  unfold adv
  rw [if_neg (by omega), if_pos ⟨h1, h2⟩, h]
  rfl
/-- the class's first half of a tick -/
theorem tick1 {ng N M nx : Nat} {sh ln : Nat → Nat} {iv : wI} {rv : wJ} {m : wI} (h : Rel ng N M nx sh ln iv rv m) : ∃ iv1 rv1 iv2 rv2 iv3 rv3 iv4 rv4, fX4_endGrinding ng sh iv rv = some (iv1, rv1) ∧ fX4_endSteaming ng sh iv1 rv1 = some (iv2, rv2) ∧ fX4_goOneTick_18 ng sh wN iv2 rv2 (nI ng) 0 = some (iv3, rv3) ∧ fX4_throwAwayOldGrounds ng sh iv3 rv3 = some (iv4, rv4) ∧ Rel ng N M nx sh ln iv4 rv4 (adv N ng (upto N) (upto ng) m) := by
  obtain ⟨q1, q2, q3, q4, q5, q6, q7, q8, q9⟩ := h.N
  have fr : ∀ i, N ≤ i → m 24 i = 0 := fun i hi => (h.2.2.2.2.2.2.2.1 i hi).1
  have hat : ∀ i, i < N → m 24 i = 3 → ∃ g, g < ng ∧ m 26 i = nI g := fun i hi e => by
    obtain ⟨g, h1, h2, -⟩ := (h.2.2.2.2.2.2.1 i hi).2.2.2.2.2.2.2.2.2.2.2.2.1 e
    exact ⟨g, h1, h2⟩
  -- the grinder
  obtain ⟨iv1, rv1, e1, r1⟩ := step_grind h
  have R1 : Rel ng N M nx sh ln iv1 rv1 (adv N ng (fun c => decide (m 24 c = 1)) (fun _ => false) m) := by
    rcases r1 with ⟨-, g2, r⟩ | ⟨c, hc, g2, g3, r⟩
    · rw [show adv N ng (fun c => decide (m 24 c = 1)) (fun _ => false) m = adv N ng (fun _ => false) (fun _ => false) m from adv_congr (fun c => Or.inl (by
        by_cases hc : c < N
        · simp [g2 c hc]
        · simp [fr c (by omega)])) (fun _ => Or.inl rfl), adv_none]
      exact r
    · have e := adv_cup (ng := ng) (S := fun _ => false) (G := fun _ => false) (m := m) hc rfl
      rw [adv_none, (ms_1 g2).1] at e
      rw [e] at r
      rw [show adv N ng (fun c => decide (m 24 c = 1)) (fun _ => false) m = adv N ng (plus1 (fun _ => false) c) (fun _ => false) m from adv_congr (fun d => Or.inl (by
        by_cases hd : d = c
        · simp [hd, g2, plus1]
        · by_cases hd2 : d < N
          · have : ¬ m 24 d = 1 := fun e => hd (g3 d hd2 e)
            simp [this, hd, plus1]
          · simp [fr d (by omega), hd, plus1])) (fun _ => Or.inl rfl)]
      exact r
  -- the wand
  obtain ⟨iv2, rv2, e2, r2⟩ := step_wand R1
  have w5 : ∀ i, adv N ng (fun c => decide (m 24 c = 1)) (fun _ => false) m 24 i = 5 ↔ m 24 i = 5 := by
    intro i
    by_cases e : m 24 i = 1
    · rw [adv_t (by simp [e]) (by decide) (by decide)]
      rcases (ms_1 e).2 with q | q <;> rw [q, e] <;> decide
    · rw [adv_c (by simp [e]) (by decide) (by decide)]
  have R2 : Rel ng N M nx sh ln iv2 rv2 (adv N ng (fun c => decide (m 24 c = 1 ∨ m 24 c = 5)) (fun _ => false) m) := by
    rcases r2 with ⟨g2, r⟩ | ⟨c, hc, g2, g3, r⟩
    · rw [show adv N ng (fun c => decide (m 24 c = 1 ∨ m 24 c = 5)) (fun _ => false) m = adv N ng (fun c => decide (m 24 c = 1)) (fun _ => false) m from adv_congr (fun c => Or.inl (by
        by_cases hc : c < N
        · have : ¬ m 24 c = 5 := fun e => g2 c hc ((w5 c).mpr e)
          simp [this]
        · simp [fr c (by omega)])) (fun _ => Or.inl rfl)]
      exact r
    · have g5 := (w5 c).mp g2
      rw [← (ms_5 g2).1, adv_cup hc (by simp [g5])] at r
      rw [show adv N ng (fun c => decide (m 24 c = 1 ∨ m 24 c = 5)) (fun _ => false) m = adv N ng (plus1 (fun c => decide (m 24 c = 1)) c) (fun _ => false) m from adv_congr (fun d => Or.inl (by
        by_cases hd : d = c
        · simp [hd, g5, plus1]
        · by_cases hd2 : d < N
          · have : ¬ m 24 d = 5 := fun e => hd (g3 d hd2 ((w5 d).mpr e))
            simp [this, hd, plus1]
          · simp [fr d (by omega), hd, plus1])) (fun _ => Or.inl rfl)]
      exact r
  -- the groups
  have lg : ∀ (n d k : Nat) (iv : wI) (rv : wJ), k + d = ng → d < n → Rel ng N M nx sh ln iv rv (adv N ng (fun c => decide (m 24 c = 1 ∨ m 24 c = 5 ∨ (m 24 c = 3 ∧ m 26 c < nI k))) (upto k) m) → ∃ iv' rv', fX4_goOneTick_18 ng sh n iv rv (nI ng) (nI k) = some (iv', rv') ∧ Rel ng N M nx sh ln iv' rv' (adv N ng (fun c => decide (m 24 c = 1 ∨ m 24 c = 5 ∨ (m 24 c = 3 ∧ m 26 c < nI ng))) (upto ng) m) := by
    intro n
    induction n with
    | zero => intro d k iv rv h1 h2; omega
    | succ n ih =>
      intro d k iv rv h1 h2 R
      rw [fX4_goOneTick_18.eq_2]
      cases d with
      | zero =>
        have hk : k = ng := by omega
        subst hk
        exact ⟨iv, rv, by rw [if_pos (nI_le (Nat.le_refl _) (by omega))], R⟩
      | succ d =>
        have hk : k < ng := by omega
        rw [if_neg (nI_ge hk (by omega)), wGd_t (vp_in_nI hk (by omega)), toNat_nI (by omega), nI_1 k, (R.2.2.2.2.2.2.2.2.2.2.1 k hk).1]
        obtain ⟨iv', rv', e', r'⟩ := step_pass R hk
        rw [e']
        simp only [wB2]
        have n1 : nI (k + 1) = nI k + 1 := (nI_1 k).symm
        have n0 := nI_pos' (n := k) (by omega)
        have n3 := nI_le (a := k) (b := 3) (by omega) (by decide)
        have sp : ∀ x : Int32, x < nI (k + 1) → ¬ x < nI k → x = nI k := fun x => lt_sp (by omega)
        have f3 : ∀ i, m 24 i = 3 → ¬ m 26 i < nI k → adv N ng (fun c => decide (m 24 c = 1 ∨ m 24 c = 5 ∨ (m 24 c = 3 ∧ m 26 c < nI k))) (upto k) m 24 i = 3 ∧ adv N ng (fun c => decide (m 24 c = 1 ∨ m 24 c = 5 ∨ (m 24 c = 3 ∧ m 26 c < nI k))) (upto k) m 26 i = m 26 i := fun i e e2 => by
          have hS : (fun c => decide (m 24 c = 1 ∨ m 24 c = 5 ∨ (m 24 c = 3 ∧ m 26 c < nI k))) i = false := by simp [e, e2]
          exact ⟨(adv_c hS (by decide) (by decide)).trans e, adv_c hS (by decide) (by decide)⟩
        refine ih d (k + 1) iv' rv' (by omega) (by omega) ?_
        rcases r' with ⟨nb, r⟩ | ⟨c, hc, g2, g3, g4, r⟩
        · rw [adv_grp hk (by simp [upto]), upto_s] at r
          rw [show adv N ng (fun c => decide (m 24 c = 1 ∨ m 24 c = 5 ∨ (m 24 c = 3 ∧ m 26 c < nI (k + 1)))) (upto (k + 1)) m = adv N ng (fun c => decide (m 24 c = 1 ∨ m 24 c = 5 ∨ (m 24 c = 3 ∧ m 26 c < nI k))) (upto (k + 1)) m from adv_congr (fun d => Or.inl (by
            by_cases e3 : m 24 d = 3
            · by_cases hd : d < N
              · have : m 26 d < nI (k + 1) ↔ m 26 d < nI k := ⟨fun u => Classical.byContradiction fun v => by
                  obtain ⟨x1, x2⟩ := f3 d e3 v
                  exact nb d hd x1 (x2.trans (sp _ u v)), lt_up (by omega)⟩
                simp [e3, this]
              · rw [fr d (by omega)] at e3; exact absurd e3 (by decide)
            · simp [e3])) (fun _ => Or.inl rfl)]
          exact r
        · rw [adv_grp hk (by simp [upto]), upto_s] at r
          have hS : (fun c => decide (m 24 c = 1 ∨ m 24 c = 5 ∨ (m 24 c = 3 ∧ m 26 c < nI k))) c = false := by
            cases hb : (fun c => decide (m 24 c = 1 ∨ m 24 c = 5 ∨ (m 24 c = 3 ∧ m 26 c < nI k))) c with
            | false => rfl
            | true =>
              exfalso
              rw [adv_t hb (by decide) (by decide)] at g2 g3
              rw [ms_26] at g3
              simp at hb
              rcases hb with hb | hb | hb
              · rcases (ms_1 hb).2 with q | q <;> rw [q] at g2 <;> exact absurd g2 (by decide)
              · rcases (ms_5 hb).2 with q | q <;> rw [q] at g2 <;> exact absurd g2 (by decide)
              · rw [g3] at hb; grind
          have c3 : m 24 c = 3 := (adv_c (N := N) (ng := ng) (G := upto k) hS (by decide) (by decide)).symm.trans g2
          have c26 : m 26 c = nI k := (adv_c (N := N) (ng := ng) (G := upto k) hS (by decide) (by decide)).symm.trans g3
          have g2' : adv N ng (fun c => decide (m 24 c = 1 ∨ m 24 c = 5 ∨ (m 24 c = 3 ∧ m 26 c < nI k))) (upto (k + 1)) m 24 c = 3 := (adv_c hS (by decide) (by decide)).trans c3
          rw [← (ms_3 g2').1, adv_cup hc hS] at r
          rw [show adv N ng (fun c => decide (m 24 c = 1 ∨ m 24 c = 5 ∨ (m 24 c = 3 ∧ m 26 c < nI (k + 1)))) (upto (k + 1)) m = adv N ng (plus1 (fun c => decide (m 24 c = 1 ∨ m 24 c = 5 ∨ (m 24 c = 3 ∧ m 26 c < nI k))) c) (upto (k + 1)) m from adv_congr (fun d => Or.inl (by
            by_cases hd : d = c
            · have : nI k < nI (k + 1) := nI_lt (by omega) (by omega)
              simp [hd, plus1, c3, c26, this]
            · by_cases e3 : m 24 d = 3
              · by_cases hd2 : d < N
                · have : m 26 d < nI (k + 1) ↔ m 26 d < nI k := ⟨fun u => Classical.byContradiction fun v => by
                    obtain ⟨x1, x2⟩ := f3 d e3 v
                    exact hd (g4 d hd2 x1 (x2.trans (sp _ u v))), lt_up (by omega)⟩
                  simp [e3, this, plus1, hd]
                · rw [fr d (by omega)] at e3; exact absurd e3 (by decide)
              · simp [e3, plus1, hd])) (fun _ => Or.inl rfl)]
          exact r
  obtain ⟨iv3, rv3, e3, R3⟩ := lg wN ng 0 iv2 rv2 (by omega) (by unfold wN; omega) (by
    rw [show upto 0 = (fun _ => false) by funext j; simp [upto], show adv N ng (fun c => decide (m 24 c = 1 ∨ m 24 c = 5 ∨ (m 24 c = 3 ∧ m 26 c < nI 0))) (fun _ => false) m = adv N ng (fun c => decide (m 24 c = 1 ∨ m 24 c = 5)) (fun _ => false) m from adv_congr (fun d => Or.inl (by
      by_cases e3 : m 24 d = 3
      · by_cases hd : d < N
        · obtain ⟨g, h1, h2⟩ := hat d hd e3
          have : ¬ m 26 d < nI 0 := by rw [h2]; exact nI_nlt (by omega) (by omega)
          simp [e3, this]
        · rw [fr d (by omega)] at e3; exact absurd e3 (by decide)
      · simp [e3])) (fun _ => Or.inl rfl)]
    exact R2)
  -- grounds that lie too long
  have R4 : Rel ng N M nx sh ln iv3 rv3 (adv N ng (fun c => decide (m 24 c = 1 ∨ m 24 c = 5 ∨ m 24 c = 3 ∨ (m 24 c = 2 ∧ c < 0))) (upto ng) m) := by
    rw [show adv N ng (fun c => decide (m 24 c = 1 ∨ m 24 c = 5 ∨ m 24 c = 3 ∨ (m 24 c = 2 ∧ c < 0))) (upto ng) m = adv N ng (fun c => decide (m 24 c = 1 ∨ m 24 c = 5 ∨ (m 24 c = 3 ∧ m 26 c < nI ng))) (upto ng) m from adv_congr (fun d => Or.inl (by
      by_cases e3 : m 24 d = 3
      · by_cases hd : d < N
        · obtain ⟨g, h1, h2⟩ := hat d hd e3
          have : m 26 d < nI ng := by rw [h2]; exact nI_lt h1 (by omega)
          simp [e3, this]
        · rw [fr d (by omega)] at e3; exact absurd e3 (by decide)
      · simp [e3])) (fun _ => Or.inl rfl)]
    exact R3
  have fin : adv N ng (fun c => decide (m 24 c = 1 ∨ m 24 c = 5 ∨ m 24 c = 3 ∨ (m 24 c = 2 ∧ c < N))) (upto ng) m = adv N ng (upto N) (upto ng) m := adv_congr (fun d => by
    by_cases hd : d < N
    · by_cases e1 : m 24 d = 1
      · exact Or.inl (by simp [e1, upto, hd])
      · by_cases e2 : m 24 d = 2
        · exact Or.inl (by simp [e2, upto, hd])
        · by_cases e3 : m 24 d = 3
          · exact Or.inl (by simp [e3, upto, hd])
          · by_cases e5 : m 24 d = 5
            · exact Or.inl (by simp [e5, upto, hd])
            · exact Or.inr (ms_idle e1 e2 e3 e5)
    · exact Or.inl (by simp [fr d (by omega), upto, hd])) (fun _ => Or.inl rfl)
  have lo : ∀ (n d k : Nat) (iv : wI) (rv : wJ), k + d = N → d < n → Rel ng N M nx sh ln iv rv (adv N ng (fun c => decide (m 24 c = 1 ∨ m 24 c = 5 ∨ m 24 c = 3 ∨ (m 24 c = 2 ∧ c < k))) (upto ng) m) → ∃ iv' rv', fX4_throwAwayOldGrounds_12 ng sh n iv rv (nI k) = some (iv', rv') ∧ Rel ng N M nx sh ln iv' rv' (adv N ng (fun c => decide (m 24 c = 1 ∨ m 24 c = 5 ∨ m 24 c = 3 ∨ (m 24 c = 2 ∧ c < N))) (upto ng) m) := by
    intro n
    induction n with
    | zero => intro d k iv rv h1 h2; omega
    | succ n ih =>
      intro d k iv rv h1 h2 R
      obtain ⟨-, p2, -⟩ := R.N
      rw [fX4_throwAwayOldGrounds_12.eq_2, p2]
      cases d with
      | zero =>
        have hk : k = N := by omega
        subst hk
        exact ⟨iv, rv, by rw [if_pos (nI_le (Nat.le_refl _) (by omega))], R⟩
      | succ d =>
        have hk : k < N := by omega
        have cup := R.2.2.2.2.2.2.1 k hk
        rw [if_neg (nI_ge hk (by omega)), wGd_t (vp_in_nI (show k < 100 by omega) (by decide)), toNat_nI (by omega), nI_1 k, cup.1, wGd_t (R.1.2.2.2.2.2.2.2.1 k hk)]
        have c5 := cup.2.2.2.2.2.2.1
        have c8 := cup.2.2.2.2.2.2.2.2.2.1
        have hnow : iv 1 12 = m 1 2 := R.2.2.1.2.2.2.2.2.2.1.trans (adv_one (by decide) (by decide))
        rw [c5]
        have same : (m 24 k ≠ 2 ∨ ms m k = m) → adv N ng (fun c => decide (m 24 c = 1 ∨ m 24 c = 5 ∨ m 24 c = 3 ∨ (m 24 c = 2 ∧ c < k))) (upto ng) m = adv N ng (fun c => decide (m 24 c = 1 ∨ m 24 c = 5 ∨ m 24 c = 3 ∨ (m 24 c = 2 ∧ c < k + 1))) (upto ng) m := fun hh => adv_congr (fun d => by
          by_cases hd : d = k
          · subst hd
            rcases hh with hh | hh
            · exact Or.inl (by simp [hh])
            · exact Or.inr hh
          · have : d < k ↔ d < k + 1 := by omega
            exact Or.inl (by simp [this])) (fun _ => Or.inl rfl)
        by_cases e2 : m 24 k = 2
        · have hS : (fun c => decide (m 24 c = 1 ∨ m 24 c = 5 ∨ m 24 c = 3 ∨ (m 24 c = 2 ∧ c < k))) k = false := by simp [e2]
          have a24 : adv N ng (fun c => decide (m 24 c = 1 ∨ m 24 c = 5 ∨ m 24 c = 3 ∨ (m 24 c = 2 ∧ c < k))) (upto ng) m 24 k = 2 := (adv_c hS (by decide) (by decide)).trans e2
          have a27 : adv N ng (fun c => decide (m 24 c = 1 ∨ m 24 c = 5 ∨ m 24 c = 3 ∨ (m 24 c = 2 ∧ c < k))) (upto ng) m 27 k = m 27 k := adv_c hS (by decide) (by decide)
          rw [if_pos a24, hnow, c8 a24, a27]
          by_cases ho : m 1 2 - m 27 k < 30
          · rw [if_pos ho]
            exact ih d (k + 1) iv rv (by omega) (by omega) (by rw [← same (Or.inr (ms_2n e2 ho))]; exact R)
          · rw [if_neg ho]
            obtain ⟨iv', rv', f1, f2⟩ := step_old R hk a24
            rw [f1]
            simp only [wB2]
            refine ih d (k + 1) iv' rv' (by omega) (by omega) ?_
            rw [← ms_2 a24 (by rw [a27, adv_one (by decide) (by decide)]; exact ho), adv_cup hk hS] at f2
            rw [show adv N ng (fun c => decide (m 24 c = 1 ∨ m 24 c = 5 ∨ m 24 c = 3 ∨ (m 24 c = 2 ∧ c < k + 1))) (upto ng) m = adv N ng (plus1 (fun c => decide (m 24 c = 1 ∨ m 24 c = 5 ∨ m 24 c = 3 ∨ (m 24 c = 2 ∧ c < k))) k) (upto ng) m from adv_congr (fun d => Or.inl (by
              by_cases hd : d = k
              · simp [hd, e2, plus1]
              · have : d < k ↔ d < k + 1 := by omega
                simp [this, hd, plus1])) (fun _ => Or.inl rfl)]
            exact f2
        · have skip := ih d (k + 1) iv rv (by omega) (by omega) (by rw [← same (Or.inl e2)]; exact R)
          by_cases a2 : adv N ng (fun c => decide (m 24 c = 1 ∨ m 24 c = 5 ∨ m 24 c = 3 ∨ (m 24 c = 2 ∧ c < k))) (upto ng) m 24 k = 2
          · rw [if_pos a2, hnow, c8 a2]
            have hb : (fun c => decide (m 24 c = 1 ∨ m 24 c = 5 ∨ m 24 c = 3 ∨ (m 24 c = 2 ∧ c < k))) k = true := by
              cases hb : (fun c => decide (m 24 c = 1 ∨ m 24 c = 5 ∨ m 24 c = 3 ∨ (m 24 c = 2 ∧ c < k))) k with
              | true => rfl
              | false => rw [adv_c hb (by decide) (by decide)] at a2; exact absurd a2 e2
            rw [adv_t hb (by decide) (by decide)] at a2 ⊢
            rw [ms_new e2 a2, if_pos (by grind)]
            exact skip
          · rw [if_neg a2]; exact skip
  have ct := R4.2.2.2.2.2.1 2 (by decide)
  refine ⟨iv1, rv1, iv2, rv2, iv3, rv3, ?_⟩
  unfold fX4_throwAwayOldGrounds
  rw [wGd_t v_2_8, show (2 : Int32).toNatClampNeg = 2 from rfl]
  by_cases z : iv3 5 2 = 0
  · refine ⟨iv3, rv3, e1, e2, e3, by rw [if_pos z], ?_⟩
    rw [← fin]
    have hz : cnt (adv N ng (fun c => decide (m 24 c = 1 ∨ m 24 c = 5 ∨ m 24 c = 3 ∨ (m 24 c = 2 ∧ c < 0))) (upto ng) m 24) (nI 2) N = 0 := by
      rw [z] at ct
      have := cnt_le (adv N ng (fun c => decide (m 24 c = 1 ∨ m 24 c = 5 ∨ m 24 c = 3 ∨ (m 24 c = 2 ∧ c < 0))) (upto ng) m 24) (nI 2) N
      exact ((nI_eq (a := 0) (by omega) (by omega)).mp ct).symm
    rw [show adv N ng (fun c => decide (m 24 c = 1 ∨ m 24 c = 5 ∨ m 24 c = 3 ∨ (m 24 c = 2 ∧ c < N))) (upto ng) m = adv N ng (fun c => decide (m 24 c = 1 ∨ m 24 c = 5 ∨ m 24 c = 3 ∨ (m 24 c = 2 ∧ c < 0))) (upto ng) m from adv_congr (fun d => Or.inl (by
      by_cases hd : d < N
      · have : ¬ m 24 d = 2 := fun e => cnt_zero hz d hd ((adv_c (by simp [e]) (by decide) (by decide)).trans e)
        simp [this]
      · simp [fr d (by omega)])) (fun _ => Or.inl rfl)]
    exact R4
  · rw [if_neg z]
    obtain ⟨iv4, rv4, e4, R5⟩ := lo wN N 0 iv3 rv3 (by omega) (by unfold wN; omega) R4
    rw [fin] at R5
    exact ⟨iv4, rv4, e1, e2, e3, by rw [show (0 : Int32) = nI 0 from rfl, e4]; rfl, R5⟩
