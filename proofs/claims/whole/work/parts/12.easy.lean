theorem among_no {a : Int32} {n : Nat} (h : a < 0 ∨ nI n ≤ a) : fX4_isAmong a (nI n) = some 0 := by
  unfold fX4_isAmong
  rcases h with h | h
  · rw [if_pos h]
  · by_cases h0 : a < 0
    · rw [if_pos h0]
    · rw [if_neg h0, if_pos h]
theorem among_yes {j n : Nat} (h : j < n) (hn : n < 2 ^ 31) : fX4_isAmong (nI j) (nI n) = some 1 := by
  unfold fX4_isAmong
  rw [if_neg (nI_pos (by omega)), if_neg (nI_ge h hn)]
theorem in_no {a : Int32} {n : Nat} (h : a < 0 ∨ nI n ≤ a) (hn : n < 2 ^ 31) : fX5_in a 0 (nI n - 1) = some 0 := by
  unfold fX5_in
  rcases h with h | h
  · rw [if_pos h]
  · have h1 := nI_pos' hn
    rw [if_neg (by grind), if_pos (by grind)]
theorem in_yes {j n : Nat} (h : j < n) (hn : n < 2 ^ 31) : fX5_in (nI j) 0 (nI n - 1) = some 1 := by
  unfold fX5_in
  have h1 := nI_lt h hn
  have h2 := nI_pos' (n := j) (by omega)
  rw [if_neg (by grind), if_neg (by grind)]
theorem in_eq (a lo hi : Int32) : fX5_in a lo hi = some (if a < lo then 0 else if hi < a then 0 else 1) := by
  unfold fX5_in
  by_cases h1 : a < lo
  · simp [h1]
  · by_cases h2 : hi < a <;> simp [h1, h2]
theorem Rel.N {ng N M nx : Nat} {sh ln : Nat → Nat} {iv : wI} {rv : wJ} {m : wI} (h : Rel ng N M nx sh ln iv rv m) : N ≤ 100 ∧ iv 1 4 = nI N ∧ m 1 8 = nI N ∧ ng ≤ 3 ∧ 1 ≤ ng ∧ m 1 0 = nI ng ∧ M ≤ 8 ∧ iv 1 2 = nI M ∧ m 1 4 = nI M := by
  obtain ⟨⟨-, b1, b2, b3, b4, -⟩, -, ⟨⟨s1, s2⟩, ⟨s3, s4⟩, s5, -⟩, -⟩ := h
  exact ⟨b3, s3, s4, b2, b1, s5, b4, s1, s2⟩
theorem sim_store {ng N M nx : Nat} {sh ln : Nat → Nat} {iv : wI} {rv : wJ} {m : wI} (h : Rel ng N M nx sh ln iv rv m) (a b : Int32) : ∃ iv' m' r, fX4_store ng sh iv rv a b = some (iv', r) ∧ fX5_store m a b = some (m', r) ∧ Rel ng N M nx sh ln iv' rv m' := by
  unfold fX4_store fX5_store
  rcases pk_ix a (n := 3) (by decide) with h0 | h0 | ⟨j, hj, rfl⟩
  · rw [show (3 : Int32) = nI 3 from rfl, among_no (Or.inl h0), show (2 : Int32) = nI 3 - 1 from rfl, in_no (Or.inl h0) (by decide)]
    exact ⟨iv, m, -1, rfl, rfl, h⟩
  · rw [show (3 : Int32) = nI 3 from rfl, among_no (Or.inr h0), show (2 : Int32) = nI 3 - 1 from rfl, in_no (Or.inr h0) (by decide)]
    exact ⟨iv, m, -1, rfl, rfl, h⟩
  · rw [show (3 : Int32) = nI 3 from rfl, among_yes hj (by decide), show (2 : Int32) = nI 3 - 1 from rfl, in_yes hj (by decide), in_eq b 1 10000]
    obtain ⟨hB, hV, hSc, hSt, hRc, hCt, hCu, hFr, hGr, hWa, hGp, hLg⟩ := id h
    obtain ⟨t1, t2, t3⟩ := hSt j hj
    simp only [wBd, toNat_nI (show j < 2 ^ 31 by omega), wGd_t (vp_in_nI hj (show 3 < 2 ^ 31 by decide)), t1]
    by_cases h1 : b < 1
    · exact ⟨iv, m, -1, by simp [h1], by simp [h1], h⟩
    · by_cases h2 : 10000 < b
      · have h2' : ¬ b ≤ 10000 := by grind
        exact ⟨iv, m, -1, by simp [h1, h2'], by simp [h1, h2], h⟩
      · have h2' : b ≤ 10000 := by grind
        by_cases h3 : m 17 j + b ≤ 100000
        · have h3' : b ≤ 100000 - m 17 j := by grind
          refine ⟨wU iv 6 j (m 17 j + b), wU m 17 j (m 17 j + b), m 17 j + b, by simp [h1, h2', h3', wLt, wU_g], by simp [h1, h2, h3, wLt, wU_g], ?_⟩
          refine ⟨hB, hV, ?_, ?_, hRc.congr (fun a ha => wU_ne a (by omega)) rfl (wU_ne 15 (by decide)) (wU_ne 16 (by decide)), hCt.congr (wU_ne 5 (by decide)) (wU_ne 24 (by decide)), hCu.congr (fun i hi => wU_ne _ (by omega)) (fun _ _ => rfl) (fun a ha => wU_ne a (by omega)) rfl (fun a x y => wU_ne a (by omega)), hFr.congr (wU_ne 24 (by decide)) (wU_ne 29 (by decide)), hGr.congr rfl (wU_ne 24 (by decide)), hWa.congr rfl (wU_ne 24 (by decide)), hGp.congr (fun g hg => wU_ne _ (by obtain ⟨-, -, _, -⟩ := hB; omega)) (fun _ _ => rfl) rfl (wU_ne 24 (by decide)) (wU_ne 25 (by decide)) (wU_ne 26 (by decide)) (wU_ne 30 (by decide)) (wU_ne 31 (by decide)) (wU_ne 32 (by decide)), hLg.congr (by simp [wU_g]) (wU_ne 24 (by decide)) (wU_ne 28 (by decide)) (wU_ne 23 (by decide))⟩
          · unfold RSc
            rw [wU_ne 1 (by decide), wU_ne 1 (by decide)]
            exact hSc
          · intro k hk
            simp only [wU_g]
            by_cases hkj : k = j
            · subst hkj
              simp
              grind
            · simp [hkj]
              exact hSt k hk
        · have h3' : ¬ b ≤ 100000 - m 17 j := by grind
          exact ⟨iv, m, -1, by simp [h1, h2', h3'], by simp [h1, h2, h3], h⟩
theorem sim_tell {ng N M nx : Nat} {sh ln : Nat → Nat} {iv : wI} {rv : wJ} {m : wI} (h : Rel ng N M nx sh ln iv rv m) (a b : Int32) : ∃ iv' m' r, fX4_tell ng sh iv rv a b = some (iv', r) ∧ fX5_tell m a b = some (m', r) ∧ Rel ng N M nx sh ln iv' rv m' := by
  have hs : iv 1 13 = m 1 25 := h.2.2.1.2.2.2.2.2.2.2.1
  unfold fX4_tell fX5_tell
  rw [in_eq a 0 1000, in_eq b 0 1000]
  by_cases h1 : a < 0
  · rw [if_pos h1, if_pos h1]; exact ⟨iv, m, -1, rfl, rfl, h⟩
  rw [if_neg h1, if_neg h1]
  by_cases h2 : 1000 < a
  · rw [if_pos h2, if_pos h2]; exact ⟨iv, m, -1, rfl, rfl, h⟩
  rw [if_neg h2, if_neg h2]
  simp only [wBd]
  rw [if_neg (by decide : ¬ (1 : Int32) = 0)]
  by_cases h3 : b < 0
  · rw [if_pos h3, if_pos h3]; exact ⟨iv, m, -1, rfl, rfl, h⟩
  rw [if_neg h3, if_neg h3]
  by_cases h4 : 1000 < b
  · rw [if_neg (by grind), if_pos h4]; exact ⟨iv, m, -1, rfl, rfl, h⟩
  rw [if_pos (by grind), if_neg h4, if_neg (by decide)]
  generalize (a - b) / 4 = q
  have key : ∀ (s : Int32), ∃ iv' m', wLt (wU iv 1 13 s) (fun iv9 => some (iv9, iv9 1 13)) = some (iv', s) ∧ m' = wU m 1 25 s ∧ Rel ng N M nx sh ln iv' rv m' := by
    intro s
    refine ⟨wU iv 1 13 s, wU m 1 25 s, by simp [wLt, wU_g], rfl, ?_⟩
    refine h.scalar (fun a ha => wU_ne a ha) (fun a ha => wU_ne a ha) ?_ (by simp [wU_g])
    obtain ⟨-, -, ⟨a1, a2, a3, a4, a5, a6, a7, a8, a9⟩, -⟩ := h
    unfold RSc
    simp only [wU_g]
    simp
    exact ⟨a1, a2, a3, a4, a5, a6, a7, a9⟩
  have hw : ∀ (s : Int32) (k1 k2 : Int32), fX4_within s k1 k2 = some (if k1 < (if k2 < s then k2 else s) then (if k2 < s then k2 else s) else k1) := fun _ _ _ => rfl
  rw [hw, hs]
  have e1 : (if (-6 : Int32) < (if 6 < q then 6 else q) then (if 6 < q then 6 else q) else -6) = (if -6 ≤ (if q ≤ 6 then q else 6) then (if q ≤ 6 then q else 6) else -6) := by grind
  have e2 : (if q ≤ 6 then some q else some 6) = some (if q ≤ 6 then q else 6) := by split <;> rfl
  rw [e1, e2]
  generalize (if q ≤ 6 then q else 6) = q1
  simp only [hw]
  have e3 : (if (-6 : Int32) ≤ q1 then some q1 else some (-6)) = some (if -6 ≤ q1 then q1 else -6) := by split <;> rfl
  rw [e3]
  generalize (if (-6 : Int32) ≤ q1 then q1 else -6) = q2
  simp only [wLt, wU_g]
  simp only [if_true]
  generalize m 1 25 + q2 = t
  have e5 : ∀ x y : Int32, wU (wU m 1 25 x) 1 25 y = wU m 1 25 y := by
    intro x y
    funext c d
    simp only [wU_g]
    split <;> (try split) <;> simp_all
  by_cases g1 : 0 ≤ t
  · rw [if_pos g1]
    by_cases g2 : t ≤ 100
    · rw [if_pos g2, show (if (0 : Int32) < (if 100 < t then 100 else t) then (if 100 < t then 100 else t) else 0) = t by grind]
      obtain ⟨iv', m', k1, rfl, k3⟩ := key t
      exact ⟨iv', _, t, by simpa [wLt, wU_g] using k1, rfl, k3⟩
    · rw [if_neg g2, show (if (0 : Int32) < (if 100 < t then 100 else t) then (if 100 < t then 100 else t) else 0) = 100 by grind]
      obtain ⟨iv', m', k1, rfl, k3⟩ := key 100
      exact ⟨iv', _, 100, by simpa [wLt, wU_g] using k1, by rw [e5], k3⟩
  · rw [show (if (0 : Int32) < (if 100 < t then 100 else t) then (if 100 < t then 100 else t) else 0) = 0 by grind]
    obtain ⟨iv', m', k1, rfl, k3⟩ := key 0
    exact ⟨iv', _, 0, by simpa [wLt, wU_g] using k1, by simp [g1, e5], k3⟩
theorem sim_cup {ng N M nx : Nat} {sh ln : Nat → Nat} {iv : wI} {rv : wJ} {m : wI} (h : Rel ng N M nx sh ln iv rv m) (a b : Int32) : ∃ r, fX4_cup ng sh iv rv a b = some r ∧ fX5_cup m a b = some r := by
  obtain ⟨q1, q2, q3, q4, q5, q6, q7, q8, q9⟩ := h.N
  unfold fX4_cup fX5_cup
  rw [q2, q3]
  rcases pk_ix a (n := N) (by omega) with h0 | h0 | ⟨j, hj, rfl⟩
  · rw [among_no (Or.inl h0), in_no (Or.inl h0) (by omega)]
    exact ⟨-1, rfl, rfl⟩
  · rw [among_no (Or.inr h0), in_no (Or.inr h0) (by omega)]
    exact ⟨-1, rfl, rfl⟩
  · rw [among_yes hj (by omega), in_yes hj (by omega)]
    obtain ⟨hB, hV, hSc, hSt, hRc, hCt, hCu, hFr, hGr, hWa, hGp, hLg⟩ := id h
    obtain ⟨a1, a2, ⟨a3, a4, a5⟩, a6, a7, a8, a9, a10, a11, a12, a13, a14, a15, a16⟩ := hCu j hj
    have sj : sh (j + 100) = 1 := hB.2.2.2.2.2.2.2.1 j hj
    simp only [wBd, toNat_nI (show j < 2 ^ 31 by omega), wGd_t (vp_in_nI (show j < 100 by omega) (show 100 < 2 ^ 31 by decide)), a1, wGd_t sj, a6, a7, a8, a9, a10, a11]
    by_cases b0 : b = 0
    · exact ⟨m 24 j, by simp [b0], by simp [b0]⟩
    by_cases b1 : b = 1
    · exact ⟨m 21 j, by simp [b1], by simp [b1]⟩
    by_cases b2 : b = 2
    · exact ⟨m 22 j, by simp [b2], by simp [b2]⟩
    by_cases b3 : b = 3
    · exact ⟨m 23 j, by simp [b3], by simp [b3]⟩
    by_cases b4 : b = 4
    · exact ⟨m 28 j, by simp [b4], by simp [b4]⟩
    by_cases b5 : b = 5
    · by_cases e : m 24 j = 3
      · obtain ⟨g, hg, g1, g2⟩ := a15 e
        refine ⟨nI g, ?_, by simp [b5, e, g1]⟩
        have := (hGp g hg).2.1
        simp [b5, g2, this, wGd_t (hB.2.2.2.2.2.2.1 g hg)]
      · exact ⟨-1, by simp [b5, a16 e], by simp [b5, e]⟩
    by_cases b6 : b = 6
    · unfold fX4_ticksToGo
      rw [wGd_t sj]
      by_cases e : m 24 j = 3
      · obtain ⟨g, hg, g1, g2⟩ := a15 e
        refine ⟨m 25 j, ?_, by simp [b6, e]⟩
        have hs := wGd_t (x := some (iv (g + 13) 2)) (hB.2.2.2.2.2.2.1 g hg)
        have h2 : iv (g + 13) 2 = m 25 j := by
          obtain ⟨-, -, -, -, k | k | ⟨c, k1, k2, k3, k4, k5, k6, k7, k8⟩⟩ := hGp g hg
          · exact absurd g1 (k.2.2.2.2 j hj e)
          · exact absurd g1 (k.2.2.2.2 j hj e)
          · rw [k8 j hj e g1]; exact k4
        simp [b6, g2, h2, wGd_t (hB.2.2.2.2.2.2.1 g hg)]
      · by_cases e1 : m 24 j = 1
        · exact ⟨m 25 j, by simp [b6, a16 e, a9, e1, a13 (Or.inl e1)], by simp [b6, e1]⟩
        · by_cases e5 : m 24 j = 5
          · exact ⟨m 25 j, by simp [b6, a16 e, a9, e5, a13 (Or.inr e5)], by simp [b6, e5]⟩
          · exact ⟨-1, by simp [b6, a16 e, a9, e1, e5], by simp [b6, e, e1, e5]⟩
    by_cases b7 : b = 7
    · exact ⟨m 29 j, by simp [b7], by simp [b7]⟩
    exact ⟨-1, by simp [b0, b1, b2, b3, b4, b5, b6, b7], by simp [b0, b1, b2, b3, b4, b5, b6, b7]⟩
/-- the first cup of which p holds -/
def fst (p : Nat → Prop) [DecidablePred p] (k : Nat) : Nat → Option Nat
  | 0 => none
  | d + 1 => if p k then some k else fst p (k + 1) d
theorem fst_none {p : Nat → Prop} [DecidablePred p] : ∀ {d k : Nat}, fst p k d = none → ∀ i, k ≤ i → i < k + d → ¬ p i
  | 0, k, _, i, h1, h2 => by omega
  | d + 1, k, h, i, h1, h2 => by
    unfold fst at h
    by_cases hp : p k
    · rw [if_pos hp] at h; cases h
    · rw [if_neg hp] at h
      by_cases hi : i = k
      · subst hi; exact hp
      · exact fst_none h i (by omega) (by omega)
theorem fst_some {p : Nat → Prop} [DecidablePred p] : ∀ {d k c : Nat}, fst p k d = some c → k ≤ c ∧ c < k + d ∧ p c
  | 0, k, c, h => by cases h
  | d + 1, k, c, h => by
    unfold fst at h
    by_cases hp : p k
    · rw [if_pos hp] at h; cases h; exact ⟨Nat.le_refl _, by omega, hp⟩
    · rw [if_neg hp] at h
      obtain ⟨h1, h2, h3⟩ := fst_some h
      exact ⟨by omega, by omega, h3⟩
def oI (o : Option Nat) : Int32 := match o with
  | none => -1
  | some c => nI c
def oR (o : Option Nat) : Nat := match o with
  | none => 0
  | some c => c + 100
theorem m_firstOf {m : wI} {N : Nat} (h : Int32) (hN : m 1 8 = nI N) (hL : N ≤ 100) : fX5_firstOf m h = some (oI (fst (fun i => m 24 i = h) 0 N)) := by
  have lp : ∀ (n d k : Nat), k + d = N → d < n → fX5_firstOf_2 n m h (nI k) = some (oI (fst (fun i => m 24 i = h) k d)) := by
    intro n
    induction n with
    | zero => intro d k h1 h2; omega
    | succ n ih =>
      intro d k h1 h2
      rw [fX5_firstOf_2.eq_2, hN]
      cases d with
      | zero => rw [if_pos (nI_le (by omega) (by omega))]; rfl
      | succ d =>
        rw [if_neg (nI_ge (by omega) (by omega)), wGd_t (vp_in_nI (by omega) (by decide)), toNat_nI (by omega), nI_1 k]
        unfold fst
        by_cases he : m 24 k = h
        · rw [if_pos he, if_pos he]; rfl
        · rw [if_neg he, if_neg he]; exact ih d (k + 1) (by omega) (by omega)
  exact lp wN N 0 (by omega) (by unfold wN; omega)
theorem m_brewing {m : wI} {N : Nat} (h : Int32) (hN : m 1 8 = nI N) (hL : N ≤ 100) : fX5_brewing m h = some (oI (fst (fun i => m 24 i = 3 ∧ m 26 i = h) 0 N)) := by
  have lp : ∀ (n d k : Nat), k + d = N → d < n → fX5_brewing_2 n m h (nI k) = some (oI (fst (fun i => m 24 i = 3 ∧ m 26 i = h) k d)) := by
    intro n
    induction n with
    | zero => intro d k h1 h2; omega
    | succ n ih =>
      intro d k h1 h2
      rw [fX5_brewing_2.eq_2, hN]
      cases d with
      | zero => rw [if_pos (nI_le (by omega) (by omega))]; rfl
      | succ d =>
        rw [if_neg (nI_ge (by omega) (by omega)), wGd_t (vp_in_nI (by omega) (by decide)), toNat_nI (by omega), nI_1 k]
        unfold fst
        by_cases he : m 24 k = 3
        · by_cases hg : m 26 k = h
          · simp [he, hg, oI]
          · simp only [he, hg, if_true, if_false, and_false]; exact ih d (k + 1) (by omega) (by omega)
        · simp only [he, if_false, false_and]; exact ih d (k + 1) (by omega) (by omega)
  exact lp wN N 0 (by omega) (by unfold wN; omega)
theorem fst_uniq {p : Nat → Prop} [DecidablePred p] {N c : Nat} (hc : c < N) (hp : p c) (hu : ∀ i, i < N → p i → i = c) : fst p 0 N = some c := by
  cases h : fst p 0 N with
  | none => exact absurd hp (fst_none h c (by omega) (by omega))
  | some d =>
    obtain ⟨-, h2, h3⟩ := fst_some h
    rw [hu d (by omega) h3]
theorem fst_no {p : Nat → Prop} [DecidablePred p] {N : Nat} (hu : ∀ i, i < N → ¬ p i) : fst p 0 N = none := by
  cases h : fst p 0 N with
  | none => rfl
  | some d =>
    obtain ⟨-, h2, h3⟩ := fst_some h
    exact absurd h3 (hu d (by omega))
theorem nI_ne_m1 {c : Nat} (h : c < 2 ^ 31) : nI c ≠ -1 := by
  have := nI_pos' h
  grind
theorem sim_group {ng N M nx : Nat} {sh ln : Nat → Nat} {iv : wI} {rv : wJ} {m : wI} (h : Rel ng N M nx sh ln iv rv m) (a b : Int32) : ∃ r, fX4_group ng sh iv rv a b = some r ∧ fX5_group m a b = some r := by
  obtain ⟨q1, q2, q3, q4, q5, q6, q7, q8, q9⟩ := h.N
  unfold fX4_group fX5_group
  rw [q6]
  rcases pk_ix a (n := ng) (by omega) with h0 | h0 | ⟨g, hg, rfl⟩
  · rw [among_no (Or.inl h0), in_no (Or.inl h0) (by omega)]
    exact ⟨-1, rfl, rfl⟩
  · rw [among_no (Or.inr h0), in_no (Or.inr h0) (by omega)]
    exact ⟨-1, rfl, rfl⟩
  · rw [among_yes hg (by omega), in_yes hg (by omega), m_brewing _ q3 q1]
    obtain ⟨hB, hV, hSc, hSt, hRc, hCt, hCu, hFr, hGr, hWa, hGp, hLg⟩ := id h
    have sj : sh (g + 13) = 2 := hB.2.2.2.2.2.2.1 g hg
    obtain ⟨g1, g2, g3, g4, k⟩ := hGp g hg
    simp only [wBd, toNat_nI (show g < 2 ^ 31 by omega), wGd_t (vp_in_nI hg (show ng < 2 ^ 31 by omega)), wGd_t (vp_in_nI (show g < 3 by omega) (show 3 < 2 ^ 31 by decide)), g1, wGd_t sj, g3, g4]
    by_cases b2 : b = 2
    · exact ⟨m 31 g, by simp [b2], by simp [b2]⟩
    by_cases b3 : b = 3
    · exact ⟨m 32 g, by simp [b3], by simp [b3]⟩
    rcases k with ⟨k1, k2, k3, k4, k5⟩ | ⟨k1, k2, k3, k4, k5⟩ | ⟨c, k1, k2, k3, k4, k5, k6, k7, k8⟩
    · rw [fst_no (fun i hi e => k5 i hi e.1 e.2)]
      by_cases b0 : b = 0
      · exact ⟨0, by simp [b0, k2], by simp [b0, oI, k4]⟩
      by_cases b1 : b = 1
      · exact ⟨0, by simp [b1, k3], by simp [b1, oI, k4]⟩
      exact ⟨-1, by simp [b0, b1, b2, b3], by simp [b0, b1, b2, b3]⟩
    · rw [fst_no (fun i hi e => k5 i hi e.1 e.2)]
      have k4' : ¬ m 30 g ≤ 0 := by grind
      by_cases b0 : b = 0
      · exact ⟨2, by simp [b0, k2], by simp [b0, oI, k4']⟩
      by_cases b1 : b = 1
      · exact ⟨m 30 g, by simp [b1, k3], by simp [b1, oI]⟩
      exact ⟨-1, by simp [b0, b1, b2, b3], by simp [b0, b1, b2, b3]⟩
    · rw [fst_uniq k1 ⟨k6, k7⟩ (fun i hi e => k8 i hi e.1 e.2)]
      have hne : ¬ nI c = -1 := nI_ne_m1 (by omega)
      simp only [oI, toNat_nI (show c < 2 ^ 31 by omega), wGd_t (vp_in_nI (show c < 100 by omega) (show 100 < 2 ^ 31 by decide))]
      by_cases b0 : b = 0
      · exact ⟨1, by simp [b0, k3], by simp [b0, hne]⟩
      by_cases b1 : b = 1
      · exact ⟨m 25 c, by simp [b1, k4], by simp [b1, hne]⟩
      exact ⟨-1, by simp [b0, b1, b2, b3], by simp [b0, b1, b2, b3]⟩
