theorem take_one {ng N M nx c s : Nat} {d : Int32} {sh ln : Nat → Nat} {iv : wI} {rv : wJ} {m : wI} (h : Rel ng N M nx sh ln iv rv m) (hc : c < N) (hs : m 24 c = nI s) (h02 : s = 0 ∨ s = 2) : ∃ iv' rv', fX4_turn ng sh (wU iv 1 14 (iv 1 14 + d)) rv (c + 100) (nI 7) = some (iv', rv') ∧ Rel ng N M nx sh ln iv' rv' (wU (wU m 1 23 (m 1 23 + d)) 24 c 7) := by
  obtain ⟨q1, q2, q3, q4, q5, q6, q7, q8, q9⟩ := h.N
  obtain ⟨hB, hV, hSc, hSt, hRc, hCt, hCu, hFr, hGr, hWa, hGp, hLg⟩ := id h
  have hcup := hCu c hc
  obtain ⟨a1, a2, ⟨a3, a4, a5⟩, a6, a7, a8, a9, a10, a11, a12, a13, a14, a15, a16⟩ := id hcup
  have sc : sh (c + 100) = 1 := hB.2.2.2.2.2.2.2.1 c hc
  have ne : ∀ j, j < 8 → j ≠ 0 → j ≠ 2 → m 24 c ≠ nI j := fun j hj e e2 => by rw [hs]; exact fun q => by have := (nI_eq (by omega) (by omega)).mp q; omega
  have hC2 : RCt N (wU iv 1 14 (iv 1 14 + d)) m := hCt.congr (wU_ne 5 (by decide)) rfl
  obtain ⟨iv1, rv1, e0, e1, e2, e3, e4, e5, e6, e8⟩ := turn_ok (ng := ng) (k := 7) (s := s) (rv := rv) sc (iv := wU iv 1 14 (iv 1 14 + d)) (by rw [wU_ne _ (by omega), a9, hs]) (by omega) (by decide) q1 hc hs hC2
  refine ⟨iv1, rv1, e0, ?_⟩
  generalize hm' : wU (wU m 1 23 (m 1 23 + d)) 24 c 7 = m'
  have ho : off c 7 m m' := by
    rw [← hm']
    refine off_up ?_ (fun a x y i hi => ?_) (fun a x y => ?_)
    · rw [wU_self, wU_ne 24 (by decide)]
    · simp only [wU_g]; simp [hi, show ¬ a = 1 by omega]
    · rw [wU_ne a (by omega), wU_ne a (by omega)]
  have oiv : ∀ a, a ≠ 5 → a ≠ c + 100 → a ≠ 1 → iv1 a = iv a := fun a x y z => by rw [e1 a x y, wU_ne a z]
  have oiv1 : ∀ j, iv1 1 j = if j = 14 then iv 1 14 + d else iv 1 j := fun j => by rw [e1 1 (by decide) (by omega)]; simp [wU_g]
  have om : ∀ a, a ≠ 24 → a ≠ 1 → m' a = m a := fun a x y => by rw [← hm', wU_ne a x, wU_ne a y]
  have om1 : ∀ j, m' 1 j = if j = 23 then m 1 23 + d else m 1 j := fun j => by rw [← hm']; simp [wU_g]
  refine h.move hc (k := 7) ho (hV.turn (fun a ha j => Or.inl (by rw [e4 a ha])) e5 e6) ?_ (hSt.congr (oiv 6 (by decide) (by omega) (by decide)) (om 17 (by decide) (by decide))) (fun a ha hb => oiv a (by omega) hb (by omega)) (fun a ha hb => e4 a hb) (e4 3 (by omega)) (e4 4 (by omega)) (om 15 (by decide) (by decide)) (om 16 (by decide) (by decide)) (fun j hj => by rw [e8 j hj, ho.1]; rfl) ?_ (hGr.keep ho (ne 1 (by decide) (by decide) (by decide)) (by decide) (by rw [e4 1 (by omega)])) (hWa.keep ho (ne 5 (by decide) (by decide) (by decide)) (by decide) (by rw [e4 1 (by omega)])) (fun g hg => (hGp g hg).keep ho (ne 3 (by decide) (by decide) (by decide)) (by decide) (oiv _ (by omega) (by omega) (by omega)) (e4 _ (by omega)) (by rw [e4 2 (by omega)]) (by rw [om 30 (by decide) (by decide)]) (by rw [om 31 (by decide) (by decide)]) (by rw [om 32 (by decide) (by decide)])) (hLg.keep ho (ne 6 (by decide) (by decide) (by decide)) (by decide) (by rw [oiv1]; simp))
  · obtain ⟨s1, s2, s3, s4, s5, s6, s7, s8, s9, s10⟩ := hSc
    unfold RSc
    simp only [oiv1, om1]
    simp
    exact ⟨s1, s2, s3, s4, s5, s6, s7, s8, by rw [s9], s10⟩
  · refine hcup.turned (k := 7) ho (by decide) (by rw [e4 4 (by omega)]) e5 (fun a ha => oiv a (by omega) (by omega) (by omega)) (fun j hj => by rw [e2 j (by omega), wU_ne _ (by omega)]) e3 (by rw [e2 6 (by decide), wU_ne _ (by omega), om 28 (by decide) (by decide)]; exact a10) (by rw [e2 9 (by decide), wU_ne _ (by omega), om 29 (by decide) (by decide)]; exact a11) (fun e => by omega) (fun e => by omega) (fun e => by omega) (fun _ => e6)
theorem wU_id (f : wI) (c j : Nat) (x : Int32) (h : x = f c j) : wU f c j x = f := by
  funext a b
  simp only [wU_g]
  split
  · split
    · rename_i e1 e2; rw [e1, e2, h]
    · rfl
  · rfl
theorem sim_take {ng N M nx : Nat} {sh ln : Nat → Nat} {iv : wI} {rv : wJ} {m : wI} (h : Rel ng N M nx sh ln iv rv m) (a : Int32) : ∃ iv' rv' m' r, fX4_take ng sh iv rv a = some (iv', rv', r) ∧ fX5_take m a = some (m', r) ∧ Rel ng N M nx sh ln iv' rv' m' := by
  obtain ⟨q1, q2, q3, q4, q5, q6, q7, q8, q9⟩ := h.N
  unfold fX4_take fX5_take
  rw [q2, q3]
  rcases pk_ix a (n := N) (by omega) with h0 | h0 | ⟨c, hc, rfl⟩
  · rw [among_no (Or.inl h0), in_no (Or.inl h0) (by omega)]
    exact ⟨iv, rv, m, 0, rfl, rfl, h⟩
  · rw [among_no (Or.inr h0), in_no (Or.inr h0) (by omega)]
    exact ⟨iv, rv, m, 0, rfl, rfl, h⟩
  · rw [among_yes hc (by omega), in_yes hc (by omega)]
    obtain ⟨hB, hV, hSc, hSt, hRc, hCt, hCu, hFr, hGr, hWa, hGp, hLg⟩ := id h
    obtain ⟨a1, a2, ⟨a3, a4, a5⟩, a6, a7, a8, a9, a10, a11, a12, a13, a14, a15, a16⟩ := hCu c hc
    have sc : sh (c + 100) = 1 := hB.2.2.2.2.2.2.2.1 c hc
    simp only [wBd, toNat_nI (show c < 2 ^ 31 by omega), wGd_t (vp_in_nI (show c < 100 by omega) (show 100 < 2 ^ 31 by decide)), a1, wGd_t sc, a9, wGd_t a3, fX5_beans, wLt]
    by_cases e0 : m 24 c = 0
    · obtain ⟨iv', rv', f1, R⟩ := take_one (s := 0) (d := 0) h hc e0 (Or.inl rfl)
      rw [wU_id iv 1 14 _ (by simp), show nI 7 = (7 : Int32) from rfl] at f1
      rw [wU_id m 1 23 _ (by simp)] at R
      exact ⟨iv', rv', _, 1, by simp [e0, f1, wB2], by simp [e0], R⟩
    · by_cases e2 : m 24 c = 2
      · obtain ⟨iv', rv', f1, R⟩ := take_one (s := 2) (d := m 19 c / 1000000) h hc e2 (Or.inr rfl)
        rw [show nI 7 = (7 : Int32) from rfl] at f1
        have r0 : iv (rv (c + 100) 1) 0 = m 19 c / 1000000 := a5.1.1
        refine ⟨iv', rv', _, 1, ?_, ?_, R⟩
        · simp [e2, r0, f1, wB2]
        · simp [e2]
      · exact ⟨iv, rv, m, 0, by simp [e0, e2], by simp [e0, e2], h⟩
theorem m_fault {m : wI} {N g : Nat} {x2 : Int32} (hN : m 1 8 = nI N) (hL : N ≤ 100) : fX5_fault_29 wN m (nI g) x2 0 = some (match fst (fun i => m 24 i = 3 ∧ m 26 i = nI g) 0 N with | none => m | some c => spl m c) ∨ ∃ i j, i < N ∧ j < N ∧ i ≠ j ∧ (m 24 i = 3 ∧ m 26 i = nI g) ∧ (m 24 j = 3 ∧ m 26 j = nI g) := by
  have lpA : ∀ (n d k : Nat) (m : wI), m 1 8 = nI N → k + d = N → d < n → (∀ i, k ≤ i → i < N → ¬ (m 24 i = 3 ∧ m 26 i = nI g)) → fX5_fault_29 n m (nI g) x2 (nI k) = some m := by
    intro n
    induction n with
    | zero => intro d k m hN h1 h2; omega
    | succ n ih =>
      intro d k m hN h1 h2 hno
      rw [fX5_fault_29.eq_2, hN]
      cases d with
      | zero => rw [if_pos (nI_le (by omega) (by omega))]
      | succ d =>
        have hk := hno k (by omega) (by omega)
        rw [if_neg (nI_ge (by omega) (by omega)), wGd_t (vp_in_nI (by omega) (by decide)), toNat_nI (by omega), nI_1 k]
        have key := ih d (k + 1) m hN (by omega) (by omega) (fun i hi => hno i (by omega))
        by_cases e3 : m 24 k = 3
        · rw [if_pos e3, if_neg (fun e => hk ⟨e3, e⟩)]; exact key
        · rw [if_neg e3]; exact key
  by_cases hu : ∃ i j, i < N ∧ j < N ∧ i ≠ j ∧ (m 24 i = 3 ∧ m 26 i = nI g) ∧ (m 24 j = 3 ∧ m 26 j = nI g)
  · exact Or.inr hu
  · refine Or.inl ?_
    have lp : ∀ (n d k : Nat), k + d = N → d < n → fX5_fault_29 n m (nI g) x2 (nI k) = some (match fst (fun i => m 24 i = 3 ∧ m 26 i = nI g) k d with | none => m | some c => spl m c) := by
      intro n
      induction n with
      | zero => intro d k h1 h2; omega
      | succ n ih =>
        intro d k h1 h2
        rw [fX5_fault_29.eq_2, hN]
        cases d with
        | zero => rw [if_pos (nI_le (by omega) (by omega))]; rfl
        | succ d =>
          rw [if_neg (nI_ge (by omega) (by omega)), wGd_t (vp_in_nI (by omega) (by decide)), toNat_nI (by omega), nI_1 k, m_spoils (by omega)]
          unfold fst
          by_cases e3 : m 24 k = 3
          · by_cases e6 : m 26 k = nI g
            · simp only [e3, e6, if_true, and_self, wBd]
              refine lpA n d (k + 1) (spl m k) ?_ (by omega) (by omega) (fun i hi hiN e => ?_)
              · unfold spl; simp [wU_g]; exact hN
              · have hik : i ≠ k := by omega
                refine hu ⟨i, k, hiN, by omega, hik, ?_, e3, e6⟩
                unfold spl at e
                simp [wU_g, hik] at e
                exact e
            · simp only [e3, e6, if_true, if_false, and_false]; exact ih d (k + 1) (by omega) (by omega)
          · simp only [e3, if_false, false_and]; exact ih d (k + 1) (by omega) (by omega)
    exact lp wN N 0 (by omega) (by unfold wN; omega)
theorem sim_fault {ng N M nx : Nat} {sh ln : Nat → Nat} {iv : wI} {rv : wJ} {m : wI} (h : Rel ng N M nx sh ln iv rv m) (a b : Int32) : ∃ iv' rv' m' r, fX4_fault ng sh iv rv a b = some (iv', rv', r) ∧ fX5_fault m a b = some (m', r) ∧ Rel ng N M nx sh ln iv' rv' m' := by
  obtain ⟨q1, q2, q3, q4, q5, q6, q7, q8, q9⟩ := h.N
  unfold fX4_fault fX5_fault
  rw [q6]
  rcases pk_ix a (n := ng) (by omega) with h0 | h0 | ⟨g, hg, rfl⟩
  · rw [among_no (Or.inl h0), in_no (Or.inl h0) (by omega)]
    exact ⟨iv, rv, m, 0, rfl, rfl, h⟩
  · rw [among_no (Or.inr h0), in_no (Or.inr h0) (by omega)]
    exact ⟨iv, rv, m, 0, rfl, rfl, h⟩
  · rw [among_yes hg (by omega), in_yes hg (by omega), in_eq b 1 200]
    by_cases h1 : b < 1
    · exact ⟨iv, rv, m, 0, by simp [wBd, h1], by simp [wBd, h1], h⟩
    by_cases h2 : 200 < b
    · have h2' : ¬ b ≤ 200 := by grind
      exact ⟨iv, rv, m, 0, by simp [wBd, h1, h2'], by simp [wBd, h1, h2], h⟩
    have h2' : b ≤ 200 := by grind
    obtain ⟨hB, hV, hSc, hSt, hRc, hCt, hCu, hFr, hGr, hWa, hGp, hLg⟩ := id h
    obtain ⟨g1, g2, g3, g4, gk⟩ := id (hGp g hg)
    have sg : sh (g + 13) = 2 := hB.2.2.2.2.2.2.1 g hg
    simp only [wBd, h1, h2, h2', if_true, if_false, show ¬ (1 : Int32) = 0 by decide, toNat_nI (show g < 2 ^ 31 by omega), wGd_t (vp_in_nI hg (show ng < 2 ^ 31 by omega)), wGd_t (vp_in_nI (show g < 3 by omega) (show 3 < 2 ^ 31 by decide)), g1, wGd_t sg, fX1_becomeFree, wLt, wB2]
    by_cases hfr : rv (g + 13) 5 = 0 ∧ (∀ i, i < N → m 24 i = 3 → m 26 i ≠ nI g)
    · obtain ⟨k1, k5⟩ := hfr
      rw [if_pos k1]
      have mf : fX5_fault_29 wN m (nI g) b 0 = some m := by
        rcases m_fault (g := g) (x2 := b) q3 q1 with e | ⟨i, j, e1, e2, e3, e4, e5⟩
        · rw [e, fst_no (fun i hi e => k5 i hi e.1 e.2)]
        · exact absurd e4.2 (k5 i e1 e4.1)
      rw [mf]
      have hrv : wV rv (g + 13) 5 0 = rv := by
        funext a j
        simp only [wV_g]
        split
        · split
          · rename_i e1 e2; rw [e1, e2, k1]
          · rfl
        · rfl
      rw [hrv]
      refine ⟨_, _, _, 1, rfl, rfl, ?_⟩
      refine h.grp (g := g) (fun a x y z => by rw [wU_ne a x, wU_ne a x, wU_ne a x]) (fun a x _ y z w => by rw [wU_ne a w, wU_ne a y]) (fun d hd => by simp [wU_g, hd]) hg ?_ (hSt.congr (by rw [wU_ne 6 (by omega), wU_ne 6 (by omega), wU_ne 6 (by omega)]) (by rw [wU_ne 17 (by decide), wU_ne 17 (by decide)])) ?_ (by rw [wU_ne 1 (by omega), wU_ne 1 (by omega), wU_ne 1 (by omega)])
      · unfold RSc; rw [wU_ne 1 (by omega), wU_ne 1 (by omega), wU_ne 1 (by omega), wU_ne 1 (by decide), wU_ne 1 (by decide)]; exact hSc
      · unfold GrpR
        simp only [wU_g]
        simp
        exact ⟨g1, g2, g3, k1, k5⟩
    rcases gk with ⟨k1, k2, k3, k4, k5⟩ | ⟨k1, k2, k3, k4, k5⟩ | ⟨c, hc, k2, k3, k4, k5, k6, k7, k8⟩
    · exact absurd ⟨k1, k5⟩ hfr
    · exact absurd ⟨k1, k5⟩ hfr
    · rw [k2, if_neg (show ¬ c + 100 = 0 by omega)]
      have hcup := hCu c hc
      obtain ⟨a1, a2, ⟨a3, a4, a5⟩, a6, a7, a8, a9, a10, a11, a12, a13, a14, a15, a16⟩ := id hcup
      have sc : sh (c + 100) = 1 := hB.2.2.2.2.2.2.2.1 c hc
      have mf : fX5_fault_29 wN m (nI g) b 0 = some (spl m c) := by
        rcases m_fault (g := g) (x2 := b) q3 q1 with e | ⟨i, j, e1, e2, e3, e4, e5⟩
        · rw [e, fst_uniq hc ⟨k6, k7⟩ (fun i hi e => k8 i hi e.1 e.2)]
        · exact absurd ((k8 i e1 e4.1 e4.2).trans (k8 j e2 e5.1 e5.2).symm) e3
      obtain ⟨iv1, rv1, e0, e1, e2, e3, e3b, e3c, e3d, e4, e5, e6, e8⟩ := again_ok (ng := ng) (s := 3) sc a3 (by rw [a9, k6]; rfl) (by decide) q1 hc k6 hCt
      rw [mf, e0]
      refine ⟨_, _, _, 1, rfl, rfl, ?_⟩
      generalize hI : wU (wU (wU iv1 (g + 13) 1 0) (g + 13) 2 0) (g + 13) 4 b = iv2
      have oi : ∀ a, a ≠ g + 13 → iv2 a = iv1 a := fun a x => by rw [← hI, wU_ne a x, wU_ne a x, wU_ne a x]
      have og : iv2 (g + 13) 0 = iv (g + 13) 0 ∧ iv2 (g + 13) 1 = 0 ∧ iv2 (g + 13) 2 = 0 ∧ iv2 (g + 13) 3 = iv (g + 13) 3 ∧ iv2 (g + 13) 4 = b := by
        rw [← hI, ← e1 (g + 13) (by omega) (by omega) (by omega)]; simp only [wU_g]; simp
      unfold spl
      generalize hm' : wU (wU (wU (wU (wU m 1 23 (m 1 23 + m 19 c / 1000000)) 29 c (m 29 c + 1)) 24 c 0) 30 g 0) 32 g b = m'
      have ho : off c 0 m m' := by
        rw [← hm']
        refine off_up ?_ (fun a x y i hi => ?_) (fun a x y => ?_)
        · rw [wU_ne 24 (by decide), wU_ne 24 (by decide), wU_self, wU_ne 24 (by decide), wU_ne 24 (by decide)]
        · simp only [wU_g]; simp [hi, show ¬ a = 1 by omega, show ¬ a = 30 by omega, show ¬ a = 32 by omega]
        · rw [wU_ne a (by omega), wU_ne a (by omega), wU_ne a (by omega), wU_ne a (by omega), wU_ne a (by omega)]
      have om : ∀ a, a ≠ 24 → a ≠ 29 → a ≠ 1 → a ≠ 30 → a ≠ 32 → m' a = m a := fun a x y z u v => by rw [← hm', wU_ne a v, wU_ne a u, wU_ne a x, wU_ne a y, wU_ne a z]
      have om1 : ∀ j, m' 1 j = if j = 23 then m 1 23 + m 19 c / 1000000 else m 1 j := fun j => by rw [← hm']; simp [wU_g]
      have o30 : ∀ d, m' 30 d = if d = g then 0 else m 30 d := fun d => by rw [← hm']; simp [wU_g]
      have o32 : ∀ d, m' 32 d = if d = g then b else m 32 d := fun d => by rw [← hm']; simp [wU_g]
      have orv : ∀ a, a ≠ c + 100 → a ≠ g + 13 → wV rv1 (g + 13) 5 0 a = rv a := fun a x y => by rw [wV_ne a y, e4 a x]
      refine h.move hc (k := 0) ho ?_ ?_ (hSt.congr (by rw [oi 6 (by omega), e1 6 (by decide) (by omega) (by decide)]) (om 17 (by decide) (by decide) (by decide) (by decide) (by decide))) (fun a ha hb => by rw [oi a (by omega), e1 a (by omega) hb (by omega)]) (fun a ha hb => orv a hb (by omega)) (orv 3 (by omega) (by omega)) (orv 4 (by omega) (by omega)) (om 15 (by decide) (by decide) (by decide) (by decide) (by decide)) (om 16 (by decide) (by decide) (by decide) (by decide) (by decide)) (fun k hk => by rw [oi 5 (by omega), e8 k hk, ho.1]) ?_ (hGr.keep ho (by rw [k6]; decide) (by decide) (by rw [orv 1 (by omega) (by omega)])) (hWa.keep ho (by rw [k6]; decide) (by decide) (by rw [orv 1 (by omega) (by omega)])) (fun d hd => ?_) (hLg.keep ho (by rw [k6]; decide) (by decide) (by rw [oi 1 (by omega)]; exact e3c 16 (by decide)))
      · intro a j
        simp only [wV_g]
        split
        · split
          · exact Or.inl rfl
          · exact (hV.turn (rv' := rv1) (fun a ha j => Or.inl (by rw [e4 a ha])) e5 e6) _ _
        · exact (hV.turn (rv' := rv1) (fun a ha j => Or.inl (by rw [e4 a ha])) e5 e6) _ _
      · obtain ⟨s1, s2, s3, s4, s5, s6, s7, s8, s9, s10⟩ := hSc
        unfold RSc
        rw [oi 1 (by omega), e3c 2 (by decide), e3c 4 (by decide), e3c 10 (by decide), e3c 11 (by decide), e3c 12 (by decide), e3c 13 (by decide), e3d, e3c 15 (by decide)]
        simp only [om1]
        simp
        exact ⟨s1, s2, s3, s4, s5, s6, s7, s8, by rw [s9, a5.1.1], s10⟩
      · refine hcup.turned (k := 0) ho (by decide) (by rw [orv 4 (by omega) (by omega)]) (fun j hj => by rw [wV_ne _ (by omega)]; exact e5 j hj) (fun a ha => by rw [oi a (by omega), e1 a (by omega) (by omega) (by omega)]) (fun j hj => by rw [oi _ (by omega)]; exact e2 j (by omega) (by omega)) (by rw [oi _ (by omega)]; exact e3) ?_ ?_ (fun e => by omega) (fun e => by omega) (fun e => by omega) (fun _ => by rw [wV_ne _ (by omega)]; exact e6)
        · rw [oi _ (by omega), e2 6 (by decide) (by decide), om 28 (by decide) (by decide) (by decide) (by decide) (by decide)]; exact a10
        · rw [oi _ (by omega), e3b, a11, ← hm']; simp [wU_g]
      · by_cases e : d = g
        · subst e
          unfold GrpR
          rw [og.1, og.2.1, og.2.2.1, og.2.2.2.1, og.2.2.2.2, orv 2 (by omega) (by omega), o30, o32, om 31 (by decide) (by decide) (by decide) (by decide) (by decide)]
          refine ⟨g1, g2, g3, by simp, Or.inl ⟨by simp [wV_g], rfl, rfl, by simp, fun i hi x1 x2 => ?_⟩⟩
          by_cases hic : i = c
          · rw [hic, ho.at] at x1; exact absurd x1 (by decide)
          · rw [ho.ne hic] at x1
            rw [ho.2.1 26 (by decide) (by decide) i hic] at x2
            exact hic (k8 i hi x1 x2)
        · refine (hGp d hd).keep2 (fun i hi => ?_) (fun i hi u1 u2 => ?_) (by rw [oi _ (by omega), e1 _ (by omega) (by omega) (by omega)]) (orv _ (by omega) (by omega)) (by rw [orv 2 (by omega) (by omega)]) (by rw [o30]; simp [e]) (by rw [om 31 (by decide) (by decide) (by decide) (by decide) (by decide)]) (by rw [o32]; simp [e])
          · by_cases hic : i = c
            · subst hic
              rw [ho.at]
              exact ⟨fun q => absurd q.1 (by decide), fun q => absurd ((nI_eq (by omega) (by omega)).mp (q.2.symm.trans k7)) e⟩
            · rw [ho.ne hic, ho.2.1 26 (by decide) (by decide) i hic]
          · by_cases hic : i = c
            · subst hic
              exact absurd ((nI_eq (by omega) (by omega)).mp (u2.symm.trans k7)) e
            · exact ho.2.1 25 (by decide) (by decide) i hic
