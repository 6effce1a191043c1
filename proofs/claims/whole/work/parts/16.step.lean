theorem Rel.move {ng N M nx c k : Nat} {sh ln : Nat → Nat} {iv iv' : wI} {rv rv' : wJ} {m m' : wI} (h : Rel ng N M nx sh ln iv rv m) (hc : c < N) (ho : off c (nI k) m m') (hV' : RV sh rv') (hSc' : RSc ng N M iv' m') (hSt' : RSt iv' m') (hoi : ∀ a, 100 ≤ a → a ≠ c + 100 → iv' a = iv a) (hor : ∀ a, 100 ≤ a → a ≠ c + 100 → rv' a = rv a) (hr3 : rv' 3 = rv 3) (hr4 : rv' 4 = rv 4) (h15 : m' 15 = m 15) (h16 : m' 16 = m 16) (hct : RCt N iv' m') (hcup : CupR ng sh iv' rv' m' c) (hGr' : RAt N rv' m' 8 1) (hWa' : RAt N rv' m' 9 5) (hGp' : RGp ng N iv' rv' m') (hLg' : RLg N iv' m') : Rel ng N M nx sh ln iv' rv' m' := by
  obtain ⟨hB, hV, hSc, hSt, hRc, hCt, hCu, hFr, hGr, hWa, hGp, hLg⟩ := h
  have hN := hB.2.2.2.1
  exact ⟨hB, hV', hSc', hSt', hRc.congr (fun a ha => hoi a (by omega) (by omega)) hr3 h15 h16, hct, hCu.move ho (fun i hi => hoi _ (by omega) (by omega)) (fun i hi => hor _ (by omega) (by omega)) (fun a ha => hoi a (by omega) (by omega)) hr4 hcup, hFr.move hc ho, hGr', hWa', hGp', hLg'⟩
theorem RLg.done {N c : Nat} {d : Int32} {iv iv' m m' : wI} (h : RLg N iv m) (hc : c < N) (ho : off c 6 m m') (h1 : m 24 c ≠ 6) (hd : m' 28 c - m 23 c = d) (hi : iv' 1 16 = if iv 1 16 < d then d else iv 1 16) : RLg N iv' m' := by
  obtain ⟨a1, a2, a3⟩ := h
  have k23 : m' 23 = m 23 := ho.2.2 23 (by decide) (by decide)
  have ge : iv 1 16 ≤ iv' 1 16 := by rw [hi]; split <;> grind
  have gd : d ≤ iv' 1 16 := by rw [hi]; split <;> grind
  unfold RLg
  rw [k23]
  refine ⟨by grind, fun i hi e => ?_, ?_⟩
  · by_cases hic : i = c
    · rw [hic, hd]; exact gd
    · rw [ho.ne hic] at e
      rw [ho.2.1 28 (by decide) (by decide) i hic]
      have := a2 i hi e
      grind
  · by_cases hl : iv 1 16 < d
    · rw [if_pos hl] at hi
      exact Or.inr ⟨c, hc, ho.at, by rw [hi, hd]⟩
    · rw [if_neg hl] at hi
      rw [hi]
      rcases a3 with a3 | ⟨i, i1, i2, i3⟩
      · exact Or.inl a3
      · have hic : i ≠ c := fun e => h1 (e ▸ i2)
        exact Or.inr ⟨i, i1, by rw [ho.ne hic]; exact i2, by rw [ho.2.1 28 (by decide) (by decide) i hic]; exact i3⟩
theorem GrpR.keep2 {N g : Nat} {iv iv' : wI} {rv rv' : wJ} {m m' : wI} (h : GrpR N iv rv m g) (hiff : ∀ i, i < N → ((m' 24 i = 3 ∧ m' 26 i = nI g) ↔ (m 24 i = 3 ∧ m 26 i = nI g))) (h25 : ∀ i, i < N → m 24 i = 3 → m 26 i = nI g → m' 25 i = m 25 i) (hi : iv' (g + 13) = iv (g + 13)) (hr : rv' (g + 13) = rv (g + 13)) (hr2 : rv' 2 g = rv 2 g) (h30 : m' 30 g = m 30 g) (h31 : m' 31 g = m 31 g) (h32 : m' 32 g = m 32 g) : GrpR N iv' rv' m' g := by
  obtain ⟨a1, a2, a3, a4, k⟩ := h
  unfold GrpR
  rw [hi, hr, hr2, h30, h31, h32]
  refine ⟨a1, a2, a3, a4, ?_⟩
  rcases k with ⟨k1, k2, k3, k4, k5⟩ | ⟨k1, k2, k3, k4, k5⟩ | ⟨d, k1, k2, k3, k4, k5, k6, k7, k8⟩
  · exact Or.inl ⟨k1, k2, k3, k4, fun i hi e e2 => by obtain ⟨u, v⟩ := (hiff i hi).mp ⟨e, e2⟩; exact k5 i hi u v⟩
  · exact Or.inr (Or.inl ⟨k1, k2, k3, k4, fun i hi e e2 => by obtain ⟨u, v⟩ := (hiff i hi).mp ⟨e, e2⟩; exact k5 i hi u v⟩)
  · obtain ⟨u, v⟩ := (hiff d k1).mpr ⟨k6, k7⟩
    exact Or.inr (Or.inr ⟨d, k1, k2, k3, by rw [h25 d k1 k6 k7]; exact k4, k5, u, v, fun i hi e e2 => by obtain ⟨u, v⟩ := (hiff i hi).mp ⟨e, e2⟩; exact k8 i hi u v⟩)
theorem RV.turn {sh : Nat → Nat} {rv rv' : wJ} {c : Nat} (h : RV sh rv) (h1 : ∀ a, a ≠ c + 100 → ∀ j, rv' a j = rv a j ∨ rv' a j = 0) (h2 : ∀ j, j ≠ 10 → rv' (c + 100) j = rv (c + 100) j) (h3 : rv' (c + 100) 10 = 0) : RV sh rv' := by
  intro a j
  by_cases ha : a = c + 100
  · subst ha
    by_cases hj : j = 10
    · rw [hj]; exact Or.inl h3
    · rw [h2 j hj]; exact h _ _
  · rcases h1 a ha j with e | e
    · rw [e]; exact h _ _
    · exact Or.inl e
/-- the wand's tick -/
theorem step_wand {ng N M nx : Nat} {sh ln : Nat → Nat} {iv : wI} {rv : wJ} {m : wI} (h : Rel ng N M nx sh ln iv rv m) : ∃ iv' rv', fX4_endSteaming ng sh iv rv = some (iv', rv') ∧ (((∀ i, i < N → m 24 i ≠ 5) ∧ Rel ng N M nx sh ln iv' rv' m) ∨ ∃ c, c < N ∧ m 24 c = 5 ∧ (∀ i, i < N → m 24 i = 5 → i = c) ∧ Rel ng N M nx sh ln iv' rv' (goes m c)) := by
  obtain ⟨q1, q2, q3, q4, q5, q6, q7, q8, q9⟩ := h.N
  obtain ⟨hB, hV, hSc, hSt, hRc, hCt, hCu, hFr, hGr, hWa, hGp, hLg⟩ := id h
  unfold fX4_endSteaming
  rcases hWa with ⟨g1, g2⟩ | ⟨c, hc, g1, g2, g3⟩
  · exact ⟨iv, rv, by rw [if_pos g1], Or.inl ⟨g2, h⟩⟩
  · have hcup := hCu c hc
    obtain ⟨a1, a2, ⟨a3, a4, a5⟩, a6, a7, a8, a9, a10, a11, a12, a13, a14, a15, a16⟩ := id hcup
    have sc : sh (c + 100) = 1 := hB.2.2.2.2.2.2.2.1 c hc
    have t7 := a13 (Or.inr g2)
    have b10 : rv (c + 100) 10 = 0 := a16 (by rw [g2]; decide)
    have n3 : m 24 c ≠ 3 := by rw [g2]; decide
    have n1 : m 24 c ≠ 1 := by rw [g2]; decide
    rw [g1, if_neg (by omega), wGd_t sc, t7]
    simp only [wLt]
    have e7 : wU iv (c + 100) 7 (m 25 c - 1) (c + 100) 7 = m 25 c - 1 := by simp [wU_g]
    rw [e7]
    by_cases hl : m 25 c - 1 ≤ 0
    · rw [if_neg (by grind)]
      have hC2 : RCt N (wU iv (c + 100) 7 (m 25 c - 1)) m := hCt.congr (by rw [wU_ne 5 (by omega)]) rfl
      obtain ⟨iv1, rv1, e0, e1, e2, e3, e3b, e3c, e3d, e4, e5, e6, e8⟩ := finish_ok (ng := ng) (s := 5) (rv := wV rv 1 9 0) sc (iv := wU iv (c + 100) 7 (m 25 c - 1)) (by simp only [wU_g]; simp; rw [a9, g2]; rfl) (by decide) q1 hc g2 hC2
      rw [e0]
      refine ⟨iv1, rv1, rfl, Or.inr ⟨c, hc, g2, g3, ?_⟩⟩
      have gm : goes m c = wU (wU (wU m 25 c (m 25 c - 1)) 24 c 6) 28 c (m 1 2) := by unfold goes; rw [if_pos hl, if_neg n1, if_neg n3]
      rw [gm]
      generalize hm' : wU (wU (wU m 25 c (m 25 c - 1)) 24 c 6) 28 c (m 1 2) = m'
      have ho : off c 6 m m' := by
        rw [← hm']
        refine off_up ?_ (fun a x y i hi => ?_) (fun a x y => ?_)
        · rw [wU_ne 24 (by decide), wU_self, wU_ne 24 (by decide)]
        · simp only [wU_g]; simp [hi]
        · rw [wU_ne a (by omega), wU_ne a (by omega), wU_ne a (by omega)]
      have u1 : wU iv (c + 100) 7 (m 25 c - 1) 1 = iv 1 := wU_ne 1 (by omega)
      rw [u1] at e3b e3c e3d
      have oiv : ∀ a, a ≠ 5 → a ≠ c + 100 → a ≠ 1 → iv1 a = iv a := fun a x y z => by rw [e1 a x y z, wU_ne a y]
      have orv : ∀ a, a ≠ 1 → a ≠ c + 100 → rv1 a = rv a := fun a x y => by rw [e4 a y, wV_ne a x]
      have om : ∀ a, a ≠ 24 → a ≠ 25 → a ≠ 28 → m' a = m a := fun a x y z => by rw [← hm', wU_ne a z, wU_ne a x, wU_ne a y]
      have m28 : m' 28 c = m 1 2 := by rw [← hm']; simp [wU_g]
      have hnow : iv 1 12 = m 1 2 := hSc.2.2.2.2.2.2.1
      refine h.move hc (k := 6) ho (hV.turn (fun a ha j => ?_) (fun j hj => by rw [e5 j hj, wV_ne _ (by omega)]) e6) ?_ (hSt.congr (oiv 6 (by decide) (by omega) (by decide)) (om 17 (by decide) (by decide) (by decide))) (fun a ha hb => oiv a (by omega) hb (by omega)) (fun a ha hb => orv a (by omega) hb) (orv 3 (by decide) (by omega)) (orv 4 (by decide) (by omega)) (om 15 (by decide) (by decide) (by decide)) (om 16 (by decide) (by decide) (by decide)) (fun k hk => by rw [e8 k hk, ho.1]) ?_ (hGr.keep ho n1 (by decide) (by rw [e4 1 (by omega)]; simp [wV_g])) (Or.inl ⟨by rw [e4 1 (by omega)]; simp [wV_g], fun i hi e => ?_⟩) (fun g hg => (hGp g hg).keep ho n3 (by decide) (oiv _ (by omega) (by omega) (by omega)) (orv _ (by omega) (by omega)) (by rw [orv 2 (by decide) (by omega)]) (by rw [om 30 (by decide) (by decide) (by decide)]) (by rw [om 31 (by decide) (by decide) (by decide)]) (by rw [om 32 (by decide) (by decide) (by decide)])) (hLg.done hc ho (by rw [g2]; decide) (d := m 1 2 - m 23 c) (by rw [m28]) ?_)
      · rw [e4 a ha]; simp only [wV_g]; split
        · split
          · exact Or.inr rfl
          · exact Or.inl rfl
        · exact Or.inl rfl
      · unfold RSc; rw [om 1 (by decide) (by decide) (by decide), e3c 2 (by decide), e3c 4 (by decide), e3c 10 (by decide), e3c 11 (by decide), e3c 12 (by decide), e3c 13 (by decide), e3c 14 (by decide), e3c 15 (by decide)]; exact hSc
      · refine hcup.turned (k := 6) ho (by decide) (by rw [orv 4 (by decide) (by omega)]) (fun j hj => by rw [e5 j hj, wV_ne _ (by omega)]) (fun a ha => oiv a (by omega) (by omega) (by omega)) (fun j hj => ?_) e3 (by rw [e3b, m28]; exact hnow) ?_ (fun e => by omega) (fun e => by omega) (fun e => by omega) (fun _ => e6)
        · rw [e2 j (by omega) (by omega)]; simp only [wU_g]; simp [show ¬ j = 7 by omega]
        · rw [e2 9 (by decide) (by decide), om 29 (by decide) (by decide) (by decide)]; simp only [wU_g]; simp; exact a11
      · by_cases hic : i = c
        · rw [hic, ho.at] at e; exact absurd e (by decide)
        · rw [ho.ne hic] at e; exact hic (g3 i hi e)
      · rw [e3d, wU_g, hnow]; simp; rw [a8]
    · rw [if_pos (by grind)]
      refine ⟨_, _, rfl, Or.inr ⟨c, hc, g2, g3, ?_⟩⟩
      have gm : goes m c = wU m 25 c (m 25 c - 1) := by unfold goes; rw [if_neg hl]
      rw [gm]
      generalize hm' : wU m 25 c (m 25 c - 1) = m'
      have om : ∀ a, a ≠ 25 → m' a = m a := fun a y => by rw [← hm', wU_ne a y]
      have ho : off c 5 m m' := by
        rw [← hm']
        refine off_up ?_ (fun a x y i hi => ?_) (fun a x y => ?_)
        · rw [wU_ne 24 (by decide), ← g2, va_same]
        · simp only [wU_g]; simp [hi]
        · rw [wU_ne a (by omega)]
      have oiv : ∀ a, a ≠ c + 100 → wU iv (c + 100) 7 (m 25 c - 1) a = iv a := fun a y => wU_ne a y
      refine h.move hc (k := 5) ho hV ?_ (hSt.congr (oiv 6 (by omega)) (om 17 (by decide))) (fun a ha hb => oiv a hb) (fun a ha hb => rfl) rfl rfl (om 15 (by decide)) (om 16 (by decide)) (hCt.congr (oiv 5 (by omega)) (om 24 (by decide))) ?_ (hGr.congr rfl (om 24 (by decide))) (RAt.congr (Or.inr ⟨c, hc, g1, g2, g3⟩) rfl (om 24 (by decide))) (fun g hg => (hGp g hg).keep ho n3 (by decide) (oiv _ (by omega)) rfl rfl (by rw [om 30 (by decide)]) (by rw [om 31 (by decide)]) (by rw [om 32 (by decide)])) (hLg.keep ho (by rw [g2]; decide) (by decide) (by rw [oiv 1 (by omega)]))
      · unfold RSc; rw [oiv 1 (by omega), om 1 (by decide)]; exact hSc
      · refine hcup.turned (k := 5) ho (by decide) rfl (fun j hj => rfl) (fun a ha => oiv a (by omega)) (fun j hj => ?_) ?_ ?_ ?_ (fun e => by omega) (fun _ => ?_) (fun e => by omega) (fun _ => b10)
        · simp only [wU_g]; simp [show ¬ j = 7 by omega]
        · simp only [wU_g]; simp; rw [a9, g2]; rfl
        · rw [om 28 (by decide)]; simp only [wU_g]; simp; exact a10
        · rw [om 29 (by decide)]; simp only [wU_g]; simp; exact a11
        · rw [← hm']; simp only [wU_g]; simp
/-- grounds that lie too long -/
theorem step_old {ng N M nx c : Nat} {sh ln : Nat → Nat} {iv : wI} {rv : wJ} {m : wI} (h : Rel ng N M nx sh ln iv rv m) (hc : c < N) (g2 : m 24 c = 2) : ∃ iv' rv', fX4_waitAgain ng sh iv rv (c + 100) = some (iv', rv') ∧ Rel ng N M nx sh ln iv' rv' (spl m c) := by
  obtain ⟨q1, q2, q3, q4, q5, q6, q7, q8, q9⟩ := h.N
  obtain ⟨hB, hV, hSc, hSt, hRc, hCt, hCu, hFr, hGr, hWa, hGp, hLg⟩ := id h
  have hcup := hCu c hc
  obtain ⟨a1, a2, ⟨a3, a4, a5⟩, a6, a7, a8, a9, a10, a11, a12, a13, a14, a15, a16⟩ := id hcup
  have sc : sh (c + 100) = 1 := hB.2.2.2.2.2.2.2.1 c hc
  obtain ⟨iv1, rv1, e0, e1, e2, e3, e3b, e3c, e3d, e4, e5, e6, e8⟩ := again_ok (ng := ng) (s := 2) sc a3 (by rw [a9, g2]; rfl) (by decide) q1 hc g2 hCt
  refine ⟨iv1, rv1, e0, ?_⟩
  unfold spl
  generalize hm' : wU (wU (wU m 1 23 (m 1 23 + m 19 c / 1000000)) 29 c (m 29 c + 1)) 24 c 0 = m'
  have ho : off c 0 m m' := by
    rw [← hm']
    refine off_up ?_ (fun a x y i hi => ?_) (fun a x y => ?_)
    · rw [wU_self, wU_ne 24 (by decide), wU_ne 24 (by decide)]
    · simp only [wU_g]; simp [hi, show ¬ a = 1 by omega]
    · rw [wU_ne a (by omega), wU_ne a (by omega), wU_ne a (by omega)]
  have om : ∀ a, a ≠ 24 → a ≠ 29 → a ≠ 1 → m' a = m a := fun a x y z => by rw [← hm', wU_ne a x, wU_ne a y, wU_ne a z]
  have om1 : ∀ j, j ≠ 23 → m' 1 j = m 1 j := fun j hj => by rw [← hm']; simp [wU_g, hj]
  refine h.move hc (k := 0) ho (hV.turn (fun a ha j => Or.inl (by rw [e4 a ha])) e5 e6) ?_ (hSt.congr (e1 6 (by decide) (by omega) (by decide)) (om 17 (by decide) (by decide) (by decide))) (fun a ha hb => e1 a (by omega) hb (by omega)) (fun a ha hb => e4 a hb) (e4 3 (by omega)) (e4 4 (by omega)) (om 15 (by decide) (by decide) (by decide)) (om 16 (by decide) (by decide) (by decide)) (fun k hk => by rw [e8 k hk, ho.1]) ?_ (hGr.keep ho (by rw [g2]; decide) (by decide) (by rw [e4 1 (by omega)])) (hWa.keep ho (by rw [g2]; decide) (by decide) (by rw [e4 1 (by omega)])) (fun g hg => (hGp g hg).keep ho (by rw [g2]; decide) (by decide) (e1 _ (by omega) (by omega) (by omega)) (e4 _ (by omega)) (by rw [e4 2 (by omega)]) (by rw [om 30 (by decide) (by decide) (by decide)]) (by rw [om 31 (by decide) (by decide) (by decide)]) (by rw [om 32 (by decide) (by decide) (by decide)])) (hLg.keep ho (by rw [g2]; decide) (by decide) (e3c 16 (by decide)))
  · obtain ⟨s1, s2, s3, s4, s5, s6, s7, s8, s9, s10⟩ := hSc
    unfold RSc
    rw [e3c 2 (by decide), e3c 4 (by decide), e3c 10 (by decide), e3c 11 (by decide), e3c 12 (by decide), e3c 13 (by decide), e3d, e3c 15 (by decide), om1 4 (by decide), om1 8 (by decide), om1 0 (by decide), om1 1 (by decide), om1 3 (by decide), om1 2 (by decide), om1 25 (by decide), om1 24 (by decide)]
    refine ⟨s1, s2, s3, s4, s5, s6, s7, s8, ?_, s10⟩
    rw [← hm', s9, a5.1.1]
    simp [wU_g]
  · refine hcup.turned (k := 0) ho (by decide) (by rw [e4 4 (by omega)]) e5 (fun a ha => e1 a (by omega) (by omega) (by omega)) (fun j hj => e2 j (by omega) (by omega)) e3 ?_ ?_ (fun e => by omega) (fun e => by omega) (fun e => by omega) (fun _ => e6)
    · rw [e2 6 (by decide) (by decide), om 28 (by decide) (by decide) (by decide)]; exact a10
    · rw [e3b, a11, ← hm']; simp [wU_g]
