/-- only a group's own numbers, and the object's and the stores', change -/
theorem Rel.grp {ng N M nx g : Nat} {sh ln : Nat → Nat} {iv iv' : wI} {rv : wJ} {m m' : wI} (h : Rel ng N M nx sh ln iv rv m) (hoi : ∀ a, a ≠ g + 13 → a ≠ 1 → a ≠ 6 → iv' a = iv a) (hom : ∀ a, a ≠ 1 → a ≠ 17 → a ≠ 30 → a ≠ 31 → a ≠ 32 → m' a = m a) (h30 : ∀ d, d ≠ g → m' 30 d = m 30 d ∧ m' 31 d = m 31 d ∧ m' 32 d = m 32 d) (hg : g < ng) (hSc' : RSc ng N M iv' m') (hSt' : RSt iv' m') (hG : GrpR N iv' rv m' g) (h16 : iv' 1 16 = iv 1 16) : Rel ng N M nx sh ln iv' rv m' := by
  obtain ⟨q1, q2, q3, q4, q5, q6, q7, q8, q9⟩ := h.N
  obtain ⟨hB, hV, hSc, hSt, hRc, hCt, hCu, hFr, hGr, hWa, hGp, hLg⟩ := h
  have o24 := hom 24 (by decide) (by decide) (by decide) (by decide) (by decide)
  refine ⟨hB, hV, hSc', hSt', hRc.congr (fun a ha => hoi a (by omega) (by omega) (by omega)) rfl (hom 15 (by decide) (by decide) (by decide) (by decide) (by decide)) (hom 16 (by decide) (by decide) (by decide) (by decide) (by decide)), hCt.congr (hoi 5 (by omega) (by decide) (by decide)) o24, hCu.congr (fun i hi => hoi _ (by omega) (by omega) (by omega)) (fun _ _ => rfl) (fun a ha => hoi a (by omega) (by omega) (by omega)) rfl (fun a x y => hom a (by omega) (by omega) (by omega) (by omega) (by omega)), hFr.congr o24 (hom 29 (by decide) (by decide) (by decide) (by decide) (by decide)), hGr.congr rfl o24, hWa.congr rfl o24, fun d hd => ?_, hLg.congr h16 o24 (hom 28 (by decide) (by decide) (by decide) (by decide) (by decide)) (hom 23 (by decide) (by decide) (by decide) (by decide) (by decide))⟩
  by_cases e : d = g
  · rw [e]; exact hG
  · obtain ⟨k1, k2, k3⟩ := h30 d e
    exact (hGp d hd).congr (hoi _ (by omega) (by omega) (by omega)) rfl rfl o24 (hom 25 (by decide) (by decide) (by decide) (by decide) (by decide)) (hom 26 (by decide) (by decide) (by decide) (by decide) (by decide)) k1 k2 k3
def fdI (iv : wI) (g : Nat) : wI := if iv (g + 13) 4 ≤ 0 then iv else wU iv (g + 13) 4 (iv (g + 13) 4 - 1)
def fdM (m : wI) (g : Nat) : wI := if m 32 g ≤ 0 then m else wU m 32 g (m 32 g - 1)
def gst (m : wI) (g : Nat) : wI :=
  if m 30 g = 0 then fdM m g
  else if m 30 g - 1 ≤ 0 then wU (wU (wU (fdM m g) 30 g (m 30 g - 1)) 31 g 0) 1 24 (m 1 24 + 1)
  else wU (fdM m g) 30 g (m 30 g - 1)
theorem Rel.fd {ng N M nx g : Nat} {sh ln : Nat → Nat} {iv : wI} {rv : wJ} {m : wI} (h : Rel ng N M nx sh ln iv rv m) (hg : g < ng) : Rel ng N M nx sh ln (fdI iv g) rv (fdM m g) := by
  obtain ⟨q1, q2, q3, q4, q5, q6, q7, q8, q9⟩ := h.N
  obtain ⟨hB, hV, hSc, hSt, hRc, hCt, hCu, hFr, hGr, hWa, hGp, hLg⟩ := id h
  obtain ⟨a1, a2, a3, a4, k⟩ := hGp g hg
  unfold fdI fdM
  rw [a4]
  by_cases e : m 32 g ≤ 0
  · rw [if_pos e, if_pos e]; exact h
  · rw [if_neg e, if_neg e]
    refine h.grp (g := g) (fun a x y z => wU_ne a x) (fun a _ _ _ _ x => wU_ne a x) (fun d hd => ⟨by rw [wU_ne 30 (by decide)], by rw [wU_ne 31 (by decide)], by simp [wU_g, hd]⟩) hg ?_ ?_ ?_ (by rw [wU_ne 1 (by omega)])
    · unfold RSc; rw [wU_ne 1 (by omega), wU_ne 1 (by decide)]; exact hSc
    · exact hSt.congr (wU_ne 6 (by omega)) (wU_ne 17 (by decide))
    · unfold GrpR
      rw [wU_ne 31 (by decide), wU_ne 30 (by decide), wU_ne 24 (by decide), wU_ne 25 (by decide), wU_ne 26 (by decide)]
      simp only [wU_g]
      simp
      exact ⟨a1, a2, a3, k⟩
theorem step_pass {ng N M nx g : Nat} {sh ln : Nat → Nat} {iv : wI} {rv : wJ} {m : wI} (h : Rel ng N M nx sh ln iv rv m) (hg : g < ng) : ∃ iv' rv', fX4_passTickOf ng sh iv rv (g + 13) = some (iv', rv') ∧ (((∀ i, i < N → m 24 i = 3 → m 26 i ≠ nI g) ∧ Rel ng N M nx sh ln iv' rv' (gst m g)) ∨ ∃ c, c < N ∧ m 24 c = 3 ∧ m 26 c = nI g ∧ (∀ i, i < N → m 24 i = 3 → m 26 i = nI g → i = c) ∧ Rel ng N M nx sh ln iv' rv' (goes (gst m g) c)) := by
  have hf := h.fd hg
  obtain ⟨q1, q2, q3, q4, q5, q6, q7, q8, q9⟩ := h.N
  have sg : sh (g + 13) = 2 := h.1.2.2.2.2.2.2.1 g hg
  have f30 : fdM m g 30 = m 30 := by unfold fdM; split <;> first | rfl | exact wU_ne 30 (by decide)
  have f24 : fdM m g 24 = m 24 := by unfold fdM; split <;> first | rfl | exact wU_ne 24 (by decide)
  have f26 : fdM m g 26 = m 26 := by unfold fdM; split <;> first | rfl | exact wU_ne 26 (by decide)
  have f1 : fdM m g 1 = m 1 := by unfold fdM; split <;> first | rfl | exact wU_ne 1 (by decide)
  unfold fX4_passTickOf
  rw [wGd_t sg, show (if iv (g + 13) 4 ≤ 0 then some iv else wLt (wU iv (g + 13) 4 (iv (g + 13) 4 - 1)) (fun (iv6 : wI) => some iv6)) = some (fdI iv g) by unfold fdI wLt; split <;> rfl]
  simp only [wBd]
  rw [show gst m g = (if fdM m g 30 g = 0 then fdM m g else if fdM m g 30 g - 1 ≤ 0 then wU (wU (wU (fdM m g) 30 g (fdM m g 30 g - 1)) 31 g 0) 1 24 (fdM m g 1 24 + 1) else wU (fdM m g) 30 g (fdM m g 30 g - 1)) by unfold gst; rw [f30, f1], ← f24, ← f26]
  generalize fdI iv g = iv at hf ⊢
  generalize fdM m g = m at hf ⊢
  clear h f30 f24 f26 f1
  obtain ⟨hB, hV, hSc, hSt, hRc, hCt, hCu, hFr, hGr, hWa, hGp, hLg⟩ := id hf
  obtain ⟨a1, a2, a3, a4, k⟩ := id (hGp g hg)
  rcases k with ⟨k1, k2, k3, k4, k5⟩ | ⟨k1, k2, k3, k4, k5⟩ | ⟨c, hc, k2, k3, k4, k5, k6, k7, k8⟩
  · exact ⟨iv, rv, by rw [if_pos k2], Or.inl ⟨k5, by rw [if_pos k4]; exact hf⟩⟩
  · rw [if_neg (by rw [k2]; decide), if_neg (by grind)]
    simp only [wLt, wU_g, fX1_becomeFree, wB2]
    simp [k1, k2, k3]
    by_cases hl : m 30 g - 1 ≤ 0
    · simp only [hl, if_true]
      refine ⟨_, _, rfl, Or.inl ⟨k5, ?_⟩⟩
      have hrv : wV rv (g + 13) 5 0 = rv := by
        funext a j
        simp only [wV_g]
        split
        · split
          · rename_i e1 e2; rw [e1, e2, k1]
          · rfl
        · rfl
      rw [hrv]
      refine hf.grp (g := g) (fun a x y z => ?_) (fun a x _ y z _ => ?_) (fun d hd => ?_) hg ?_ ?_ ?_ ?_
      · rw [wU_ne a x, wU_ne a x, wU_ne a y, wU_ne a x, wU_ne a x]
      · rw [wU_ne a x, wU_ne a z, wU_ne a y]
      · simp [wU_g, hd]
      · obtain ⟨s1, s2, s3, s4, s5, s6, s7, s8, s9, s10⟩ := hSc
        unfold RSc
        simp only [wU_g]
        simp [show ¬ 1 = g + 13 by omega]
        exact ⟨s1, s2, s3, s4, s5, s6, s7, s8, s9, s10⟩
      · refine hSt.congr ?_ ?_
        · rw [wU_ne 6 (by omega), wU_ne 6 (by omega), wU_ne 6 (by decide), wU_ne 6 (by omega), wU_ne 6 (by omega)]
        · rw [wU_ne 17 (by decide), wU_ne 17 (by decide), wU_ne 17 (by decide)]
      · unfold GrpR
        simp only [wU_g]
        simp [show ¬ g + 13 = 1 by omega]
        exact ⟨a1, a2, a4, k1, by grind, k5⟩
      · simp only [wU_g]; simp [show ¬ 1 = g + 13 by omega]
    · simp only [hl, if_false]
      refine ⟨_, _, rfl, Or.inl ⟨k5, ?_⟩⟩
      refine hf.grp (g := g) (fun a x y z => wU_ne a x) (fun a x _ y z _ => wU_ne a y) (fun d hd => ?_) hg ?_ ?_ ?_ (by rw [wU_ne 1 (by omega)])
      · simp [wU_g, hd]
      · unfold RSc; rw [wU_ne 1 (by omega), wU_ne 1 (by decide)]; exact hSc
      · exact hSt.congr (wU_ne 6 (by omega)) (wU_ne 17 (by decide))
      · unfold GrpR
        simp only [wU_g]
        simp
        exact ⟨a1, a2, a3, a4, Or.inr (Or.inl ⟨k1, k2, by grind, k5⟩)⟩
  · rw [if_neg (by rw [k3]; decide), if_pos k5]
    have hcup := hCu c hc
    obtain ⟨b1, b2, ⟨b3, b4, b5⟩, b6, b7, b8, b9, b10, b11, b12, b13, b14, b15, b16⟩ := id hcup
    have sc : sh (c + 100) = 1 := hB.2.2.2.2.2.2.2.1 c hc
    have n1 : m 24 c ≠ 1 := by rw [k6]; decide
    have n5 : m 24 c ≠ 5 := by rw [k6]; decide
    have n6 : m 24 c ≠ 6 := by rw [k6]; decide
    have hnow : iv 1 12 = m 1 2 := hSc.2.2.2.2.2.2.1
    have hst : iv (rv (c + 100) 1) 3 = stm m c := b5.1.2.2.2.1
    have hst0 : 0 ≤ stm m c := by rw [← hst]; exact b5.2.2.2.2.1.1
    simp only [wLt, fX1_becomeFree, wB2]
    have e2 : wU iv (g + 13) 2 (iv (g + 13) 2 - 1) (g + 13) 2 = m 25 c - 1 := by simp [wU_g, k4]
    have e1 : wU iv (g + 13) 2 (iv (g + 13) 2 - 1) (g + 13) 1 = 1 := by simp [wU_g, k3]
    rw [e1, e2, k2, if_neg (show ¬ (1 : Int32) = 2 by decide), if_neg (show ¬ c + 100 = 0 by omega)]
    by_cases hl : m 25 c - 1 ≤ 0
    · rw [if_pos hl]
      generalize hI : wU (wU (wU iv (g + 13) 2 (iv (g + 13) 2 - 1)) (g + 13) 1 0) (g + 13) 2 0 = iv2
      have oi : ∀ a, a ≠ g + 13 → iv2 a = iv a := fun a x => by rw [← hI, wU_ne a x, wU_ne a x, wU_ne a x]
      have og : iv2 (g + 13) 0 = iv (g + 13) 0 ∧ iv2 (g + 13) 1 = 0 ∧ iv2 (g + 13) 2 = 0 ∧ iv2 (g + 13) 3 = iv (g + 13) 3 ∧ iv2 (g + 13) 4 = iv (g + 13) 4 := by rw [← hI]; simp only [wU_g]; simp
      have hC2 : RCt N iv2 m := hCt.congr (oi 5 (by omega)) rfl
      have p5 : iv2 (c + 100) 5 = nI 3 := by rw [oi _ (by omega), b9, k6]; rfl
      have pr : wV rv (g + 13) 5 0 (c + 100) = rv (c + 100) := wV_ne _ (by omega)
      unfold fX4_endBrewing
      rw [wGd_t sc, pr, wGd_t b3, oi _ (by omega), hst]
      have others : ∀ (iv' : wI) (rv' : wJ) (m' : wI) (x : Int32), x ≠ 3 → off c x m m' → (∀ a, a ≠ 5 → a ≠ c + 100 → a ≠ 1 → iv' a = iv2 a) → (∀ a, a ≠ c + 100 → rv' a = wV rv (g + 13) 5 0 a) → m' 30 = m 30 → m' 31 = m 31 → m' 32 = m 32 → RGp ng N iv' rv' m' := by
        intro iv' rv' m' x hx ho w1 w2 w3 w4 w5 d hd
        by_cases e : d = g
        · subst e
          unfold GrpR
          rw [w1 _ (by omega) (by omega) (by omega), w2 (d + 13) (by omega), w2 2 (by omega), w3, w4, w5, og.1, og.2.1, og.2.2.1, og.2.2.2.1, og.2.2.2.2]
          refine ⟨by rw [wV_ne 2 (by omega)]; exact a1, a2, a3, a4, Or.inl ⟨by simp [wV_g], rfl, rfl, k5, fun i hi e1 e2 => ?_⟩⟩
          by_cases hic : i = c
          · rw [hic, ho.at] at e1; exact hx e1
          · rw [ho.ne hic] at e1
            rw [ho.2.1 26 (by decide) (by decide) i hic] at e2
            exact hic (k8 i hi e1 e2)
        · refine (hGp d hd).keep2 (fun i hi => ?_) (fun i hi u1 u2 => ?_) (by rw [w1 _ (by omega) (by omega) (by omega)]; exact oi _ (by omega)) (by rw [w2 _ (by omega)]; exact wV_ne _ (by omega)) (by rw [w2 2 (by omega), wV_ne 2 (by omega)]) (by rw [w3]) (by rw [w4]) (by rw [w5])
          · by_cases hic : i = c
            · subst hic
              rw [ho.at]
              exact ⟨fun q => absurd q.1 hx, fun q => absurd ((nI_eq (by omega) (by omega)).mp (q.2.symm.trans k7)) e⟩
            · rw [ho.ne hic, ho.2.1 26 (by decide) (by decide) i hic]
          · by_cases hic : i = c
            · subst hic
              exact absurd ((nI_eq (by omega) (by omega)).mp (u2.symm.trans k7)) e
            · exact ho.2.1 25 (by decide) (by decide) i hic
      have hV2 : RV sh (wV rv (g + 13) 5 0) := by
        intro a j
        simp only [wV_g]
        split
        · split
          · exact Or.inl rfl
          · exact hV _ _
        · exact hV _ _
      by_cases hs : stm m c ≤ 0
      · rw [if_pos (by grind)]
        obtain ⟨iv1, rv1, f0, f1, f2, f3, f3b, f3c, f3d, f4, f5, f6, f8⟩ := finish_ok (ng := ng) (s := 3) (rv := wV rv (g + 13) 5 0) sc p5 (by decide) q1 hc k6 hC2
        rw [f0]
        refine ⟨iv1, rv1, rfl, Or.inr ⟨c, hc, k6, k7, k8, ?_⟩⟩
        have gm : goes m c = wU (wU (wU m 25 c (m 25 c - 1)) 24 c 6) 28 c (m 1 2) := by unfold goes; rw [if_pos hl, if_neg n1, if_pos k6, if_pos hs]
        rw [gm]
        generalize hm' : wU (wU (wU m 25 c (m 25 c - 1)) 24 c 6) 28 c (m 1 2) = m'
        have ho : off c 6 m m' := by
          rw [← hm']
          refine off_up ?_ (fun a x y i hi => ?_) (fun a x y => ?_)
          · rw [wU_ne 24 (by decide), wU_self, wU_ne 24 (by decide)]
          · simp only [wU_g]; simp [hi]
          · rw [wU_ne a (by omega), wU_ne a (by omega), wU_ne a (by omega)]
        have om : ∀ a, a ≠ 24 → a ≠ 25 → a ≠ 28 → m' a = m a := fun a x y z => by rw [← hm', wU_ne a z, wU_ne a x, wU_ne a y]
        have m28 : m' 28 c = m 1 2 := by rw [← hm']; simp [wU_g]
        rw [oi 1 (by omega)] at f3b f3c f3d
        have oiv : ∀ a, a ≠ 5 → a ≠ c + 100 → a ≠ 1 → a ≠ g + 13 → iv1 a = iv a := fun a x y z w => by rw [f1 a x y z, oi a w]
        have orv : ∀ a, a ≠ c + 100 → a ≠ g + 13 → rv1 a = rv a := fun a y w => by rw [f4 a y, wV_ne a w]
        refine hf.move hc (k := 6) ho (hV2.turn (fun a ha j => Or.inl (by rw [f4 a ha])) f5 f6) ?_ (hSt.congr (oiv 6 (by decide) (by omega) (by decide) (by omega)) (om 17 (by decide) (by decide) (by decide))) (fun a ha hb => oiv a (by omega) hb (by omega) (by omega)) (fun a ha hb => orv a hb (by omega)) (orv 3 (by omega) (by omega)) (orv 4 (by omega) (by omega)) (om 15 (by decide) (by decide) (by decide)) (om 16 (by decide) (by decide) (by decide)) (fun k hk => by rw [f8 k hk, ho.1]) ?_ (hGr.keep ho n1 (by decide) (by rw [orv 1 (by omega) (by omega)])) (hWa.keep ho n5 (by decide) (by rw [orv 1 (by omega) (by omega)])) (others iv1 rv1 m' 6 (by decide) ho f1 f4 (om 30 (by decide) (by decide) (by decide)) (om 31 (by decide) (by decide) (by decide)) (om 32 (by decide) (by decide) (by decide))) (hLg.done hc ho n6 (d := m 1 2 - m 23 c) (by rw [m28]) ?_)
        · unfold RSc; rw [om 1 (by decide) (by decide) (by decide), f3c 2 (by decide), f3c 4 (by decide), f3c 10 (by decide), f3c 11 (by decide), f3c 12 (by decide), f3c 13 (by decide), f3c 14 (by decide), f3c 15 (by decide)]; exact hSc
        · refine hcup.turned (k := 6) ho (by decide) (by rw [orv 4 (by omega) (by omega)]) (fun j hj => by rw [f5 j hj, pr]) (fun a ha => oiv a (by omega) (by omega) (by omega) (by omega)) (fun j hj => by rw [f2 j (by omega) (by omega), oi _ (by omega)]) f3 (by rw [f3b, m28]; exact hnow) (by rw [f2 9 (by decide) (by decide), oi _ (by omega), om 29 (by decide) (by decide) (by decide)]; exact b11) (fun e => by omega) (fun e => by omega) (fun e => by omega) (fun _ => f6)
        · rw [f3d, oi _ (by omega), hnow, b8]
      · rw [if_neg (by grind)]
        obtain ⟨iv1, rv1, f0, f1, f2, f3, f4, f5, f6, f8⟩ := turn_ok (ng := ng) (k := 4) (s := 3) (rv := wV rv (g + 13) 5 0) sc p5 (by decide) (by decide) q1 hc k6 hC2
        rw [show (4 : Int32) = nI 4 from rfl, f0]
        refine ⟨iv1, rv1, rfl, Or.inr ⟨c, hc, k6, k7, k8, ?_⟩⟩
        have gm : goes m c = wU (wU m 25 c (m 25 c - 1)) 24 c 4 := by unfold goes; rw [if_pos hl, if_neg n1, if_pos k6, if_neg hs]
        rw [gm]
        generalize hm' : wU (wU m 25 c (m 25 c - 1)) 24 c 4 = m'
        have ho : off c 4 m m' := by
          rw [← hm']
          refine off_up ?_ (fun a x y i hi => ?_) (fun a x y => ?_)
          · rw [wU_self, wU_ne 24 (by decide)]
          · simp only [wU_g]; simp [hi]
          · rw [wU_ne a (by omega), wU_ne a (by omega)]
        have om : ∀ a, a ≠ 24 → a ≠ 25 → m' a = m a := fun a x y => by rw [← hm', wU_ne a x, wU_ne a y]
        have oiv : ∀ a, a ≠ 5 → a ≠ c + 100 → a ≠ g + 13 → iv1 a = iv a := fun a x y w => by rw [f1 a x y, oi a w]
        have orv : ∀ a, a ≠ c + 100 → a ≠ g + 13 → rv1 a = rv a := fun a y w => by rw [f4 a y, wV_ne a w]
        refine hf.move hc (k := 4) ho (hV2.turn (fun a ha j => Or.inl (by rw [f4 a ha])) f5 f6) ?_ (hSt.congr (oiv 6 (by decide) (by omega) (by omega)) (om 17 (by decide) (by decide))) (fun a ha hb => oiv a (by omega) hb (by omega)) (fun a ha hb => orv a hb (by omega)) (orv 3 (by omega) (by omega)) (orv 4 (by omega) (by omega)) (om 15 (by decide) (by decide)) (om 16 (by decide) (by decide)) (fun k hk => by rw [f8 k hk, ho.1]; rfl) ?_ (hGr.keep ho n1 (by decide) (by rw [orv 1 (by omega) (by omega)])) (hWa.keep ho n5 (by decide) (by rw [orv 1 (by omega) (by omega)])) (others iv1 rv1 m' 4 (by decide) ho (fun a x y z => f1 a x y) f4 (om 30 (by decide) (by decide)) (om 31 (by decide) (by decide)) (om 32 (by decide) (by decide))) (hLg.keep ho n6 (by decide) (by rw [oiv 1 (by decide) (by omega) (by omega)]))
        · unfold RSc; rw [om 1 (by decide) (by decide), oiv 1 (by decide) (by omega) (by omega)]; exact hSc
        · refine hcup.turned (k := 4) ho (by decide) (by rw [orv 4 (by omega) (by omega)]) (fun j hj => by rw [f5 j hj, pr]) (fun a ha => oiv a (by omega) (by omega) (by omega)) (fun j hj => by rw [f2 j (by omega), oi _ (by omega)]) f3 (by rw [f2 6 (by decide), oi _ (by omega), om 28 (by decide) (by decide)]; exact b10) (by rw [f2 9 (by decide), oi _ (by omega), om 29 (by decide) (by decide)]; exact b11) (fun e => by omega) (fun e => by omega) (fun e => by omega) (fun _ => f6)
    · rw [if_neg hl]
      refine ⟨_, _, rfl, Or.inr ⟨c, hc, k6, k7, k8, ?_⟩⟩
      have gm : goes m c = wU m 25 c (m 25 c - 1) := by unfold goes; rw [if_neg hl]
      rw [gm]
      generalize hm' : wU m 25 c (m 25 c - 1) = m'
      have om : ∀ a, a ≠ 25 → m' a = m a := fun a y => by rw [← hm', wU_ne a y]
      have ho : off c 3 m m' := by
        rw [← hm']
        refine off_up ?_ (fun a x y i hi => ?_) (fun a x y => ?_)
        · rw [wU_ne 24 (by decide), ← k6, va_same]
        · simp only [wU_g]; simp [hi]
        · rw [wU_ne a (by omega)]
      have oiv : ∀ a, a ≠ g + 13 → wU iv (g + 13) 2 (iv (g + 13) 2 - 1) a = iv a := fun a y => wU_ne a y
      refine hf.move hc (k := 3) ho hV ?_ (hSt.congr (oiv 6 (by omega)) (om 17 (by decide))) (fun a ha hb => oiv a (by omega)) (fun a ha hb => rfl) rfl rfl (om 15 (by decide)) (om 16 (by decide)) (hCt.congr (oiv 5 (by omega)) (om 24 (by decide))) ?_ (hGr.congr rfl (om 24 (by decide))) (hWa.congr rfl (om 24 (by decide))) (fun d hd => ?_) (hLg.congr (by rw [oiv 1 (by omega)]) (om 24 (by decide)) (om 28 (by decide)) (om 23 (by decide)))
      · unfold RSc; rw [oiv 1 (by omega), om 1 (by decide)]; exact hSc
      · refine hcup.turned (k := 3) ho (by decide) rfl (fun j hj => rfl) (fun a ha => oiv a (by omega)) (fun j hj => by rw [oiv _ (by omega)]) (by rw [oiv _ (by omega), b9, k6]; rfl) (by rw [oiv _ (by omega), om 28 (by decide)]; exact b10) (by rw [oiv _ (by omega), om 29 (by decide)]; exact b11) (fun e => by omega) (fun e => by omega) (fun _ => ?_) (fun e => absurd rfl e)
        obtain ⟨g', h1, h2, h3⟩ := b15 k6
        exact ⟨g', h1, by rw [om 26 (by decide)]; exact h2, h3⟩
      · by_cases e : d = g
        · subst e
          unfold GrpR
          rw [om 24 (by decide), om 26 (by decide), om 30 (by decide), om 31 (by decide), om 32 (by decide), ← hm']
          simp only [wU_g]
          simp
          exact ⟨a1, a2, a3, a4, Or.inr (Or.inr ⟨c, hc, k2, k3, by simp [k4], k5, k6, k7, k8⟩)⟩
        · refine (hGp d hd).keep2 (fun i hi => by rw [om 24 (by decide), om 26 (by decide)]) (fun i hi u1 u2 => ?_) (oiv _ (by omega)) rfl rfl (by rw [om 30 (by decide)]) (by rw [om 31 (by decide)]) (by rw [om 32 (by decide)])
          by_cases hic : i = c
          · subst hic
            exact absurd ((nI_eq (by omega) (by omega)).mp (u2.symm.trans k7)) e
          · exact ho.2.1 25 (by decide) (by decide) i hic
