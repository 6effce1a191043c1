theorem finish_ok {ng N c s : Nat} {sh : Nat → Nat} {iv : wI} {rv : wJ} {m : wI} (hs : sh (c + 100) = 1) (h5 : iv (c + 100) 5 = nI s) (hs8 : s < 8) (hN : N ≤ 100) (hc : c < N) (hm : m 24 c = nI s) (hC : RCt N iv m) : ∃ iv' rv', fX4_finish ng sh iv rv (c + 100) = some (iv', rv') ∧ (∀ a, a ≠ 5 → a ≠ c + 100 → a ≠ 1 → iv' a = iv a) ∧ (∀ j, j ≠ 5 → j ≠ 6 → iv' (c + 100) j = iv (c + 100) j) ∧ iv' (c + 100) 5 = 6 ∧ iv' (c + 100) 6 = iv 1 12 ∧ (∀ j, j ≠ 16 → iv' 1 j = iv 1 j) ∧ iv' 1 16 = (if iv 1 16 < iv 1 12 - iv (c + 100) 4 then iv 1 12 - iv (c + 100) 4 else iv 1 16) ∧ (∀ a, a ≠ c + 100 → rv' a = rv a) ∧ (∀ j, j ≠ 10 → rv' (c + 100) j = rv (c + 100) j) ∧ rv' (c + 100) 10 = 0 ∧ ∀ j, j < 8 → iv' 5 j = nI (cnt (va_up (m 24) c 6) (nI j) N) := by
  obtain ⟨iv1, rv1, e0, e1, e2, e3, e4, e5, e6, e7⟩ := turn_ok (ng := ng) (k := 6) (rv := rv) hs h5 hs8 (by decide) hN hc hm hC
  unfold fX4_finish
  rw [show (6 : Int32) = nI 6 from rfl, e0]
  simp only [wB2, wGd_t hs, wLt]
  have o1 : iv1 1 = iv 1 := e1 1 (by decide) (by omega)
  refine ⟨_, _, rfl, fun a h1 h2 h3 => ?_, fun j h1 h2 => ?_, ?_, ?_, fun j hj => ?_, ?_, e4, e5, e6, fun j hj => ?_⟩
  · rw [wU_ne a h3, wU_ne a h2]; exact e1 a h1 h2
  · rw [wU_ne _ (by omega)]; simp [wU_g, h2]; exact e2 j h1
  · rw [wU_ne _ (by omega)]; simp [wU_g]; exact e3
  · rw [wU_ne _ (by omega)]; simp [wU_g, o1]
  · simp only [wU_g]; simp [hj, show ¬ 1 = c + 100 by omega, o1]
  · simp only [wU_g]; simp [show ¬ 1 = c + 100 by omega, o1, e2 4 (by decide)]
  · rw [wU_ne 5 (by decide), wU_ne 5 (by omega)]; exact e7 j hj
theorem again_ok {ng N c s : Nat} {sh : Nat → Nat} {iv : wI} {rv : wJ} {m : wI} (hs : sh (c + 100) = 1) (hr : sh (rv (c + 100) 1) = 4) (h5 : iv (c + 100) 5 = nI s) (hs8 : s < 8) (hN : N ≤ 100) (hc : c < N) (hm : m 24 c = nI s) (hC : RCt N iv m) : ∃ iv' rv', fX4_waitAgain ng sh iv rv (c + 100) = some (iv', rv') ∧ (∀ a, a ≠ 5 → a ≠ c + 100 → a ≠ 1 → iv' a = iv a) ∧ (∀ j, j ≠ 5 → j ≠ 9 → iv' (c + 100) j = iv (c + 100) j) ∧ iv' (c + 100) 5 = 0 ∧ iv' (c + 100) 9 = iv (c + 100) 9 + 1 ∧ (∀ j, j ≠ 14 → iv' 1 j = iv 1 j) ∧ iv' 1 14 = iv 1 14 + iv (rv (c + 100) 1) 0 ∧ (∀ a, a ≠ c + 100 → rv' a = rv a) ∧ (∀ j, j ≠ 10 → rv' (c + 100) j = rv (c + 100) j) ∧ rv' (c + 100) 10 = 0 ∧ ∀ j, j < 8 → iv' 5 j = nI (cnt (va_up (m 24) c 0) (nI j) N) := by
  unfold fX4_waitAgain
  simp only [wGd_t hs, wGd_t hr, wLt]
  have hC2 : RCt N (wU (wU iv 1 14 (iv 1 14 + iv (rv (c + 100) 1) 0)) (c + 100) 9 (wU iv 1 14 (iv 1 14 + iv (rv (c + 100) 1) 0) (c + 100) 9 + 1)) m := hC.congr (by rw [wU_ne 5 (by omega), wU_ne 5 (by decide)]) rfl
  obtain ⟨iv1, rv1, e0, e1, e2, e3, e4, e5, e6, e7⟩ := turn_ok (ng := ng) (k := 0) (rv := rv) hs (iv := wU (wU iv 1 14 (iv 1 14 + iv (rv (c + 100) 1) 0)) (c + 100) 9 (wU iv 1 14 (iv 1 14 + iv (rv (c + 100) 1) 0) (c + 100) 9 + 1)) (by simp only [wU_g]; simp; exact h5) hs8 (by decide) hN hc hm hC2
  rw [show (0 : Int32) = nI 0 from rfl, e0]
  refine ⟨iv1, rv1, rfl, fun a h1 h2 h3 => ?_, fun j h1 h2 => ?_, e3, ?_, fun j hj => ?_, ?_, e4, e5, e6, e7⟩
  · rw [e1 a h1 h2, wU_ne a h2, wU_ne a h3]
  · rw [e2 j h1]; simp only [wU_g]; simp [h2]
  · rw [e2 9 (by decide)]; simp only [wU_g]; simp
  · rw [e1 1 (by decide) (by omega), wU_ne 1 (by omega)]; simp only [wU_g]; simp [hj]
  · rw [e1 1 (by decide) (by omega), wU_ne 1 (by omega)]; simp only [wU_g]; simp
/-- the model's steps of a tick, as functions -/
def stm (m : wI) (c : Nat) : Int32 := m 19 c / 10 - m 19 c / 10 / 100 * 100
def goes (m : wI) (c : Nat) : wI :=
  if m 25 c - 1 ≤ 0 then
    if m 24 c = 1 then wU (wU (wU m 25 c (m 25 c - 1)) 24 c 2) 27 c (m 1 2)
    else if m 24 c = 3 then
      if stm m c ≤ 0 then wU (wU (wU m 25 c (m 25 c - 1)) 24 c 6) 28 c (m 1 2) else wU (wU m 25 c (m 25 c - 1)) 24 c 4
    else wU (wU (wU m 25 c (m 25 c - 1)) 24 c 6) 28 c (m 1 2)
  else wU m 25 c (m 25 c - 1)
def spl (m : wI) (c : Nat) : wI := wU (wU (wU m 1 23 (m 1 23 + m 19 c / 1000000)) 29 c (m 29 c + 1)) 24 c 0
theorem m_goes {m : wI} {c : Nat} (hc : c < 100) : fX5_cupGoes m (nI c) = some (goes m c) := by
  unfold fX5_cupGoes goes fX5_steam stm
  rw [wGd_t (vp_in_nI hc (by decide)), toNat_nI (by omega)]
  simp only [wLt, wBd, wU_g]
  simp
  split <;> (try split) <;> (try split) <;> (try split) <;> simp_all
theorem m_spoils {m : wI} {c : Nat} (hc : c < 100) : fX5_spoils m (nI c) = some (spl m c) := by
  unfold fX5_spoils spl fX5_beans
  rw [wGd_t (vp_in_nI hc (by decide)), toNat_nI (by omega)]
  simp only [wLt, wBd, wU_g]
  simp
theorem off_up {m m' : wI} {c : Nat} {x : Int32} (h1 : m' 24 = va_up (m 24) c x) (h2 : ∀ a, 19 ≤ a → a ≤ 29 → ∀ i, i ≠ c → m' a i = m a i) (h3 : ∀ a, 19 ≤ a → a ≤ 23 → m' a = m a) : off c x m m' := ⟨h1, h2, h3⟩
theorem va_same (f : Nat → Int32) (c : Nat) : va_up f c (f c) = f := by
  funext j
  by_cases h : j = c
  · subst h; exact va_up_self _ _ _
  · exact va_up_ne _ _ h
/-- the grinder's tick -/
theorem step_grind {ng N M nx : Nat} {sh ln : Nat → Nat} {iv : wI} {rv : wJ} {m : wI} (h : Rel ng N M nx sh ln iv rv m) : ∃ iv' rv', fX4_endGrinding ng sh iv rv = some (iv', rv') ∧ ((rv 1 8 = 0 ∧ (∀ i, i < N → m 24 i ≠ 1) ∧ Rel ng N M nx sh ln iv' rv' m) ∨ ∃ c, c < N ∧ m 24 c = 1 ∧ (∀ i, i < N → m 24 i = 1 → i = c) ∧ Rel ng N M nx sh ln iv' rv' (goes m c)) := by
  obtain ⟨q1, q2, q3, q4, q5, q6, q7, q8, q9⟩ := h.N
  obtain ⟨hB, hV, hSc, hSt, hRc, hCt, hCu, hFr, hGr, hWa, hGp, hLg⟩ := id h
  unfold fX4_endGrinding
  rcases hGr with ⟨g1, g2⟩ | ⟨c, hc, g1, g2, g3⟩
  · exact ⟨iv, rv, by rw [if_pos g1], Or.inl ⟨g1, g2, h⟩⟩
  · have hcup := hCu c hc
    obtain ⟨a1, a2, ⟨a3, a4, a5⟩, a6, a7, a8, a9, a10, a11, a12, a13, a14, a15, a16⟩ := id hcup
    have sc : sh (c + 100) = 1 := hB.2.2.2.2.2.2.2.1 c hc
    have t7 := a13 (Or.inl g2)
    have b10 : rv (c + 100) 10 = 0 := a16 (by rw [g2]; decide)
    rw [g1, if_neg (by omega), wGd_t sc, t7]
    simp only [wLt]
    have e7 : wU iv (c + 100) 7 (m 25 c - 1) (c + 100) 7 = m 25 c - 1 := by simp [wU_g]
    rw [e7]
    by_cases hl : m 25 c - 1 ≤ 0
    · rw [if_neg (by grind)]
      have hC2 : RCt N (wU (wU iv (c + 100) 7 (m 25 c - 1)) (c + 100) 8 (wU iv (c + 100) 7 (m 25 c - 1) 1 12)) m := hCt.congr (by rw [wU_ne 5 (by omega), wU_ne 5 (by omega)]) rfl
      obtain ⟨iv1, rv1, e0, e1, e2, e3, e4, e5, e6, e8⟩ := turn_ok (ng := ng) (k := 2) (s := 1) (rv := wV rv 1 8 0) sc (iv := wU (wU iv (c + 100) 7 (m 25 c - 1)) (c + 100) 8 (wU iv (c + 100) 7 (m 25 c - 1) 1 12)) (by simp only [wU_g]; simp; rw [a9, g2]; rfl) (by decide) (by decide) q1 hc g2 hC2
      rw [show (2 : Int32) = nI 2 from rfl, e0]
      refine ⟨iv1, rv1, rfl, Or.inr ⟨c, hc, g2, g3, ?_⟩⟩
      have gm : goes m c = wU (wU (wU m 25 c (m 25 c - 1)) 24 c 2) 27 c (m 1 2) := by unfold goes; rw [if_pos hl, if_pos g2]
      rw [gm]
      generalize hm' : wU (wU (wU m 25 c (m 25 c - 1)) 24 c 2) 27 c (m 1 2) = m'
      have ho : off c 2 m m' := by
        rw [← hm']
        refine off_up ?_ (fun a x y i hi => ?_) (fun a x y => ?_)
        · rw [wU_ne 24 (by decide), wU_self, wU_ne 24 (by decide)]
        · simp only [wU_g]; simp [hi]
        · rw [wU_ne a (by omega), wU_ne a (by omega), wU_ne a (by omega)]
      have o1 : iv1 1 = iv 1 := by rw [e1 1 (by decide) (by omega), wU_ne 1 (by omega), wU_ne 1 (by omega)]
      have oiv : ∀ a, a ≠ 5 → a ≠ c + 100 → iv1 a = iv a := fun a x y => by rw [e1 a x y, wU_ne a y, wU_ne a y]
      have orv : ∀ a, a ≠ 1 → a ≠ c + 100 → rv1 a = rv a := fun a x y => by rw [e4 a y, wV_ne a x]
      have om : ∀ a, a ≠ 24 → a ≠ 25 → a ≠ 27 → m' a = m a := fun a x y z => by rw [← hm', wU_ne a z, wU_ne a x, wU_ne a y]
      have n1 : m 24 c ≠ 3 := by rw [g2]; decide
      have hV' : RV sh rv1 := by
        intro a j
        by_cases ha : a = c + 100
        · subst ha
          by_cases hj : j = 10
          · rw [hj]; exact Or.inl e6
          · rw [e5 j hj, wV_ne _ (by omega)]; exact hV _ _
        · rw [e4 a ha]
          simp only [wV_g]
          split
          · split
            · exact Or.inl rfl
            · exact hV _ _
          · exact hV _ _
      refine ⟨hB, hV', ?_, hSt.congr (oiv 6 (by decide) (by omega)) (om 17 (by decide) (by decide) (by decide)), hRc.congr (fun a ha => oiv a (by omega) (by omega)) (orv 3 (by decide) (by omega)) (om 15 (by decide) (by decide) (by decide)) (om 16 (by decide) (by decide) (by decide)), ?_, ?_, hFr.move hc ho, ?_, RAt.keep hWa ho (by rw [g2]; decide) (by decide) (by rw [e4 1 (by omega)]; simp [wV_g]), fun g hg => (hGp g hg).keep ho n1 (by decide) (oiv _ (by omega) (by omega)) (orv _ (by omega) (by omega)) (by rw [orv 2 (by decide) (by omega)]) (by rw [om 30 (by decide) (by decide) (by decide)]) (by rw [om 31 (by decide) (by decide) (by decide)]) (by rw [om 32 (by decide) (by decide) (by decide)]), hLg.keep ho (by rw [g2]; decide) (by decide) (by rw [o1])⟩
      · unfold RSc; rw [o1, om 1 (by decide) (by decide) (by decide)]; exact hSc
      · intro k hk; rw [e8 k hk, ho.1]; rfl
      · refine hCu.move ho (fun i hi => oiv _ (by omega) (by omega)) (fun i hi => orv _ (by omega) (by omega)) (fun a ha => oiv a (by omega) (by omega)) (orv 4 (by decide) (by omega)) ?_
        refine hcup.turned (k := 2) ho (by decide) (by rw [orv 4 (by decide) (by omega)]) (fun j hj => by rw [e5 j hj, wV_ne _ (by omega)]) (fun a ha => oiv a (by omega) (by omega)) (fun j hj => ?_) e3 ?_ ?_ (fun _ => ?_) (fun e => by omega) (fun e => by omega) (fun _ => e6)
        · rw [e2 j (by omega)]; simp only [wU_g]; simp [show ¬ j = 8 by omega, show ¬ j = 7 by omega]
        · rw [e2 6 (by decide), om 28 (by decide) (by decide) (by decide)]; simp only [wU_g]; simp; exact a10
        · rw [e2 9 (by decide), om 29 (by decide) (by decide) (by decide)]; simp only [wU_g]; simp; exact a11
        · rw [e2 8 (by decide), ← hm']; simp only [wU_g]; simp [show ¬ 1 = c + 100 by omega]; exact hSc.2.2.2.2.2.2.1
      · refine Or.inl ⟨by rw [e4 1 (by omega)]; simp [wV_g], fun i hi e => ?_⟩
        by_cases hic : i = c
        · rw [hic, ho.at] at e; exact absurd e (by decide)
        · rw [ho.ne hic] at e; exact hic (g3 i hi e)
    · rw [if_pos (by grind)]
      refine ⟨_, _, rfl, Or.inr ⟨c, hc, g2, g3, ?_⟩⟩
      have gm : goes m c = wU m 25 c (m 25 c - 1) := by unfold goes; rw [if_neg hl]
      rw [gm]
      generalize hm' : wU m 25 c (m 25 c - 1) = m'
      have om : ∀ a, a ≠ 25 → m' a = m a := fun a y => by rw [← hm', wU_ne a y]
      have ho : off c 1 m m' := by
        rw [← hm']
        refine off_up ?_ (fun a x y i hi => ?_) (fun a x y => ?_)
        · rw [wU_ne 24 (by decide), ← g2, va_same]
        · simp only [wU_g]; simp [hi]
        · rw [wU_ne a (by omega)]
      have oiv : ∀ a, a ≠ c + 100 → wU iv (c + 100) 7 (m 25 c - 1) a = iv a := fun a y => wU_ne a y
      have n1 : m 24 c ≠ 3 := by rw [g2]; decide
      refine ⟨hB, hV, ?_, hSt.congr (oiv 6 (by omega)) (om 17 (by decide)), hRc.congr (fun a ha => oiv a (by omega)) rfl (om 15 (by decide)) (om 16 (by decide)), hCt.congr (oiv 5 (by omega)) (om 24 (by decide)), ?_, hFr.congr (om 24 (by decide)) (om 29 (by decide)), RAt.congr (Or.inr ⟨c, hc, g1, g2, g3⟩) rfl (om 24 (by decide)), hWa.congr rfl (om 24 (by decide)), fun g hg => (hGp g hg).keep ho n1 (by decide) (oiv _ (by omega)) rfl rfl (by rw [om 30 (by decide)]) (by rw [om 31 (by decide)]) (by rw [om 32 (by decide)]), hLg.keep ho (by rw [g2]; decide) (by decide) (by rw [oiv 1 (by omega)])⟩
      · unfold RSc; rw [oiv 1 (by omega), om 1 (by decide)]; exact hSc
      · refine hCu.move ho (fun i hi => oiv _ (by omega)) (fun i hi => rfl) (fun a ha => oiv a (by omega)) rfl ?_
        refine hcup.turned (k := 1) ho (by decide) rfl (fun j hj => rfl) (fun a ha => oiv a (by omega)) (fun j hj => ?_) ?_ ?_ ?_ (fun e => by omega) (fun _ => ?_) (fun e => by omega) (fun _ => b10)
        · simp only [wU_g]; simp [show ¬ j = 7 by omega]
        · simp only [wU_g]; simp; rw [a9, g2]; rfl
        · rw [om 28 (by decide)]; simp only [wU_g]; simp; exact a10
        · rw [om 29 (by decide)]; simp only [wU_g]; simp; exact a11
        · rw [← hm']; simp only [wU_g]; simp
