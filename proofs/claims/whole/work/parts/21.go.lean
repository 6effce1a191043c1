theorem brew_one {ng N M nx c g : Nat} {w b : Int32} {sh ln : Nat → Nat} {iv : wI} {rv : wJ} {m : wI} (h : Rel ng N M nx sh ln iv rv m) (hc : c < N) (hg : g < ng) (hs : m 24 c = 2) (hw : 0 ≤ w) (hw2 : w ≤ m 17 1) (u2 : m 30 g = 0) (u5 : ∀ i, i < N → m 24 i = 3 → m 26 i ≠ nI g) :
    ∃ iv' rv', fX4_turn ng sh (wU (wU (wU (wU iv 6 1 (m 17 1 - w)) (g + 13) 1 1) (g + 13) 2 b) (g + 13) 3 (m 31 g + 1)) (wV rv (g + 13) 5 (c + 100)) (c + 100) (nI 3) = some (iv', rv') ∧ Rel ng N M nx sh ln iv' (wV rv' (c + 100) 10 (g + 13)) (wU (wU (wU (wU (wU m 17 1 (m 17 1 - w)) 31 g (m 31 g + 1)) 26 c (nI g)) 24 c 3) 25 c b) := by
  obtain ⟨q1, q2, q3, q4, q5, q6, q7, q8, q9⟩ := h.N
  obtain ⟨hB, hV, hSc, hSt, hRc, hCt, hCu, hFr, hGr, hWa, hGp, hLg⟩ := id h
  have hcup := hCu c hc
  obtain ⟨a1, a2, ⟨a3, a4, a5⟩, a6, a7, a8, a9, a10, a11, a12, a13, a14, a15, a16⟩ := id hcup
  obtain ⟨g1, g2, g3, g4, gk⟩ := id (hGp g hg)
  have sc : sh (c + 100) = 1 := hB.2.2.2.2.2.2.2.1 c hc
  have sg : sh (g + 13) = 2 := hB.2.2.2.2.2.2.1 g hg
  generalize hI : wU (wU (wU (wU iv 6 1 (m 17 1 - w)) (g + 13) 1 1) (g + 13) 2 b) (g + 13) 3 (m 31 g + 1) = iv2
  have oi : ∀ a, a ≠ g + 13 → a ≠ 6 → iv2 a = iv a := fun a x y => by rw [← hI, wU_ne a x, wU_ne a x, wU_ne a x, wU_ne a y]
  have og : iv2 (g + 13) 0 = iv (g + 13) 0 ∧ iv2 (g + 13) 1 = 1 ∧ iv2 (g + 13) 2 = b ∧ iv2 (g + 13) 3 = m 31 g + 1 ∧ iv2 (g + 13) 4 = iv (g + 13) 4 := by
    rw [← hI]; simp only [wU_g]; simp [show ¬ g + 13 = 6 by omega]
  have o6 : ∀ j, iv2 6 j = if j = 1 then m 17 1 - w else iv 6 j := fun j => by rw [← hI]; simp [wU_g, show ¬ 6 = g + 13 by omega]
  have hC2 : RCt N iv2 m := hCt.congr (oi 5 (by omega) (by decide)) rfl
  obtain ⟨iv1, rv1, e0, e1, e2, e3, e4, e5, e6, e8⟩ := turn_ok (ng := ng) (k := 3) (s := 2) (rv := wV rv (g + 13) 5 (c + 100)) sc (iv := iv2) (by rw [oi _ (by omega) (by omega), a9, hs]; rfl) (by decide) (by decide) q1 hc hs hC2
  refine ⟨iv1, rv1, e0, ?_⟩
  generalize hm' : wU (wU (wU (wU (wU m 17 1 (m 17 1 - w)) 31 g (m 31 g + 1)) 26 c (nI g)) 24 c 3) 25 c b = m'
  have ho : off c 3 m m' := by
    rw [← hm']
    refine off_up ?_ (fun a x y i hi => ?_) (fun a x y => ?_)
    · rw [wU_ne 24 (by decide), wU_self, wU_ne 24 (by decide), wU_ne 24 (by decide), wU_ne 24 (by decide)]
    · simp only [wU_g]; simp [hi, show ¬ a = 17 by omega, show ¬ a = 31 by omega]
    · rw [wU_ne a (by omega), wU_ne a (by omega), wU_ne a (by omega), wU_ne a (by omega), wU_ne a (by omega)]
  have oiv : ∀ a, a ≠ 5 → a ≠ c + 100 → a ≠ 6 → a ≠ g + 13 → iv1 a = iv a := fun a x y z w => by rw [e1 a x y, oi a w z]
  have orv : ∀ a, a ≠ c + 100 → a ≠ g + 13 → wV rv1 (c + 100) 10 (g + 13) a = rv a := fun a y x => by rw [wV_ne a y, e4 a y, wV_ne a x]
  have om : ∀ a, a ≠ 24 → a ≠ 25 → a ≠ 17 → a ≠ 26 → a ≠ 31 → m' a = m a := fun a x y z u v => by rw [← hm', wU_ne a y, wU_ne a x, wU_ne a u, wU_ne a v, wU_ne a z]
  have m26 : m' 26 c = nI g := by rw [← hm']; simp [wU_g]
  have m25 : m' 25 c = b := by rw [← hm']; simp [wU_g]
  have m31 : m' 31 g = m 31 g + 1 := by rw [← hm']; simp [wU_g]
  have m31n : ∀ d, d ≠ g → m' 31 d = m 31 d := fun d hd => by rw [← hm']; simp [wU_g, hd]
  have m17 : ∀ j, m' 17 j = if j = 1 then m 17 1 - w else m 17 j := fun j => by rw [← hm']; simp [wU_g]
  have rvg : wV rv1 (c + 100) 10 (g + 13) (g + 13) 5 = c + 100 := by rw [wV_ne _ (by omega), e4 _ (by omega)]; simp [wV_g]
  have rvc : ∀ j, j ≠ 10 → wV rv1 (c + 100) 10 (g + 13) (c + 100) j = rv (c + 100) j := fun j hj => by
    rw [wV_g]; simp [hj]; rw [e5 j hj, wV_ne _ (by omega)]
  refine h.move hc (k := 3) ho ?_ ?_ ?_ (fun a ha hb => oiv a (by omega) hb (by omega) (by omega)) (fun a ha hb => orv a hb (by omega)) (orv 3 (by omega) (by omega)) (orv 4 (by omega) (by omega)) (om 15 (by decide) (by decide) (by decide) (by decide) (by decide)) (om 16 (by decide) (by decide) (by decide) (by decide) (by decide)) (fun j hj => by rw [e8 j hj, ho.1]; rfl) ?_ (hGr.keep ho (by rw [hs]; decide) (by decide) (by rw [orv 1 (by omega) (by omega)])) (hWa.keep ho (by rw [hs]; decide) (by decide) (by rw [orv 1 (by omega) (by omega)])) (fun d hd => ?_) (hLg.keep ho (by rw [hs]; decide) (by decide) (by rw [oiv 1 (by decide) (by omega) (by decide) (by omega)]))
  · intro a j
    simp only [wV_g]
    split
    · split
      · exact Or.inr (by rw [sg]; decide)
      · rename_i e' f'
        subst e'
        rw [e5 j f', wV_ne _ (by omega)]; exact hV _ _
    · rename_i e'
      rw [e4 a e']
      simp only [wV_g]
      split
      · split
        · exact Or.inr (by rw [sc]; decide)
        · exact hV _ _
      · exact hV _ _
  · unfold RSc; rw [om 1 (by decide) (by decide) (by decide) (by decide) (by decide), oiv 1 (by decide) (by omega) (by decide) (by omega)]; exact hSc
  · intro j hj
    rw [e1 6 (by decide) (by omega), o6, m17]
    obtain ⟨t1, t2, t3⟩ := hSt j hj
    by_cases e : j = 1
    · subst e; simp; exact st_sub t2 t3 hw hw2
    · simp [e]; exact ⟨t1, t2, t3⟩
  · refine hcup.turned (k := 3) ho (by decide) (by rw [orv 4 (by omega) (by omega)]) rvc (fun a ha => oiv a (by omega) (by omega) (by omega) (by omega)) (fun j hj => by rw [e2 j (by omega), oi _ (by omega) (by omega)]) e3 (by rw [e2 6 (by decide), oi _ (by omega) (by omega), om 28 (by decide) (by decide) (by decide) (by decide) (by decide)]; exact a10) (by rw [e2 9 (by decide), oi _ (by omega) (by omega), om 29 (by decide) (by decide) (by decide) (by decide) (by decide)]; exact a11) (fun e => by omega) (fun e => by omega) (fun _ => ⟨g, hg, m26, by simp [wV_g]⟩) (fun e => absurd rfl e)
  · by_cases e : d = g
    · subst e
      unfold GrpR
      rw [rvg, e1 _ (by omega) (by omega), orv 2 (by omega) (by omega), og.1, og.2.1, og.2.2.1, og.2.2.2.1, og.2.2.2.2, m31, om 30 (by decide) (by decide) (by decide) (by decide) (by decide), om 32 (by decide) (by decide) (by decide) (by decide) (by decide)]
      refine ⟨g1, g2, rfl, g4, Or.inr (Or.inr ⟨c, hc, rfl, rfl, m25.symm, u2, ho.at, m26, fun i hi x1 x2 => ?_⟩)⟩
      by_cases hic : i = c
      · exact hic
      · rw [ho.ne hic] at x1
        rw [ho.2.1 26 (by decide) (by decide) i hic] at x2
        exact absurd x2 (u5 i hi x1)
    · refine (hGp d hd).keep2 (fun i hi => ?_) (fun i hi u1 u2 => ?_) (oiv _ (by omega) (by omega) (by omega) (by omega)) (orv _ (by omega) (by omega)) (by rw [orv 2 (by omega) (by omega)]) (by rw [om 30 (by decide) (by decide) (by decide) (by decide) (by decide)]) (m31n d e) (by rw [om 32 (by decide) (by decide) (by decide) (by decide) (by decide)])
      · by_cases hic : i = c
        · subst hic
          rw [m26, hs]
          exact ⟨fun q => absurd ((nI_eq (by omega) (by omega)).mp q.2).symm e, fun q => absurd q.1 (by decide)⟩
        · rw [ho.ne hic, ho.2.1 26 (by decide) (by decide) i hic]
      · by_cases hic : i = c
        · subst hic; rw [hs] at u1; exact absurd u1 (by decide)
        · exact ho.2.1 25 (by decide) (by decide) i hic
theorem begin_brew {ng N M nx : Nat} {sh ln : Nat → Nat} {iv : wI} {rv : wJ} {m : wI} (h : Rel ng N M nx sh ln iv rv m) : ∃ iv' rv' m', fX4_beginBrews ng sh iv rv = some (iv', rv') ∧ fX5_brews m = some m' ∧ Rel ng N M nx sh ln iv' rv' m' := by
  obtain ⟨q1, q2, q3, q4, q5, q6, q7, q8, q9⟩ := h.N
  unfold fX4_beginBrews fX5_brews
  have hh : iv 1 11 = m 1 3 := h.2.2.1.2.2.2.2.2.1
  by_cases hot : 880 ≤ iv 1 11
  · rw [if_pos hot]
    have lp : ∀ (n d k : Nat) (iv : wI) (rv : wJ) (m1 : wI), k + d = ng → d < n → Rel ng N M nx sh ln iv rv m1 → m1 1 3 = m 1 3 → ∃ iv' rv' m', fX4_beginBrews_21 ng sh n iv rv (nI ng) (nI k) = some (iv', rv') ∧ fX5_brews_2 n m1 (nI k) = some m' ∧ Rel ng N M nx sh ln iv' rv' m' := by
      intro n
      induction n with
      | zero => intro d k iv rv m1 h1 h2; omega
      | succ n ih =>
        intro d k iv rv m1 h1 h2 R hm3
        obtain ⟨p1, p2, p3, p4, p5, p6, p7, p8, p9⟩ := R.N
        rw [fX4_beginBrews_21.eq_2, fX5_brews_2.eq_2, p6]
        cases d with
        | zero => exact ⟨iv, rv, m1, by rw [if_pos (nI_le (by omega) (by omega))], by rw [if_pos (nI_le (by omega) (by omega))], R⟩
        | succ d =>
          have hk : k < ng := by omega
          obtain ⟨hB, hV, hSc, hSt, hRc, hCt, hCu, hFr, hGr, hWa, hGp, hLg⟩ := id R
          obtain ⟨g1, g2, g3, g4, gk⟩ := id (hGp k hk)
          have sg : sh (k + 13) = 2 := hB.2.2.2.2.2.2.1 k hk
          obtain ⟨r, f1, f2, f3⟩ := R.free hk
          obtain ⟨w, m1', m2'⟩ := R.mayTake 2
          have ff := c_firstThat (k := 2) R (by decide)
          rw [show nI 2 = (2 : Int32) from rfl] at ff
          rw [if_neg (nI_ge hk (by omega)), if_neg (nI_ge hk (by omega)), if_neg (show ¬ m1 1 3 < 880 by rw [hm3, ← hh]; grind), wGd_t (vp_in_nI hk (by omega)), toNat_nI (by omega), nI_1 k, g1, wGd_t sg, f1, f2, m_firstOf 2 p3 p1, ff]
          simp only [wBd]
          have skip := ih d (k + 1) iv rv m1 (by omega) (by omega) R hm3
          by_cases r0 : r = 0
          · rw [if_pos r0, if_pos r0]; exact skip
          · rw [if_neg r0, if_neg r0, wGd_t (vp_in_nI (show k < 3 by omega) (by decide)), g3]
            obtain ⟨u1, u2, u3, u4, u5⟩ := f3 r0
            by_cases d10 : m1 31 k < 10
            · rw [if_pos d10, if_pos d10]
              cases hf : fst (fun i => m1 24 i = 2) 0 N with
              | none => exact ⟨iv, rv, m1, by simp [oR], by simp [oI], R⟩
              | some c =>
                obtain ⟨-, hc, c2⟩ := fst_some hf
                have hc : c < N := by omega
                obtain ⟨a1, a2, ⟨a3, a4, a5⟩, a6, a7, a8, a9, a10, a11, a12, a13, a14, a15, a16⟩ := hCu c hc
                have sc : sh (c + 100) = 1 := hB.2.2.2.2.2.2.2.1 c hc
                have hm1 : ¬ nI c = -1 := nI_ne_m1 (by omega)
                have r4 : iv (rv (c + 100) 1) 4 = m1 20 c / 1000 := a5.1.2.2.2.2.1
                have r2 : iv (rv (c + 100) 1) 2 = m1 19 c / 1000 - m1 19 c / 1000 / 100 * 100 := a5.1.2.2.1
                have t := hSt 1 (by decide)
                simp only [oI, oR, hm1, if_false, show ¬ c + 100 = 0 by omega, toNat_nI (show c < 2 ^ 31 by omega), wGd_t (vp_in_nI (show c < 100 by omega) (show 100 < 2 ^ 31 by decide)), wGd_t sc, wGd_t a3, r4, t.1, wGd_t v_1_3, show (1 : Int32).toNatClampNeg = 1 from rfl, m1', m2']
                by_cases hw : m1 17 1 < m1 20 c / 1000
                · have hw' : ¬ m1 20 c / 1000 ≤ m1 17 1 := lt_nle hw
                  refine ⟨iv, rv, m1, by simp [hw], ?_, R⟩
                  simp [hw']
                · have hw' : m1 20 c / 1000 ≤ m1 17 1 := nlt_le hw
                  simp only [hw, hw', if_true, if_false]
                  by_cases w0 : w = 0
                  · exact ⟨iv, rv, m1, by simp [w0], by simp [w0], R⟩
                  · simp only [w0, if_false]
                    obtain ⟨iv', rv', e0, R'⟩ := brew_one (w := m1 20 c / 1000) (b := m1 19 c / 1000 - m1 19 c / 1000 / 100 * 100) R hc hk c2 (by rw [← r4]; exact a5.2.2.2.2.2.1) hw' u3 u5
                    obtain ⟨iv2, rv2, m2, x1, x2, x3⟩ := ih d (k + 1) iv' _ _ (by omega) (by omega) R' (by rw [wU_ne 1 (by decide), wU_ne 1 (by decide), wU_ne 1 (by decide), wU_ne 1 (by decide), wU_ne 1 (by decide)]; exact hm3)
                    refine ⟨iv2, rv2, m2, ?_, ?_, x3⟩
                    · unfold fX1_begin
                      simp only [wLt]
                      rw [show wU iv 6 1 (m1 17 1 - m1 20 c / 1000) (rv (c + 100) 1) 2 = m1 19 c / 1000 - m1 19 c / 1000 / 100 * 100 by rw [wU_ne _ (by omega)]; exact r2,
                        show wU (wU (wU iv 6 1 (m1 17 1 - m1 20 c / 1000)) (k + 13) 1 1) (k + 13) 2 (m1 19 c / 1000 - m1 19 c / 1000 / 100 * 100) (k + 13) 3 = m1 31 k by simp [wU_g, show ¬ k + 13 = 6 by omega, g3], show (3 : Int32) = nI 3 from rfl, e0]
                      exact x1
                    · unfold fX5_brew fX5_begins
                      simp only [wLt, toNat_nI (show c < 2 ^ 31 by omega), wGd_t (vp_in_nI (show c < 100 by omega) (show 100 < 2 ^ 31 by decide))]
                      rw [show wU m1 17 1 (m1 17 1 - m1 20 c / 1000) 31 k = m1 31 k by simp [wU_g], show wU (wU (wU m1 17 1 (m1 17 1 - m1 20 c / 1000)) 31 k (m1 31 k + 1)) 26 c (nI k) 19 c = m1 19 c by simp [wU_g]]
                      exact x2
            · rw [if_neg d10, if_neg d10]; exact skip
    exact lp wN ng 0 iv rv m (by omega) (by unfold wN; omega) h rfl
  · rw [if_neg hot]
    refine ⟨iv, rv, m, rfl, ?_, h⟩
    rw [show wN = 999 + 1 from rfl, fX5_brews_2.eq_2, q6, show (0 : Int32) = nI 0 from rfl, if_neg (nI_ge (by omega) (by omega)), if_pos (by rw [← hh]; grind)]
theorem begin_grind {ng N M nx : Nat} {sh ln : Nat → Nat} {iv : wI} {rv : wJ} {m : wI} (h : Rel ng N M nx sh ln iv rv m) : ∃ iv' rv' m', fX4_beginGrind ng sh iv rv = some (iv', rv') ∧ fX5_grinds m = some m' ∧ Rel ng N M nx sh ln iv' rv' m' := by
  obtain ⟨q1, q2, q3, q4, q5, q6, q7, q8, q9⟩ := h.N
  obtain ⟨hB, hV, hSc, hSt, hRc, hCt, hCu, hFr, hGr, hWa, hGp, hLg⟩ := id h
  obtain ⟨r, p1, p2⟩ := h.mayTake 4
  have lp : ∀ (n d k : Nat) (o : Option Nat), k + d = N → d < n → (∀ c, o = some c → c < N ∧ m 24 c = 0) → ∃ o', (∀ c, o' = some c → c < N ∧ m 24 c = 0) ∧ fX4_nextToGrind_15 ng sh n iv rv (oR o) (nI k) = some (oR o') ∧ fX5_grinds_33 n m (oI o) (nI k) = some (oI o') := by
    intro n
    induction n with
    | zero => intro d k o h1 h2; omega
    | succ n ih =>
      intro d k o h1 h2 hv
      rw [fX4_nextToGrind_15.eq_2, fX5_grinds_33.eq_2, q2, q3]
      cases d with
      | zero => exact ⟨o, hv, by rw [if_pos (nI_le (by omega) (by omega))], by rw [if_pos (nI_le (by omega) (by omega))]⟩
      | succ d =>
        have hk : k < N := by omega
        have cup := hCu k hk
        rw [if_neg (nI_ge (by omega) (by omega)), if_neg (nI_ge (by omega) (by omega)), wGd_t (vp_in_nI (show k < 100 by omega) (by decide)), wGd_t (vp_in_nI (show k < 100 by omega) (by decide)), toNat_nI (by omega), nI_1 k, cup.1, wGd_t (hB.2.2.2.2.2.2.2.1 k hk), cup.2.2.2.2.2.2.1]
        by_cases e0 : m 24 k = 0
        · rw [if_pos e0, if_pos e0]
          have take := ih d (k + 1) (some k) (by omega) (by omega) (fun c e => by cases e; exact ⟨hk, e0⟩)
          cases o with
          | none =>
            rw [if_pos (show oR none = 0 from rfl), if_pos (show oI none = -1 from rfl)]
            exact take
          | some c =>
            obtain ⟨hc, c0⟩ := hv c rfl
            have cc := hCu c hc
            simp only [oR, oI, show ¬ c + 100 = 0 by omega, nI_ne_m1 (show c < 2 ^ 31 by omega), if_false, wGd_t (hB.2.2.2.2.2.2.2.1 c hc), wGd_t (vp_in_nI (show c < 100 by omega) (show 100 < 2 ^ 31 by decide)), toNat_nI (show c < 2 ^ 31 by omega), cc.2.2.2.2.1, cup.2.2.2.2.1]
            by_cases hl : m 22 c ≤ m 22 k
            · rw [if_pos hl, if_pos hl]
              exact ih d (k + 1) (some c) (by omega) (by omega) hv
            · rw [if_neg hl, if_neg hl]
              exact take
        · rw [if_neg e0, if_neg e0]
          exact ih d (k + 1) o (by omega) (by omega) hv
  obtain ⟨o, hv, l1, l2⟩ := lp wN N 0 none (by omega) (by unfold wN; omega) (fun c e => by cases e)
  rw [show oR none = 0 from rfl, show nI 0 = (0 : Int32) from rfl] at l1
  rw [show oI none = -1 from rfl, show nI 0 = (0 : Int32) from rfl] at l2
  have ng' : fX4_nextToGrind ng sh iv rv = some (oR o) := by
    unfold fX4_nextToGrind
    rw [wGd_t v_0_8, show (0 : Int32).toNatClampNeg = 0 from rfl, hCt 0 (by decide)]
    by_cases z : nI (cnt (m 24) (nI 0) N) = 0
    · rw [if_pos z]
      have hz : cnt (m 24) (nI 0) N = 0 := by
        have := cnt_le (m 24) (nI 0) N
        exact (nI_eq (b := 0) (by omega) (by omega)).mp z
      cases o with
      | none => rfl
      | some c => exact absurd (hv c rfl).2 (cnt_zero hz c (hv c rfl).1)
    · rw [if_neg z, l1]; rfl
  have ct2 := hCt 2 (by decide)
  unfold fX4_beginGrind fX5_grinds
  rw [m_countOf 1 q3 q1, m_countOf 2 q3 q1, p1, p2, hGr.cnt, ng', q6, l2]
  simp only [wBd, wGd_t v_2_8, show (2 : Int32).toNatClampNeg = 2 from rfl, show (0 : Int32).toNatClampNeg = 0 from rfl, wGd_t v_0_3]
  rw [show nI 2 = (2 : Int32) from rfl] at ct2
  rw [ct2]
  by_cases z : rv 1 8 = 0
  · rw [if_pos z, if_pos z, if_neg (show ¬ (0 : Int32) < nI 0 by decide)]
    by_cases full : nI ng ≤ nI (cnt (m 24) 2 N)
    · exact ⟨iv, rv, m, by simp [full], by simp [full], h⟩
    · simp only [full, if_false]
      by_cases hr : r = 0
      · exact ⟨iv, rv, m, by simp [hr], by simp [hr], h⟩
      · simp only [hr, if_false]
        cases o with
        | none => exact ⟨iv, rv, m, by simp [oR], by simp [oI], h⟩
        | some c =>
          obtain ⟨hc, c0⟩ := hv c rfl
          obtain ⟨a1, a2, ⟨a3, a4, a5⟩, a6, a7, a8, a9, a10, a11, a12, a13, a14, a15, a16⟩ := hCu c hc
          have sc : sh (c + 100) = 1 := hB.2.2.2.2.2.2.2.1 c hc
          have t := hSt 0 (by decide)
          have r0 : iv (rv (c + 100) 1) 0 = m 19 c / 1000000 := a5.1.1
          have r1 : iv (rv (c + 100) 1) 1 = m 19 c / 100000 - m 19 c / 100000 / 10 * 10 := a5.1.2.1
          simp only [oR, oI, show ¬ c + 100 = 0 by omega, nI_ne_m1 (show c < 2 ^ 31 by omega), if_false, wGd_t sc, wGd_t a3, wGd_t (vp_in_nI (show c < 100 by omega) (show 100 < 2 ^ 31 by decide)), toNat_nI (show c < 2 ^ 31 by omega), fX5_beans, r0, t.1]
          by_cases hl : m 19 c / 1000000 ≤ m 17 0
          · simp only [hl, if_true, wLt]
            rw [show wU iv 6 0 (m 17 0 - m 19 c / 1000000) (rv (c + 100) 1) 1 = m 19 c / 100000 - m 19 c / 100000 / 10 * 10 by rw [wU_ne _ (by omega)]; exact r1]
            obtain ⟨iv', rv', e0, R⟩ := h.begin (s := 0) (k := 1) (st := 0) (f := 8) (tog := m 19 c / 100000 - m 19 c / 100000 / 10 * 10) hc c0 (by decide) (by decide) (by decide) (by decide) (by rw [← r0]; exact a5.2.1) hl (fun rv' m' ho e => Or.inr ⟨c, hc, by rw [e]; simp [wV_g], ho.at, fun i hi e2 => by
              by_cases hic : i = c
              · exact hic
              · rw [ho.ne hic] at e2
                rcases hGr with ⟨-, w2⟩ | ⟨d, w1, w2, w3, w4⟩
                · exact absurd e2 (w2 i hi)
                · omega⟩) (fun rv' m' ho e => hWa.keep ho (by rw [c0]; decide) (by decide) (by rw [e]; simp [wV_g]))
            refine ⟨iv', rv', _, by rw [show (1 : Int32) = nI 1 from rfl, e0]; rfl, ?_, R⟩
            unfold fX5_grind fX5_begins
            simp only [toNat_nI (show c < 2 ^ 31 by omega), wGd_t (vp_in_nI (show c < 100 by omega) (show 100 < 2 ^ 31 by decide)), wLt, wU_g]
            simp
            rfl
          · exact ⟨iv, rv, m, by simp [hl], by simp [hl], h⟩
  · rw [if_neg z, if_neg z, if_pos (show (0 : Int32) < nI 1 by decide)]
    exact ⟨iv, rv, m, rfl, rfl, h⟩
