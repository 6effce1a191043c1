theorem z_t {x : Int32} (h : 0 ≤ x) : 0 ≤ x.toInt := by rw [le_iff] at h; simpa using h
theorem p_t {x : Int32} (h : 0 < x) : 0 < x.toInt := by rw [lt_iff] at h; simpa using h
theorem div_t {x k : Int32} (hx : 0 ≤ x) (hk : 0 < k) : (x / k).toInt = x.toInt / k.toInt := by
  have h1 := z_t hx
  have h2 := p_t hk
  have h3 : x.toInt < 2 ^ 31 := Int32.toInt_lt x
  rw [Int32.toInt_div, Int.tdiv_eq_ediv_of_nonneg h1]
  have h4 : 0 ≤ x.toInt / k.toInt := Int.ediv_nonneg h1 (by omega)
  have h5 : x.toInt / k.toInt ≤ x.toInt := Int.ediv_le_self _ h1
  exact Int.bmod_eq_of_le (by omega) (by omega)
theorem div_0 {x k : Int32} (hx : 0 ≤ x) (hk : 0 < k) : 0 ≤ x / k := by
  rw [le_iff, div_t hx hk]
  exact Int.ediv_nonneg (z_t hx) (Int.le_of_lt (p_t hk))
theorem md {x k : Int32} (hx : 0 ≤ x) (hk : 0 < k) : 0 ≤ x - x / k * k ∧ x - x / k * k < k := by
  have h1 := z_t hx
  have h2 := p_t hk
  have h3 : x.toInt < 2 ^ 31 := Int32.toInt_lt x
  have q := div_t hx hk
  have h4 : 0 ≤ x.toInt / k.toInt := Int.ediv_nonneg h1 (by omega)
  have h5 : 0 ≤ x.toInt / k.toInt * k.toInt := Int.mul_nonneg h4 (by omega)
  have h6 : x.toInt / k.toInt * k.toInt ≤ x.toInt := Int.ediv_mul_le _ (by omega)
  have h7 := Int.emod_lt_of_pos x.toInt h2
  rw [Int.emod_def, Int.mul_comm] at h7
  have e1 : (x / k * k).toInt = x.toInt / k.toInt * k.toInt := by
    rw [Int32.toInt_mul, q]
    exact Int.bmod_eq_of_le (by omega) (by omega)
  have e2 : (x - x / k * k).toInt = x.toInt - x.toInt / k.toInt * k.toInt := by
    rw [Int32.toInt_sub, e1]
    exact Int.bmod_eq_of_le (by omega) (by omega)
  rw [le_iff, lt_iff, e2]
  refine ⟨?_, h7⟩
  show (0 : Int) ≤ _
  omega
theorem isin_eq (a lo hi : Int32) : fX3_isIn a lo hi = some (if a < lo then 0 else if hi < a then 0 else 1) := by
  unfold fX3_isIn
  by_cases h1 : a < lo
  · simp [h1]
  · by_cases h2 : hi < a <;> simp [h1, h2]
theorem rec_same {ng : Nat} {sh : Nat → Nat} {iv : wI} {rv : wJ} {g0 : Nat} {w t : Int32} (h0 : ¬ w < 0) (h1 : ¬ t < 0) (h2 : w - w / 10 * 10 = 0) (hr : iv g0 0 = w / 1000000 ∧ iv g0 1 = w / 100000 - w / 100000 / 10 * 10 ∧ iv g0 2 = w / 1000 - w / 1000 / 100 * 100 ∧ iv g0 3 = w / 10 - w / 10 / 100 * 100 ∧ iv g0 4 = t / 1000 ∧ iv g0 5 = t - t / 1000 * 1000) : ∃ b : Int32, fX3_canBe ng sh iv rv g0 = some b ∧ fX5_isRecipe w t = some b ∧ (b ≠ 0 → RecOK (iv g0) w t) := by
  have w0 : 0 ≤ w := nlt_le h0
  have t0 : 0 ≤ t := nlt_le h1
  have c1 := md (div_0 w0 (show (0 : Int32) < 100000 by decide)) (show (0 : Int32) < 10 by decide)
  have c3 := md (div_0 w0 (show (0 : Int32) < 10 by decide)) (show (0 : Int32) < 100 by decide)
  have c5 := md t0 (show (0 : Int32) < 1000 by decide)
  obtain ⟨r0, r1, r2, r3, r4, r5⟩ := id hr
  rw [← r1] at c1
  rw [← r3] at c3
  rw [← r5] at c5
  unfold fX3_canBe fX5_isRecipe
  simp only [isin_eq, in_eq, fX5_beans, fX5_grind, fX5_brew, fX5_steam, wBd, h0, h1, h2, if_true, if_false, ← r0, ← r1, ← r2, ← r3, ← r5]
  simp only [← r4]
  unfold RecOK
  generalize iv g0 0 = b0 at *
  generalize iv g0 1 = b1 at *
  generalize iv g0 2 = b2 at *
  generalize iv g0 3 = b3 at *
  generalize iv g0 4 = b4 at *
  generalize iv g0 5 = b5 at *
  by_cases e1 : b0 < 5
  · exact ⟨0, by simp [e1], by simp [e1], fun h => absurd rfl h⟩
  by_cases e2 : 30 < b0
  · exact ⟨0, by simp [e1, e2], by simp [e1, e2], fun h => absurd rfl h⟩
  by_cases e3 : b1 = 0
  · exact ⟨0, by simp [e1, e2, e3], by simp [e1, e2, e3], fun h => absurd rfl h⟩
  have e4 : ¬ b1 < 1 := by grind
  have e5 : ¬ 9 < b1 := by grind
  by_cases e6 : b2 < 1
  · exact ⟨0, by simp [e1, e2, e4, e5, e6], by simp [e1, e2, e3, e6], fun h => absurd rfl h⟩
  by_cases e7 : 30 < b2
  · exact ⟨0, by simp [e1, e2, e4, e5, e6, e7], by simp [e1, e2, e3, e6, e7], fun h => absurd rfl h⟩
  have e8 : ¬ b3 < 0 := by grind
  by_cases e9 : b3 ≤ 20
  · have e9' : ¬ 20 < b3 := by grind
    by_cases f1 : b4 < 10
    · exact ⟨0, by simp [e1, e2, e4, e5, e6, e7, e8, e9', f1], by simp [e1, e2, e3, e6, e7, e9, f1], fun h => absurd rfl h⟩
    by_cases f2 : 250 < b4
    · exact ⟨0, by simp [e1, e2, e4, e5, e6, e7, e8, e9', f1, f2], by simp [e1, e2, e3, e6, e7, e9, f1, f2], fun h => absurd rfl h⟩
    have f3 : ¬ b5 < 0 := by grind
    have ok : RecOK (fun j => match j with | 0 => b0 | 1 => b1 | 2 => b2 | 3 => b3 | 4 => b4 | _ => b5) w t := by
      refine ⟨hr, ?_, ⟨?_, ?_⟩, ⟨?_, ?_⟩, ⟨?_, e9⟩, ?_, ?_⟩
      · show 0 ≤ b0; grind
      · show 1 ≤ b1; grind
      · show b1 ≤ 9; grind
      · show 1 ≤ b2; grind
      · show b2 ≤ 30; grind
      · show 0 ≤ b3; grind
      · show 0 ≤ b4; grind
      · show 0 ≤ b5; grind
    by_cases f4 : b3 = 0
    · by_cases f5 : b5 = 0
      · refine ⟨1, by simp [e1, e2, e4, e5, e6, e7, e9', f1, f2, f4, f5], by simp [e1, e2, e3, e6, e7, f1, f2, f4, f5], fun _ => ok⟩
      · have f6 : 0 < b5 := by grind
        by_cases f7 : 250 < b5
        · refine ⟨0, by simp [e1, e2, e4, e5, e6, e7, e9', f1, f2, f3, f4, f5, f7], by simp [e1, e2, e3, e6, e7, f1, f2, f3, f4, f5, f6], fun h => absurd rfl h⟩
        · refine ⟨0, by simp [e1, e2, e4, e5, e6, e7, e9', f1, f2, f3, f4, f5, f7], by simp [e1, e2, e3, e6, e7, f1, f2, f3, f4, f5, f6], fun h => absurd rfl h⟩
    · have f6 : 0 < b3 := by grind
      by_cases f7 : 250 < b5
      · refine ⟨0, by simp [e1, e2, e4, e5, e6, e7, e8, e9', f1, f2, f3, f7], by simp [e1, e2, e3, e6, e7, e9, f1, f2, f3, f4, f7], fun h => absurd rfl h⟩
      · refine ⟨1, by simp [e1, e2, e4, e5, e6, e7, e8, e9', f1, f2, f3, f6, f7], by simp [e1, e2, e3, e6, e7, e9, f1, f2, f3, f4, f7], fun _ => ok⟩
  · have e9' : 20 < b3 := by grind
    exact ⟨0, by simp [e1, e2, e4, e5, e6, e7, e8, e9'], by simp [e1, e2, e3, e6, e7, e9], fun h => absurd rfl h⟩
/-- a new recipe's cell -/
theorem Rel.fresh {ng N M nx : Nat} {sh ln : Nat → Nat} {iv : wI} {rv : wJ} {m : wI} (h : Rel ng N M nx sh ln iv rv m) : (∀ a j, rv a j ≠ nx) ∧ wFr sh rv nx ∧ 1000 ≤ nx ∧ sh nx = 0 := by
  obtain ⟨⟨-, -, -, -, -, b1, -, -, -, b2⟩, hV, -⟩ := h
  have h0 : sh nx = 0 := b2 nx (Nat.le_refl _)
  have h1 : ∀ a j, rv a j ≠ nx := fun a j e => by
    rcases hV a j with q | q
    · omega
    · rw [e] at q; exact q h0
  exact ⟨h1, ⟨by omega, h0, h1, Or.inl (by omega)⟩, b1, h0⟩
theorem wBx.new {ng r k n : Nat} {sh ln : Nat → Nat} (h : wBx ng sh ln) (hr : 39 < r) : wBx ng (va_up sh r k) (va_up ln r n) := by
  obtain ⟨h1, h2, h3, h4⟩ := h
  refine ⟨fun c q hc => ?_, fun c q hc => ?_, by rw [va_up_ne _ _ (by omega)]; exact h3, by rw [va_up_ne _ _ (by omega)]; exact h4⟩
  · have := h1 c q hc
    rw [va_up_ne _ _ (fun e => ?_)]; · exact this
    subst e
    simp at hc
    omega
  · have := h2 c q hc
    rw [va_up_ne _ _ (fun e => ?_)]; · exact this
    subst e
    simp at hc
    omega
theorem Rel.new {ng N M nx : Nat} {sh ln : Nat → Nat} {iv iv' : wI} {rv : wJ} {m : wI} (h : Rel ng N M nx sh ln iv rv m) (hi : ∀ a, a ≠ nx → iv' a = iv a) : Rel ng N M (nx + 1) (va_up sh nx 4) (va_up ln nx 0) iv' (va_up rv nx (fun _ => 0)) m := by
  obtain ⟨n1, -, n2, n3⟩ := h.fresh
  obtain ⟨⟨b1, b2, b3, b4, b5, b6, b7, b8, b9, b10⟩, hV, hSc, hSt, hRc, hCt, hCu, hFr, hGr, hWa, hGp, hLg⟩ := h
  have hr : ∀ a, a ≠ nx → va_up rv nx (fun _ => 0) a = rv a := fun a ha => va_up_ne _ _ ha
  have hs : ∀ a, a ≠ nx → va_up sh nx 4 a = sh a := fun a ha => va_up_ne _ _ ha
  refine ⟨⟨b1.new (by omega), b2, b3, b4, b5, by omega, fun g hg => by rw [hs _ (by omega)]; exact b7 g hg, fun i hi => by rw [hs _ (by omega)]; exact b8 i hi, fun r x y => by rw [hs _ (by omega)]; exact b9 r x y, fun r x => by rw [hs _ (by omega)]; exact b10 r (by omega)⟩, fun a j => ?_, ?_, hSt.congr (hi 6 (by omega)) rfl, fun j hj => ?_, hCt.congr (hi 5 (by omega)) rfl, fun i hN => ?_, hFr, hGr.congr (by rw [hr 1 (by omega)]) rfl, hWa.congr (by rw [hr 1 (by omega)]) rfl, hGp.congr (fun g hg => hi _ (by omega)) (fun g hg => hr _ (by omega)) (hr 2 (by omega)) rfl rfl rfl rfl rfl rfl, hLg.congr (by rw [hi 1 (by omega)]) rfl rfl rfl⟩
  · by_cases e : a = nx
    · subst e; rw [va_up_self]; exact Or.inl rfl
    · rw [hr a e]
      rcases hV a j with q | q
      · exact Or.inl q
      · exact Or.inr (by rw [hs _ (n1 a j)]; exact q)
  · unfold RSc; rw [hi 1 (by omega)]; exact hSc
  · obtain ⟨a1, a2, a3⟩ := hRc j hj
    rw [hr 3 (by omega), hs _ (n1 3 j), hi _ (n1 3 j)]
    exact ⟨a1, a2, a3⟩
  · have := hCu i hN
    unfold CupR at this ⊢
    rw [hr 4 (by omega), hr (i + 100) (by omega), hi (i + 100) (by omega), hs _ (n1 (i + 100) 1), hi _ (n1 (i + 100) 1)]
    exact this
/-- a recipe is put into its place -/
theorem Rel.put {ng N M M' nx j r : Nat} {w t : Int32} {sh ln : Nat → Nat} {iv iv' : wI} {rv : wJ} {m m' : wI} (h : Rel ng N M nx sh ln iv rv m) (hM' : M' ≤ 8) (hj : j < M') (hk : ∀ i, i < M' → i ≠ j → i < M) (hr : sh r = 4) (hr2 : 1000 ≤ r) (hok : RecOK (iv r) w t)
    (hi : ∀ a, a ≠ 1 → iv' a = iv a) (hi1 : ∀ j, iv' 1 j = if j = 2 then nI M' else iv 1 j) (hm : ∀ a, a ≠ 1 → a ≠ 15 → a ≠ 16 → m' a = m a) (hm1 : ∀ j, m' 1 j = if j = 4 then nI M' else m 1 j) (h15 : m' 15 = va_up (m 15) j w) (h16 : m' 16 = va_up (m 16) j t) : Rel ng N M' nx sh ln iv' (wV rv 3 j r) m' := by
  obtain ⟨⟨b1, b2, b3, b4, b5, b6, b7, b8, b9, b10⟩, hV, hSc, hSt, hRc, hCt, hCu, hFr, hGr, hWa, hGp, hLg⟩ := h
  have hv : ∀ a, a ≠ 3 → wV rv 3 j r a = rv a := fun a ha => wV_ne a ha
  refine ⟨⟨b1, b2, b3, b4, hM', b6, b7, b8, b9, b10⟩, fun a q => ?_, ?_, hSt.congr (hi 6 (by decide)) (hm 17 (by decide) (by decide) (by decide)), fun i hiM => ?_, hCt.congr (hi 5 (by decide)) (hm 24 (by decide) (by decide) (by decide)), hCu.congr (fun i _ => hi _ (by omega)) (fun i _ => hv _ (by omega)) (fun a ha => hi a (by omega)) (hv 4 (by decide)) (fun a x y => hm a (by omega) (by omega) (by omega)), hFr.congr (hm 24 (by decide) (by decide) (by decide)) (hm 29 (by decide) (by decide) (by decide)), hGr.congr (by rw [hv 1 (by decide)]) (hm 24 (by decide) (by decide) (by decide)), hWa.congr (by rw [hv 1 (by decide)]) (hm 24 (by decide) (by decide) (by decide)), hGp.congr (fun g hg => hi _ (by omega)) (fun g hg => hv _ (by omega)) (hv 2 (by decide)) (hm 24 (by decide) (by decide) (by decide)) (hm 25 (by decide) (by decide) (by decide)) (hm 26 (by decide) (by decide) (by decide)) (hm 30 (by decide) (by decide) (by decide)) (hm 31 (by decide) (by decide) (by decide)) (hm 32 (by decide) (by decide) (by decide)), hLg.congr (by rw [hi1]; simp) (hm 24 (by decide) (by decide) (by decide)) (hm 28 (by decide) (by decide) (by decide)) (hm 23 (by decide) (by decide) (by decide))⟩
  · rw [wV_g]
    split
    · split
      · exact Or.inr (by rw [hr]; decide)
      · exact hV a q
    · exact hV a q
  · unfold RSc
    simp only [hi1, hm1]
    simp
    exact hSc.2
  · rw [wV_g, if_pos rfl, h15, h16]
    by_cases e : i = j
    · subst e
      rw [if_pos rfl, va_up_self, va_up_self, hi r (by omega)]
      exact ⟨hr, hr2, hok⟩
    · rw [if_neg e, va_up_ne _ _ e, va_up_ne _ _ e]
      obtain ⟨a1, a2, a3⟩ := hRc i (hk i hiM e)
      rw [hi _ (by omega)]
      exact ⟨a1, a2, a3⟩
theorem read_ok {ng N M nx : Nat} {sh ln : Nat → Nat} {iv : wI} {rv : wJ} {m : wI} (h : Rel ng N M nx sh ln iv rv m) (w t : Int32) : ∃ nx' sh' ln' iv' rv' q, ∃ b : Int32, fX4_readRecipe nx sh ln iv rv w t = some (sh', ln', iv', rv', q) ∧ fX5_isRecipe w t = some b ∧ Rel ng N M nx' sh' ln' iv' rv' m ∧ ((b = 0 ∧ q = 0) ∨ (b ≠ 0 ∧ q ≠ 0 ∧ sh' q = 4 ∧ 1000 ≤ q ∧ RecOK (iv' q) w t)) := by
  obtain ⟨n1, n2, n3, n4⟩ := h.fresh
  unfold fX4_readRecipe
  by_cases h0 : w < 0
  · exact ⟨nx, sh, ln, iv, rv, 0, 0, by rw [if_pos h0], by unfold fX5_isRecipe; rw [if_pos h0], h, Or.inl ⟨rfl, rfl⟩⟩
  by_cases h1 : t < 0
  · exact ⟨nx, sh, ln, iv, rv, 0, 0, by rw [if_neg h0, if_pos h1], by unfold fX5_isRecipe; rw [if_neg h0, if_pos h1], h, Or.inl ⟨rfl, rfl⟩⟩
  by_cases h2 : w - w / 10 * 10 = 0
  · rw [if_neg h0, if_neg h1, if_pos h2, wGd_t n2]
    simp only [wLt, fX3_init, wBd]
    generalize hI : wU (wU (wU (wU (wU (wU (va_up iv nx fun _ => 0) nx 0 (w / 1000000)) nx 1 (w / 100000 - w / 100000 / 10 * 10)) nx 2 (w / 1000 - w / 1000 / 100 * 100)) nx 3 (w / 10 - w / 10 / 100 * 100)) nx 4 (t / 1000)) nx 5 (t - t / 1000 * 1000) = iv'
    have hr : iv' nx 0 = w / 1000000 ∧ iv' nx 1 = w / 100000 - w / 100000 / 10 * 10 ∧ iv' nx 2 = w / 1000 - w / 1000 / 100 * 100 ∧ iv' nx 3 = w / 10 - w / 10 / 100 * 100 ∧ iv' nx 4 = t / 1000 ∧ iv' nx 5 = t - t / 1000 * 1000 := by
      rw [← hI]; simp only [wU_g]; simp
    obtain ⟨b, c1, c2, c3⟩ := rec_same (ng := 0) (sh := va_up sh nx 4) (rv := va_up rv nx fun _ => 0) h0 h1 h2 hr
    rw [c1]
    have R := h.new (iv' := iv') (fun a ha => by rw [← hI, wU_ne a ha, wU_ne a ha, wU_ne a ha, wU_ne a ha, wU_ne a ha, wU_ne a ha, va_up_ne _ _ ha])
    by_cases hb : b = 0
    · exact ⟨nx + 1, _, _, iv', _, 0, b, by simp [hb], c2, R, Or.inl ⟨hb, rfl⟩⟩
    · exact ⟨nx + 1, _, _, iv', _, nx, b, by simp [hb], c2, R, Or.inr ⟨hb, by omega, by rw [va_up_self], n3, c3 hb⟩⟩
  · exact ⟨nx, sh, ln, iv, rv, 0, 0, by rw [if_neg h0, if_neg h1, if_neg h2], by unfold fX5_isRecipe; rw [if_neg h0, if_neg h1, if_neg h2], h, Or.inl ⟨rfl, rfl⟩⟩
theorem Rel.fix {ng N M nx : Nat} {sh ln : Nat → Nat} {iv : wI} {rv : wJ} {m : wI} (h : Rel ng N M nx sh ln iv rv m) : sh 1 = 5 ∧ sh 3 = 11 ∧ ln 3 = 8 ∧ sh 4 = 9 ∧ ln 4 = 100 ∧ sh 5 = 7 ∧ ln 5 = 8 := by
  obtain ⟨⟨⟨a, b, -⟩, -⟩, -⟩ := h
  exact ⟨a 1 5 (by decide), a 3 11 (by decide), b 3 8 (by decide), a 4 9 (by decide), b 4 100 (by decide), a 5 7 (by decide), b 5 8 (by decide)⟩
theorem sim_recipe {ng N M nx : Nat} {sh ln : Nat → Nat} {iv : wI} {rv : wJ} {m : wI} (h : Rel ng N M nx sh ln iv rv m) (a b : Int32) : ∃ M' nx' sh' ln' iv' rv' m' r, fX4_recipe nx sh ln iv rv a b = some (sh', ln', iv', rv', r) ∧ fX5_recipe m a b = some (m', r) ∧ Rel ng N M' nx' sh' ln' iv' rv' m' := by
  obtain ⟨q1, q2, q3, q4, q5, q6, q7, q8, q9⟩ := h.N
  obtain ⟨nx', sh', ln', iv', rv', q, b1, c1, c2, R, c3⟩ := read_ok h a b
  unfold fX4_recipe fX5_recipe
  rw [wGd_t h.fix.1, q8, c1, c2, q9]
  simp only [wBd, wB5]
  by_cases hM : M = 8
  · refine ⟨M, nx, sh, ln, iv, rv, m, -1, ?_, ?_, h⟩
    · rw [if_neg (by rw [hM]; decide)]
    · rw [hM]
      by_cases hb : b1 = 0
      · rw [if_pos hb]
      · rw [if_neg hb, if_pos (show nI 8 = 8 from rfl)]
  · have hM2 : M < 8 := by omega
    rw [if_pos (show nI M < 8 from nI_lt (b := 8) hM2 (by decide))]
    rcases c3 with ⟨e1, e2⟩ | ⟨e1, e2, e3, e4, e5⟩
    · exact ⟨M, nx', sh', ln', iv', rv', m, -1, by rw [if_pos e2], by rw [if_pos e1], R⟩
    · obtain ⟨f1, f2, f3, f4, f5, f6, f7⟩ := R.fix
      obtain ⟨-, -, -, -, -, -, -, p8, p9⟩ := R.N
      rw [if_neg e2, if_neg e1, if_neg (show ¬ nI M = 8 from fun e => hM ((nI_eq (b := 8) (by omega) (by decide)).mp e)), wGd_t f1, wGd_t f2, p8, f3, wGd_t (vp_in_nI hM2 (by decide)), wGd_t e3, toNat_nI (by omega)]
      simp only [wLt]
      rw [wGd_t (vp_in_nI hM2 (by decide)), show wU m 15 M a 1 4 = nI M by rw [wU_ne 1 (by decide), q9], wGd_t (vp_in_nI hM2 (by decide)), toNat_nI (by omega), nI_1]
      have x1 : wU iv' 1 2 (nI (M + 1)) 1 2 = nI (M + 1) := by simp [wU_g]
      have x2 : (wU (wU m 15 M a) 16 M b) 1 4 = nI M := by rw [wU_ne 1 (by decide), wU_ne 1 (by decide), q9]
      have x3 : wU (wU (wU m 15 M a) 16 M b) 1 4 (nI M + 1) 1 4 = nI (M + 1) := by simp [wU_g, nI_1]
      rw [x1, x2, x3]
      refine ⟨M + 1, nx', sh', ln', _, _, _, _, rfl, rfl, ?_⟩
      refine R.put (j := M) (M' := M + 1) (by omega) (by omega) (fun i x y => by omega) e3 e4 e5 (fun a ha => wU_ne a ha) (fun j => ?_) (fun a x y z => by rw [wU_ne a x, wU_ne a z, wU_ne a y]) (fun j => ?_) ?_ ?_
      · simp [wU_g]
      · rw [wU_g, if_pos rfl, wU_ne 1 (by decide), wU_ne 1 (by decide), nI_1]
      · rw [wU_ne 15 (by decide), wU_ne 15 (by decide), wU_self]
      · rw [wU_ne 16 (by decide), wU_self, wU_ne 16 (by decide)]
theorem sim_alter {ng N M nx : Nat} {sh ln : Nat → Nat} {iv : wI} {rv : wJ} {m : wI} (h : Rel ng N M nx sh ln iv rv m) (a b c : Int32) : ∃ nx' sh' ln' iv' rv' m' r, fX4_alter nx sh ln iv rv a b c = some (sh', ln', iv', rv', r) ∧ fX5_alter m a b c = some (m', r) ∧ Rel ng N M nx' sh' ln' iv' rv' m' := by
  obtain ⟨q1, q2, q3, q4, q5, q6, q7, q8, q9⟩ := h.N
  obtain ⟨nx', sh', ln', iv', rv', q, b1, c1, c2, R, c3⟩ := read_ok h b c
  unfold fX4_alter fX5_alter
  rw [wGd_t h.fix.1, q8, c1, c2, q9]
  rcases pk_ix a (n := M) (by omega) with h0 | h0 | ⟨j, hj, rfl⟩
  · rw [among_no (Or.inl h0), in_no (Or.inl h0) (by omega)]
    exact ⟨nx, sh, ln, iv, rv, m, 0, rfl, rfl, h⟩
  · rw [among_no (Or.inr h0), in_no (Or.inr h0) (by omega)]
    exact ⟨nx, sh, ln, iv, rv, m, 0, rfl, rfl, h⟩
  · rw [among_yes hj (by omega), in_yes hj (by omega)]
    simp only [wBd, wB5, show ¬ (1 : Int32) = 0 by decide, if_false]
    rcases c3 with ⟨e1, e2⟩ | ⟨e1, e2, e3, e4, e5⟩
    · exact ⟨nx', sh', ln', iv', rv', m, 0, by rw [if_pos e2], by rw [if_pos e1], R⟩
    · obtain ⟨f1, f2, f3, f4, f5, f6, f7⟩ := R.fix
      obtain ⟨-, -, -, -, -, -, -, p8, p9⟩ := R.N
      rw [if_neg e2, if_neg e1, wGd_t f1, wGd_t f2, f3, wGd_t (vp_in_nI (show j < 8 by omega) (by decide)), wGd_t e3, wGd_t (vp_in_nI (show j < 8 by omega) (by decide)), toNat_nI (by omega)]
      refine ⟨nx', sh', ln', _, _, _, _, rfl, rfl, ?_⟩
      refine R.put (j := j) (M' := M) q7 hj (fun i x y => x) e3 e4 e5 (fun a ha => rfl) (fun k => ?_) (fun a x y z => by rw [wU_ne a z, wU_ne a y]) (fun k => ?_) ?_ ?_
      · split
        · rename_i e; rw [e, p8]
        · rfl
      · rw [wU_ne 1 (by decide), wU_ne 1 (by decide)]
        split
        · rename_i e; rw [e, q9]
        · rfl
      · rw [wU_ne 15 (by decide), wU_self]
      · rw [wU_self, wU_ne 16 (by decide)]
