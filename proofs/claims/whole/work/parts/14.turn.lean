/-- a cup goes from one state to another -/
theorem turn_ok {ng N c s k : Nat} {sh : Nat → Nat} {iv : wI} {rv : wJ} {m : wI} (hs : sh (c + 100) = 1) (h5 : iv (c + 100) 5 = nI s) (hs8 : s < 8) (hk8 : k < 8) (hN : N ≤ 100) (hc : c < N) (hm : m 24 c = nI s) (hC : RCt N iv m) : ∃ iv' rv', fX4_turn ng sh iv rv (c + 100) (nI k) = some (iv', rv') ∧ (∀ a, a ≠ 5 → a ≠ c + 100 → iv' a = iv a) ∧ (∀ j, j ≠ 5 → iv' (c + 100) j = iv (c + 100) j) ∧ iv' (c + 100) 5 = nI k ∧ (∀ a, a ≠ c + 100 → rv' a = rv a) ∧ (∀ j, j ≠ 10 → rv' (c + 100) j = rv (c + 100) j) ∧ rv' (c + 100) 10 = 0 ∧ ∀ j, j < 8 → iv' 5 j = nI (cnt (va_up (m 24) c (nI k)) (nI j) N) := by
  unfold fX4_turn
  rw [wGd_t hs, h5, wGd_t (vp_in_nI hs8 (by decide)), toNat_nI (show s < 2 ^ 31 by omega), toNat_nI (show k < 2 ^ 31 by omega)]
  simp only [wLt, wGd_t (vp_in_nI hk8 (show 8 < 2 ^ 31 by decide))]
  refine ⟨_, _, rfl, fun a h1 h2 => ?_, fun j hj => ?_, ?_, fun a ha => ?_, fun j hj => ?_, ?_, fun j hj => ?_⟩
  · rw [wU_ne a h1, wU_ne a h2, wU_ne a h1]
  · simp only [wU_g]
    simp [hj]
  · simp only [wU_g]
    simp
  · rw [wV_ne a ha]
  · simp only [wV_g]
    simp [hj]
  · simp [wV_g]
  · have h0 := cnt_up (f := m 24) (h := nI j) (x := nI k) (c := c) (n := N) hc
    have e1 : m 24 c = nI j ↔ s = j := by rw [hm]; exact nI_eq (by omega) (by omega)
    have e2 : (nI k = nI j) ↔ k = j := nI_eq (by omega) (by omega)
    have cj := hC j hj
    have b1 := cnt_le (m 24) (nI j) N
    simp only [e1, e2] at h0
    simp only [wU_g]
    by_cases hjk : j = k
    · subst hjk
      by_cases hjs : j = s
      · subst hjs
        simp at h0
        simp [cj, h0]
      · have : ¬ s = j := fun e => hjs e.symm
        simp [this] at h0
        have : ¬ 5 = c + 100 := by omega
        simp [hjs, this, cj, h0]
        rw [nI_1]
    · have hkj : ¬ k = j := fun e => hjk e.symm
      have h9 : ¬ 5 = c + 100 := by omega
      by_cases hjs : j = s
      · subst hjs
        simp [hkj] at h0
        simp [hjk, h9, cj]
        rw [show nI (cnt (m 24) (nI j) N) - 1 = nI (cnt (m 24) (nI j) N - 1) from pk_sub (a := cnt (m 24) (nI j) N) (b := 1) (by omega)]
        congr 1
        omega
      · have : ¬ s = j := fun e => hjs e.symm
        simp [this, hkj] at h0
        simp [hjk, hjs, h9, cj, h0]
/-- m' is m but for cup c, whose state is x -/
def off (c : Nat) (x : Int32) (m m' : wI) : Prop := m' 24 = va_up (m 24) c x ∧ (∀ a, 19 ≤ a → a ≤ 29 → ∀ i, i ≠ c → m' a i = m a i) ∧ ∀ a, 19 ≤ a → a ≤ 23 → m' a = m a
theorem off.ne {c : Nat} {x : Int32} {m m' : wI} (h : off c x m m') {i : Nat} (hi : i ≠ c) : m' 24 i = m 24 i := by rw [h.1, va_up_ne _ _ hi]
theorem off.at {c : Nat} {x : Int32} {m m' : wI} (h : off c x m m') : m' 24 c = x := by rw [h.1, va_up_self]
theorem off.iff {c : Nat} {x y : Int32} {m m' : wI} (h : off c x m m') (h1 : m 24 c ≠ y) (h2 : x ≠ y) (i : Nat) : m' 24 i = y ↔ m 24 i = y := by
  by_cases hi : i = c
  · subst hi; rw [h.at]; exact ⟨fun e => absurd e h2, fun e => absurd e h1⟩
  · rw [h.ne hi]
theorem RAt.keep {N c f : Nat} {x y : Int32} {rv rv' : wJ} {m m' : wI} (h : RAt N rv m f y) (ho : off c x m m') (h1 : m 24 c ≠ y) (h2 : x ≠ y) (hr : rv' 1 f = rv 1 f) : RAt N rv' m' f y := by
  unfold RAt at *
  simp only [ho.iff h1 h2, hr, ne_eq]
  exact h
theorem GrpR.keep {N c g : Nat} {x : Int32} {iv iv' : wI} {rv rv' : wJ} {m m' : wI} (h : GrpR N iv rv m g) (ho : off c x m m') (h1 : m 24 c ≠ 3) (h2 : x ≠ 3) (hi : iv' (g + 13) = iv (g + 13)) (hr : rv' (g + 13) = rv (g + 13)) (hr2 : rv' 2 g = rv 2 g) (h30 : m' 30 g = m 30 g) (h31 : m' 31 g = m 31 g) (h32 : m' 32 g = m 32 g) : GrpR N iv' rv' m' g := by
  obtain ⟨a1, a2, a3, a4, k⟩ := h
  have ne : ∀ i, m 24 i = 3 → i ≠ c := fun i e e2 => h1 (e2 ▸ e)
  have k26 : ∀ i, m 24 i = 3 → m' 26 i = m 26 i := fun i e => ho.2.1 26 (by decide) (by decide) i (ne i e)
  have k25 : ∀ i, m 24 i = 3 → m' 25 i = m 25 i := fun i e => ho.2.1 25 (by decide) (by decide) i (ne i e)
  unfold GrpR
  rw [hi, hr, hr2, h30, h31, h32]
  refine ⟨a1, a2, a3, a4, ?_⟩
  rcases k with ⟨k1, k2, k3, k4, k5⟩ | ⟨k1, k2, k3, k4, k5⟩ | ⟨d, k1, k2, k3, k4, k5, k6, k7, k8⟩
  · exact Or.inl ⟨k1, k2, k3, k4, fun i hi e => by rw [ho.iff h1 h2] at e; rw [k26 i e]; exact k5 i hi e⟩
  · exact Or.inr (Or.inl ⟨k1, k2, k3, k4, fun i hi e => by rw [ho.iff h1 h2] at e; rw [k26 i e]; exact k5 i hi e⟩)
  · refine Or.inr (Or.inr ⟨d, k1, k2, k3, by rw [k25 d k6]; exact k4, k5, (ho.iff h1 h2 d).mpr k6, by rw [k26 d k6]; exact k7, fun i hi e e2 => ?_⟩)
    rw [ho.iff h1 h2] at e
    rw [k26 i e] at e2
    exact k8 i hi e e2
theorem RLg.keep {N c : Nat} {x : Int32} {iv iv' m m' : wI} (h : RLg N iv m) (ho : off c x m m') (h1 : m 24 c ≠ 6) (h2 : x ≠ 6) (hi : iv' 1 16 = iv 1 16) : RLg N iv' m' := by
  obtain ⟨a1, a2, a3⟩ := h
  have k28 : ∀ i, m 24 i = 6 → m' 28 i = m 28 i := fun i e => ho.2.1 28 (by decide) (by decide) i (fun e2 => h1 (e2 ▸ e))
  have k23 : m' 23 = m 23 := ho.2.2 23 (by decide) (by decide)
  unfold RLg
  rw [hi, k23]
  refine ⟨a1, fun i hi e => ?_, ?_⟩
  · rw [ho.iff h1 h2] at e
    rw [k28 i e]
    exact a2 i hi e
  · rcases a3 with a3 | ⟨i, i1, i2, i3⟩
    · exact Or.inl a3
    · exact Or.inr ⟨i, i1, (ho.iff h1 h2 i).mpr i2, by rw [k28 i i2]; exact i3⟩
theorem RCu.move {ng N c : Nat} {x : Int32} {sh : Nat → Nat} {iv iv' : wI} {rv rv' : wJ} {m m' : wI} (h : RCu ng N sh iv rv m) (ho : off c x m m') (h1 : ∀ i, i ≠ c → iv' (i + 100) = iv (i + 100)) (h2 : ∀ i, i ≠ c → rv' (i + 100) = rv (i + 100)) (h3 : ∀ a, 1000 ≤ a → iv' a = iv a) (h4 : rv' 4 = rv 4) (hc : CupR ng sh iv' rv' m' c) : RCu ng N sh iv' rv' m' := fun i hi => by
  by_cases e : i = c
  · rw [e]; exact hc
  · exact (h i hi).congr (h1 i e) (h2 i e) h3 (by rw [h4]) (fun a x y => ho.2.1 a x y i e)
theorem RFr.move {N c : Nat} {x : Int32} {m m' : wI} (h : RFr N m) (hc : c < N) (ho : off c x m m') : RFr N m' := fun i hi => by
  have e : i ≠ c := by omega
  rw [ho.ne e, ho.2.1 29 (by decide) (by decide) i e]
  exact h i hi
/-- the cup itself, behind a turn to x, where its own numbers are told -/
theorem CupR.turned {ng c : Nat} {sh : Nat → Nat} {iv iv' : wI} {rv rv' : wJ} {m m' : wI} {k : Nat} (h : CupR ng sh iv rv m c) (ho : off c (nI k) m m') (hk : k < 8) (hr4 : rv' 4 c = rv 4 c) (hr : ∀ j, j ≠ 10 → rv' (c + 100) j = rv (c + 100) j) (hi3 : ∀ a, 1000 ≤ a → iv' a = iv a) (h0 : ∀ j, j < 5 → iv' (c + 100) j = iv (c + 100) j) (h5 : iv' (c + 100) 5 = nI k) (h6 : iv' (c + 100) 6 = m' 28 c) (h9 : iv' (c + 100) 9 = m' 29 c) (h8 : k = 2 → iv' (c + 100) 8 = m' 27 c) (h7 : k = 1 ∨ k = 5 → iv' (c + 100) 7 = m' 25 c) (h3 : k = 3 → ∃ g, g < ng ∧ m' 26 c = nI g ∧ rv' (c + 100) 10 = g + 13) (h3' : k ≠ 3 → rv' (c + 100) 10 = 0) : CupR ng sh iv' rv' m' c := by
  obtain ⟨a1, a2, ⟨a3, a4, a5⟩, a6, a7, a8, a9, a10, a11, a12, a13, a14, a15, a16⟩ := h
  have e24 := ho.at
  have eq : ∀ j, j < 8 → (m' 24 c = nI j ↔ k = j) := fun j hj => by rw [e24]; exact nI_eq (by omega) (by omega)
  refine ⟨by rw [hr4]; exact a1, by rw [h0 0 (by decide)]; exact a2, ⟨by rw [hr 1 (by decide)]; exact a3, by rw [hr 1 (by decide)]; exact a4, ?_⟩, ?_, ?_, ?_, by rw [h5, e24], h6, h9, fun e => h8 ((eq 2 (by decide)).mp e), fun e => h7 (e.elim (fun e => Or.inl ((eq 1 (by decide)).mp e)) (fun e => Or.inr ((eq 5 (by decide)).mp e))), ⟨k, hk, e24⟩, fun e => h3 ((eq 3 (by decide)).mp e), fun e => h3' (fun q => e ((eq 3 (by decide)).mpr q))⟩
  · rw [hr 1 (by decide), hi3 _ a4, ho.2.2 19 (by decide) (by decide), ho.2.2 20 (by decide) (by decide)]; exact a5
  · rw [h0 2 (by decide), ho.2.2 21 (by decide) (by decide)]; exact a6
  · rw [h0 3 (by decide), ho.2.2 22 (by decide) (by decide)]; exact a7
  · rw [h0 4 (by decide), ho.2.2 23 (by decide) (by decide)]; exact a8
