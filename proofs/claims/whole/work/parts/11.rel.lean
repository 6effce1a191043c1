/-! The bond between the class's cells (sh, ln, iv, rv) and the model's (m) -/
def RecOK (r : Nat → Int32) (w t : Int32) : Prop :=
  (r 0 = w / 1000000 ∧ r 1 = w / 100000 - w / 100000 / 10 * 10 ∧ r 2 = w / 1000 - w / 1000 / 100 * 100 ∧ r 3 = w / 10 - w / 10 / 100 * 100 ∧ r 4 = t / 1000 ∧ r 5 = t - t / 1000 * 1000) ∧
  0 ≤ r 0 ∧ (1 ≤ r 1 ∧ r 1 ≤ 9) ∧ (1 ≤ r 2 ∧ r 2 ≤ 30) ∧ (0 ≤ r 3 ∧ r 3 ≤ 20) ∧ 0 ≤ r 4 ∧ 0 ≤ r 5
def RB (ng N M nx : Nat) (sh ln : Nat → Nat) : Prop := wBx ng sh ln ∧ 1 ≤ ng ∧ ng ≤ 3 ∧ N ≤ 100 ∧ M ≤ 8 ∧ 1000 ≤ nx ∧ (∀ g, g < ng → sh (g + 13) = 2) ∧ (∀ i, i < N → sh (i + 100) = 1) ∧ (∀ r, N + 100 ≤ r → r < 1000 → sh r = 0) ∧ ∀ r, nx ≤ r → sh r = 0
def RV (sh : Nat → Nat) (rv : wJ) : Prop := ∀ a j, rv a j = 0 ∨ sh (rv a j) ≠ 0
def RSc (ng N M : Nat) (iv m : wI) : Prop := (iv 1 2 = nI M ∧ m 1 4 = nI M) ∧ (iv 1 4 = nI N ∧ m 1 8 = nI N) ∧ m 1 0 = nI ng ∧ iv 1 10 = m 1 1 ∧ (6 ≤ m 1 1 ∧ m 1 1 ≤ 30) ∧ iv 1 11 = m 1 3 ∧ iv 1 12 = m 1 2 ∧ iv 1 13 = m 1 25 ∧ iv 1 14 = m 1 23 ∧ iv 1 15 = m 1 24
def RSt (iv m : wI) : Prop := ∀ k, k < 3 → iv 6 k = m 17 k ∧ 0 ≤ m 17 k ∧ m 17 k ≤ 100000
def RRc (M : Nat) (sh : Nat → Nat) (iv : wI) (rv : wJ) (m : wI) : Prop := ∀ j, j < M → sh (rv 3 j) = 4 ∧ 1000 ≤ rv 3 j ∧ RecOK (iv (rv 3 j)) (m 15 j) (m 16 j)
def RCt (N : Nat) (iv m : wI) : Prop := ∀ k, k < 8 → iv 5 k = nI (cnt (m 24) (nI k) N)
def CupR (ng : Nat) (sh : Nat → Nat) (iv : wI) (rv : wJ) (m : wI) (i : Nat) : Prop :=
  rv 4 i = i + 100 ∧ iv (i + 100) 0 = nI i ∧ (sh (rv (i + 100) 1) = 4 ∧ 1000 ≤ rv (i + 100) 1 ∧ RecOK (iv (rv (i + 100) 1)) (m 19 i) (m 20 i)) ∧ iv (i + 100) 2 = m 21 i ∧ iv (i + 100) 3 = m 22 i ∧ iv (i + 100) 4 = m 23 i ∧ iv (i + 100) 5 = m 24 i ∧ iv (i + 100) 6 = m 28 i ∧ iv (i + 100) 9 = m 29 i ∧
  (m 24 i = 2 → iv (i + 100) 8 = m 27 i) ∧ (m 24 i = 1 ∨ m 24 i = 5 → iv (i + 100) 7 = m 25 i) ∧ (∃ s, s < 8 ∧ m 24 i = nI s) ∧ (m 24 i = 3 → ∃ g, g < ng ∧ m 26 i = nI g ∧ rv (i + 100) 10 = g + 13) ∧ (m 24 i ≠ 3 → rv (i + 100) 10 = 0)
def RCu (ng N : Nat) (sh : Nat → Nat) (iv : wI) (rv : wJ) (m : wI) : Prop := ∀ i, i < N → CupR ng sh iv rv m i
def RFr (N : Nat) (m : wI) : Prop := ∀ i, N ≤ i → m 24 i = 0 ∧ m 29 i = 0
/-- the grinder (8, 1) and the wand (9, 5): which cup is there -/
def RAt (N : Nat) (rv : wJ) (m : wI) (f : Nat) (s : Int32) : Prop := (rv 1 f = 0 ∧ ∀ i, i < N → m 24 i ≠ s) ∨ ∃ c, c < N ∧ rv 1 f = c + 100 ∧ m 24 c = s ∧ ∀ i, i < N → m 24 i = s → i = c
def GrpR (N : Nat) (iv : wI) (rv : wJ) (m : wI) (g : Nat) : Prop :=
  rv 2 g = g + 13 ∧ iv (g + 13) 0 = nI g ∧ iv (g + 13) 3 = m 31 g ∧ iv (g + 13) 4 = m 32 g ∧
  ((rv (g + 13) 5 = 0 ∧ iv (g + 13) 1 = 0 ∧ iv (g + 13) 2 = 0 ∧ m 30 g = 0 ∧ ∀ i, i < N → m 24 i = 3 → m 26 i ≠ nI g) ∨
   (rv (g + 13) 5 = 0 ∧ iv (g + 13) 1 = 2 ∧ iv (g + 13) 2 = m 30 g ∧ 0 < m 30 g ∧ ∀ i, i < N → m 24 i = 3 → m 26 i ≠ nI g) ∨
   ∃ c, c < N ∧ rv (g + 13) 5 = c + 100 ∧ iv (g + 13) 1 = 1 ∧ iv (g + 13) 2 = m 25 c ∧ m 30 g = 0 ∧ m 24 c = 3 ∧ m 26 c = nI g ∧ ∀ i, i < N → m 24 i = 3 → m 26 i = nI g → i = c)
def RGp (ng N : Nat) (iv : wI) (rv : wJ) (m : wI) : Prop := ∀ g, g < ng → GrpR N iv rv m g
def RLg (N : Nat) (iv m : wI) : Prop := 0 ≤ iv 1 16 ∧ (∀ i, i < N → m 24 i = 6 → m 28 i - m 23 i ≤ iv 1 16) ∧ (iv 1 16 = 0 ∨ ∃ i, i < N ∧ m 24 i = 6 ∧ iv 1 16 = m 28 i - m 23 i)
def Rel (ng N M nx : Nat) (sh ln : Nat → Nat) (iv : wI) (rv : wJ) (m : wI) : Prop :=
  RB ng N M nx sh ln ∧ RV sh rv ∧ RSc ng N M iv m ∧ RSt iv m ∧ RRc M sh iv rv m ∧ RCt N iv m ∧ RCu ng N sh iv rv m ∧ RFr N m ∧ RAt N rv m 8 1 ∧ RAt N rv m 9 5 ∧ RGp ng N iv rv m ∧ RLg N iv m
theorem CupR.congr {ng : Nat} {sh : Nat → Nat} {iv iv' : wI} {rv rv' : wJ} {m m' : wI} {i : Nat} (h : CupR ng sh iv rv m i) (h1 : iv' (i + 100) = iv (i + 100)) (h2 : rv' (i + 100) = rv (i + 100)) (h3 : ∀ a, 1000 ≤ a → iv' a = iv a) (h4 : rv' 4 i = rv 4 i) (h5 : ∀ a, 19 ≤ a → a ≤ 29 → m' a i = m a i) : CupR ng sh iv' rv' m' i := by
  obtain ⟨a1, a2, ⟨a3, a4, a5⟩, a6, a7, a8, a9, a10, a11, a12, a13, a14, a15, a16⟩ := h
  unfold CupR
  rw [h1, h2, h4, h3 _ a4, h5 19 (by decide) (by decide), h5 20 (by decide) (by decide), h5 21 (by decide) (by decide), h5 22 (by decide) (by decide), h5 23 (by decide) (by decide), h5 24 (by decide) (by decide), h5 25 (by decide) (by decide), h5 26 (by decide) (by decide), h5 27 (by decide) (by decide), h5 28 (by decide) (by decide), h5 29 (by decide) (by decide)]
  exact ⟨a1, a2, ⟨a3, a4, a5⟩, a6, a7, a8, a9, a10, a11, a12, a13, a14, a15, a16⟩
theorem RSt.congr {iv iv' m m' : wI} (h : RSt iv m) (h1 : iv' 6 = iv 6) (h2 : m' 17 = m 17) : RSt iv' m' := by unfold RSt at *; rw [h1, h2]; exact h
theorem RRc.congr {M : Nat} {sh : Nat → Nat} {iv iv' : wI} {rv rv' : wJ} {m m' : wI} (h : RRc M sh iv rv m) (h1 : ∀ a, 1000 ≤ a → iv' a = iv a) (h2 : rv' 3 = rv 3) (h3 : m' 15 = m 15) (h4 : m' 16 = m 16) : RRc M sh iv' rv' m' := by
  intro j hj
  obtain ⟨a1, a2, a3⟩ := h j hj
  rw [h2, h1 _ a2, h3, h4]
  exact ⟨a1, a2, a3⟩
theorem RCt.congr {N : Nat} {iv iv' m m' : wI} (h : RCt N iv m) (h1 : iv' 5 = iv 5) (h2 : m' 24 = m 24) : RCt N iv' m' := by unfold RCt at *; rw [h1, h2]; exact h
theorem RCu.congr {ng N : Nat} {sh : Nat → Nat} {iv iv' : wI} {rv rv' : wJ} {m m' : wI} (h : RCu ng N sh iv rv m) (h1 : ∀ i, i < N → iv' (i + 100) = iv (i + 100)) (h2 : ∀ i, i < N → rv' (i + 100) = rv (i + 100)) (h3 : ∀ a, 1000 ≤ a → iv' a = iv a) (h4 : rv' 4 = rv 4) (h5 : ∀ a, 19 ≤ a → a ≤ 29 → m' a = m a) : RCu ng N sh iv' rv' m' := fun i hi => (h i hi).congr (h1 i hi) (h2 i hi) h3 (by rw [h4]) (fun a x y => by rw [h5 a x y])
theorem RFr.congr {N : Nat} {m m' : wI} (h : RFr N m) (h1 : m' 24 = m 24) (h2 : m' 29 = m 29) : RFr N m' := by unfold RFr at *; rw [h1, h2]; exact h
theorem RAt.congr {N : Nat} {rv rv' : wJ} {m m' : wI} {f : Nat} {s : Int32} (h : RAt N rv m f s) (h1 : rv' 1 f = rv 1 f) (h2 : m' 24 = m 24) : RAt N rv' m' f s := by unfold RAt at *; rw [h1, h2]; exact h
theorem GrpR.congr {N : Nat} {iv iv' : wI} {rv rv' : wJ} {m m' : wI} {g : Nat} (h : GrpR N iv rv m g) (h1 : iv' (g + 13) = iv (g + 13)) (h2 : rv' (g + 13) = rv (g + 13)) (h3 : rv' 2 g = rv 2 g) (h4 : m' 24 = m 24) (h5 : m' 25 = m 25) (h6 : m' 26 = m 26) (h7 : m' 30 g = m 30 g) (h8 : m' 31 g = m 31 g) (h9 : m' 32 g = m 32 g) : GrpR N iv' rv' m' g := by unfold GrpR at *; rw [h1, h2, h3, h4, h5, h6, h7, h8, h9]; exact h
theorem RGp.congr {ng N : Nat} {iv iv' : wI} {rv rv' : wJ} {m m' : wI} (h : RGp ng N iv rv m) (h1 : ∀ g, g < ng → iv' (g + 13) = iv (g + 13)) (h2 : ∀ g, g < ng → rv' (g + 13) = rv (g + 13)) (h3 : rv' 2 = rv 2) (h4 : m' 24 = m 24) (h5 : m' 25 = m 25) (h6 : m' 26 = m 26) (h7 : m' 30 = m 30) (h8 : m' 31 = m 31) (h9 : m' 32 = m 32) : RGp ng N iv' rv' m' := fun g hg => (h g hg).congr (h1 g hg) (h2 g hg) (by rw [h3]) h4 h5 h6 (by rw [h7]) (by rw [h8]) (by rw [h9])
theorem RLg.congr {N : Nat} {iv iv' m m' : wI} (h : RLg N iv m) (h1 : iv' 1 16 = iv 1 16) (h2 : m' 24 = m 24) (h3 : m' 28 = m 28) (h4 : m' 23 = m 23) : RLg N iv' m' := by unfold RLg at *; rw [h1, h2, h3, h4]; exact h
/-- only numbers of the two objects themselves, and the class's rows for planning, change -/
theorem Rel.scalar {ng N M nx : Nat} {sh ln : Nat → Nat} {iv iv' : wI} {rv : wJ} {m m' : wI} (h : Rel ng N M nx sh ln iv rv m) (h1 : ∀ a, a ≠ 1 → iv' a = iv a) (h2 : ∀ a, a ≠ 1 → m' a = m a) (h3 : RSc ng N M iv' m') (h4 : iv' 1 16 = iv 1 16) : Rel ng N M nx sh ln iv' rv m' := by
  obtain ⟨hB, hV, hSc, hSt, hRc, hCt, hCu, hFr, hGr, hWa, hGp, hLg⟩ := h
  exact ⟨hB, hV, h3, hSt.congr (h1 6 (by decide)) (h2 17 (by decide)), hRc.congr (fun a ha => h1 a (by omega)) rfl (h2 15 (by decide)) (h2 16 (by decide)), hCt.congr (h1 5 (by decide)) (h2 24 (by decide)),
    hCu.congr (fun i hi => h1 _ (by omega)) (fun _ _ => rfl) (fun a ha => h1 a (by omega)) rfl (fun a x y => h2 a (by omega)), hFr.congr (h2 24 (by decide)) (h2 29 (by decide)), hGr.congr rfl (h2 24 (by decide)), hWa.congr rfl (h2 24 (by decide)),
    hGp.congr (fun g hg => h1 _ (by omega)) (fun _ _ => rfl) rfl (h2 24 (by decide)) (h2 25 (by decide)) (h2 26 (by decide)) (h2 30 (by decide)) (h2 31 (by decide)) (h2 32 (by decide)), hLg.congr h4 (h2 24 (by decide)) (h2 28 (by decide)) (h2 23 (by decide))⟩
theorem sim_limit {ng N M nx : Nat} {sh ln : Nat → Nat} {iv : wI} {rv : wJ} {m : wI} (h : Rel ng N M nx sh ln iv rv m) (a : Int32) : ∃ iv' m' r, fX4_limit ng sh iv rv a = some (iv', r) ∧ fX5_limit m a = some (m', r) ∧ Rel ng N M nx sh ln iv' rv m' := by
  unfold fX4_limit fX5_limit fX5_in
  by_cases h1 : a < 6
  · exact ⟨iv, m, 0, by rw [if_pos h1], by rw [if_pos h1]; rfl, h⟩
  · by_cases h2 : 30 < a
    · exact ⟨iv, m, 0, by rw [if_neg h1, if_neg (by rw [le_iff]; rw [lt_iff] at h2; omega)], by rw [if_neg h1, if_pos h2]; rfl, h⟩
    · refine ⟨wU iv 1 10 a, wU m 1 1 a, 1, ?_, ?_, ?_⟩
      · rw [if_neg h1, if_pos (by rw [le_iff]; rw [lt_iff] at h2; omega)]; rfl
      · rw [if_neg h1, if_neg h2]; rfl
      · refine h.scalar (fun a ha => wU_ne a ha) (fun a ha => wU_ne a ha) ?_ (by simp [wU_g])
        obtain ⟨-, -, ⟨a1, a2, a3, a4, a5, a6⟩, -⟩ := h
        unfold RSc
        simp only [wU_g]
        simp
        refine ⟨a1, a2, a3, ?_, a6⟩
        rw [lt_iff] at h1 h2
        rw [le_iff, le_iff]
        omega
