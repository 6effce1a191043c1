theorem in_tab {f : Nat → Nat} {L : List (Nat × Nat)} (h : L.all (fun e => f e.1 == e.2) = true) : ∀ c k : Nat, (c, k) ∈ L → f c = k := fun c k hm => by
  have := List.all_eq_true.mp h (c, k) hm
  simpa using this
theorem start_rel {n : Nat} {lim : Int32} (hn : n = 1 ∨ n = 2 ∨ n = 3) (hl : 6 ≤ lim ∧ lim ≤ 30) : Rel n 0 0 1000 (tk ((1, 5) :: (7, 3) :: SPn n)) (tk (NPn n)) (tu ((1, 10, lim) :: UPn n)) (tr ((1, 7, 7) :: LPn n)) (tu [(1, 1, lim), (1, 0, nI n), (1, 25, 50), (1, 3, 900)]) := by
  have hb : wBx n (tk ((1, 5) :: (7, 3) :: SPn n)) (tk (NPn n)) := by
    rcases hn with e | e | e <;> subst e <;> exact ⟨in_tab (by decide +kernel), in_tab (by decide +kernel), by decide +kernel, by decide +kernel⟩
  have ho : ∀ r, 100 ≤ r → tk ((1, 5) :: (7, 3) :: SPn n) r = 0 := by
    rcases hn with e | e | e <;> subst e <;> exact tk_out (by decide +kernel)
  have hg : ∀ g, g < n → tk ((1, 5) :: (7, 3) :: SPn n) (g + 13) = 2 := by
    rcases hn with e | e | e <;> subst e <;> decide +kernel
  have hv : RV (tk ((1, 5) :: (7, 3) :: SPn n)) (tr ((1, 7, 7) :: LPn n)) := by
    rcases hn with e | e | e <;> subst e <;> exact tr_rv (by decide +kernel)
  refine ⟨⟨hb, by omega, by omega, by omega, by omega, by omega, hg, fun i hi => by omega, fun r x y => ho r (by omega), fun r x => ho r (by omega)⟩, hv, ?_, fun k hk => ?_, fun j hj => by omega, fun k hk => ?_, fun i hi => by omega, fun i hi => ⟨rfl, rfl⟩, Or.inl ⟨?_, fun i hi => by omega⟩, Or.inl ⟨?_, fun i hi => by omega⟩, fun g hgn => ?_, ?_⟩
  · rcases hn with e | e | e <;> subst e <;> exact ⟨⟨rfl, rfl⟩, ⟨rfl, rfl⟩, rfl, rfl, hl, rfl, rfl, rfl, rfl, rfl⟩
  · rcases hn with e | e | e <;> subst e <;> exact ⟨rfl, (show (0 : Int32) ≤ 0 by decide), (show (0 : Int32) ≤ 100000 by decide)⟩
  · rcases hn with e | e | e <;> subst e <;> rfl
  · rcases hn with e | e | e <;> subst e <;> rfl
  · rcases hn with e | e | e <;> subst e <;> rfl
  · have key : tr ((1, 7, 7) :: LPn n) 2 g = g + 13 ∧ tu ((1, 10, lim) :: UPn n) (g + 13) 0 = nI g ∧ tu ((1, 10, lim) :: UPn n) (g + 13) 3 = 0 ∧ tu ((1, 10, lim) :: UPn n) (g + 13) 4 = 0 ∧ tr ((1, 7, 7) :: LPn n) (g + 13) 5 = 0 ∧ tu ((1, 10, lim) :: UPn n) (g + 13) 1 = 0 ∧ tu ((1, 10, lim) :: UPn n) (g + 13) 2 = 0 := by
      rcases hn with e | e | e <;> subst e
      · obtain rfl : g = 0 := by omega
        exact ⟨rfl, rfl, rfl, rfl, rfl, rfl, rfl⟩
      · rcases (show g = 0 ∨ g = 1 by omega) with e | e <;> subst e <;> exact ⟨rfl, rfl, rfl, rfl, rfl, rfl, rfl⟩
      · rcases (show g = 0 ∨ g = 1 ∨ g = 2 by omega) with e | e | e <;> subst e <;> exact ⟨rfl, rfl, rfl, rfl, rfl, rfl, rfl⟩
    obtain ⟨k1, k2, k3, k4, k5, k6, k7⟩ := key
    have m3 : ∀ a, 30 ≤ a → tu [(1, 1, lim), (1, 0, nI n), (1, 25, 50), (1, 3, 900)] a g = 0 := fun a ha => tu_row (by simp; omega) g
    exact ⟨k1, k2, by rw [k3, m3 31 (by decide)], by rw [k4, m3 32 (by decide)], Or.inl ⟨k5, k6, k7, m3 30 (by decide), fun i hi => by omega⟩⟩
  · rcases hn with e | e | e <;> subst e <;> exact ⟨(show (0 : Int32) ≤ 0 by decide), fun i hi => by omega, Or.inl rfl⟩
theorem start_m : wBm (tk ((1, 6) :: SM)) (tk NM) := ⟨in_tab (by decide +kernel), in_tab (by decide +kernel), trivial⟩
/-- what the last words of the constructors leave: the kinds -/
theorem kind_c {n : Nat} (hn : n = 1 ∨ n = 2 ∨ n = 3) (K : Nat → ClassId) (loc : Nat → Nat) (U : List (Nat × Nat × Int32)) : wE K loc 12 (tk (NPn n) 7) (tu U 7) (tr ((1, 7, 7) :: LPn n) 7) = wE K loc 3 (tk (NPn n) 7) (tu U 7) (tr ((1, 7, 7) :: LPn n) 7) ∧ wE K loc 13 (tk (NPn n) 1) (tu U 1) (tr ((1, 7, 7) :: LPn n) 1) = wE K loc 5 (tk (NPn n) 1) (tu U 1) (tr ((1, 7, 7) :: LPn n) 1) := by
  rcases hn with e | e | e <;> subst e <;> exact ⟨rfl, rfl⟩
theorem kind_m (K : Nat → ClassId) (loc : Nat → Nat) (U : List (Nat × Nat × Int32)) : wE K loc 14 (tk NM 1) (tu U 1) (tr LM 1) = wE K loc 6 (tk NM 1) (tu U 1) (tr LM 1) := rfl
theorem start_c {D : va_G} {K : Nat → ClassId} {loc : Nat → Nat} {H : Heap} {n : Nat} {U : List (Nat × Nat × Int32)} (hn : n = 1 ∨ n = 2 ∨ n = 3) (h : wH D K loc (tk (SPn n)) (tk (NPn n)) (tu U) (tr ((1, 7, 7) :: LPn n)) H) : wH D K loc (tk ((1, 5) :: (7, 3) :: SPn n)) (tk (NPn n)) (tu U) (tr ((1, 7, 7) :: LPn n)) H := by
  have h1 : tk (SPn n) 7 = 12 := by rcases hn with e | e | e <;> subst e <;> rfl
  have h2 : tk ((7, 3) :: SPn n) 1 = 13 := by rcases hn with e | e | e <;> subst e <;> rfl
  have a := h.kind h1 (by decide) (k' := 3) (by decide) (kind_c hn K loc U).1
  rw [tk_up] at a
  have b := a.kind h2 (by decide) (k' := 5) (by decide) (kind_c hn K loc U).2
  rw [tk_up] at b
  exact b
theorem start_mm {D : va_G} {K : Nat → ClassId} {loc : Nat → Nat} {H : Heap} {U : List (Nat × Nat × Int32)} (h : wH D K loc (tk SM) (tk NM) (tu U) (tr LM) H) : wH D K loc (tk ((1, 6) :: SM)) (tk NM) (tu U) (tr LM) H := by
  have b := h.kind (show tk SM 1 = 14 from rfl) (by decide) (k' := 6) (by decide) (kind_m K loc U)
  rw [tk_up] at b
  exact b
