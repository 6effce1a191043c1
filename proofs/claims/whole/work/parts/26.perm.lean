/-! the orders of a few cups: how the model numbers them, how the class goes from one to the next -/
def z0 : wI := fun _ _ => 0
theorem o20_m (m : wI) : ∀ (n : Nat) (a b c d e f : Int32), fX5_orders_20 n m a b c d e f = fX5_orders_20 n z0 a b c d e f
  | 0, _, _, _, _, _, _ => by rw [fX5_orders_20.eq_1, fX5_orders_20.eq_1]
  | n + 1, a, b, c, d, e, f => by rw [fX5_orders_20.eq_2, fX5_orders_20.eq_2, o20_m m n]
theorem o56_m (m : wI) : ∀ (n : Nat) (a b c d e f : Int32), fX5_orders_56 n m a b c d e f = fX5_orders_56 n z0 a b c d e f
  | 0, _, _, _, _, _, _ => by rw [fX5_orders_56.eq_1, fX5_orders_56.eq_1]
  | n + 1, a, b, c, d, e, f => by rw [fX5_orders_56.eq_2, fX5_orders_56.eq_2, o56_m m n]
theorem o81_m (m : wI) : ∀ (n : Nat) (a b c d e f : Int32), fX5_orders_81 n m a b c d e f = fX5_orders_81 n z0 a b c d e f
  | 0, _, _, _, _, _, _ => by rw [fX5_orders_81.eq_1, fX5_orders_81.eq_1]
  | n + 1, a, b, c, d, e, f => by rw [fX5_orders_81.eq_2, fX5_orders_81.eq_2, o81_m m n]
theorem o73_m (m : wI) : ∀ (n : Nat) (a b c d e f : Int32), fX5_orders_73 n m a b c d e f = fX5_orders_73 n z0 a b c d e f
  | 0, _, _, _, _, _, _ => by rw [fX5_orders_73.eq_1, fX5_orders_73.eq_1]
  | n + 1, a, b, c, d, e, f => by
    have ih := o73_m m n
    rw [fX5_orders_73.eq_2, fX5_orders_73.eq_2, o81_m m wN]
    congr 2
    funext z
    exact ih _ _ _ _ _ _
noncomputable def pO : Nat → Int32 → Int32 → Int32 → Int32 → Option (List Int32)
  | 0, _, _, _, _ => none
  | k + 1, x2, x3, x4, x5 => if x2 ≤ x5 then some [] else
    match fX5_orders_20 wN z0 x2 x3 x4 x5 1 2 with
    | none => none
    | some z8 => if z8 = 0 then none else
      match fX5_orders_56 wN z0 x2 (x3 - x3 / z8 * z8) x4 x5 (x3 / z8) 0 with
      | none => none
      | some z16 => match fX5_orders_73 wN z0 x2 (x3 - x3 / z8 * z8) x4 x5 (x3 / z8) z16 with
        | none => none
        | some z24 => if z24 < 0 ∨ 5 ≤ z24.toNatClampNeg then none else
          match pO k x2 (x3 - x3 / z8 * z8) (x4 ||| (1 <<< (z24 &&& 31))) (x5 + 1) with
          | none => none
          | some L => some (z24 :: L)
theorem orders_lp {n : Nat} (hn : n ≤ 5) : ∀ (k f : Nat) (m : wI) (x3 x4 : Int32) (i : Nat) (L : List Int32), k ≤ f → i ≤ n → pO k (nI n) x3 x4 (nI i) = some L →
    ∃ m', fX5_orders_8 f m (nI n) x3 x4 (nI i) = some m' ∧ (∀ a, a ≠ 37 → m' a = m a) ∧ (∀ j, j < i → m' 37 j = m 37 j) ∧ (∀ j, i ≤ j → j < n → m' 37 j = m 36 (L.getD (j - i) 0).toNatClampNeg) := by
  intro k
  induction k with
  | zero => intro f m x3 x4 i L _ _ h; rw [pO.eq_1] at h; exact absurd h (by simp)
  | succ k ih =>
    intro f m x3 x4 i L hf hi h
    obtain ⟨f, rfl⟩ : ∃ g, f = g + 1 := ⟨f - 1, by omega⟩
    rw [pO.eq_2] at h
    rw [fX5_orders_8.eq_2]
    by_cases e : n ≤ i
    · rw [if_pos (nI_le e (by omega))]
      exact ⟨m, rfl, fun _ _ => rfl, fun _ _ => rfl, fun j h1 h2 => by omega⟩
    · rw [if_neg (nI_ge (by omega) (by omega))] at h ⊢
      rw [o20_m m wN]
      cases h8 : fX5_orders_20 wN z0 (nI n) x3 x4 (nI i) 1 2 with
      | none => rw [h8] at h; exact absurd h (by simp)
      | some z8 =>
        rw [h8] at h
        simp only [wBd] at h ⊢
        by_cases hz : z8 = 0
        · rw [if_pos hz] at h; exact absurd h (by simp)
        · rw [if_neg hz] at h
          rw [wGd_t hz, o56_m m wN]
          cases h16 : fX5_orders_56 wN z0 (nI n) (x3 - x3 / z8 * z8) x4 (nI i) (x3 / z8) 0 with
          | none => rw [h16] at h; exact absurd h (by simp)
          | some z16 =>
            rw [h16] at h
            simp only at h ⊢
            rw [o73_m m wN]
            cases h24 : fX5_orders_73 wN z0 (nI n) (x3 - x3 / z8 * z8) x4 (nI i) (x3 / z8) z16 with
            | none => rw [h24] at h; exact absurd h (by simp)
            | some z24 =>
              rw [h24] at h
              simp only at h ⊢
              by_cases hv : z24 < 0 ∨ 5 ≤ z24.toNatClampNeg
              · rw [if_pos hv] at h; exact absurd h (by simp)
              · rw [if_neg hv] at h
                rw [wGd_t (show vp_in z24 5 from hv), wGd_t (vp_in_nI (show i < 5 by omega) (by decide)), toNat_nI (by omega)]
                simp only [wLt]
                rw [nI_1] at h ⊢
                cases hL : pO k (nI n) (x3 - x3 / z8 * z8) (x4 ||| (1 <<< (z24 &&& 31))) (nI (i + 1)) with
                | none => rw [hL] at h; exact absurd h (by simp)
                | some L' =>
                  rw [hL] at h
                  simp only [Option.some.injEq] at h
                  subst h
                  obtain ⟨m', g1, g2, g3, g4⟩ := ih f (wU m 37 i (m 36 z24.toNatClampNeg)) _ _ (i + 1) L' (by omega) (by omega) hL
                  refine ⟨m', g1, fun a ha => by rw [g2 a ha, wU_ne a ha], fun j hj => ?_, fun j h1 h2 => ?_⟩
                  · rw [g3 j (by omega), wU_g, if_pos rfl, if_neg (by omega)]
                  · by_cases ej : j = i
                    · subst ej
                      rw [g3 j (by omega), wU_g, if_pos rfl, if_pos rfl, Nat.sub_self]
                      rfl
                    · rw [g4 j (by omega) h2, wU_ne 36 (by decide)]
                      obtain ⟨q, hq⟩ : ∃ q, j - i = q + 1 := ⟨j - i - 1, by omega⟩
                      rw [show j - (i + 1) = q by omega, hq]
                      rfl
noncomputable def pm (n x : Nat) : List Nat := ((pO 6 (nI n) (nI x) 0 0).getD []).map Int32.toNatClampNeg
def fct : Nat → Nat
  | 0 => 1
  | n + 1 => (n + 1) * fct n
theorem pm_some : ∀ n, n < 6 → ∀ x, x < fct n → (pO 6 (nI n) (nI x) 0 0).isSome = true := by decide +kernel
theorem pm_lt : ∀ n, n < 6 → ∀ x, x < fct n → (pm n x).length = n ∧ ∀ i, i < n → (pm n x).getD i 0 < n := by decide +kernel
theorem pm_0 : ∀ n, n < 6 → ∀ i, i < n → (pm n 0).getD i 0 = i := by decide +kernel
theorem orders_ok {n x : Nat} (m : wI) (hn : n < 6) (hx : x < fct n) : ∃ m', fX5_orders m (nI x) (nI n) = some m' ∧ (∀ a, a ≠ 37 → m' a = m a) ∧ (∀ j, j < n → m' 37 j = m 36 ((pm n x).getD j 0)) := by
  obtain ⟨L, hL⟩ := Option.isSome_iff_exists.mp (pm_some n hn x hx)
  obtain ⟨m', g1, g2, g3, g4⟩ := orders_lp (n := n) (by omega) 6 wN m (nI x) 0 0 L (by unfold wN; omega) (by omega) hL
  refine ⟨m', ?_, g2, fun j hj => ?_⟩
  · unfold fX5_orders
    rw [show (0 : Int32) = nI 0 from rfl]
    rw [show (0 : Int32) = nI 0 from rfl] at g1
    rw [g1]
    rfl
  · rw [g4 j (by omega) hj]
    unfold pm
    rw [hL]
    congr 1
    rw [Nat.sub_zero, List.getD_eq_getElem?_getD, List.getD_eq_getElem?_getD, Option.getD_some, List.getElem?_map]
    cases L[j]? <;> rfl
def n7 (n : Nat) (p : List Nat) : Nat → Int32 → Option Int32
  | 0, _ => none
  | k + 1, x => if x < 0 then some x else if n ≤ x.toNatClampNeg + 1 then none else if p.getD x.toNatClampNeg 0 ≤ p.getD (x.toNatClampNeg + 1) 0 then some x else n7 n p k (x + (-1))
def n53 (n : Nat) (p : List Nat) : Nat → Int32 → Int32 → Option Int32
  | 0, _, _ => none
  | k + 1, x1, x2 => if x2 ≤ x1 + 1 then some x2 else if x2 < 0 ∨ n ≤ x2.toNatClampNeg ∨ x1 < 0 ∨ n ≤ x1.toNatClampNeg then none else if p.getD x1.toNatClampNeg 0 ≤ p.getD x2.toNatClampNeg 0 then some x2 else n53 n p k x1 (x2 + (-1))
def sw (p : List Nat) (a b : Nat) : List Nat := (p.set a (p.getD b 0)).set b (p.getD a 0)
def n105 (n : Nat) : Nat → List Nat → Int32 → Int32 → Option (List Nat)
  | 0, _, _, _ => none
  | k + 1, p, x3, x4 => if x4 ≤ x3 then some p else if x3 < 0 ∨ n ≤ x3.toNatClampNeg ∨ x4 < 0 ∨ n ≤ x4.toNatClampNeg then none else n105 n k (sw p x3.toNatClampNeg x4.toNatClampNeg) (x3 + 1) (x4 + (-1))
def nO (n : Nat) (p : List Nat) : Option (List Nat × Bool) :=
  match n7 n p 10 (nI n - 2) with
  | none => none
  | some z6 => if 0 ≤ z6 then
      match n53 n p 10 z6 (nI n - 1) with
      | none => none
      | some z19 => if n ≤ z6.toNatClampNeg ∨ z19 < 0 ∨ n ≤ z19.toNatClampNeg then none else
        match n105 n 10 (sw p z6.toNatClampNeg z19.toNatClampNeg) (z6 + 1) (nI n - 1) with
        | none => none
        | some q => some (q, true)
    else some (p, false)
theorem nO_ok : ∀ n, n < 5 → ∀ x, x < fct (n + 1) → nO (n + 1) (pm (n + 1) x) = if x + 1 < fct (n + 1) then some (pm (n + 1) (x + 1), true) else some (pm (n + 1) x, false) := by decide +kernel
