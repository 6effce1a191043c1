/-! pure rows -/
theorem wU_g (f : wI) (c j : Nat) (x : Int32) (a b : Nat) : wU f c j x a b = if a = c then (if b = j then x else f a b) else f a b := by
  unfold wU va_up
  by_cases h : a = c
  · subst h; simp
  · simp [h]
theorem wV_g (f : wJ) (c j : Nat) (x : Nat) (a b : Nat) : wV f c j x a b = if a = c then (if b = j then x else f a b) else f a b := by
  unfold wV va_up
  by_cases h : a = c
  · subst h; simp
  · simp [h]
theorem lt_iff (a b : Int32) : a < b ↔ a.toInt < b.toInt := Int32.lt_iff_toInt_lt
theorem le_iff (a b : Int32) : a ≤ b ↔ a.toInt ≤ b.toInt := Int32.le_iff_toInt_le
theorem eq_iff (a b : Int32) : a = b ↔ a.toInt = b.toInt := Int32.toInt_inj.symm
theorem nI_lit (n : Nat) : (OfNat.ofNat n : Int32) = nI n := rfl
theorem toNat_nI {n : Nat} (h : n < 2 ^ 31) : (nI n).toNatClampNeg = n := nI_clamp h
/-- how many of the first n places hold h -/
def cnt (f : Nat → Int32) (h : Int32) : Nat → Nat
  | 0 => 0
  | n + 1 => cnt f h n + if f n = h then 1 else 0
theorem cnt_le (f : Nat → Int32) (h : Int32) : ∀ n, cnt f h n ≤ n
  | 0 => Nat.le_refl _
  | n + 1 => by
    have := cnt_le f h n
    unfold cnt
    split <;> omega
theorem cnt_congr {f g : Nat → Int32} {h : Int32} : ∀ {n : Nat}, (∀ i, i < n → f i = g i) → cnt f h n = cnt g h n
  | 0, _ => rfl
  | n + 1, hh => by
    unfold cnt
    rw [cnt_congr (fun i hi => hh i (by omega)), hh n (by omega)]
theorem cnt_up {f : Nat → Int32} {h x : Int32} {c : Nat} : ∀ {n : Nat}, c < n → cnt (va_up f c x) h n + (if f c = h then 1 else 0) = cnt f h n + (if x = h then 1 else 0)
  | 0, hc => by omega
  | n + 1, hc => by
    unfold cnt
    by_cases hn : c = n
    · subst hn
      rw [cnt_congr (f := va_up f c x) (g := f) (fun i hi => va_up_ne _ _ (by omega)), va_up_self]
      omega
    · have := cnt_up (f := f) (h := h) (x := x) (c := c) (n := n) (by omega)
      rw [va_up_ne _ _ (Ne.symm hn)]
      omega
theorem cnt_zero {f : Nat → Int32} {h : Int32} : ∀ {n : Nat}, cnt f h n = 0 → ∀ i, i < n → f i ≠ h
  | 0, _, i, hi => by omega
  | n + 1, hh, i, hi => by
    unfold cnt at hh
    by_cases hn : i = n
    · subst hn
      intro e
      rw [if_pos e] at hh
      omega
    · exact cnt_zero (n := n) (by omega) i (by omega)
theorem cnt_none {f : Nat → Int32} {h : Int32} : ∀ {n : Nat}, (∀ i, i < n → f i ≠ h) → cnt f h n = 0
  | 0, _ => rfl
  | n + 1, hh => by
    unfold cnt
    rw [cnt_none (n := n) (fun i hi => hh i (by omega)), if_neg (hh n (by omega))]
theorem cnt_one {f : Nat → Int32} {h : Int32} {c : Nat} : ∀ {n : Nat}, c < n → f c = h → (∀ i, i < n → f i = h → i = c) → cnt f h n = 1
  | 0, hc, _, _ => by omega
  | n + 1, hc, he, hu => by
    unfold cnt
    by_cases hn : c = n
    · subst hn
      rw [cnt_none (n := c) (fun i hi e => absurd (hu i (by omega) e) (by omega)), if_pos he]
    · rw [cnt_one (n := n) (by omega) he (fun i hi => hu i (by omega)), if_neg (fun e => hn (hu n (by omega) e).symm)]
/-- the model's readers -/
theorem m_countOf {m : wI} {N : Nat} (h : Int32) (hN : m 1 8 = nI N) (hL : N ≤ 100) : fX5_countOf m h = some (nI (cnt (m 24) h N)) := by
  have lp : ∀ (n k : Nat), k ≤ N → N < k + n → fX5_countOf_4 n m h (nI (cnt (m 24) h k)) (nI k) = some (nI (cnt (m 24) h N)) := by
    intro n
    induction n with
    | zero => intro k h1 h2; omega
    | succ n ih =>
      intro k h1 h2
      rw [fX5_countOf_4.eq_2, hN]
      by_cases hk : N ≤ k
      · rw [if_pos (nI_le hk (by omega)), show k = N by omega]
      · rw [if_neg (nI_ge (by omega) (by omega)), wGd_t (vp_in_nI (by omega) (by decide)), toNat_nI (by omega), nI_1 k]
        by_cases he : m 24 k = h
        · rw [if_pos he, nI_1 (cnt (m 24) h k), show cnt (m 24) h k + 1 = cnt (m 24) h (k + 1) by rw [cnt, if_pos he]]
          exact ih (k + 1) (by omega) (by omega)
        · rw [if_neg he]
          have := ih (k + 1) (by omega) (by omega)
          rw [cnt, if_neg he] at this
          simpa using this
  unfold fX5_countOf
  have := lp wN 0 (by omega) (by unfold wN; omega)
  rw [show fX5_countOf_4 wN m h 0 0 = some (nI (cnt (m 24) h N)) from this]
  rfl
