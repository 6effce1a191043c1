def OrdOK (n : Nat) (w : Nat → Nat) (sh : Nat → Nat) (iv : wI) : Prop := iv 7 5 = nI n ∧ n ≤ 5 ∧ (∀ j, j < n → sh (w j + 100) = 1 ∧ iv (w j + 100) 0 = nI (w j) ∧ w j < 100) ∧ ∀ i j, i < n → j < n → (w i ≤ w j ↔ i ≤ j)
def OrdAt (n : Nat) (w : Nat → Nat) (rv : wJ) (p : List Nat) : Prop := p.length = n ∧ ∀ i, i < n → p.getD i 0 < n ∧ rv 8 i = w (p.getD i 0) + 100
theorem OrdOK.cmp {n : Nat} {w : Nat → Nat} {sh : Nat → Nat} {iv : wI} {rv : wJ} {p : List Nat} (h : OrdOK n w sh iv) (ha : OrdAt n w rv p) {i j : Nat} (hi : i < n) (hj : j < n) : (iv (rv 8 i) 0 ≤ iv (rv 8 j) 0 ↔ p.getD i 0 ≤ p.getD j 0) ∧ sh (rv 8 i) = 1 := by
  obtain ⟨a1, a2⟩ := ha.2 i hi
  obtain ⟨b1, b2⟩ := ha.2 j hj
  obtain ⟨-, -, h3, h4⟩ := h
  obtain ⟨c1, c2, c3⟩ := h3 _ a1
  obtain ⟨d1, d2, d3⟩ := h3 _ b1
  rw [a2, b2, c2, d2, nI_leI (by omega) (by omega)]
  exact ⟨h4 _ _ a1 b1, c1⟩
theorem n7_ok {ng n : Nat} {w : Nat → Nat} {sh : Nat → Nat} {iv : wI} {rv : wJ} {p : List Nat} (h : OrdOK n w sh iv) (ha : OrdAt n w rv p) : ∀ (k f : Nat) (x z : Int32), k ≤ f → n7 n p k x = some z → fX2_nextOrder_7 ng sh f iv rv x = some z := by
  intro k
  induction k with
  | zero => intro f x z _ e; rw [n7] at e; exact absurd e (by simp)
  | succ k ih =>
    intro f x z hf e
    obtain ⟨f, rfl⟩ : ∃ g, f = g + 1 := ⟨f - 1, by omega⟩
    rw [n7] at e
    rw [fX2_nextOrder_7.eq_2]
    by_cases h0 : x < 0
    · rw [if_pos h0] at e ⊢; exact e
    · rw [if_neg h0] at e ⊢
      obtain ⟨i, hi, rfl⟩ := nI_of h0
      rw [toNat_nI hi] at e
      by_cases h1 : n ≤ i + 1
      · rw [if_pos h1] at e; exact absurd e (by simp)
      · rw [if_neg h1] at e
        have hn := h.2.1
        obtain ⟨c1, c2⟩ := h.cmp ha (show i < n by omega) (show i + 1 < n by omega)
        obtain ⟨-, c3⟩ := h.cmp ha (show i + 1 < n by omega) (show i + 1 < n by omega)
        rw [nI_1, toNat_nI hi, toNat_nI (show i + 1 < 2 ^ 31 by omega), wGd_t (vp_in_nI (show i < 5 by omega) (by decide)), wGd_t c2, wGd_t (vp_in_nI (show i + 1 < 5 by omega) (by decide)), wGd_t c3]
        by_cases h2 : p.getD i 0 ≤ p.getD (i + 1) 0
        · rw [if_pos h2] at e; rw [if_pos (c1.mpr h2)]; exact e
        · rw [if_neg h2] at e; rw [if_neg (fun q => h2 (c1.mp q))]; exact ih f _ z (by omega) e
theorem n53_ok {ng n : Nat} {w : Nat → Nat} {sh : Nat → Nat} {iv : wI} {rv : wJ} {p : List Nat} (h : OrdOK n w sh iv) (ha : OrdAt n w rv p) : ∀ (k f : Nat) (x1 x z : Int32), k ≤ f → n53 n p k x1 x = some z → fX2_nextOrder_53 ng sh f iv rv x1 x = some z := by
  intro k
  induction k with
  | zero => intro f x1 x z _ e; rw [n53] at e; exact absurd e (by simp)
  | succ k ih =>
    intro f x1 x z hf e
    obtain ⟨f, rfl⟩ : ∃ g, f = g + 1 := ⟨f - 1, by omega⟩
    rw [n53] at e
    rw [fX2_nextOrder_53.eq_2]
    by_cases h0 : x ≤ x1 + 1
    · rw [if_pos h0] at e ⊢; exact e
    · rw [if_neg h0] at e ⊢
      by_cases h1 : x < 0 ∨ n ≤ x.toNatClampNeg ∨ x1 < 0 ∨ n ≤ x1.toNatClampNeg
      · rw [if_pos h1] at e; exact absurd e (by simp)
      · rw [if_neg h1] at e
        simp only [not_or] at h1
        obtain ⟨u1, u2, u3, u4⟩ := h1
        obtain ⟨j, hj, rfl⟩ := nI_of u1
        obtain ⟨i, hi, rfl⟩ := nI_of u3
        rw [toNat_nI hj] at u2
        rw [toNat_nI hi] at u4
        rw [toNat_nI hi, toNat_nI hj] at e
        have hn := h.2.1
        obtain ⟨c1, c2⟩ := h.cmp ha (show i < n by omega) (show j < n by omega)
        obtain ⟨-, c3⟩ := h.cmp ha (show j < n by omega) (show j < n by omega)
        rw [toNat_nI hi, toNat_nI hj, wGd_t (vp_in_nI (show j < 5 by omega) (by decide)), wGd_t c3, wGd_t (vp_in_nI (show i < 5 by omega) (by decide)), wGd_t c2]
        by_cases h2 : p.getD i 0 ≤ p.getD j 0
        · rw [if_pos h2] at e; rw [if_pos (c1.mpr h2)]; exact e
        · rw [if_neg h2] at e; rw [if_neg (fun q => h2 (c1.mp q))]; exact ih f _ _ z (by omega) e
theorem getD_set (p : List Nat) (a v i : Nat) (h : a < p.length) : (p.set a v).getD i 0 = if i = a then v else p.getD i 0 := by
  rw [List.getD_eq_getElem?_getD, List.getD_eq_getElem?_getD, List.getElem?_set]
  by_cases e : i = a
  · subst e; simp [h]
  · rw [if_neg (fun q => e q.symm), if_neg e]
theorem swap_ok {ng n a b : Nat} {w : Nat → Nat} {sh : Nat → Nat} {iv : wI} {rv : wJ} {p : List Nat} (h : OrdOK n w sh iv) (ha : OrdAt n w rv p) (h1 : a < n) (h2 : b < n) : ∃ rv', fX2_swap ng sh iv rv (nI a) (nI b) = some rv' ∧ OrdAt n w rv' (sw p a b) ∧ (∀ c, c ≠ 8 → rv' c = rv c) ∧ ∀ j, n ≤ j → rv' 8 j = rv 8 j := by
  have hn := h.2.1
  obtain ⟨-, c1⟩ := h.cmp ha h1 h1
  obtain ⟨-, c2⟩ := h.cmp ha h2 h2
  unfold fX2_swap
  rw [toNat_nI (by omega), toNat_nI (by omega), wGd_t (vp_in_nI (show a < 5 by omega) (by decide)), wGd_t (vp_in_nI (show b < 5 by omega) (by decide)), wGd_t c2]
  simp only [wLt]
  rw [wGd_t c1]
  refine ⟨_, rfl, ⟨?_, fun i hi => ?_⟩, fun c hc => by rw [wV_ne c hc, wV_ne c hc], fun j hj => ?_⟩
  · unfold sw; rw [List.length_set, List.length_set]; exact ha.1
  · unfold sw
    rw [getD_set _ _ _ _ (by rw [List.length_set, ha.1]; exact h2), getD_set _ _ _ _ (by rw [ha.1]; exact h1), wV_g, if_pos rfl, wV_g, if_pos rfl]
    split
    · exact ha.2 a h1
    · split
      · exact ha.2 b h2
      · exact ha.2 i hi
  · rw [wV_g, if_pos rfl, if_neg (by omega), wV_g, if_pos rfl, if_neg (by omega)]
theorem n105_ok {ng n : Nat} {w : Nat → Nat} {sh : Nat → Nat} {iv : wI} (h : OrdOK n w sh iv) : ∀ (k f : Nat) (p q : List Nat) (rv : wJ) (x3 x4 : Int32), OrdAt n w rv p → k ≤ f → n105 n k p x3 x4 = some q → ∃ rv', fX2_nextOrder_105 ng sh f iv rv x3 x4 = some rv' ∧ OrdAt n w rv' q ∧ (∀ c, c ≠ 8 → rv' c = rv c) ∧ ∀ j, n ≤ j → rv' 8 j = rv 8 j := by
  intro k
  induction k with
  | zero => intro f p q rv x3 x4 _ _ e; rw [n105] at e; exact absurd e (by simp)
  | succ k ih =>
    intro f p q rv x3 x4 ha hf e
    obtain ⟨f, rfl⟩ : ∃ g, f = g + 1 := ⟨f - 1, by omega⟩
    rw [n105] at e
    rw [fX2_nextOrder_105.eq_2]
    by_cases h0 : x4 ≤ x3
    · rw [if_pos h0] at e ⊢
      have e := Option.some.inj e
      subst e
      exact ⟨rv, rfl, ha, fun _ _ => rfl, fun _ _ => rfl⟩
    · rw [if_neg h0] at e ⊢
      by_cases h1 : x3 < 0 ∨ n ≤ x3.toNatClampNeg ∨ x4 < 0 ∨ n ≤ x4.toNatClampNeg
      · rw [if_pos h1] at e; exact absurd e (by simp)
      · rw [if_neg h1] at e
        simp only [not_or] at h1
        obtain ⟨u1, u2, u3, u4⟩ := h1
        obtain ⟨i, hi, rfl⟩ := nI_of u1
        obtain ⟨j, hj, rfl⟩ := nI_of u3
        rw [toNat_nI hi] at u2 e
        rw [toNat_nI hj] at u4 e
        obtain ⟨rv1, s1, s2, s3, s4⟩ := swap_ok (ng := ng) h ha (show i < n by omega) (show j < n by omega)
        rw [s1]
        simp only [wBd]
        obtain ⟨rv2, t1, t2, t3, t4⟩ := ih f _ q rv1 _ _ s2 (by omega) e
        exact ⟨rv2, t1, t2, fun c hc => by rw [t3 c hc, s3 c hc], fun j hj => by rw [t4 j hj, s4 j hj]⟩
theorem next_ok {ng n : Nat} {w : Nat → Nat} {sh : Nat → Nat} {iv : wI} {rv : wJ} {p q : List Nat} {b : Bool} (h : OrdOK n w sh iv) (ha : OrdAt n w rv p) (e : nO n p = some (q, b)) : ∃ rv', fX2_nextOrder ng sh iv rv = some (rv', if b then 1 else 0) ∧ OrdAt n w rv' q ∧ (∀ c, c ≠ 8 → rv' c = rv c) ∧ ∀ j, n ≤ j → rv' 8 j = rv 8 j := by
  unfold nO at e
  unfold fX2_nextOrder
  rw [h.1]
  cases h7 : n7 n p 10 (nI n - 2) with
  | none => rw [h7] at e; exact absurd e (by simp)
  | some z6 =>
    rw [h7] at e
    rw [n7_ok h ha 10 wN _ _ (by unfold wN; omega) h7]
    simp only [wBd] at e ⊢
    by_cases h0 : 0 ≤ z6
    · rw [if_pos h0] at e ⊢
      cases h53 : n53 n p 10 z6 (nI n - 1) with
      | none => rw [h53] at e; exact absurd e (by simp)
      | some z19 =>
        rw [h53] at e
        rw [n53_ok h ha 10 wN _ _ _ (by unfold wN; omega) h53]
        simp only at e ⊢
        by_cases h1 : n ≤ z6.toNatClampNeg ∨ z19 < 0 ∨ n ≤ z19.toNatClampNeg
        · rw [if_pos h1] at e; exact absurd e (by simp)
        · rw [if_neg h1] at e
          simp only [not_or] at h1
          obtain ⟨u1, u2, u3⟩ := h1
          obtain ⟨i, hi, rfl⟩ := nI_of (x := z6) (by intro q; rw [le_iff] at h0; rw [lt_iff] at q; omega)
          obtain ⟨j, hj, rfl⟩ := nI_of u2
          rw [toNat_nI hi] at u1 e
          rw [toNat_nI hj] at u3 e
          obtain ⟨rv1, s1, s2, s3, s4⟩ := swap_ok (ng := ng) h ha (show i < n by omega) (show j < n by omega)
          rw [s1]
          cases h105 : n105 n 10 (sw p i j) (nI i + 1) (nI n - 1) with
          | none => rw [h105] at e; exact absurd e (by simp)
          | some r =>
            rw [h105] at e
            simp only [Option.some.injEq, Prod.mk.injEq] at e
            obtain ⟨e1, e2⟩ := e
            subst e1 e2
            obtain ⟨rv2, t1, t2, t3, t4⟩ := n105_ok (ng := ng) h 10 wN _ _ rv1 _ _ s2 (by unfold wN; omega) h105
            simp only
            rw [t1]
            exact ⟨rv2, rfl, t2, fun c hc => by rw [t3 c hc, s3 c hc], fun j hj => by rw [t4 j hj, s4 j hj]⟩
    · rw [if_neg h0] at e ⊢
      simp only [Option.some.injEq, Prod.mk.injEq] at e
      obtain ⟨e1, e2⟩ := e
      subst e1 e2
      exact ⟨rv, rfl, ha, fun _ _ => rfl, fun _ _ => rfl⟩
