/-- what a tick does to cup c in the model -/
def ms (m : wI) (c : Nat) : wI :=
  if m 24 c = 2 then (if m 1 2 - m 27 c < 30 then m else spl m c)
  else if m 24 c = 1 ∨ m 24 c = 3 ∨ m 24 c = 5 then goes m c else m
theorem ms_off (m : wI) (c : Nat) {a j : Nat} (ha : a ≠ 1) (hj : j ≠ c) : ms m c a j = m a j := by
  unfold ms goes spl
  (repeat' split) <;> simp [wU_g, ha, hj]
theorem ms_row (m : wI) (c : Nat) {a : Nat} (ha : a ≠ 1) (hb : ¬ (24 ≤ a ∧ a ≤ 29)) (j : Nat) : ms m c a j = m a j := by
  unfold ms goes spl
  (repeat' split) <;> simp [wU_g, ha, show ¬ a = 24 by omega, show ¬ a = 25 by omega, show ¬ a = 27 by omega, show ¬ a = 28 by omega, show ¬ a = 29 by omega]
theorem ms_one (m : wI) (c : Nat) {j : Nat} (hj : j ≠ 23) : ms m c 1 j = m 1 j := by
  unfold ms goes spl
  (repeat' split) <;> simp [wU_g, hj]
theorem ms_loc {m m1 : wI} {c : Nat} (h : ∀ a, 19 ≤ a → a ≤ 29 → m1 a c = m a c) (h2 : m1 1 2 = m 1 2) : (∀ a, 24 ≤ a → a ≤ 29 → ms m1 c a c = ms m c a c) ∧ ms m1 c 1 23 - m1 1 23 = ms m c 1 23 - m 1 23 := by
  have h19 := h 19 (by decide) (by decide)
  have h24 := h 24 (by decide) (by decide)
  have h25 := h 25 (by decide) (by decide)
  have h27 := h 27 (by decide) (by decide)
  have h29 := h 29 (by decide) (by decide)
  have hz : ∀ x y : Int32, x + y - x = y := fun x y => by grind
  have hz2 : ∀ x : Int32, x - x = 0 := fun x => by grind
  constructor
  · intro a x y
    have ha := h a (by omega) y
    unfold ms goes spl stm
    rw [h24, h25, h27, h19, h2]
    (repeat' split) <;> simp [wU_g, ha, h29, show ¬ a = 1 by omega]
  · unfold ms goes spl stm
    rw [h24, h25, h27, h19, h2]
    (repeat' split) <;> simp [wU_g, hz, hz2]
theorem gst_off (m : wI) (g : Nat) {a j : Nat} (ha : a ≠ 1) (hj : j ≠ g) : gst m g a j = m a j := by
  unfold gst fdM
  (repeat' split) <;> simp [wU_g, ha, hj]
theorem gst_row (m : wI) (g : Nat) {a : Nat} (ha : a ≠ 1) (hb : ¬ (30 ≤ a ∧ a ≤ 32)) (j : Nat) : gst m g a j = m a j := by
  unfold gst fdM
  (repeat' split) <;> simp [wU_g, ha, show ¬ a = 30 by omega, show ¬ a = 31 by omega, show ¬ a = 32 by omega]
theorem gst_one (m : wI) (g : Nat) {j : Nat} (hj : j ≠ 24) : gst m g 1 j = m 1 j := by
  unfold gst fdM
  (repeat' split) <;> simp [wU_g, hj]
theorem gst_loc {m m1 : wI} {g : Nat} (h : ∀ a, 30 ≤ a → a ≤ 32 → m1 a g = m a g) : (∀ a, 30 ≤ a → a ≤ 32 → gst m1 g a g = gst m g a g) ∧ gst m1 g 1 24 - m1 1 24 = gst m g 1 24 - m 1 24 := by
  have h30 := h 30 (by decide) (by decide)
  have h32 := h 32 (by decide) (by decide)
  have hz : ∀ x y : Int32, x + y - x = y := fun x y => by grind
  have hz2 : ∀ x : Int32, x - x = 0 := fun x => by grind
  constructor
  · intro a x y
    have ha := h a x y
    unfold gst fdM
    rw [h30, h32]
    (repeat' split) <;> simp [wU_g, ha, show ¬ a = 1 by omega]
  · unfold gst fdM
    rw [h30, h32]
    (repeat' split) <;> simp [wU_g, hz, hz2]
def sI (f : Nat → Int32) : Nat → Int32
  | 0 => 0
  | n + 1 => sI f n + f n
theorem sI_congr {f g : Nat → Int32} : ∀ {n : Nat}, (∀ i, i < n → f i = g i) → sI f n = sI g n
  | 0, _ => rfl
  | n + 1, h => by unfold sI; rw [sI_congr (fun i hi => h i (by omega)), h n (by omega)]
theorem sI_up {f g : Nat → Int32} {c : Nat} : ∀ {n : Nat}, c < n → (∀ i, i ≠ c → g i = f i) → f c = 0 → sI g n = sI f n + g c
  | 0, h, _, _ => by omega
  | n + 1, h, h1, h2 => by
    unfold sI
    by_cases hn : c = n
    · subst hn
      rw [sI_congr (f := g) (g := f) (fun i hi => h1 i (by omega)), h2]
      grind
    · rw [sI_up (n := n) (by omega) h1 h2, h1 n (fun e => hn e.symm)]
      grind
/-- the cups of S and the groups of G have had their tick -/
def adv (N ng : Nat) (S G : Nat → Bool) (m : wI) : wI := fun a j =>
  if a = 1 then (if j = 23 then m 1 23 + sI (fun c => if S c then ms m c 1 23 - m 1 23 else 0) N else if j = 24 then m 1 24 + sI (fun g => if G g then gst m g 1 24 - m 1 24 else 0) ng else m 1 j)
  else if 24 ≤ a ∧ a ≤ 29 then (if S j then ms m j a j else m a j)
  else if 30 ≤ a ∧ a ≤ 32 then (if G j then gst m j a j else m a j)
  else m a j
def plus1 (S : Nat → Bool) (c : Nat) : Nat → Bool := fun j => S j || decide (j = c)
theorem adv_cup {N ng c : Nat} {S G : Nat → Bool} {m : wI} (hc : c < N) (hS : S c = false) : ms (adv N ng S G m) c = adv N ng (plus1 S c) G m := by
  have hl := ms_loc (m := m) (m1 := adv N ng S G m) (c := c) (fun a x y => by
    unfold adv
    rw [if_neg (by omega)]
    split
    · rw [hS]; rfl
    · rw [if_neg (by omega)]) (by simp [adv])
  funext a j
  by_cases ha : a = 1
  · subst ha
    by_cases hj : j = 23
    · subst hj
      have e := hl.2
      have e2 : sI (fun d => if plus1 S c d then ms m d 1 23 - m 1 23 else 0) N = sI (fun d => if S d then ms m d 1 23 - m 1 23 else 0) N + (ms m c 1 23 - m 1 23) := by
        rw [sI_up (f := fun d => if S d then ms m d 1 23 - m 1 23 else 0) (c := c) hc (fun i hi => by simp [plus1, hi]) (by simp [hS])]
        simp [plus1]
      have e3 : adv N ng (plus1 S c) G m 1 23 = m 1 23 + sI (fun d => if plus1 S c d then ms m d 1 23 - m 1 23 else 0) N := by simp [adv]
      have e4 : adv N ng S G m 1 23 = m 1 23 + sI (fun d => if S d then ms m d 1 23 - m 1 23 else 0) N := by simp [adv]
      rw [e3, e2]
      grind
    · rw [ms_one _ _ hj]
      simp [adv, hj]
  · by_cases hr : 24 ≤ a ∧ a ≤ 29
    · by_cases hj : j = c
      · subst hj
        rw [hl.1 a hr.1 hr.2]
        simp [adv, ha, hr, plus1]
      · rw [ms_off _ _ ha hj]
        simp [adv, ha, hr, plus1, hj]
    · rw [ms_row _ _ ha hr]
      simp only [adv, ha, hr, if_false]
theorem adv_grp {N ng g : Nat} {S G : Nat → Bool} {m : wI} (hg : g < ng) (hG : G g = false) : gst (adv N ng S G m) g = adv N ng S (plus1 G g) m := by
  have hl := gst_loc (m := m) (m1 := adv N ng S G m) (g := g) (fun a x y => by
    unfold adv
    rw [if_neg (by omega), if_neg (by omega), if_pos ⟨x, y⟩, hG]
    rfl)
  funext a j
  by_cases ha : a = 1
  · subst ha
    by_cases hj : j = 24
    · subst hj
      have e := hl.2
      have e2 : sI (fun d => if plus1 G g d then gst m d 1 24 - m 1 24 else 0) ng = sI (fun d => if G d then gst m d 1 24 - m 1 24 else 0) ng + (gst m g 1 24 - m 1 24) := by
        rw [sI_up (f := fun d => if G d then gst m d 1 24 - m 1 24 else 0) (c := g) hg (fun i hi => by simp [plus1, hi]) (by simp [hG])]
        simp [plus1]
      have e3 : adv N ng S (plus1 G g) m 1 24 = m 1 24 + sI (fun d => if plus1 G g d then gst m d 1 24 - m 1 24 else 0) ng := by simp [adv]
      have e4 : adv N ng S G m 1 24 = m 1 24 + sI (fun d => if G d then gst m d 1 24 - m 1 24 else 0) ng := by simp [adv]
      rw [e3, e2]
      grind
    · rw [gst_one _ _ hj]
      simp [adv, hj]
  · by_cases hr : 30 ≤ a ∧ a ≤ 32
    · by_cases hj : j = g
      · subst hj
        rw [hl.1 a hr.1 hr.2]
        have : ¬ (24 ≤ a ∧ a ≤ 29) := by omega
        simp only [adv, ha, hr, this, if_false, plus1]
        simp
      · rw [gst_off _ _ ha hj]
        simp only [adv, ha, hr, plus1]
        simp [hj]
    · rw [gst_row _ _ ha hr]
      simp only [adv, ha, hr, if_false]
theorem adv_congr {N ng : Nat} {S S' G G' : Nat → Bool} {m : wI} (h : ∀ c, S c = S' c ∨ ms m c = m) (h2 : ∀ g, G g = G' g ∨ gst m g = m) : adv N ng S G m = adv N ng S' G' m := by
  have hz2 : ∀ x : Int32, x - x = 0 := fun x => by grind
  funext a j
  unfold adv
  split
  · split
    · congr 1
      exact sI_congr (fun i hi => by
        rcases h i with e | e
        · rw [e]
        · rw [e, hz2]; simp)
    · split
      · congr 1
        exact sI_congr (fun i hi => by
          rcases h2 i with e | e
          · rw [e]
          · rw [e, hz2]; simp)
      · rfl
  · split
    · rcases h j with e | e
      · rw [e]
      · rw [e]; simp
    · split
      · rcases h2 j with e | e
        · rw [e]
        · rw [e]; simp
      · rfl
theorem adv_none {N ng : Nat} {m : wI} : adv N ng (fun _ => false) (fun _ => false) m = m := by
  have hs : ∀ n, sI (fun _ => (0 : Int32)) n = 0 := by
    intro n
    induction n with
    | zero => rfl
    | succ n ih => unfold sI; rw [ih]; rfl
  funext a j
  unfold adv
  simp only [Bool.false_eq_true, if_false, hs]
  split
  · rename_i e
    subst e
    split
    · rename_i e; subst e; grind
    · split
      · rename_i e; subst e; grind
      · rfl
  · simp
/-- the model's first half of a tick -/
theorem m_step {m : wI} {N k n : Nat} (hN : m 1 8 = nI N) (hk : k < N) (hL : N ≤ 100) : fX5_goesOn_2 (n + 1) m (nI k) = fX5_goesOn_2 n (ms m k) (nI (k + 1)) := by
  rw [fX5_goesOn_2.eq_2, hN, if_neg (nI_ge (by omega) (by omega)), wGd_t (vp_in_nI (by omega) (by decide)), toNat_nI (by omega), nI_1 k, m_goes (by omega), m_spoils (by omega)]
  unfold ms
  simp only [wBd]
  by_cases e2 : m 24 k = 2
  · simp [e2]
    split <;> rfl
  · by_cases e1 : m 24 k = 1
    · simp [e1]
    · by_cases e3 : m 24 k = 3
      · simp [e3]
      · by_cases e5 : m 24 k = 5
        · simp [e5]
        · simp [e1, e2, e3, e5]
def upto (k : Nat) : Nat → Bool := fun j => decide (j < k)
theorem upto_s (k : Nat) : plus1 (upto k) k = upto (k + 1) := by
  funext j
  unfold plus1 upto
  by_cases h : j < k
  · simp [h, show j < k + 1 by omega]
  · by_cases h2 : j = k
    · simp [h2]
    · simp [h, h2, show ¬ j < k + 1 by omega]
theorem adv_one {N ng : Nat} {S G : Nat → Bool} {m : wI} {j : Nat} (h1 : j ≠ 23) (h2 : j ≠ 24) : adv N ng S G m 1 j = m 1 j := by simp [adv, h1, h2]
theorem m_goesOn {m : wI} {N ng : Nat} (hN : m 1 8 = nI N) (hL : N ≤ 100) (hg : m 1 0 = nI ng) (hg3 : ng ≤ 3) : fX5_goesOn m = some (adv N ng (upto N) (upto ng) m) := by
  have lp : ∀ (n d k : Nat), k + d = N → d < n → fX5_goesOn_2 n (adv N ng (upto k) (fun _ => false) m) (nI k) = some (adv N ng (upto N) (fun _ => false) m) := by
    intro n
    induction n with
    | zero => intro d k h1 h2; omega
    | succ n ih =>
      intro d k h1 h2
      have hN' : adv N ng (upto k) (fun _ => false) m 1 8 = nI N := by rw [adv_one (by decide) (by decide)]; exact hN
      cases d with
      | zero =>
        rw [fX5_goesOn_2.eq_2, hN', if_pos (nI_le (by omega) (by omega)), show k = N by omega]
      | succ d =>
        rw [m_step hN' (by omega) hL, adv_cup (by omega) (by simp [upto]), upto_s]
        exact ih d (k + 1) (by omega) (by omega)
  have lg : ∀ (n d k : Nat), k + d = ng → d < n → fX5_goesOn_87 n (adv N ng (upto N) (upto k) m) (nI k) = some (adv N ng (upto N) (upto ng) m) := by
    intro n
    induction n with
    | zero => intro d k h1 h2; omega
    | succ n ih =>
      intro d k h1 h2
      have hg' : adv N ng (upto N) (upto k) m 1 0 = nI ng := by rw [adv_one (by decide) (by decide)]; exact hg
      rw [fX5_goesOn_87.eq_2, hg']
      cases d with
      | zero => rw [if_pos (nI_le (by omega) (by omega)), show k = ng by omega]
      | succ d =>
        rw [if_neg (nI_ge (by omega) (by omega)), wGd_t (vp_in_nI (by omega) (by decide)), toNat_nI (by omega), nI_1 k]
        have key := ih d (k + 1) (by omega) (by omega)
        rw [← upto_s, ← adv_grp (by omega) (by simp [upto])] at key
        generalize adv N ng (upto N) (upto k) m = m1 at key ⊢
        rw [show (if m1 32 k ≤ 0 then some m1 else wLt (wU m1 32 k (m1 32 k - 1)) (fun (iv38 : wI) => some iv38)) = some (fdM m1 k) by unfold fdM wLt; split <;> rfl]
        simp only [wBd, wLt]
        have f30 : fdM m1 k 30 k = m1 30 k := by unfold fdM; split <;> simp [wU_g]
        have f1 : fdM m1 k 1 24 = m1 1 24 := by unfold fdM; split <;> simp [wU_g]
        rw [f30]
        unfold gst at key
        by_cases e0 : m1 30 k = 0
        · rw [if_pos e0] at key ⊢; exact key
        · rw [if_neg e0] at key ⊢
          simp only [wU_g, if_true]
          by_cases e1 : m1 30 k - 1 ≤ 0
          · rw [if_pos e1] at key ⊢
            simp only [show ¬ (1 : Nat) = 31 by decide, show ¬ (1 : Nat) = 30 by decide, if_false, f1]
            exact key
          · rw [if_neg e1] at key ⊢; exact key
  unfold fX5_goesOn
  have l1 := lp wN N 0 (by omega) (by unfold wN; omega)
  have l2 := lg wN ng 0 (by omega) (by unfold wN; omega)
  rw [show upto 0 = (fun _ => false) by funext j; simp [upto], adv_none] at l1
  rw [show upto 0 = (fun _ => false) by funext j; simp [upto]] at l2
  rw [show (0 : Int32) = nI 0 from rfl, l1]
  simp only [wBd]
  rw [l2]
