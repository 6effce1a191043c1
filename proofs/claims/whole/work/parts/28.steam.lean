/-! the sums of an order: first who is steamed when -/
def am (B : Nat → Int32) (P : Nat → Prop) [DecidablePred P] : Nat → Option Nat
  | 0 => none
  | k + 1 => match am B P k with
    | none => if P k then some k else none
    | some j => if P k then (if B j ≤ B k then some j else some k) else some j
theorem am_none {B : Nat → Int32} {P : Nat → Prop} [DecidablePred P] : ∀ {n : Nat}, am B P n = none → ∀ i, i < n → ¬ P i
  | 0, _, i, hi => by omega
  | n + 1, h, i, hi => by
    unfold am at h
    cases e : am B P n with
    | none =>
      rw [e] at h
      simp only at h
      by_cases hp : P n
      · rw [if_pos hp] at h; exact absurd h (by simp)
      · by_cases q : i = n
        · subst q; exact hp
        · exact am_none e i (by omega)
    | some j =>
      rw [e] at h
      simp only at h
      split at h
      · split at h <;> exact absurd h (by simp)
      · exact absurd h (by simp)
theorem am_spec {B : Nat → Int32} {P : Nat → Prop} [DecidablePred P] : ∀ {n z : Nat}, am B P n = some z → z < n ∧ P z ∧ (∀ i, i < n → P i → B z ≤ B i) ∧ ∀ i, i < z → P i → ¬ B i ≤ B z
  | 0, _, h => by unfold am at h; exact absurd h (by simp)
  | n + 1, z, h => by
    unfold am at h
    cases e : am B P n with
    | none =>
      rw [e] at h
      simp only at h
      by_cases hp : P n
      · rw [if_pos hp] at h
        have h := Option.some.inj h
        subst h
        refine ⟨by omega, hp, fun i hi p => ?_, fun i hi p => absurd p (am_none e i hi)⟩
        by_cases q : i = n
        · subst q; rw [le_iff]; omega
        · exact absurd p (am_none e i (by omega))
      · rw [if_neg hp] at h; exact absurd h (by simp)
    | some j =>
      obtain ⟨a1, a2, a3, a4⟩ := am_spec e
      rw [e] at h
      simp only at h
      by_cases hp : P n
      · rw [if_pos hp] at h
        by_cases hb : B j ≤ B n
        · rw [if_pos hb] at h
          have h := Option.some.inj h
          subst h
          refine ⟨by omega, a2, fun i hi p => ?_, a4⟩
          by_cases q : i = n
          · subst q; exact hb
          · exact a3 i (by omega) p
        · rw [if_neg hb] at h
          have h := Option.some.inj h
          subst h
          refine ⟨by omega, hp, fun i hi p => ?_, fun i hi p => ?_⟩
          · by_cases q : i = n
            · subst q; rw [le_iff]; omega
            · have := a3 i (by omega) p
              rw [le_iff] at *
              omega
          · have := a3 i hi p
            rw [le_iff] at *
            omega
      · rw [if_neg hp] at h
        have h := Option.some.inj h
        subst h
        refine ⟨by omega, a2, fun i hi p => ?_, a4⟩
        by_cases q : i = n
        · subst q; exact absurd p hp
        · exact a3 i (by omega) p
theorem am_uniq {B : Nat → Int32} {P : Nat → Prop} [DecidablePred P] {n z : Nat} (h1 : z < n) (h2 : P z) (h3 : ∀ i, i < n → P i → B z ≤ B i) (h4 : ∀ i, i < z → P i → ¬ B i ≤ B z) : am B P n = some z := by
  cases e : am B P n with
  | none => exact absurd h2 (am_none e z h1)
  | some y =>
    obtain ⟨a1, a2, a3, a4⟩ := am_spec e
    rcases Nat.lt_trichotomy y z with q | q | q
    · exact absurd (a3 z h1 h2) (h4 y q a2)
    · rw [q]
    · exact absurd (h3 y a1 a2) (a4 z q h2)
theorem am_congr {B C : Nat → Int32} {P Q : Nat → Prop} [DecidablePred P] [DecidablePred Q] : ∀ {n : Nat}, (∀ i, i < n → B i = C i ∧ (P i ↔ Q i)) → am B P n = am C Q n
  | 0, _ => rfl
  | n + 1, h => by
    have ih := am_congr (n := n) (fun i hi => h i (by omega))
    unfold am
    rw [ih]
    cases e : am C Q n with
    | none => simp only [(h n (by omega)).2]
    | some j =>
      have hj := (am_spec e).1
      simp only [(h n (by omega)).2, (h n (by omega)).1, (h j (by omega)).1]
theorem c_steam {ng n : Nat} {sh : Nat → Nat} {iv : wI} {rv : wJ} (hn : n ≤ 5) (h7 : iv 7 5 = nI n) : fX2_nextToSteam ng sh iv rv = some (oI (am (iv 10) (fun i => iv 11 i ≠ 0) n)) := by
  have lp : ∀ (d k f : Nat), k + d = n → d < f → fX2_nextToSteam_4 ng sh f iv rv (oI (am (iv 10) (fun i => iv 11 i ≠ 0) k)) (nI k) = some (oI (am (iv 10) (fun i => iv 11 i ≠ 0) n)) := by
    intro d
    induction d with
    | zero =>
      intro k f hk hf
      obtain ⟨f, rfl⟩ : ∃ g, f = g + 1 := ⟨f - 1, by omega⟩
      rw [fX2_nextToSteam_4.eq_2, h7, if_pos (nI_le (by omega) (by omega)), show k = n by omega]
    | succ d ih =>
      intro k f hk hf
      obtain ⟨f, rfl⟩ : ∃ g, f = g + 1 := ⟨f - 1, by omega⟩
      rw [fX2_nextToSteam_4.eq_2, h7, if_neg (nI_ge (by omega) (by omega)), wGd_t (vp_in_nI (show k < 5 by omega) (by decide)), toNat_nI (by omega), nI_1]
      have key := ih (k + 1) f (by omega) (by omega)
      rw [am] at key
      cases e : am (iv 10) (fun i => iv 11 i ≠ 0) k with
      | none =>
        rw [e] at key
        simp only at key
        by_cases q : iv 11 k = 0
        · rw [if_pos q]
          rw [if_neg (fun u => u q)] at key
          exact key
        · rw [if_neg q, if_pos (show oI none = -1 from rfl)]
          rw [if_pos q] at key
          exact key
      | some j =>
        have hj := (am_spec e).1
        rw [e] at key
        simp only at key
        by_cases q : iv 11 k = 0
        · rw [if_pos q]
          rw [if_neg (fun u => u q)] at key
          exact key
        · rw [if_pos q] at key
          rw [if_neg q, if_neg (show ¬ oI (some j) = -1 from nI_ne_m1 (by omega)), show oI (some j) = nI j from rfl, wGd_t (vp_in_nI (show j < 5 by omega) (by decide)), toNat_nI (by omega)]
          by_cases u : iv 10 j ≤ iv 10 k
          · rw [if_pos u] at key ⊢; exact key
          · rw [if_neg u] at key ⊢; exact key
  unfold fX2_nextToSteam
  have := lp n 0 wN (by omega) (by unfold wN; omega)
  rw [show am (iv 10) (fun i => iv 11 i ≠ 0) 0 = none from rfl, nI_0] at this
  rw [show ((-1) : Int32) = oI none from rfl, this]
  rfl
theorem bit_t : ∀ v, v < 32 → ∀ k, k < 5 → (((nI v >>> (nI k &&& 31)) &&& 1) = 0 ↔ v.testBit k = false) := by decide +kernel
theorem bit_s : ∀ v, v < 32 → ∀ k, k < 5 → (nI v ||| (1 <<< (nI k &&& 31))) = nI (v ||| 2 ^ k) := by decide +kernel
def ub (v : Nat) : Nat → Nat
  | 0 => 0
  | k + 1 => ub v k + if v.testBit k then 0 else 1
theorem ub_or : ∀ n, n < 6 → ∀ v, v < 2 ^ n → ∀ z, z < n → v.testBit z = false → ub (v ||| 2 ^ z) n + 1 = ub v n ∧ v ||| 2 ^ z < 2 ^ n := by decide +kernel
theorem ub_end : ∀ n, n < 6 → ∀ v, v < 2 ^ n → ((((1 : Int32) <<< (nI n &&& 31)) - 1 ≤ nI v) ↔ ub v n = 0) ∧ (ub v n = 0 → v = 2 ^ n - 1) := by decide +kernel
theorem ub_no : ∀ n, n < 6 → ∀ v, v < 2 ^ n → ub v n ≠ 0 → ∃ i, i < n ∧ v.testBit i = false := by decide +kernel
theorem m_steam {n v : Nat} {x6 x7 : Int32} {m : wI} (hn : n ≤ 5) (hv : v < 32) : fX5_sumOf_194 wN m (nI n) x6 x7 (nI v) (-1) 0 = some (oI (am (m 38) (fun i => v.testBit i = false) n)) := by
  have lp : ∀ (d k f : Nat), k + d = n → d < f → fX5_sumOf_194 f m (nI n) x6 x7 (nI v) (oI (am (m 38) (fun i => v.testBit i = false) k)) (nI k) = some (oI (am (m 38) (fun i => v.testBit i = false) n)) := by
    intro d
    induction d with
    | zero =>
      intro k f hk hf
      obtain ⟨f, rfl⟩ : ∃ g, f = g + 1 := ⟨f - 1, by omega⟩
      rw [fX5_sumOf_194.eq_2, if_pos (nI_le (by omega) (by omega)), show k = n by omega]
    | succ d ih =>
      intro k f hk hf
      obtain ⟨f, rfl⟩ : ∃ g, f = g + 1 := ⟨f - 1, by omega⟩
      rw [fX5_sumOf_194.eq_2, if_neg (nI_ge (by omega) (by omega)), wGd_t (vp_in_nI (show k < 5 by omega) (by decide)), toNat_nI (show k < 2 ^ 31 by omega), nI_1]
      have key := ih (k + 1) f (by omega) (by omega)
      have hb := bit_t v hv k (by omega)
      rw [am] at key
      cases e : am (m 38) (fun i => v.testBit i = false) k with
      | none =>
        rw [e] at key
        simp only at key
        by_cases q : v.testBit k = false
        · rw [if_pos q] at key
          rw [if_pos (hb.mpr q), if_pos (show oI none = -1 from rfl)]
          exact key
        · rw [if_neg q] at key
          rw [if_neg (fun u => q (hb.mp u))]
          exact key
      | some j =>
        have hj := (am_spec e).1
        rw [e] at key
        simp only at key
        by_cases q : v.testBit k = false
        · rw [if_pos q] at key
          rw [if_pos (hb.mpr q), if_neg (show ¬ oI (some j) = -1 from nI_ne_m1 (by omega)), show oI (some j) = nI j from rfl, wGd_t (vp_in_nI (show j < 5 by omega) (by decide)), toNat_nI (by omega)]
          by_cases u : m 38 j ≤ m 38 k
          · rw [if_pos u] at key ⊢; exact key
          · rw [if_neg u] at key ⊢; exact key
        · rw [if_neg q] at key
          rw [if_neg (fun u => q (hb.mp u))]
          exact key
  have := lp n 0 wN (by omega) (by unfold wN; omega)
  rw [show am (m 38) (fun i => v.testBit i = false) 0 = none from rfl, nI_0] at this
  exact this
/-- what those that are not steamed add -/
def ds (B s : Nat → Int32) (v : Nat) : Nat → Int32
  | 0 => 0
  | k + 1 => ds B s v k + if v.testBit k = true ∧ s k = 0 then B k else 0
theorem ds_same {B s : Nat → Int32} {v u : Nat} : ∀ {n : Nat}, (∀ i, i < n → v.testBit i = u.testBit i) → ds B s v n = ds B s u n
  | 0, _ => rfl
  | n + 1, h => by
    unfold ds
    rw [ds_same (fun i hi => h i (by omega)), h n (by omega)]
theorem ds_or {B s : Nat → Int32} {v z : Nat} (hz : v.testBit z = false) : ∀ {n : Nat}, z < n → ds B s (v ||| 2 ^ z) n = ds B s v n + if s z = 0 then B z else 0
  | 0, h => by omega
  | n + 1, h => by
    have tb : ∀ i, i ≠ z → (v ||| 2 ^ z).testBit i = v.testBit i := fun i hi => by rw [Nat.testBit_or, Nat.testBit_two_pow_of_ne (Ne.symm hi), Bool.or_false]
    unfold ds
    by_cases e : n = z
    · subst e
      rw [ds_same (fun i hi => tb i (by omega)), Nat.testBit_or, Nat.testBit_two_pow_self, hz]
      by_cases q : s n = 0 <;> simp [q]
    · rw [ds_or hz (show z < n by omega), tb n e]
      grind
theorem add_t {a b : Int32} (h1 : 0 ≤ a.toInt) (h2 : a.toInt ≤ 1000000) (h3 : 0 ≤ b.toInt) (h4 : b.toInt ≤ 1000000) : (a + b).toInt = a.toInt + b.toInt := by
  rw [Int32.toInt_add]
  exact Int.bmod_eq_of_le (by omega) (by omega)
theorem ds_bd {B s : Nat → Int32} {v : Nat} : ∀ {n : Nat}, n ≤ 5 → (∀ i, i < n → 0 ≤ (B i).toInt ∧ (B i).toInt ≤ 1000) → 0 ≤ (ds B s v n).toInt ∧ (ds B s v n).toInt ≤ 1000 * (n : Int)
  | 0, _, _ => by
    have : (ds B s v 0).toInt = 0 := by unfold ds; decide
    omega
  | n + 1, hn, h => by
    have ih := ds_bd (s := s) (v := v) (n := n) (by omega) (fun i hi => h i (by omega))
    have hb := h n (by omega)
    have z0' : (0 : Int32).toInt = 0 := by decide
    unfold ds
    split
    · rw [add_t (by omega) (by omega) (by omega) (by omega)]; omega
    · rw [add_t (by omega) (by omega) (by omega) (by omega)]; omega
theorem addz (x : Int32) : x + 0 = x := by grind
theorem add3 (a b c : Int32) : a + b + c = a + (b + c) := by grind
theorem add3' (a b c : Int32) : a + b + c = a + c + b := by grind
theorem steam_lp {ng n : Nat} {sh : Nat → Nat} {rv : wJ} {m : wI} {B s : Nat → Int32} {c : Nat → Nat} (hn : n ≤ 5) (hB : ∀ i, i < n → m 38 i = B i ∧ 0 ≤ (B i).toInt ∧ (B i).toInt ≤ 1000) (hc : ∀ i, i < n → m 37 i = nI (c i) ∧ c i < 100 ∧ fX5_steam (m 19 (c i)) = some (s i) ∧ 0 ≤ (s i).toInt ∧ (s i).toInt ≤ 20) (hsh : ∀ i, i < n → sh (rv 8 i) = 1 ∧ sh (rv (rv 8 i) 1) = 4 ∧ 1000 ≤ rv (rv 8 i) 1) :
    ∀ (d v k : Nat) (x1 x2 : Int32) (f1 f2 : Nat) (iv : wI), v < 2 ^ n → ub v n = d → k + d ≤ n → d < f1 → d < f2 → iv 7 5 = nI n → (∀ i, i < n → iv 10 i = B i ∧ iv 11 i = (if v.testBit i = false ∧ s i ≠ 0 then 1 else 0) ∧ iv (rv (rv 8 i) 1) 3 = s i) → 0 ≤ x1.toInt → x1.toInt ≤ 1000 + 20 * (k : Int) → 0 ≤ x2.toInt → x2.toInt ≤ 2000 * (k : Int) →
    ∃ iv' r, fX2_sumOfSteamed_6 ng sh f1 iv rv x1 x2 (nI k) = some (iv', r) ∧ (∀ a, a ≠ 11 → iv' a = iv a) ∧ fX5_sumOf_178 f2 m (nI n) (x2 + ds B s v n) x1 (nI v) = some (r + ds B s (2 ^ n - 1) n) ∧ 0 ≤ r.toInt ∧ r.toInt ≤ 10000 := by
  intro d
  induction d with
  | zero =>
    intro v k x1 x2 f1 f2 iv hv hd hk h1 h2 h7 hiv b1 b2 b3 b4
    obtain ⟨f1, rfl⟩ : ∃ g, f1 = g + 1 := ⟨f1 - 1, by omega⟩
    obtain ⟨f2, rfl⟩ : ∃ g, f2 = g + 1 := ⟨f2 - 1, by omega⟩
    obtain ⟨u1, u2⟩ := ub_end n (by omega) v hv
    have ve := u2 hd
    refine ⟨iv, x2, ?_, fun _ _ => rfl, ?_, b3, by omega⟩
    · rw [fX2_sumOfSteamed_6.eq_2, h7]
      by_cases e : n ≤ k
      · rw [if_pos (nI_le e (by omega))]
      · rw [if_neg (nI_ge (by omega) (by omega)), c_steam hn h7]
        have : am (iv 10) (fun i => iv 11 i ≠ 0) n = none := by
          cases q : am (iv 10) (fun i => iv 11 i ≠ 0) n with
          | none => rfl
          | some z =>
            obtain ⟨z1, z2, -⟩ := am_spec q
            rw [(hiv z z1).2.1, ve, Nat.testBit_two_pow_sub_one] at z2
            simp [z1] at z2
        rw [this]
        simp only [wBd]
        rw [if_neg (show ¬ (0 : Int32) ≤ oI none by decide)]
    · rw [fX5_sumOf_178.eq_2, if_pos (u1.mpr hd), ve]
  | succ d ih =>
    intro v k x1 x2 f1 f2 iv hv hd hk h1 h2 h7 hiv b1 b2 b3 b4
    obtain ⟨f2, rfl⟩ : ∃ g, f2 = g + 1 := ⟨f2 - 1, by omega⟩
    obtain ⟨u1, u2⟩ := ub_end n (by omega) v hv
    have v32 : v < 32 := Nat.lt_of_lt_of_le hv (by have := Nat.pow_le_pow_right (n := 2) (by decide) hn; simpa using this)
    obtain ⟨i0, j1, j2⟩ := ub_no n (by omega) v hv (by omega)
    rw [fX5_sumOf_178.eq_2, if_neg (fun q => by have := u1.mp q; omega), m_steam hn v32]
    cases ez : am (m 38) (fun i => v.testBit i = false) n with
    | none => exact absurd j2 (am_none ez i0 j1)
    | some z =>
      obtain ⟨z1, z2, z3, z4⟩ := am_spec ez
      obtain ⟨c1, c2, c3, c4, c5⟩ := hc z z1
      obtain ⟨d1, d2, d3⟩ := hB z z1
      obtain ⟨o1, o2⟩ := ub_or n (by omega) v hv z z1 z2
      simp only [wBd]
      rw [show oI (some z) = nI z from rfl, wGd_t (vp_in_nI (show z < 5 by omega) (by decide)), toNat_nI (by omega), c1, wGd_t (vp_in_nI c2 (by decide)), toNat_nI (by omega), c3, d1, bit_s v v32 z (by omega)]
      simp only [wLt]
      by_cases hs : s z = 0
      · rw [if_pos hs]
        have := ih (v ||| 2 ^ z) k x1 x2 f1 f2 iv o2 (by omega) (by omega) (by omega) (by omega) h7 (fun i hi => by
          obtain ⟨q1, q2, q3⟩ := hiv i hi
          refine ⟨q1, ?_, q3⟩
          rw [q2]
          by_cases e : i = z
          · subst e; simp [hs]
          · rw [Nat.testBit_or, Nat.testBit_two_pow_of_ne (Ne.symm e), Bool.or_false]) b1 b2 b3 b4
        rw [ds_or z2 z1, if_pos hs, ← add3] at this
        exact this
      · rw [if_neg hs]
        obtain ⟨f1, rfl⟩ : ∃ g, f1 = g + 1 := ⟨f1 - 1, by omega⟩
        obtain ⟨s1, s2, s3⟩ := hsh z z1
        have amc : am (iv 10) (fun i => iv 11 i ≠ 0) n = some z := by
          refine am_uniq z1 ?_ (fun i hi p => ?_) (fun i hi p => ?_)
          · show iv 11 z ≠ 0
            rw [(hiv z z1).2.1, if_pos ⟨z2, hs⟩]; decide
          · have p : iv 11 i ≠ 0 := p
            rw [(hiv i hi).2.1] at p
            have pb : v.testBit i = false := by
              by_cases q : v.testBit i = false
              · exact q
              · rw [if_neg (fun u => q u.1)] at p; exact absurd rfl p
            have := z3 i hi pb
            rw [(hiv i hi).1, (hiv z z1).1, ← (hB i hi).1, ← d1]
            exact this
          · have p : iv 11 i ≠ 0 := p
            rw [(hiv i (by omega)).2.1] at p
            have pb : v.testBit i = false := by
              by_cases q : v.testBit i = false
              · exact q
              · rw [if_neg (fun u => q u.1)] at p; exact absurd rfl p
            have := z4 i hi pb
            rw [(hiv i (by omega)).1, (hiv z z1).1, ← (hB i (by omega)).1, ← d1]
            exact this
        rw [fX2_sumOfSteamed_6.eq_2, h7, if_neg (nI_ge (by omega) (by omega)), c_steam hn h7, amc]
        simp only [wBd]
        rw [show oI (some z) = nI z from rfl, if_pos (nI_pos' (by omega)), wGd_t (vp_in_nI (show z < 5 by omega) (by decide)), toNat_nI (by omega)]
        simp only [wLt]
        rw [wGd_t s1, wGd_t s2]
        rw [wU_ne 10 (by decide), wU_ne (rv (rv 8 z) 1) (by omega), (hiv z z1).1, (hiv z z1).2.2, show vp_nar .boolean 0 = 0 by decide, nI_1]
        have ey : (if x1 ≤ B z then B z + s z else x1 + s z) = (if x1 < B z then B z else x1) + s z := by
          by_cases q : x1 < B z
          · rw [if_pos q, if_pos (by rw [lt_iff] at q; rw [le_iff]; omega)]
          · rw [if_neg q]
            by_cases q2 : x1 ≤ B z
            · rw [if_pos q2, show B z = x1 from Int32.toInt_inj.mp (by rw [lt_iff] at q; rw [le_iff] at q2; omega)]
            · rw [if_neg q2]
        generalize hy : (if x1 < B z then B z else x1) + s z = y at *
        have yb : 0 ≤ y.toInt ∧ y.toInt ≤ 1000 + 20 * ((k : Int) + 1) := by
          rw [← hy]
          split
          · rw [add_t (by omega) (by omega) (by omega) (by omega)]; omega
          · rw [add_t (by omega) (by omega) (by omega) (by omega)]; omega
        have xb : (x2 + y).toInt = x2.toInt + y.toInt := add_t (by omega) (by omega) (by omega) (by omega)
        have goal2 : (if x1 ≤ B z then fX5_sumOf_178 f2 m (nI n) (x2 + ds B s v n + (B z + s z)) (B z + s z) (nI (v ||| 2 ^ z)) else fX5_sumOf_178 f2 m (nI n) (x2 + ds B s v n + (x1 + s z)) (x1 + s z) (nI (v ||| 2 ^ z))) = fX5_sumOf_178 f2 m (nI n) (x2 + y + ds B s (v ||| 2 ^ z) n) y (nI (v ||| 2 ^ z)) := by
          rw [ds_or z2 z1, if_neg hs, addz, add3' x2 y, ← ey]
          by_cases q2 : x1 ≤ B z
          · rw [if_pos q2, if_pos q2]
          · rw [if_neg q2, if_neg q2]
        rw [goal2]
        obtain ⟨iv', r, i1, i2, i3, i4, i5⟩ := ih (v ||| 2 ^ z) (k + 1) y (x2 + y) f1 f2 (wU iv 11 z 0) o2 (by omega) (by omega) (by omega) (by omega) (by rw [wU_ne 7 (by decide)]; exact h7) (fun i hi => by
          obtain ⟨q1, q2, q3⟩ := hiv i hi
          refine ⟨by rw [wU_ne 10 (by decide)]; exact q1, ?_, by rw [wU_ne _ (by have := (hsh i hi).2.2; omega)]; exact q3⟩
          rw [wU_g, if_pos rfl]
          by_cases e : i = z
          · subst e
            rw [if_pos rfl, Nat.testBit_or, Nat.testBit_two_pow_self]
            simp
          · rw [if_neg e, q2, Nat.testBit_or, Nat.testBit_two_pow_of_ne (Ne.symm e), Bool.or_false]) yb.1 (by rw [Int.natCast_add]; exact yb.2) (by omega) (by rw [Int.natCast_add]; omega)
        exact ⟨iv', r, i1, fun a ha => by rw [i2 a ha, wU_ne a ha], i3, i4, i5⟩
