theorem gff {ng : Nat} {sh : Nat → Nat} {iv : wI} {rv : wJ} (h1 : 1 ≤ ng) (h3 : ng ≤ 3) : ∃ g, g < ng ∧ fX2_groupFreeFirst ng sh iv rv = some (nI g) ∧ (∀ h, h < ng → iv 12 g ≤ iv 12 h) ∧ ∀ h, h < g → ¬ iv 12 h ≤ iv 12 g := by
  have lp : ∀ (d k j f : Nat), k + d = ng → d < f → j < k → (∀ h, h < k → iv 12 j ≤ iv 12 h) → (∀ h, h < j → ¬ iv 12 h ≤ iv 12 j) → ∃ g, g < ng ∧ fX2_groupFreeFirst_4 ng sh f iv rv (nI j) (nI k) = some (nI g) ∧ (∀ h, h < ng → iv 12 g ≤ iv 12 h) ∧ ∀ h, h < g → ¬ iv 12 h ≤ iv 12 g := by
    intro d
    induction d with
    | zero =>
      intro k j f hk hf hj a b
      obtain ⟨f, rfl⟩ : ∃ g, f = g + 1 := ⟨f - 1, by omega⟩
      have e : k = ng := by omega
      subst e
      exact ⟨j, hj, by rw [fX2_groupFreeFirst_4.eq_2, if_pos (nI_le (by omega) (by omega))], a, b⟩
    | succ d ih =>
      intro k j f hk hf hj a b
      obtain ⟨f, rfl⟩ : ∃ g, f = g + 1 := ⟨f - 1, by omega⟩
      rw [fX2_groupFreeFirst_4.eq_2, if_neg (nI_ge (by omega) (by omega)), wGd_t (vp_in_nI (show k < ng by omega) (by omega)), wGd_t (vp_in_nI (show j < ng by omega) (by omega)), toNat_nI (by omega), toNat_nI (by omega), nI_1]
      by_cases q : iv 12 j ≤ iv 12 k
      · rw [if_pos q]
        refine ih (k + 1) j f (by omega) (by omega) (by omega) (fun h hh => ?_) b
        by_cases e : h = k
        · subst e; exact q
        · exact a h (by omega)
      · rw [if_neg q]
        refine ih (k + 1) k f (by omega) (by omega) (by omega) (fun h hh => ?_) (fun h hh => ?_)
        · by_cases e : h = k
          · subst e; rw [le_iff]; omega
          · have := a h (by omega)
            rw [le_iff] at *
            omega
        · have := a h hh
          rw [le_iff] at *
          omega
  obtain ⟨g, a, b, c⟩ := lp (ng - 1) 1 0 wN (by omega) (by unfold wN; omega) (by decide) (fun h hh => by rw [show h = 0 by omega, le_iff]; omega) (fun h hh => by omega)
  refine ⟨g, a, ?_, c⟩
  unfold fX2_groupFreeFirst
  rw [show (1 : Int32) = nI 1 from rfl, ← nI_0, b]
  rfl
theorem min3 {ng g : Nat} {F : Nat → Int32} {y2 y3 y4 : Int32} (h1 : 1 ≤ ng) (h3 : ng ≤ 3) (hg : g < ng) (hF : ∀ h, h < ng → 0 ≤ (F h).toInt ∧ (F h).toInt ≤ 1000) (e2 : y2 = F 0) (e3 : y3 = if 2 ≤ ng then F 1 else 1000000) (e4 : y4 = if 3 ≤ ng then F 2 else 1000000) (hm : ∀ h, h < ng → F g ≤ F h) (hu : ∀ h, h < g → ¬ F h ≤ F g) :
    (if y3 < y2 then (if y4 < y3 then some y4 else some y3) else if y4 < y2 then (if y4 < y3 then some y4 else some y3) else some y2) = some (F g) ∧ (F g = y2 ↔ g = 0) ∧ (g = 1 → F g = y3) ∧ (g = 2 → F g ≠ y3) := by
  have b3 : (y3.toInt = if 2 ≤ ng then (F 1).toInt else 1000000) := by rw [e3]; split <;> rfl
  have b4 : (y4.toInt = if 3 ≤ ng then (F 2).toInt else 1000000) := by rw [e4]; split <;> rfl
  have b2 : y2.toInt = (F 0).toInt := by rw [e2]
  have f0 := hF 0 (by omega)
  have m0 := hm 0 (by omega)
  have f1 : 2 ≤ ng → 0 ≤ (F 1).toInt ∧ (F 1).toInt ≤ 1000 ∧ (F g).toInt ≤ (F 1).toInt := fun q => ⟨(hF 1 (by omega)).1, (hF 1 (by omega)).2, (le_iff _ _).mp (hm 1 (by omega))⟩
  have f2 : 3 ≤ ng → 0 ≤ (F 2).toInt ∧ (F 2).toInt ≤ 1000 ∧ (F g).toInt ≤ (F 2).toInt := fun q => ⟨(hF 2 (by omega)).1, (hF 2 (by omega)).2, (le_iff _ _).mp (hm 2 (by omega))⟩
  have u0 : 1 ≤ g → ¬ (F 0).toInt ≤ (F g).toInt := fun q => fun r => hu 0 (by omega) ((le_iff _ _).mpr r)
  have u1 : 2 ≤ g → ¬ (F 1).toInt ≤ (F g).toInt := fun q => fun r => hu 1 (by omega) ((le_iff _ _).mpr r)
  rw [le_iff] at m0
  have g3 : g = 0 ∨ g = 1 ∨ g = 2 := by omega
  refine ⟨?_, ?_, ?_, ?_⟩
  · have key : ∀ x : Int32, x.toInt = (F g).toInt → some x = some (F g) := fun x hx => by rw [Int32.toInt_inj.mp hx]
    simp only [lt_iff]
    rcases g3 with e | e | e <;> subst e <;> split <;> (try split) <;> (try split) <;> apply key <;> (first | omega | (split at b3 <;> split at b4 <;> omega))
  · rw [eq_iff, b2]
    constructor
    · intro q
      rcases g3 with e | e | e <;> subst e
      · rfl
      · exact absurd (Int.le_of_eq q.symm) (u0 (by decide))
      · exact absurd (Int.le_of_eq q.symm) (u0 (by decide))
    · intro q; rw [q]
  · intro q
    subst q
    rw [e3, if_pos (by omega)]
  · intro q
    subst q
    rw [e3, if_pos (by omega), Ne, eq_iff]
    intro r
    exact u1 (by decide) (Int.le_of_eq r.symm)
theorem ds_congr {B C s : Nat → Int32} {v : Nat} : ∀ {n : Nat}, (∀ i, i < n → B i = C i) → ds B s v n = ds C s v n
  | 0, _ => rfl
  | n + 1, h => by
    unfold ds
    rw [ds_congr (fun i hi => h i (by omega)), h n (by omega)]
theorem brew_lp {ng n : Nat} {sh : Nat → Nat} {rv : wJ} {c : Nat → Nat} {gb bb sb : Nat → Int32} (h1 : 1 ≤ ng) (h3 : ng ≤ 3) (hn : n ≤ 5) (hb : ∀ j, j < n → (0 ≤ (gb j).toInt ∧ (gb j).toInt ≤ 9) ∧ (0 ≤ (bb j).toInt ∧ (bb j).toInt ≤ 30) ∧ 0 ≤ (sb j).toInt) (hsh : ∀ i, i < n → sh (rv 8 i) = 1 ∧ sh (rv (rv 8 i) 1) = 4 ∧ 1000 ≤ rv (rv 8 i) 1) :
    ∀ (d i : Nat) (t x2 y2 y3 y4 : Int32) (f1 f2 : Nat) (iv m : wI), i + d = n → d < f1 → d < f2 → iv 7 5 = nI n → (∀ j, j < n → iv (rv (rv 8 j) 1) 1 = gb j ∧ iv (rv (rv 8 j) 1) 2 = bb j ∧ iv (rv (rv 8 j) 1) 3 = sb j) → (∀ j, j < n → m 37 j = nI (c j) ∧ c j < 100 ∧ fX5_grind (m 19 (c j)) = some (gb j) ∧ fX5_brew (m 19 (c j)) = some (bb j)) →
    0 ≤ t.toInt → t.toInt ≤ 9 * (i : Int) → (∀ g, g < ng → 0 ≤ (iv 12 g).toInt ∧ (iv 12 g).toInt ≤ 40 * (i : Int)) → y2 = iv 12 0 → y3 = (if 2 ≤ ng then iv 12 1 else 1000000) → y4 = (if 3 ≤ ng then iv 12 2 else 1000000) → (∀ j, j < i → m 38 j = iv 10 j ∧ 0 ≤ (iv 10 j).toInt ∧ (iv 10 j).toInt ≤ 1000 ∧ iv 11 j = if sb j = 0 then 0 else 1) → x2 = ds (iv 10) sb (2 ^ n - 1) i →
    ∃ iv' m', fX2_sumOfOrder_30 ng sh f1 iv rv t x2 (nI i) = some (iv', ds (iv' 10) sb (2 ^ n - 1) n) ∧ fX5_sumOf_39 f2 m (nI n) y2 y3 y4 t (nI i) = some m' ∧ (∀ a, a ≠ 10 → a ≠ 11 → a ≠ 12 → iv' a = iv a) ∧ (∀ a, a ≠ 38 → m' a = m a) ∧ ∀ j, j < n → m' 38 j = iv' 10 j ∧ 0 ≤ (iv' 10 j).toInt ∧ (iv' 10 j).toInt ≤ 1000 ∧ iv' 11 j = if sb j = 0 then 0 else 1 := by
  intro d
  induction d with
  | zero =>
    intro i t x2 y2 y3 y4 f1 f2 iv m hi hf1 hf2 h7 hr hm t1 t2 hF e2 e3 e4 hd hx
    obtain ⟨f1, rfl⟩ : ∃ g, f1 = g + 1 := ⟨f1 - 1, by omega⟩
    obtain ⟨f2, rfl⟩ : ∃ g, f2 = g + 1 := ⟨f2 - 1, by omega⟩
    have e : i = n := by omega
    subst e
    exact ⟨iv, m, by rw [fX2_sumOfOrder_30.eq_2, h7, if_pos (nI_le (by omega) (by omega)), hx], by rw [fX5_sumOf_39.eq_2, if_pos (nI_le (by omega) (by omega))], fun _ _ _ _ => rfl, fun _ _ => rfl, hd⟩
  | succ d ih =>
    intro i t x2 y2 y3 y4 f1 f2 iv m hi hf1 hf2 h7 hr hm t1 t2 hF e2 e3 e4 hd hx
    obtain ⟨f1, rfl⟩ : ∃ g, f1 = g + 1 := ⟨f1 - 1, by omega⟩
    obtain ⟨f2, rfl⟩ : ∃ g, f2 = g + 1 := ⟨f2 - 1, by omega⟩
    have hin : i < n := by omega
    obtain ⟨s1, s2, s3⟩ := hsh i hin
    obtain ⟨r1, r2, r3⟩ := hr i hin
    obtain ⟨m1, m2, m3, m4⟩ := hm i hin
    obtain ⟨⟨b1, b2⟩, ⟨b3, b4⟩, b5⟩ := hb i hin
    obtain ⟨g, hg, g1, g2, g3⟩ := gff (sh := sh) (iv := iv) (rv := rv) h1 h3
    obtain ⟨n1, n2, n3, n4⟩ := min3 h1 h3 hg (fun h hh => ⟨(hF h hh).1, by have := (hF h hh).2; omega⟩) e2 e3 e4 g2 g3
    have fg := hF g hg
    rw [fX2_sumOfOrder_30.eq_2, h7, if_neg (nI_ge (by omega) (by omega)), wGd_t (vp_in_nI (show i < 5 by omega) (by decide)), toNat_nI (by omega), wGd_t s1, wGd_t s2]
    rw [fX5_sumOf_39.eq_2, if_neg (nI_ge (by omega) (by omega)), wGd_t (vp_in_nI (show i < 5 by omega) (by decide)), toNat_nI (by omega), m1, wGd_t (vp_in_nI m2 (by decide)), toNat_nI (by omega), m3, m4]
    simp only [wLt, wBd]
    rw [n1, g1]
    simp only
    rw [wGd_t (vp_in_nI hg (by omega)), toNat_nI (by omega), r1, r2, nI_1]
    have tb : (t + gb i).toInt = t.toInt + (gb i).toInt := add_t (by omega) (by omega) (by omega) (by omega)
    generalize ht : t + gb i = t' at *
    have ez : (if iv 12 g ≤ t' then some t' else some (iv 12 g)) = some (if t' < iv 12 g then iv 12 g else t') := by
      by_cases q : t' < iv 12 g
      · rw [if_pos q, if_neg (by rw [lt_iff] at q; rw [le_iff]; omega)]
      · rw [if_neg q, if_pos (nlt_le q)]
    rw [ez]
    simp only
    have Bb : 0 ≤ ((if t' < iv 12 g then iv 12 g else t') + bb i).toInt ∧ ((if t' < iv 12 g then iv 12 g else t') + bb i).toInt ≤ 40 * ((i : Int) + 1) := by
      split
      · rw [add_t (by omega) (by omega) (by omega) (by omega)]; omega
      · rw [add_t (by omega) (by omega) (by omega) (by omega)]; omega
    generalize (if t' < iv 12 g then iv 12 g else t') + bb i = Bn at *
    rw [show wU iv 10 i Bn 10 i = Bn by simp [wU_g]]
    have rr : ∀ j k, j < n → wU (wU iv 10 i Bn) 12 g Bn (rv (rv 8 j) 1) k = iv (rv (rv 8 j) 1) k := fun j k hj => by
      have := (hsh j hj).2.2
      rw [wU_ne _ (by omega), wU_ne _ (by omega)]
    rw [rr i 3 hin, r3]
    have ef : (if sb i ≤ 0 then some (0 : Int32) else some 1) = some (if sb i = 0 then 0 else 1) := by
      by_cases q : sb i = 0
      · rw [if_pos q, q, if_pos (by decide)]
      · rw [if_neg q, if_neg (fun u => q (by rw [le_iff] at u; rw [eq_iff]; have : (0 : Int32).toInt = 0 := (by decide); omega))]
    rw [ef]
    simp only
    rw [show vp_nar .boolean (if sb i = 0 then 0 else 1) = if sb i = 0 then 0 else 1 by split <;> decide]
    generalize hJ : wU (wU (wU iv 10 i Bn) 12 g Bn) 11 i (if sb i = 0 then 0 else 1) = J
    have J11 : J 11 i = if sb i = 0 then 0 else 1 := by rw [← hJ, wU_g, if_pos rfl, if_pos rfl]
    have J10 : ∀ j, J 10 j = if j = i then Bn else iv 10 j := fun j => by rw [← hJ, wU_ne 10 (by decide), wU_ne 10 (by decide), wU_g, if_pos rfl]
    have J12 : ∀ h, J 12 h = if h = g then Bn else iv 12 h := fun h => by rw [← hJ, wU_ne 12 (by decide), wU_g, if_pos rfl, wU_ne 12 (by decide)]
    have Jo : ∀ a, a ≠ 10 → a ≠ 11 → a ≠ 12 → J a = iv a := fun a x y z => by rw [← hJ, wU_ne a y, wU_ne a z, wU_ne a x]
    have ec : (if J 11 i = 0 then fX2_sumOfOrder_30 ng sh f1 J rv t' (x2 + J 10 i) (nI (i + 1)) else fX2_sumOfOrder_30 ng sh f1 J rv t' x2 (nI (i + 1))) = fX2_sumOfOrder_30 ng sh f1 J rv t' (ds (J 10) sb (2 ^ n - 1) (i + 1)) (nI (i + 1)) := by
      rw [ds, ds_congr (B := J 10) (C := iv 10) (fun j hj => by rw [J10, if_neg (by omega)]), ← hx, J11, Nat.testBit_two_pow_sub_one]
      by_cases q : sb i = 0
      · rw [if_pos q, if_pos rfl, if_pos ⟨by simpa using hin, q⟩]
      · rw [if_neg q, if_neg (by decide), if_neg (fun u => q u.2), addz]
    rw [ec]
    have hF' : ∀ h, h < ng → 0 ≤ (J 12 h).toInt ∧ (J 12 h).toInt ≤ 40 * ((i + 1 : Nat) : Int) := fun h hh => by
      rw [J12]
      have := hF h hh
      split
      · rw [Int.natCast_add]; exact Bb
      · rw [Int.natCast_add]; omega
    have hd' : ∀ j, j < i + 1 → wU m 38 i Bn 38 j = J 10 j ∧ 0 ≤ (J 10 j).toInt ∧ (J 10 j).toInt ≤ 1000 ∧ J 11 j = if sb j = 0 then 0 else 1 := fun j hj => by
      rw [J10, wU_g, if_pos rfl]
      by_cases e : j = i
      · subst e
        simp only [if_true]
        exact ⟨trivial, Bb.1, by omega, J11⟩
      · rw [← hJ, wU_g, if_pos rfl, wU_ne 11 (by decide), wU_ne 11 (by decide)]
        simp only [e, if_false]
        exact hd j (by omega)
    have key : ∀ y2' y3' y4' : Int32, y2' = J 12 0 → y3' = (if 2 ≤ ng then J 12 1 else 1000000) → y4' = (if 3 ≤ ng then J 12 2 else 1000000) → ∃ iv' m', fX2_sumOfOrder_30 ng sh f1 J rv t' (ds (J 10) sb (2 ^ n - 1) (i + 1)) (nI (i + 1)) = some (iv', ds (iv' 10) sb (2 ^ n - 1) n) ∧ fX5_sumOf_39 f2 (wU m 38 i Bn) (nI n) y2' y3' y4' t' (nI (i + 1)) = some m' ∧ (∀ a, a ≠ 10 → a ≠ 11 → a ≠ 12 → iv' a = iv a) ∧ (∀ a, a ≠ 38 → m' a = m a) ∧ ∀ j, j < n → m' 38 j = iv' 10 j ∧ 0 ≤ (iv' 10 j).toInt ∧ (iv' 10 j).toInt ≤ 1000 ∧ iv' 11 j = if sb j = 0 then 0 else 1 := by
      intro y2' y3' y4' q2 q3 q4
      obtain ⟨iv', m', i1, i2, i3, i4, i5⟩ := ih (i + 1) t' _ y2' y3' y4' f1 f2 J (wU m 38 i Bn) (by omega) (by omega) (by omega) (by rw [Jo 7 (by decide) (by decide) (by decide)]; exact h7) (fun j hj => by have := (hsh j hj).2.2; rw [Jo _ (by omega) (by omega) (by omega)]; exact hr j hj) (fun j hj => by rw [wU_ne 37 (by decide), wU_ne 19 (by decide)]; exact hm j hj) (by omega) (by rw [Int.natCast_add]; omega) hF' q2 q3 q4 hd' rfl
      exact ⟨iv', m', i1, i2, fun a x y z => by rw [i3 a x y z, Jo a x y z], fun a x => by rw [i4 a x, wU_ne a x], i5⟩
    have jn : ∀ h, h ≠ g → J 12 h = iv 12 h := fun h hh => by rw [J12, if_neg hh]
    have jg : J 12 g = Bn := by rw [J12, if_pos rfl]
    rcases (show g = 0 ∨ g = 1 ∨ g = 2 by omega) with e | e | e
    · rw [if_pos (n2.mpr e)]
      subst e
      exact key _ _ _ jg.symm (by rw [e3, jn 1 (by decide)]) (by rw [e4, jn 2 (by decide)])
    · rw [if_neg (fun q => by have := n2.mp q; omega), if_pos (n3 e)]
      subst e
      exact key _ _ _ (by rw [e2, jn 0 (by decide)]) (by rw [jg, if_pos (by omega)]) (by rw [e4, jn 2 (by decide)])
    · rw [if_neg (fun q => by have := n2.mp q; omega), if_neg (n4 e)]
      subst e
      exact key _ _ _ (by rw [e2, jn 0 (by decide)]) (by rw [e3, jn 1 (by decide)]) (by rw [jg, if_pos (by omega)])
theorem zero12 {ng : Nat} {sh : Nat → Nat} {rv : wJ} (h3 : ng ≤ 3) (iv : wI) : ∃ iv', fX2_sumOfOrder_2 ng sh wN iv rv 0 = some iv' ∧ (∀ a, a ≠ 12 → iv' a = iv a) ∧ ∀ g, g < ng → iv' 12 g = 0 := by
  have lp : ∀ (d k f : Nat) (iv : wI), k + d = ng → d < f → (∀ g, g < k → iv 12 g = 0) → ∃ iv', fX2_sumOfOrder_2 ng sh f iv rv (nI k) = some iv' ∧ (∀ a, a ≠ 12 → iv' a = iv a) ∧ ∀ g, g < ng → iv' 12 g = 0 := by
    intro d
    induction d with
    | zero =>
      intro k f iv hk hf h
      obtain ⟨f, rfl⟩ : ∃ g, f = g + 1 := ⟨f - 1, by omega⟩
      exact ⟨iv, by rw [fX2_sumOfOrder_2.eq_2, if_pos (nI_le (by omega) (by omega))], fun _ _ => rfl, fun g hg => h g (by omega)⟩
    | succ d ih =>
      intro k f iv hk hf h
      obtain ⟨f, rfl⟩ : ∃ g, f = g + 1 := ⟨f - 1, by omega⟩
      rw [fX2_sumOfOrder_2.eq_2, if_neg (nI_ge (by omega) (by omega)), wGd_t (vp_in_nI (show k < ng by omega) (by omega)), toNat_nI (by omega), nI_1]
      simp only [wLt]
      obtain ⟨iv', a, b, c⟩ := ih (k + 1) f (wU iv 12 k 0) (by omega) (by omega) (fun g hg => by
        rw [wU_g, if_pos rfl]
        by_cases e : g = k
        · rw [if_pos e]
        · rw [if_neg e]; exact h g (by omega))
      exact ⟨iv', a, fun x hx => by rw [b x hx, wU_ne x hx], c⟩
  exact lp ng 0 wN iv (by omega) (by unfold wN; omega) (fun g hg => by omega)
theorem ub_0 : ∀ n, n < 6 → ub 0 n = n := by decide +kernel
theorem ds_0 {B s : Nat → Int32} : ∀ {n : Nat}, ds B s 0 n = 0
  | 0 => rfl
  | n + 1 => by
    unfold ds
    rw [ds_0, Nat.zero_testBit, if_neg (by simp), addz]
theorem sum_ok {ng n : Nat} {sh : Nat → Nat} {iv : wI} {rv : wJ} {m : wI} {c : Nat → Nat} {gb bb sb : Nat → Int32} (h1 : 1 ≤ ng) (h3 : ng ≤ 3) (hn : n ≤ 5) (hb : ∀ j, j < n → (0 ≤ (gb j).toInt ∧ (gb j).toInt ≤ 9) ∧ (0 ≤ (bb j).toInt ∧ (bb j).toInt ≤ 30) ∧ 0 ≤ (sb j).toInt ∧ (sb j).toInt ≤ 20) (hsh : ∀ i, i < n → sh (rv 8 i) = 1 ∧ sh (rv (rv 8 i) 1) = 4 ∧ 1000 ≤ rv (rv 8 i) 1) (h7 : iv 7 5 = nI n) (hr : ∀ j, j < n → iv (rv (rv 8 j) 1) 1 = gb j ∧ iv (rv (rv 8 j) 1) 2 = bb j ∧ iv (rv (rv 8 j) 1) 3 = sb j) (hm : ∀ j, j < n → m 37 j = nI (c j) ∧ c j < 100 ∧ fX5_grind (m 19 (c j)) = some (gb j) ∧ fX5_brew (m 19 (c j)) = some (bb j) ∧ fX5_steam (m 19 (c j)) = some (sb j)) (hg : m 1 0 = nI ng) :
    ∃ iv' m' r, fX2_sumOfOrder ng sh iv rv = some (iv', r) ∧ fX5_sumOf m (nI n) = some (m', r) ∧ (∀ a, a ≠ 10 → a ≠ 11 → a ≠ 12 → iv' a = iv a) ∧ (∀ a, a ≠ 38 → m' a = m a) ∧ 0 ≤ r.toInt := by
  obtain ⟨iv1, z1, z2, z3⟩ := zero12 (sh := sh) (rv := rv) h3 iv
  have zt : (0 : Int32).toInt = 0 := by decide
  unfold fX2_sumOfOrder fX5_sumOf
  rw [z1, hg]
  have e1 : (if nI ng ≤ 1 then some (1000000 : Int32) else some 0) = some (if 2 ≤ ng then iv1 12 1 else 1000000) := by
    by_cases q : 2 ≤ ng
    · rw [if_pos q, z3 1 (by omega), if_neg (show ¬ nI ng ≤ (1 : Int32) from nI_ge (a := 1) (by omega) (by omega))]
    · rw [if_neg q, if_pos (show nI ng ≤ (1 : Int32) from nI_le (b := 1) (by omega) (by omega))]
  have e2 : (if nI ng ≤ 2 then some (1000000 : Int32) else some 0) = some (if 3 ≤ ng then iv1 12 2 else 1000000) := by
    by_cases q : 3 ≤ ng
    · rw [if_pos q, z3 2 (by omega), if_neg (show ¬ nI ng ≤ (2 : Int32) from nI_ge (a := 2) (by omega) (by omega))]
    · rw [if_neg q, if_pos (show nI ng ≤ (2 : Int32) from nI_le (b := 2) (by omega) (by omega))]
  rw [e1, e2]
  obtain ⟨iv2, m2, b1, b2, b3, b4, b5⟩ := brew_lp (sh := sh) (rv := rv) (c := c) h1 h3 hn (fun j hj => ⟨(hb j hj).1, (hb j hj).2.1, (hb j hj).2.2.1⟩) hsh n 0 0 0 0 _ _ wN wN iv1 m (by omega) (by unfold wN; omega) (by unfold wN; omega) (by rw [z2 7 (by decide)]; exact h7) (fun j hj => by have := (hsh j hj).2.2; rw [z2 _ (by omega)]; exact hr j hj) (fun j hj => ⟨(hm j hj).1, (hm j hj).2.1, (hm j hj).2.2.1, (hm j hj).2.2.2.1⟩) (by omega) (by omega) (fun g hg => by rw [z3 g hg]; omega) (by rw [z3 0 (by omega)]) rfl rfl (fun j hj => by omega) rfl
  rw [nI_0] at b1 b2
  simp only [wBd]
  rw [b1, b2]
  obtain ⟨iv3, r, c1, c2, c3, c4, c5⟩ := steam_lp (ng := ng) (sh := sh) (rv := rv) (m := m2) (B := iv2 10) (s := sb) (c := c) hn (fun i hi => ⟨(b5 i hi).1, (b5 i hi).2.1, (b5 i hi).2.2.1⟩) (fun i hi => by
    rw [b4 37 (by decide), b4 19 (by decide)]
    exact ⟨(hm i hi).1, (hm i hi).2.1, (hm i hi).2.2.2.2, (hb i hi).2.2⟩) hsh n 0 0 0 0 wN wN iv2 (Nat.two_pow_pos n) (ub_0 n (by omega)) (by omega) (by unfold wN; omega) (by unfold wN; omega) (by rw [b3 7 (by decide) (by decide) (by decide), z2 7 (by decide)]; exact h7) (fun i hi => by
      have q := (hsh i hi).2.2
      refine ⟨rfl, ?_, by rw [b3 _ (by omega) (by omega) (by omega), z2 _ (by omega)]; exact (hr i hi).2.2⟩
      rw [(b5 i hi).2.2.2, Nat.zero_testBit]
      by_cases e : sb i = 0
      · rw [if_pos e, if_neg (fun u => u.2 e)]
      · rw [if_neg e, if_pos ⟨rfl, e⟩]) (by omega) (by omega) (by omega) (by omega)
  rw [ds_0, addz, nI_0] at c3
  rw [nI_0] at c1
  simp only [wB2]
  unfold fX2_sumOfSteamed
  rw [c1, c3]
  have d1 := ds_bd (B := iv2 10) (s := sb) (v := 2 ^ n - 1) hn (fun i hi => ⟨(b5 i hi).2.1, (b5 i hi).2.2.1⟩)
  refine ⟨iv3, m2, r + ds (iv2 10) sb (2 ^ n - 1) n, ?_, rfl, fun a x y z => by rw [c2 a y, b3 a x y z, z2 a z], b4, by rw [add_t (by omega) (by omega) (by omega) (by omega)]; omega⟩
  simp only
  rw [show ds (iv2 10) sb (2 ^ n - 1) n + r = r + ds (iv2 10) sb (2 ^ n - 1) n by grind]
