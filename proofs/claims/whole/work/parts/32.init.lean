/-! the two constructors: tables of what is made -/
def tk : List (Nat × Nat) → Nat → Nat
  | [], _ => 0
  | (r, k) :: L, a => if a = r then k else tk L a
def tu : List (Nat × Nat × Int32) → Nat → Nat → Int32
  | [], _, _ => 0
  | (r, s, v) :: L, a, j => if a = r then (if j = s then v else tu L a j) else tu L a j
def tr : List (Nat × Nat × Nat) → Nat → Nat → Nat
  | [], _, _ => 0
  | (r, s, v) :: L, a, j => if a = r then (if j = s then v else tr L a j) else tr L a j
theorem tk_up (S : List (Nat × Nat)) (r k : Nat) : va_up (tk S) r k = tk ((r, k) :: S) := by funext a; rfl
theorem tu_up (U : List (Nat × Nat × Int32)) (r s : Nat) (v : Int32) : wU (tu U) r s v = tu ((r, s, v) :: U) := by funext a b; rw [wU_g]; rfl
theorem tr_up (L : List (Nat × Nat × Nat)) (r s v : Nat) : wV (tr L) r s v = tr ((r, s, v) :: L) := by funext a b; rw [wV_g]; rfl
theorem tu_row {R : Nat} : ∀ {U : List (Nat × Nat × Int32)}, U.all (fun e => e.1 != R) = true → ∀ j, tu U R j = 0
  | [], _, _ => rfl
  | (r, s, v) :: U, h, j => by
    simp only [List.all_cons, Bool.and_eq_true, bne_iff_ne] at h
    rw [tu, if_neg (fun e => h.1 e.symm)]
    exact tu_row h.2 j
theorem tr_row {R : Nat} : ∀ {U : List (Nat × Nat × Nat)}, U.all (fun e => e.1 != R) = true → ∀ j, tr U R j = 0
  | [], _, _ => rfl
  | (r, s, v) :: U, h, j => by
    simp only [List.all_cons, Bool.and_eq_true, bne_iff_ne] at h
    rw [tr, if_neg (fun e => h.1 e.symm)]
    exact tr_row h.2 j
theorem tu_new {U : List (Nat × Nat × Int32)} {R : Nat} (h : U.all (fun e => e.1 != R) = true) : va_up (tu U) R (fun _ => (0 : Int32)) = tu U := by
  funext a j
  by_cases e : a = R
  · subst e; rw [va_up_self, tu_row h]
  · rw [va_up_ne _ _ e]
theorem tr_new {U : List (Nat × Nat × Nat)} {R : Nat} (h : U.all (fun e => e.1 != R) = true) : va_up (tr U) R (fun _ => (0 : Nat)) = tr U := by
  funext a j
  by_cases e : a = R
  · subst e; rw [va_up_self, tr_row h]
  · rw [va_up_ne _ _ e]
theorem tr_val {R : Nat} (h0 : R ≠ 0) : ∀ {U : List (Nat × Nat × Nat)}, U.all (fun e => e.2.2 != R) = true → ∀ a j, tr U a j ≠ R
  | [], _, _, _ => Ne.symm h0
  | (r, s, v) :: U, h, a, j => by
    simp only [List.all_cons, Bool.and_eq_true, bne_iff_ne] at h
    have := tr_val h0 h.2 a j
    rw [tr]
    split
    · split
      · exact h.1
      · exact this
    · exact this
theorem tk_val : ∀ {S : List (Nat × Nat)}, S.all (fun e => e.2 != 3 && e.2 != 5 && e.2 != 6) = true → ∀ a, tk S a ≠ 3 ∧ tk S a ≠ 5 ∧ tk S a ≠ 6
  | [], _, _ => by simp [tk]
  | (r, k) :: S, h, a => by
    simp only [List.all_cons, Bool.and_eq_true, bne_iff_ne] at h
    have := tk_val (S := S) (by simpa using h.2) a
    rw [tk]
    split
    · exact ⟨h.1.1.1, h.1.1.2, h.1.2⟩
    · exact this
theorem tk_out {n : Nat} : ∀ {S : List (Nat × Nat)}, S.all (fun e => decide (e.1 < n)) = true → ∀ a, n ≤ a → tk S a = 0
  | [], _, _, _ => rfl
  | (r, k) :: S, h, a, ha => by
    simp only [List.all_cons, Bool.and_eq_true, decide_eq_true_eq] at h
    rw [tk, if_neg (by omega)]
    exact tk_out h.2 a ha
theorem tr_rv {sh : Nat → Nat} : ∀ {U : List (Nat × Nat × Nat)}, (∀ e ∈ U, e.2.2 = 0 ∨ sh e.2.2 ≠ 0) → RV sh (tr U)
  | [], _, _, _ => Or.inl rfl
  | (r, s, v) :: U, h, a, j => by
    have := tr_rv (U := U) (fun e he => h e (List.mem_cons_of_mem _ he)) a j
    rw [tr]
    split
    · split
      · exact h _ (List.mem_cons_self ..)
      · exact this
    · exact this
def fchk (S : List (Nat × Nat)) (L : List (Nat × Nat × Nat)) (R : Nat) : Bool := (R != 0) && (tk S R == 0) && L.all (fun e => e.2.2 != R) && S.all (fun e => e.2 != 3 && e.2 != 5 && e.2 != 6)
theorem fr_tab {S : List (Nat × Nat)} {L : List (Nat × Nat × Nat)} {R : Nat} (h : fchk S L R = true) : wFr (tk S) (tr L) R := by
  unfold fchk at h
  simp only [Bool.and_eq_true, bne_iff_ne, beq_iff_eq] at h
  obtain ⟨⟨⟨a, b⟩, c⟩, d⟩ := h
  exact ⟨a, b, tr_val a c, Or.inr (tk_val (by simpa using d))⟩
theorem alT {α : Type} {S Ln : List (Nat × Nat)} {U : List (Nat × Nat × Int32)} {L : List (Nat × Nat × Nat)} {o k0 : Nat} (R K n s : Nat) (h : fchk S L R = true) (h2 : L.all (fun e => e.1 != R) = true) (h3 : U.all (fun e => e.1 != R) = true) (h1 : tk ((R, K) :: S) o = k0) (F : (Nat → Nat) → (Nat → Nat) → wI → wJ → Option α) :
    wGd (wFr (tk S) (tr L) R) (wLt (va_up (tk S) R K) (fun (sh3 : Nat → Nat) => wLt (va_up (tk Ln) R n) (fun (ln4 : Nat → Nat) => wLt (va_up (tu U) R (fun _ => (0 : Int32))) (fun (iv5 : wI) => wLt (va_up (tr L) R (fun _ => (0 : Nat))) (fun (rv6 : wJ) => wGd (sh3 o = k0) (wLt (wV rv6 o s R) (fun (rv13 : wJ) => F sh3 ln4 iv5 rv13))))))) = F (tk ((R, K) :: S)) (tk ((R, n) :: Ln)) (tu U) (tr ((o, s, R) :: L)) := by
  rw [wGd_t (fr_tab h)]
  simp only [wLt]
  rw [tu_new h3, tr_new h2, tk_up, tk_up, wGd_t h1, tr_up]
theorem wLt_q {α β : Type} (v : α) (k : α → Option β) : wLt v k = k v := rfl
theorem uT {α : Type} {U : List (Nat × Nat × Int32)} (r s : Nat) (v : Int32) (F : wI → Option α) : wLt (wU (tu U) r s v) (fun (x : wI) => F x) = F (tu ((r, s, v) :: U)) := by rw [wLt_q, tu_up]
theorem vT {α : Type} {U : List (Nat × Nat × Nat)} (r s v : Nat) (F : wJ → Option α) : wLt (wV (tr U) r s v) (fun (x : wJ) => F x) = F (tr ((r, s, v) :: U)) := by rw [wLt_q, tr_up]
theorem gT {α : Type} {p : Prop} {x out : Option α} (h : p) (k : x = out) : wGd p x = out := by rw [wGd_t h]; exact k
/-- how many groups, what limit -/
def ngOf (a : Int32) : Nat := if 1 < (if 3 < a then 3 else a) then (if 3 < a then 3 else a).toNatClampNeg else 1
def lmOf (a : Int32) : Int32 := if 6 < (if 30 < a then 30 else a) then (if 30 < a then 30 else a) else 6
theorem ng_ok (a : Int32) : (ngOf a = 1 ∨ ngOf a = 2 ∨ ngOf a = 3) ∧ fX4_within a 1 3 = some (nI (ngOf a)) ∧ (if 1 ≤ a then if a ≤ 3 then some a else some (3 : Int32) else some (1 : Int32)) = some (nI (ngOf a)) := by
  unfold fX4_within ngOf
  by_cases h3 : 3 < a
  · rw [if_pos h3, if_pos (by decide), if_pos (show (1 : Int32) ≤ a by grind), if_neg (show ¬ a ≤ 3 by grind)]
    exact ⟨Or.inr (Or.inr rfl), rfl, rfl⟩
  · rw [if_neg h3]
    by_cases h1 : 1 < a
    · have hp : ¬ a < 0 := by grind
      obtain ⟨j, hj, rfl⟩ := nI_of2 (M := 3) (n := 3) rfl hp (nlt_le h3)
      rw [if_pos h1, if_pos h1, if_pos (show (1 : Int32) ≤ nI j by grind), if_pos (nlt_le h3), toNat_nI (by omega)]
      refine ⟨?_, rfl, rfl⟩
      have : ¬ j = 0 := fun e => by subst e; exact absurd h1 (by decide)
      omega
    · rw [if_neg h1, if_neg h1]
      refine ⟨Or.inl rfl, rfl, ?_⟩
      by_cases h : (1 : Int32) ≤ a
      · rw [if_pos h, if_pos (nlt_le h3), show a = 1 by grind]; rfl
      · rw [if_neg h]; rfl
theorem lm_ok (a : Int32) : (6 ≤ lmOf a ∧ lmOf a ≤ 30) ∧ fX4_within a 6 30 = some (lmOf a) := by
  refine ⟨?_, rfl⟩
  unfold lmOf
  by_cases h3 : 30 < a
  · rw [if_pos h3]; decide
  · rw [if_neg h3]
    by_cases h1 : 6 < a
    · rw [if_pos h1]; grind
    · rw [if_neg h1]; decide
theorem lm_m {α : Type} (a : Int32) (F : Int32 → Option α) : (if 6 ≤ a then if a ≤ 30 then F a else F 30 else F 6) = F (lmOf a) := by
  unfold lmOf
  by_cases h3 : 30 < a
  · rw [if_pos h3, if_pos (show (6 : Int32) ≤ a by grind), if_neg (show ¬ a ≤ 30 by grind), if_pos (by decide)]
  · rw [if_neg h3]
    by_cases h1 : 6 < a
    · rw [if_pos h1, if_pos (show (6 : Int32) ≤ a by grind), if_pos (nlt_le h3)]
    · rw [if_neg h1]
      by_cases h : (6 : Int32) ≤ a
      · rw [if_pos h, if_pos (nlt_le h3), show a = 6 by grind]
      · rw [if_neg h]
def SM : List (Nat × Nat) := [(39, 7), (38, 7), (37, 7), (36, 7), (32, 7), (31, 7), (30, 7), (29, 7), (28, 7), (27, 7), (26, 7), (25, 7), (24, 7), (23, 7), (22, 7), (21, 7), (20, 7), (19, 7), (17, 7), (16, 7), (15, 7), (1, 14)]
def NM : List (Nat × Nat) := [(39, (5 : Int32).toNatClampNeg), (38, (5 : Int32).toNatClampNeg), (37, (5 : Int32).toNatClampNeg), (36, (5 : Int32).toNatClampNeg), (32, (3 : Int32).toNatClampNeg), (31, (3 : Int32).toNatClampNeg), (30, (3 : Int32).toNatClampNeg), (29, (100 : Int32).toNatClampNeg), (28, (100 : Int32).toNatClampNeg), (27, (100 : Int32).toNatClampNeg), (26, (100 : Int32).toNatClampNeg), (25, (100 : Int32).toNatClampNeg), (24, (100 : Int32).toNatClampNeg), (23, (100 : Int32).toNatClampNeg), (22, (100 : Int32).toNatClampNeg), (21, (100 : Int32).toNatClampNeg), (20, (100 : Int32).toNatClampNeg), (19, (100 : Int32).toNatClampNeg), (17, (3 : Int32).toNatClampNeg), (16, (8 : Int32).toNatClampNeg), (15, (8 : Int32).toNatClampNeg), (1, 0)]
def LM : List (Nat × Nat × Nat) := [(1, 29, 39), (1, 28, 38), (1, 27, 37), (1, 26, 36), (1, 22, 32), (1, 21, 31), (1, 20, 30), (1, 19, 29), (1, 18, 28), (1, 17, 27), (1, 16, 26), (1, 15, 25), (1, 14, 24), (1, 13, 23), (1, 12, 22), (1, 11, 21), (1, 10, 20), (1, 9, 19), (1, 7, 17), (1, 6, 16), (1, 5, 15)]
def UM (a1 a2 : Int32) : List (Nat × Nat × Int32) := [(1, 1, lmOf a2), (1, 0, nI (ngOf a1)), (1, 25, 50), (1, 3, 900)]
theorem init_m (a1 a2 : Int32) : fX5_init (tk [(1, 14)]) (tk [(1, 0)]) (tu []) (tr []) a1 a2 = some (tk SM, tk NM, tu (UM a1 a2), tr LM) := by
  unfold fX5_init
  refine gT rfl ?_
  refine (uT 1 3 900 _).trans ?_
  refine (alT 15 7 _ 5 rfl rfl rfl rfl _).trans ?_
  refine (alT 16 7 _ 6 rfl rfl rfl rfl _).trans ?_
  refine (alT 17 7 _ 7 rfl rfl rfl rfl _).trans ?_
  refine (alT 19 7 _ 9 rfl rfl rfl rfl _).trans ?_
  refine (alT 20 7 _ 10 rfl rfl rfl rfl _).trans ?_
  refine (alT 21 7 _ 11 rfl rfl rfl rfl _).trans ?_
  refine (alT 22 7 _ 12 rfl rfl rfl rfl _).trans ?_
  refine (alT 23 7 _ 13 rfl rfl rfl rfl _).trans ?_
  refine (alT 24 7 _ 14 rfl rfl rfl rfl _).trans ?_
  refine (alT 25 7 _ 15 rfl rfl rfl rfl _).trans ?_
  refine (alT 26 7 _ 16 rfl rfl rfl rfl _).trans ?_
  refine (alT 27 7 _ 17 rfl rfl rfl rfl _).trans ?_
  refine (alT 28 7 _ 18 rfl rfl rfl rfl _).trans ?_
  refine (alT 29 7 _ 19 rfl rfl rfl rfl _).trans ?_
  refine (alT 30 7 _ 20 rfl rfl rfl rfl _).trans ?_
  refine (alT 31 7 _ 21 rfl rfl rfl rfl _).trans ?_
  refine (alT 32 7 _ 22 rfl rfl rfl rfl _).trans ?_
  refine (uT 1 25 50 _).trans ?_
  refine (alT 36 7 _ 26 rfl rfl rfl rfl _).trans ?_
  refine (alT 37 7 _ 27 rfl rfl rfl rfl _).trans ?_
  refine (alT 38 7 _ 28 rfl rfl rfl rfl _).trans ?_
  refine (alT 39 7 _ 29 rfl rfl rfl rfl _).trans ?_
  rw [(ng_ok a1).2.2]
  simp only [wBd]
  refine (uT 1 0 _ _).trans ?_
  simp only [wLt]
  rw [lm_m a2 (fun x => some (_, _, wU (tu [(1, 0, nI (ngOf a1)), (1, 25, 50), (1, 3, 900)]) 1 1 x, _)), tu_up]
  rfl
def SC0 : List (Nat × Nat) := [(2, 10), (6, 7), (5, 7), (4, 9), (3, 11), (1, 13)]
def NC0 (g : Nat) : List (Nat × Nat) := [(2, (nI g).toNatClampNeg), (6, (3 : Int32).toNatClampNeg), (5, (8 : Int32).toNatClampNeg), (4, (100 : Int32).toNatClampNeg), (3, (8 : Int32).toNatClampNeg), (1, 0)]
def LC0 : List (Nat × Nat × Nat) := [(1, 0, 2), (1, 9, 0), (1, 8, 0), (1, 6, 6), (1, 5, 5), (1, 3, 4), (1, 1, 3)]
def UC0 : List (Nat × Nat × Int32) := [(1, 16, 0), (1, 15, 0), (1, 14, 0), (1, 13, 50), (1, 12, 0), (1, 11, 900), (1, 4, 0), (1, 2, 0)]
/-- the groups -/
def SG : Nat → List (Nat × Nat)
  | 0 => SC0
  | g + 1 => (g + 13, 2) :: SG g
def NG (n : Nat) : Nat → List (Nat × Nat)
  | 0 => NC0 n
  | g + 1 => (g + 13, 0) :: NG n g
def LG : Nat → List (Nat × Nat × Nat)
  | 0 => LC0
  | g + 1 => (2, g, g + 13) :: (g + 13, 5, 0) :: LG g
def UG : Nat → List (Nat × Nat × Int32)
  | 0 => UC0
  | g + 1 => (g + 13, 0, nI g) :: (g + 13, 4, 0) :: (g + 13, 3, 0) :: (g + 13, 2, 0) :: (g + 13, 1, 0) :: UG g
theorem grp_step {n g : Nat} (f : Nat) (x2 : Int32) (hg : g < n) (hn : n ≤ 3) (h : fchk (SG g) (LG g) (g + 13) = true) (h2 : (LG g).all (fun e => e.1 != g + 13) = true) (h3 : (UG g).all (fun e => e.1 != g + 13) = true) (k1 : tk (SG g) 1 = 13) (k2 : tr (LG g) 1 0 = 2) (k3 : tk (SG g) 2 = 10) (k4 : tk (NG n g) 2 = n) : fX4_init_108 (f + 1) (tk (SG g)) (tk (NG n g)) (tu (UG g)) (tr (LG g)) x2 (nI n) (nI g) = fX4_init_108 f (tk (SG (g + 1))) (tk (NG n (g + 1))) (tu (UG (g + 1))) (tr (LG (g + 1))) x2 (nI n) (nI (g + 1)) := by
  rw [fX4_init_108.eq_2, if_neg (nI_ge hg (by omega)), toNat_nI (by omega), k2, wGd_t k1, wGd_t k3, wGd_t (fr_tab h)]
  simp only [wLt]
  rw [tu_new h3, tr_new h2, tk_up, tk_up]
  unfold fX1_init
  simp only [wLt, wB2]
  rw [tu_up, tu_up, tu_up, tu_up, tu_up, tr_up, tr_up, wGd_t (show tk ((g + 13, 2) :: SG g) 2 = 10 by rw [tk, if_neg (by omega)]; exact k3), show tk ((g + 13, 0) :: NG n g) 2 = n by rw [tk, if_neg (by omega)]; exact k4, wGd_t (vp_in_nI hg (by omega)), nI_1]
  rfl
theorem grp_chk : ∀ g, g < 3 → fchk (SG g) (LG g) (g + 13) = true ∧ (LG g).all (fun e => e.1 != g + 13) = true ∧ tk (SG g) 1 = 13 ∧ tr (LG g) 1 0 = 2 ∧ tk (SG g) 2 = 10 := by decide +kernel
theorem grp_chk2 : ∀ g, g < 3 → (UG g).all (fun e => e.1 != g + 13) = true := by decide +kernel
theorem grp_chk3 : ∀ n, n ≤ 3 → ∀ g, g < 4 → tk (NG n g) 2 = n := by decide +kernel
theorem grp_lp {n : Nat} (hn : n ≤ 3) (x2 : Int32) : ∀ (d g f : Nat), g + d = n → d < f → fX4_init_108 f (tk (SG g)) (tk (NG n g)) (tu (UG g)) (tr (LG g)) x2 (nI n) (nI g) = some (tk (SG n), tk (NG n n), tu (UG n), tr (LG n)) := by
  intro d
  induction d with
  | zero =>
    intro g f h hf
    obtain ⟨f, rfl⟩ : ∃ q, f = q + 1 := ⟨f - 1, by omega⟩
    have e : g = n := by omega
    subst e
    rw [fX4_init_108.eq_2, if_pos (nI_le (by omega) (by omega))]
  | succ d ih =>
    intro g f h hf
    obtain ⟨f, rfl⟩ : ∃ q, f = q + 1 := ⟨f - 1, by omega⟩
    obtain ⟨a, b, c, e, k⟩ := grp_chk g (by omega)
    rw [grp_step f x2 (by omega) hn a b (grp_chk2 g (by omega)) c e k (grp_chk3 n hn g (by omega))]
    exact ih (g + 1) f (by omega) (by omega)
def SPn (n : Nat) : List (Nat × Nat) := (12, 7) :: (11, 8) :: (10, 7) :: (9, 7) :: (8, 9) :: (7, 12) :: SG n
def NPn (n : Nat) : List (Nat × Nat) := (12, n) :: (11, 5) :: (10, 5) :: (9, 5) :: (8, 5) :: (7, 0) :: NG n n
def LPn (n : Nat) : List (Nat × Nat × Nat) := (7, 4, 12) :: (7, 3, 11) :: (7, 2, 10) :: (7, 1, 9) :: (7, 0, 8) :: LG n
def UPn (n : Nat) : List (Nat × Nat × Int32) := (7, 6, 0) :: (7, 5, 0) :: UG n
theorem pl_chk : ∀ n, n < 4 → fchk (SG n) (LG n) 7 = true ∧ (LG n).all (fun e => e.1 != 7) = true ∧ fchk ((7, 12) :: SG n) (LG n) 8 = true ∧ fchk ((8, 9) :: (7, 12) :: SG n) ((7, 0, 8) :: LG n) 9 = true ∧ fchk ((9, 7) :: (8, 9) :: (7, 12) :: SG n) ((7, 1, 9) :: (7, 0, 8) :: LG n) 10 = true ∧ fchk ((10, 7) :: (9, 7) :: (8, 9) :: (7, 12) :: SG n) ((7, 2, 10) :: (7, 1, 9) :: (7, 0, 8) :: LG n) 11 = true ∧ fchk ((11, 8) :: (10, 7) :: (9, 7) :: (8, 9) :: (7, 12) :: SG n) ((7, 3, 11) :: (7, 2, 10) :: (7, 1, 9) :: (7, 0, 8) :: LG n) 12 = true := by decide +kernel
theorem pl_chk2 : ∀ n, n < 4 → ∀ r, r < 13 → 7 ≤ r → (LG n).all (fun e => e.1 != r) = true ∧ (UG n).all (fun e => e.1 != r) = true := by decide +kernel
theorem all_c {α : Type} {p : α → Bool} {x : α} {L : List α} (h1 : p x = true) (h : L.all p = true) : (x :: L).all p = true := by rw [List.all_cons, h1, h]; rfl
theorem init_p {n : Nat} (hn : n < 4) : fX2_init (tk ((7, 12) :: SG n)) (tk ((7, 0) :: NG n n)) (tu (UG n)) (tr (LG n)) (nI n) = some (tk (SPn n), tk (NPn n), tu (UPn n), tr (LPn n)) := by
  obtain ⟨c1, c2, c3, c4, c5, c6, c7⟩ := pl_chk n hn
  have q := pl_chk2 n hn
  unfold fX2_init
  refine gT rfl ?_
  refine (alT 8 9 _ 0 c3 (q 8 (by decide) (by decide)).1 (q 8 (by decide) (by decide)).2 rfl _).trans ?_
  refine (alT 9 7 _ 1 c4 (all_c rfl (q 9 (by decide) (by decide)).1) (q 9 (by decide) (by decide)).2 rfl _).trans ?_
  refine (alT 10 7 _ 2 c5 (all_c rfl (all_c rfl (q 10 (by decide) (by decide)).1)) (q 10 (by decide) (by decide)).2 rfl _).trans ?_
  refine (alT 11 8 _ 3 c6 (all_c rfl (all_c rfl (all_c rfl (q 11 (by decide) (by decide)).1))) (q 11 (by decide) (by decide)).2 rfl _).trans ?_
  refine (uT 7 5 0 _).trans ?_
  refine (uT 7 6 0 _).trans ?_
  refine gT (vp_in_nI hn (by decide)) ?_
  refine (alT 12 7 _ 4 c7 (all_c rfl (all_c rfl (all_c rfl (all_c rfl (q 12 (by decide) (by decide)).1)))) (all_c rfl (all_c rfl (q 12 (by decide) (by decide)).2)) rfl _).trans ?_
  rw [toNat_nI (by omega)]
  rfl
theorem init_c (a1 a2 : Int32) : fX4_init (tk [(1, 13)]) (tk [(1, 0)]) (tu []) (tr []) a1 a2 = some (tk (SPn (ngOf a1)), tk (NPn (ngOf a1)), tu ((1, 10, lmOf a2) :: UPn (ngOf a1)), tr ((1, 7, 7) :: LPn (ngOf a1))) := by
  have hn : ngOf a1 < 4 := by have := (ng_ok a1).1; omega
  unfold fX4_init
  refine gT rfl ?_
  refine (alT 3 11 _ 1 rfl rfl rfl rfl _).trans ?_
  refine (uT 1 2 0 _).trans ?_
  refine (alT 4 9 _ 3 rfl rfl rfl rfl _).trans ?_
  refine (uT 1 4 0 _).trans ?_
  refine (alT 5 7 _ 5 rfl rfl rfl rfl _).trans ?_
  refine (alT 6 7 _ 6 rfl rfl rfl rfl _).trans ?_
  refine (vT 1 8 0 _).trans ?_
  refine (vT 1 9 0 _).trans ?_
  refine (uT 1 11 900 _).trans ?_
  refine (uT 1 12 0 _).trans ?_
  refine (uT 1 13 50 _).trans ?_
  refine (uT 1 14 0 _).trans ?_
  refine (uT 1 15 0 _).trans ?_
  refine (uT 1 16 0 _).trans ?_
  rw [(ng_ok a1).2.1]
  refine gT (vp_in_nI (by omega) (by decide)) ?_
  refine (alT 2 10 _ 0 rfl rfl rfl rfl _).trans ?_
  have g := grp_lp (n := ngOf a1) (by omega) a2 (ngOf a1) 0 4 (by omega) (by omega)
  rw [nI_0] at g
  have g' : fX4_init_108 4 (tk SC0) (tk (NC0 (ngOf a1))) (tu UC0) (tr LC0) a2 (nI (ngOf a1)) 0 = _ := g
  unfold SC0 NC0 UC0 LC0 at g'
  rw [g']
  simp only [wB4]
  obtain ⟨c1, c2, c3, c4, c5, c6, c7⟩ := pl_chk (ngOf a1) hn
  have k1 : tk (SG (ngOf a1)) 1 = 13 := by
    rcases (ng_ok a1).1 with e | e | e <;> rw [e] <;> rfl
  rw [wGd_t k1, wGd_t (fr_tab c1)]
  simp only [wLt]
  rw [tk_up, tk_up, tu_new (pl_chk2 _ hn 7 (by decide) (by decide)).2, tr_new (pl_chk2 _ hn 7 (by decide) (by decide)).1, wGd_t (show tk ((7, 12) :: SG (ngOf a1)) 1 = 13 from k1), init_p hn]
  simp only
  rw [wGd_t (show tk (SPn (ngOf a1)) 1 = 13 from k1), tr_up, (lm_ok a2).2]
  simp only [wBd]
  rw [tu_up]
