/-! The heap seen by roles: a role c stands for a cell at loc c; sh c its kind (0: none), ln c its length, iv c its ints, rv c its references (roles; 0: null) -/
abbrev wI : Type := Nat → Nat → Int32
abbrev wJ : Type := Nat → Nat → Nat
def wU (f : wI) (c j : Nat) (x : Int32) : wI := va_up f c (va_up (f c) j x)
def wV (f : wJ) (c j : Nat) (x : Nat) : wJ := va_up f c (va_up (f c) j x)
def wO (loc : Nat → Nat) (c : Nat) : Option Nat := if c = 0 then none else some (loc c)
def wR (loc : Nat → Nat) (c : Nat) : Value := if c = 0 then .null else .ref (loc c)
theorem wR_rf (loc : Nat → Nat) (c : Nat) : va_rf (wO loc c) = wR loc c := by unfold wO wR; split <;> rfl
theorem wR_ref {loc : Nat → Nat} {c : Nat} (h : c ≠ 0) : wR loc c = .ref (loc c) := if_neg h
theorem wR_cat (loc : Nat → Nat) (c : Nat) : (wR loc c).category = 1 := by unfold wR; split <;> rfl
theorem wR_or (loc : Nat → Nat) (c : Nat) : wR loc c = .null ∨ ∃ a, wR loc c = .ref a := by
  unfold wR
  split
  · exact Or.inl rfl
  · exact Or.inr ⟨_, rfl⟩
/-- what a cell of a kind holds: 1 Cup, 2 Group, 3 Planner, 4 Recipe, 5 CupByCup, 6 the model (their final arrays stand at fixed roles), 12 to 14 the last three while they are made -/
def wF (k : Nat) (loc : Nat → Nat) (i : Nat → Int32) (r : Nat → Nat) : List Value := match k with
  | 1 => [.int (i 0), wR loc (r 1), .int (i 2), .int (i 3), .int (i 4), .int (i 5), .int (i 6), .int (i 7), .int (i 8), .int (i 9), wR loc (r 10)]
  | 2 => [.int (i 0), .int (i 1), .int (i 2), .int (i 3), .int (i 4), wR loc (r 5)]
  | 3 => [wR loc 8, wR loc 9, wR loc 10, wR loc 11, wR loc 12, .int (i 5), .int (i 6)]
  | 4 => [.int (i 0), .int (i 1), .int (i 2), .int (i 3), .int (i 4), .int (i 5)]
  | 5 => [wR loc 2, wR loc 3, .int (i 2), wR loc 4, .int (i 4), wR loc 5, wR loc 6, wR loc 7, wR loc (r 8), wR loc (r 9), .int (i 10), .int (i 11), .int (i 12), .int (i 13), .int (i 14), .int (i 15), .int (i 16)]
  | 6 => [.int (i 0), .int (i 1), .int (i 2), .int (i 3), .int (i 4), wR loc 15, wR loc 16, wR loc 17, .int (i 8), wR loc 19, wR loc 20, wR loc 21, wR loc 22, wR loc 23, wR loc 24, wR loc 25, wR loc 26, wR loc 27, wR loc 28, wR loc 29, wR loc 30, wR loc 31, wR loc 32, .int (i 23), .int (i 24), .int (i 25), wR loc 36, wR loc 37, wR loc 38, wR loc 39, .int (i 30)]
  | 12 => [wR loc (r 0), wR loc (r 1), wR loc (r 2), wR loc (r 3), wR loc (r 4), .int (i 5), .int (i 6)]
  | 13 => [wR loc (r 0), wR loc (r 1), .int (i 2), wR loc (r 3), .int (i 4), wR loc (r 5), wR loc (r 6), wR loc (r 7), wR loc (r 8), wR loc (r 9), .int (i 10), .int (i 11), .int (i 12), .int (i 13), .int (i 14), .int (i 15), .int (i 16)]
  | 14 => [.int (i 0), .int (i 1), .int (i 2), .int (i 3), .int (i 4), wR loc (r 5), wR loc (r 6), wR loc (r 7), .int (i 8), wR loc (r 9), wR loc (r 10), wR loc (r 11), wR loc (r 12), wR loc (r 13), wR loc (r 14), wR loc (r 15), wR loc (r 16), wR loc (r 17), wR loc (r 18), wR loc (r 19), wR loc (r 20), wR loc (r 21), wR loc (r 22), .int (i 23), .int (i 24), .int (i 25), wR loc (r 26), wR loc (r 27), wR loc (r 28), wR loc (r 29), .int (i 30)]
  | _ => []
def wE (K : Nat → ClassId) (loc : Nat → Nat) (k n : Nat) (i : Nat → Int32) (r : Nat → Nat) : va_E := match k with
  | 1 => .inr (0, wF 1 loc i r)
  | 2 => .inr (1, wF 2 loc i r)
  | 3 => .inr (2, wF 3 loc i r)
  | 4 => .inr (3, wF 4 loc i r)
  | 5 => .inr (4, wF 5 loc i r)
  | 6 => .inr (5, wF 6 loc i r)
  | 7 => .inl (K 0, n, .inl i)
  | 8 => .inl (K 1, n, .inl i)
  | 9 => .inl (K 2, n, .inr (.inr (.inr (.inr (fun j => wO loc (r j))))))
  | 10 => .inl (K 3, n, .inr (.inr (.inr (.inr (fun j => wO loc (r j))))))
  | 11 => .inl (K 4, n, .inr (.inr (.inr (.inr (fun j => wO loc (r j))))))
  | 12 => .inr (2, wF 12 loc i r)
  | 13 => .inr (4, wF 13 loc i r)
  | 14 => .inr (5, wF 14 loc i r)
  | _ => .inr (0, [])
abbrev wT (K : Nat → ClassId) : List (ClassId × FieldType) := [(K 0, .int), (K 1, .boolean), (K 2, .object RX0), (K 3, .object RX1), (K 4, .object RX3)]
def wH (D : va_G) (K : Nat → ClassId) (loc : Nat → Nat) (sh ln : Nat → Nat) (iv : wI) (rv : wJ) (H : Heap) : Prop :=
  sh 0 = 0 ∧ (∀ a b, sh a ≠ 0 → sh b ≠ 0 → loc a = loc b → a = b) ∧ ∀ c, sh c ≠ 0 → va_at D vwCl (loc c, wE K loc (sh c) (ln c) (iv c) (rv c)) H
theorem wH.nz {D : va_G} {K : Nat → ClassId} {loc : Nat → Nat} {sh ln : Nat → Nat} {iv : wI} {rv : wJ} {H : Heap} (h : wH D K loc sh ln iv rv H) {c k : Nat} (hc : sh c = k) (hk : k ≠ 0) : c ≠ 0 := fun e => hk (by rw [← hc, e]; exact h.1)
theorem wH.one {D : va_G} {K : Nat → ClassId} {loc : Nat → Nat} {sh ln : Nat → Nat} {iv : wI} {rv : wJ} {H : Heap} (h : wH D K loc sh ln iv rv H) {c k : Nat} {E : va_E} (hc : sh c = k) (hk : k ≠ 0) (hE : wE K loc k (ln c) (iv c) (rv c) = E) : va_P D vwCl [(loc c, E)] H := by
  intro j q hq
  match j, hq with
  | 0, hq =>
    cases hq
    have := h.2.2 c (by rw [hc]; exact hk)
    rw [hc, hE] at this
    exact this
  | j + 1, hq => simp at hq
/-- one cell changes -/
theorem wH.put {D : va_G} {K : Nat → ClassId} {loc : Nat → Nat} {sh ln : Nat → Nat} {iv iv' : wI} {rv rv' : wJ} {H H1 : Heap} (h : wH D K loc sh ln iv rv H) {c k : Nat} {E : va_E} (hc : sh c = k) (hk : k ≠ 0) (hE : wE K loc k (ln c) (iv' c) (rv' c) = E) (hi : ∀ a, a ≠ c → iv' a = iv a) (hr : ∀ a, a ≠ c → rv' a = rv a) (he : va_at D vwCl (loc c, E) H1) (oq : ∀ q : Nat, q ≠ loc c → H1[q]? = H[q]?) : wH D K loc sh ln iv' rv' H1 := by
  refine ⟨h.1, h.2.1, fun a ha => ?_⟩
  by_cases hac : a = c
  · subst hac
    rw [hc, hE]
    exact he
  · rw [hi a hac, hr a hac]
    exact (h.2.2 a ha).kept (oq _ (fun e => hac (h.2.1 a c ha (by rw [hc]; exact hk) e)))
theorem wU_ne {f : wI} {c j : Nat} {x : Int32} (a : Nat) (h : a ≠ c) : wU f c j x a = f a := by simp [wU, va_up, h]
theorem wV_ne {f : wJ} {c j : Nat} {x : Nat} (a : Nat) (h : a ≠ c) : wV f c j x a = f a := by simp [wV, va_up, h]
theorem wU_self {f : wI} {c j : Nat} {x : Int32} : wU f c j x c = va_up (f c) j x := by simp [wU, va_up]
theorem wV_self {f : wJ} {c j : Nat} {x : Nat} : wV f c j x c = va_up (f c) j x := by simp [wV, va_up]
/-- pure steps of the functions -/
noncomputable def wGd {α : Type} (p : Prop) (x : Option α) : Option α := @ite _ p (Classical.propDecidable p) x none
theorem wGd_e {α : Type} {p : Prop} {x : Option α} {z : α} (h : wGd p x = some z) : p ∧ x = some z := by
  unfold wGd at h
  split at h
  · rename_i hp; exact ⟨hp, h⟩
  · cases h
theorem wGd_t {α : Type} {p : Prop} {x : Option α} (h : p) : wGd p x = x := by unfold wGd; exact if_pos h
def wLt {α β : Type} (v : α) (k : α → Option β) : Option β := k v
theorem wLt_e {α β : Type} {v : α} {k : α → Option β} {z : Option β} (h : wLt v k = z) : ∃ x, x = v ∧ k x = z := ⟨v, rfl, h⟩
def wBd {α β : Type} (v : Option α) (k : α → Option β) : Option β := match v with
  | none => none
  | some x => k x
theorem wBd_e {α β : Type} {v : Option α} {k : α → Option β} {z : β} (h : wBd v k = some z) : ∃ x, v = some x ∧ k x = some z := by
  cases v with
  | none => cases h
  | some x => exact ⟨x, rfl, h⟩
theorem wBd_s {α β : Type} {x : α} {k : α → Option β} : wBd (some x) k = k x := rfl
theorem wIt {α : Type} {c : Prop} {i : Decidable c} {x y z : α} (hc : c) (h : @ite _ c i x y = z) : x = z := by rw [if_pos hc] at h; exact h
theorem wIf {α : Type} {c : Prop} {i : Decidable c} {x y z : α} (hc : ¬ c) (h : @ite _ c i x y = z) : y = z := by rw [if_neg hc] at h; exact h
def wN : Nat := 1000
def wB2 {α β γ : Type} (v : Option (α × β)) (k : α → β → Option γ) : Option γ := match v with
  | none => none
  | some (x, y) => k x y
theorem wB2_e {α β γ : Type} {v : Option (α × β)} {k : α → β → Option γ} {z : γ} (h : wB2 v k = some z) : ∃ x y, v = some (x, y) ∧ k x y = some z := by
  cases v with
  | none => cases h
  | some x => exact ⟨x.1, x.2, rfl, h⟩
def wB3 {α β γ δ : Type} (v : Option (α × β × γ)) (k : α → β → γ → Option δ) : Option δ := match v with
  | none => none
  | some (x, y, w) => k x y w
theorem wB3_e {α β γ δ : Type} {v : Option (α × β × γ)} {k : α → β → γ → Option δ} {z : δ} (h : wB3 v k = some z) : ∃ x y w, v = some (x, y, w) ∧ k x y w = some z := by
  cases v with
  | none => cases h
  | some x => exact ⟨x.1, x.2.1, x.2.2, rfl, h⟩
def wB4 {α β γ δ ε : Type} (v : Option (α × β × γ × δ)) (k : α → β → γ → δ → Option ε) : Option ε := match v with
  | none => none
  | some (x, y, w, u) => k x y w u
theorem wB4_e {α β γ δ ε : Type} {v : Option (α × β × γ × δ)} {k : α → β → γ → δ → Option ε} {z : ε} (h : wB4 v k = some z) : ∃ x y w u, v = some (x, y, w, u) ∧ k x y w u = some z := by
  cases v with
  | none => cases h
  | some x => exact ⟨x.1, x.2.1, x.2.2.1, x.2.2.2, rfl, h⟩
def wB5 {α β γ δ ε ζ : Type} (v : Option (α × β × γ × δ × ε)) (k : α → β → γ → δ → ε → Option ζ) : Option ζ := match v with
  | none => none
  | some (x, y, w, u, t) => k x y w u t
theorem wB5_e {α β γ δ ε ζ : Type} {v : Option (α × β × γ × δ × ε)} {k : α → β → γ → δ → ε → Option ζ} {z : ζ} (h : wB5 v k = some z) : ∃ x y w u t, v = some (x, y, w, u, t) ∧ k x y w u t = some z := by
  cases v with
  | none => cases h
  | some x => exact ⟨x.1, x.2.1, x.2.2.1, x.2.2.2.1, x.2.2.2.2, rfl, h⟩
theorem wR_nar (ty : FieldType) (loc : Nat → Nat) (c : Nat) : narrow ty (wR loc c) = wR loc c := by unfold wR; split <;> cases ty <;> rfl
theorem wR_fit (C : String) (loc : Nat → Nat) (c : Nat) : fits (.object C) (wR loc c) = true := by unfold wR; split <;> rfl
theorem wR_fitA (t : FieldType) (loc : Nat → Nat) (c : Nat) : fits (.array t) (wR loc c) = true := by unfold wR; split <;> rfl
/-- entry -/
def wIx : Nat → List Value → List (Nat × Value)
  | _, [] => []
  | i, v :: vs => (i, v) :: wIx (i + 1) vs
theorem wIx_eq : ∀ (vs : List Value) (i : Nat), (∀ v ∈ vs, v.category = 1) → lv_args i vs = wIx i vs
  | [], _, _ => rfl
  | v :: vs, i, h => by
    have h1 : v.category = 1 := h v List.mem_cons_self
    show (i, v) :: lv_args (if v.category = 2 then i + 2 else i + 1) vs = _
    rw [h1, if_neg (by decide), wIx_eq vs (i + 1) (fun w hw => h w (List.mem_cons_of_mem _ hw))]
    rfl
theorem wSl_len : ∀ (vs : List Value), (∀ v ∈ vs, v.category = 1) → (lg_sl vs).length = vs.length
  | [], _ => rfl
  | v :: vs, h => by
    have h1 : v.category = 1 := h v List.mem_cons_self
    have h2 := wSl_len vs (fun w hw => h w (List.mem_cons_of_mem _ hw))
    show ((if v.category = 2 then [Slot.val v, Slot.second] else [Slot.val v]) ++ lg_sl vs).length = _
    rw [h1, if_neg (by decide)]
    simp [h2]
theorem wEntry (m : MethodId) (vs : List Value) (n : Nat) (hc : ∀ v ∈ vs, v.category = 1) (hn : vs.length ≤ n) : ∃ ls, entryFrame m vs.toArray n = F0 m 0 ls [] ∧ lv_has ls n (wIx 0 vs) := by
  refine ⟨_, lg_entry_eq m vs n, ?_⟩
  rw [← wIx_eq vs 0 hc]
  exact lv_entry vs (by rw [wSl_len vs hc]; exact hn)
section WROW
variable {p : Program} {l : Launch} {e : Env} {R : Room} {s : State} {m : MethodId} {args : Array Value} {below : List Frame} {meth : Method} {c : Code} {H : Heap} {locs : List Loc} {cells slots : Nat} {Q : State → Prop}
variable {cc : ByteArray} {pc : Nat} {ls : Array Slot} {rest : List Value} {D : va_G} {A : Nat → Prop} {tys : List (ClassId × FieldType)} {H0 : Heap}
variable {K : Nat → ClassId} {loc sh ln : Nat → Nat} {iv : wI} {rv : wJ}
theorem wInt {x y : Int32} (e1 : y = x) (k : W p l e R s m args below meth c H locs cells slots Q (F0 m pc ls (.int y :: rest))) : W p l e R s m args below meth c H locs cells slots Q (F0 m pc ls (.int x :: rest)) := e1 ▸ k
theorem wg (hexec : p.tables.exec = Jvm.exec) (hb : c.code = cc) {own C : String} {T : u_T} {N ci index : Nat} {Ts : List Cond} (hts : ∀ w ∈ Ts, w.before args s = true) (hin : ∀ w ∈ u_ws C T N, w ∈ Ts) (hown : s.vm.findClass own = some m.cls) (hK : va_K D vwCl tys s) (hH : wH D K loc sh ln iv rv H) {q kd : Nat} (hq : sh q = kd) (hk : kd ≠ 0) {fs : List Value} (hE : wE K loc kd (ln q) (iv q) (rv q) = .inr (ci, fs)) (hc : vwCl[ci]? = some (C, T, N)) (j : Nat) (hj : j < N) (hlink : (Cond.fieldLink own index (T j).1 (T j).2.1 (T j).2.2.1).before args s = true) {v : Value} (hv : fs[j]? = some v) (hdg : decode cc pc = .ok (.getfield index, 3))
    (kk : W p l e R s m args below meth c H locs cells slots Q (F0 m (pc + 3) ls (v :: rest))) : W p l e R s m args below meth c H locs cells slots Q (F0 m pc ls (wR loc q :: rest)) := by
  rw [wR_ref (hH.nz hq hk)]
  exact va_get hexec hb hts hin hown hK (hH.one hq hk hE) 0 rfl hc j hj hlink (fun _ h => h) hv hdg kk
theorem wp (hexec : p.tables.exec = Jvm.exec) (hb : c.code = cc) {own C : String} {T : u_T} {N ci index : Nat} {Ts : List Cond} (hts : ∀ w ∈ Ts, w.before args s = true) (hin : ∀ w ∈ u_ws C T N, w ∈ Ts) (ty0 : Nat → FieldType) (hty : ∀ k, k < N → parseFieldDescriptor (T k).2.2.1 = some (ty0 k)) (hnm : ∀ a, a < N → ∀ b, b < N → a ≠ b → (T a).2.1 ≠ (T b).2.1) (hown : s.vm.findClass own = some m.cls) (hK : va_K D vwCl tys s) (hH : wH D K loc sh ln iv rv H) (hO : ∀ a, sh a ≠ 0 → A (loc a)) (hS0 : va_S A H0 H locs) {q kd : Nat} (hq : sh q = kd) (hk : kd ≠ 0) {fs : List Value} (hE : wE K loc kd (ln q) (iv q) (rv q) = .inr (ci, fs)) (hc : vwCl[ci]? = some (C, T, N)) (j : Nat) (hj : j < N) (hlink : (Cond.fieldLink own index (T j).1 (T j).2.1 (T j).2.2.1).before args s = true) (hfin : (T j).2.2.2 = false) {ty : FieldType} {v : Value} (hd : parseFieldDescriptor (T j).2.2.1 = some ty) (hn : narrow ty v = v) (hfit : fits ty v = true) (hl : j < fs.length) {iv' : wI} {rv' : wJ} (hE' : wE K loc kd (ln q) (iv' q) (rv' q) = .inr (ci, fs.set j v)) (hi : ∀ a, a ≠ q → iv' a = iv a) (hr : ∀ a, a ≠ q → rv' a = rv a)
    (hdg : decode cc pc = .ok (.putfield index, 3)) (kk : ∀ (H : Heap) (locs : List Loc), wH D K loc sh ln iv' rv' H → va_S A H0 H locs → W p l e R s m args below meth c H locs cells slots Q (F0 m (pc + 3) ls rest)) : W p l e R s m args below meth c H locs cells slots Q (F0 m pc ls (v :: wR loc q :: rest)) := by
  rw [wR_ref (hH.nz hq hk)]
  have hap := va_apart (own := own) hts hin ty0 hty hnm hK hc
  obtain ⟨r, h1, cell, q1, q2, q3, q4⟩ := (hH.one hq hk hE) 0 _ rfl
  have hr' : r = (C, T, N) := Option.some.inj (h1.symm.trans hc)
  subst hr'
  obtain ⟨hS, hfc, kC, hkC, hkind⟩ := hK.1 ci _ hc
  obtain ⟨cf, kf, fi, f, hi', hsl⟩ := hS j hj
  have hlay := hts _ (hin _ (u_in_lay hj))
  unfold u_lay at hlay
  rw [if_neg (by rw [hfin]; decide)] at hlay
  have hst := (u_facts hfc hkC (u_lays hts hin hj) hi').1
  have h6 := u_store hfc hkC hkind hlay hi' hd hn hfit
  refine W.putK hexec hb (f := f) ⟨hown, hlink, ⟨_, _, _, hi'⟩, hst⟩ (by rw [q2]; exact h6) q1 q3 (by rw [hsl]; exact k2_hasslot (q4 j hj)) rfl rfl hdg fun H' e1 e2 e3 => ?_
  rw [hsl] at e1 ⊢
  exact kk H' _ (hH.put hq hk hE' hi hr ⟨_, hc, t_OB.to (V := updV (vp_V fs) j v) ⟨_, e1, q2, q3, t_set q4 hap hj v⟩ (fun j _ => vp_updV_set hl v j)⟩ e3) (hS0.put e2 e3 (hO q (by rw [hq]; exact hk)))
theorem wpF (hexec : p.tables.exec = Jvm.exec) (hb : c.code = cc) {own C : String} {T : u_T} {N ci index : Nat} {Ts : List Cond} (hts : ∀ w ∈ Ts, w.before args s = true) (hin : ∀ w ∈ u_ws C T N, w ∈ Ts) (ty0 : Nat → FieldType) (hty : ∀ k, k < N → parseFieldDescriptor (T k).2.2.1 = some (ty0 k)) (hnm : ∀ a, a < N → ∀ b, b < N → a ≠ b → (T a).2.1 ≠ (T b).2.1) (hown : s.vm.findClass own = some m.cls) (hK : va_K D vwCl tys s) (hH : wH D K loc sh ln iv rv H) (hO : ∀ a, sh a ≠ 0 → A (loc a)) (hS0 : va_S A H0 H locs) {q kd : Nat} (hq : sh q = kd) (hk : kd ≠ 0) {fs : List Value} (hE : wE K loc kd (ln q) (iv q) (rv q) = .inr (ci, fs)) (hc : vwCl[ci]? = some (C, T, N)) (j : Nat) (hj : j < N) (hlink : (Cond.fieldLink own index (T j).1 (T j).2.1 (T j).2.2.1).before args s = true) (hfin : (T j).2.2.2 = true) (hin2 : meth.name = "<init>") (hdecl : (T j).1 = own) {ty : FieldType} {v : Value} (hd : parseFieldDescriptor (T j).2.2.1 = some ty) (hn : narrow ty v = v) (hfit : fits ty v = true) (hl : j < fs.length) {iv' : wI} {rv' : wJ} (hE' : wE K loc kd (ln q) (iv' q) (rv' q) = .inr (ci, fs.set j v)) (hi : ∀ a, a ≠ q → iv' a = iv a) (hr : ∀ a, a ≠ q → rv' a = rv a)
    (hdg : decode cc pc = .ok (.putfield index, 3)) (kk : ∀ (H : Heap) (locs : List Loc), wH D K loc sh ln iv' rv' H → va_S A H0 H locs → W p l e R s m args below meth c H locs cells slots Q (F0 m (pc + 3) ls rest)) : W p l e R s m args below meth c H locs cells slots Q (F0 m pc ls (v :: wR loc q :: rest)) := by
  rw [wR_ref (hH.nz hq hk)]
  have hap := va_apart (own := own) hts hin ty0 hty hnm hK hc
  obtain ⟨r, h1, cell, q1, q2, q3, q4⟩ := (hH.one hq hk hE) 0 _ rfl
  have hr' : r = (C, T, N) := Option.some.inj (h1.symm.trans hc)
  subst hr'
  obtain ⟨hS, hfc, kC, hkC, hkind⟩ := hK.1 ci _ hc
  obtain ⟨cf, kf, fi, f, hi', hsl⟩ := hS j hj
  have hlay := hts _ (hin _ (u_in_lay hj))
  unfold u_lay at hlay
  rw [if_pos hfin] at hlay
  have hst := (u_facts hfc hkC (u_lays hts hin hj) hi').1
  have hcf : m.cls = cf := by
    obtain ⟨_, _, c', _, _, _, -, -, hf', -, -, -, hown2, -⟩ := Cond.laysFinal_spec hlay
    have e1 : c' = cf := by have := hi'.symm.trans hf'; simp at this; exact this.1.symm
    rw [hdecl] at hown2
    rw [← e1]; exact Option.some.inj (hown.symm.trans hown2)
  have h6 := u_fits hfc hkC hkind (Or.inr hlay) hi' hd hn hfit
  refine W.putFinK hexec hb hown hlink hi' hst hcf hin2 (by rw [q2]; exact h6) q1 q3 (by rw [hsl]; exact k2_hasslot (q4 j hj)) rfl rfl hdg fun H' e1 e2 e3 => ?_
  rw [hsl] at e1 ⊢
  exact kk H' _ (hH.put hq hk hE' hi hr ⟨_, hc, t_OB.to (V := updV (vp_V fs) j v) ⟨_, e1, q2, q3, t_set q4 hap hj v⟩ (fun j _ => vp_updV_set hl v j)⟩ e3) (hS0.put e2 e3 (hO q (by rw [hq]; exact hk)))
theorem wia (hexec : p.tables.exec = Jvm.exec) (hb : c.code = cc) (hK : va_K D vwCl (wT K) s) (hH : wH D K loc sh ln iv rv H) {a n : Nat} (ha : sh a = 7) (hn : ln a = n) {i : Int32} (hin : vp_in i n) (hdg : decode cc pc = .ok (.iaload, 1))
    (kk : W p l e R s m args below meth c H locs cells slots Q (F0 m (pc + 1) ls (.int (iv a i.toNatClampNeg) :: rest))) : W p l e R s m args below meth c H locs cells slots Q (F0 m pc ls (.int i :: wR loc a :: rest)) := by
  rw [wR_ref (hH.nz ha (by decide))]
  exact va_iald hexec hb hK (hH.one ha (by decide) rfl) 0 0 rfl rfl (by rw [hn]; exact hin) hdg kk
theorem wza (hexec : p.tables.exec = Jvm.exec) (hb : c.code = cc) (hK : va_K D vwCl (wT K) s) (hH : wH D K loc sh ln iv rv H) {a n : Nat} (ha : sh a = 8) (hn : ln a = n) {i : Int32} (hin : vp_in i n) (hdg : decode cc pc = .ok (.baload, 1))
    (kk : W p l e R s m args below meth c H locs cells slots Q (F0 m (pc + 1) ls (.int (iv a i.toNatClampNeg) :: rest))) : W p l e R s m args below meth c H locs cells slots Q (F0 m pc ls (.int i :: wR loc a :: rest)) := by
  rw [wR_ref (hH.nz ha (by decide))]
  exact va_zald hexec hb hK (hH.one ha (by decide) rfl) 0 1 rfl rfl (by rw [hn]; exact hin) hdg kk
theorem wis (hexec : p.tables.exec = Jvm.exec) (hb : c.code = cc) (hK : va_K D vwCl (wT K) s) (hH : wH D K loc sh ln iv rv H) (hO : ∀ a, sh a ≠ 0 → A (loc a)) (hS : va_S A H0 H locs) {a n : Nat} (ha : sh a = 7) (hn : ln a = n) {i x : Int32} (hin : vp_in i n) (hdg : decode cc pc = .ok (.iastore, 1))
    (kk : ∀ (H : Heap) (locs : List Loc), wH D K loc sh ln (wU iv a i.toNatClampNeg x) rv H → va_S A H0 H locs → W p l e R s m args below meth c H locs cells slots Q (F0 m (pc + 1) ls rest)) : W p l e R s m args below meth c H locs cells slots Q (F0 m pc ls (.int x :: .int i :: wR loc a :: rest)) := by
  rw [wR_ref (hH.nz ha (by decide))]
  have h1 : H[loc a]? = some (vp_cell (K 0) (ln a, .inl (iv a))) := (hH.one ha (by decide) rfl) 0 _ rfl
  refine W.iast hexec hb h1 ((hK.2 0 _ rfl).1 (ln a) (fun j => .int (iv a j))) (fun q => by cases q) (by show ¬ (i < 0 ∨ (arrV _ _ _).slots.size ≤ _); rw [arrV_size, hn]; exact hin) rfl rfl hdg fun H1 e z oq => ?_
  refine kk H1 _ (hH.put ha (by decide) rfl (fun b hb => wU_ne b hb) (fun _ _ => rfl) ?_ oq) (hS.put z oq (hO a (by rw [ha]; decide)))
  show H1[loc a]? = some (vp_cell _ _)
  rw [e, wU_self, vp_cell_i, vp_cell_i, arrV_store]
  congr 2
  funext q
  by_cases hq : q = i.toNatClampNeg
  · subst hq; simp [updV, va_up]
  · simp [updV, va_up, hq]
theorem wzs (hexec : p.tables.exec = Jvm.exec) (hb : c.code = cc) (hK : va_K D vwCl (wT K) s) (hH : wH D K loc sh ln iv rv H) (hO : ∀ a, sh a ≠ 0 → A (loc a)) (hS : va_S A H0 H locs) {a n : Nat} (ha : sh a = 8) (hn : ln a = n) {i x : Int32} (hin : vp_in i n) (hdg : decode cc pc = .ok (.bastore, 1))
    (kk : ∀ (H : Heap) (locs : List Loc), wH D K loc sh ln (wU iv a i.toNatClampNeg (vp_nar .boolean x)) rv H → va_S A H0 H locs → W p l e R s m args below meth c H locs cells slots Q (F0 m (pc + 1) ls rest)) : W p l e R s m args below meth c H locs cells slots Q (F0 m pc ls (.int x :: .int i :: wR loc a :: rest)) := by
  rw [wR_ref (hH.nz ha (by decide))]
  have h1 : H[loc a]? = some (vp_cell (K 1) (ln a, .inl (iv a))) := (hH.one ha (by decide) rfl) 0 _ rfl
  refine W.zast hexec hb h1 ((hK.2 1 _ rfl).1 (ln a) (fun j => .int (iv a j))) (fun q => by cases q) (by show ¬ (i < 0 ∨ (arrV _ _ _).slots.size ≤ _); rw [arrV_size, hn]; exact hin) rfl rfl hdg fun H1 e z oq => ?_
  refine kk H1 _ (hH.put ha (by decide) rfl (fun b hb => wU_ne b hb) (fun _ _ => rfl) ?_ oq) (hS.put z oq (hO a (by rw [ha]; decide)))
  show H1[loc a]? = some (vp_cell _ _)
  rw [e, wU_self, vp_cell_i, vp_cell_i, arrV_store]
  congr 2
  funext q
  by_cases hq : q = i.toNatClampNeg
  · subst hq
    simp [updV, va_up, vp_nar]
    try rfl
  · simp [updV, va_up, hq]
theorem waa (hexec : p.tables.exec = Jvm.exec) (hb : c.code = cc) (hK : va_K D vwCl (wT K) s) (hH : wH D K loc sh ln iv rv H) {a n kd ki : Nat} {C : String} (ha : sh a = kd) (hk : kd ≠ 0) (hE : wE K loc kd (ln a) (iv a) (rv a) = .inl (K ki, ln a, .inr (.inr (.inr (.inr (fun j => wO loc (rv a j))))))) (ht : (wT K)[ki]? = some (K ki, .object C)) (hn : ln a = n) {i : Int32} (hin : vp_in i n) (hdg : decode cc pc = .ok (.aaload, 1))
    (kk : W p l e R s m args below meth c H locs cells slots Q (F0 m (pc + 1) ls (wR loc (rv a i.toNatClampNeg) :: rest))) : W p l e R s m args below meth c H locs cells slots Q (F0 m pc ls (.int i :: wR loc a :: rest)) := by
  rw [wR_ref (hH.nz ha hk)]
  exact va_aldq hexec hb hK (hH.one ha hk hE) 0 ki rfl ht (by rw [hn]; exact hin) hdg (by rw [wR_rf]; exact kk)
theorem was (hexec : p.tables.exec = Jvm.exec) (hb : c.code = cc) (hK : va_K D vwCl (wT K) s) (hH : wH D K loc sh ln iv rv H) (hO : ∀ a, sh a ≠ 0 → A (loc a)) (hS : va_S A H0 H locs) {a n kd ki v kv ci : Nat} {r : vw_C} {vs : List Value} (ha : sh a = kd) (hk : kd ≠ 0) (hE : ∀ f : Nat → Nat, wE K loc kd (ln a) (iv a) f = .inl (K ki, ln a, .inr (.inr (.inr (.inr (fun j => wO loc (f j))))))) (ht : (wT K)[ki]? = some (K ki, .object r.1)) (hn : ln a = n) (hv : sh v = kv) (hkv : kv ≠ 0) (hEv : wE K loc kv (ln v) (iv v) (rv v) = .inr (ci, vs)) (hc : vwCl[ci]? = some r) {i : Int32} (hin : vp_in i n) (hdg : decode cc pc = .ok (.aastore, 1))
    (kk : ∀ (H : Heap) (locs : List Loc), wH D K loc sh ln iv (wV rv a i.toNatClampNeg v) H → va_S A H0 H locs → W p l e R s m args below meth c H locs cells slots Q (F0 m (pc + 1) ls rest)) : W p l e R s m args below meth c H locs cells slots Q (F0 m pc ls (wR loc v :: .int i :: wR loc a :: rest)) := by
  have hv0 := hH.nz hv hkv
  rw [wR_ref (hH.nz ha hk), wR_ref hv0]
  have h1 : H[loc a]? = some (vp_cell (K ki) (ln a, .inr (.inr (.inr (.inr (fun j => wO loc (rv a j))))))) := (hH.one ha hk (hE (rv a))) 0 _ rfl
  obtain ⟨r', hr', cellV, g1, g2, g3, -⟩ := (hH.one hv hkv hEv) 0 _ rfl
  have hcls := (hK.1 ci r hc).2
  obtain ⟨kA, comp, k1, k2, k3, -⟩ := (hK.2 ki _ ht).2
  have hcomp : comp = D.1 ci := Option.some.inj (k3.symm.trans hcls.1)
  subst hcomp
  obtain ⟨kC, hkC, -⟩ := hcls.2
  have h0 : ¬ i < 0 := fun q => hin (Or.inl q)
  have hlt : i.toNatClampNeg < ln a := by rw [hn]; exact Nat.not_le.mp fun q => hin (Or.inr q)
  refine W.aast hexec hb h1 (fun q h => by cases h) (fun h => by cases h) k1 k2 rfl hkC ⟨h0, by show _ < (arrV _ _ _).slots.size; rw [arrV_size]; exact hlt⟩ g1 (fun q h => by rw [g3] at h; cases h) (by rw [g2]; exact hkC) (by rw [g2]; exact va_assign hcls) rfl rfl hdg fun H1 e z oq => ?_
  refine kk H1 _ (hH.put ha hk (hE _) (fun _ _ => rfl) (fun b hb => wV_ne b hb) ?_ oq) (hS.put z oq (hO a (by rw [ha]; exact hk)))
  show H1[loc a]? = some (vp_cell _ _)
  rw [e, wV_self, vp_cell_q, vp_cell_q, arrV_store]
  congr 2
  funext q
  by_cases hq : q = i.toNatClampNeg
  · subst hq; simp [updV, va_up, wO, hv0, va_rf]
  · simp [updV, va_up, hq]
theorem wal (hexec : p.tables.exec = Jvm.exec) (hb : c.code = cc) (hK : va_K D vwCl (wT K) s) (hH : wH D K loc sh ln iv rv H) {a n kd ki : Nat} {x : vp_A} {ty : FieldType} (ha : sh a = kd) (hk : kd ≠ 0) (hE : wE K loc kd (ln a) (iv a) (rv a) = .inl (K ki, x)) (hx : x.1 = ln a) (ht : (wT K)[ki]? = some (K ki, ty)) (hn : ln a = n) (hdg : decode cc pc = .ok (.arraylength, 1))
    (kk : W p l e R s m args below meth c H locs cells slots Q (F0 m (pc + 1) ls (.int (nI n) :: rest))) : W p l e R s m args below meth c H locs cells slots Q (F0 m pc ls (wR loc a :: rest)) := by
  rw [wR_ref (hH.nz ha hk)]
  exact va_alen hexec hb hK (hH.one ha hk hE) 0 ki rfl ht (by rw [hx, hn]; rfl) hdg kk
theorem wnul (hexec : p.tables.exec = Jvm.exec) (hb : c.code = cc) (loc : Nat → Nat) (hdg : decode cc pc = .ok (.aconst_null, 1)) (k : W p l e R s m args below meth c H locs cells slots Q (F0 m (pc + 1) ls (wR loc 0 :: rest))) : W p l e R s m args below meth c H locs cells slots Q (F0 m pc ls rest) := lv_null hexec hb hdg k
theorem wald_n (hexec : p.tables.exec = Jvm.exec) (hb : c.code = cc) {k : Fin 4} {i q : Nat} (hdg : decode cc pc = .ok (.aload_n k, 1)) (hi : (k : Nat) = i) (hl : ls[i]? = some (.val (wR loc q))) (kk : W p l e R s m args below meth c H locs cells slots Q (F0 m (pc + 1) ls (wR loc q :: rest))) : W p l e R s m args below meth c H locs cells slots Q (F0 m pc ls rest) := by
  by_cases h : q = 0
  · subst h; exact lv_aload_nN hexec hb hdg hi hl kk
  · rw [wR_ref h] at hl kk; exact lv_aload_n hexec hb hdg hi hl kk
theorem wald (hexec : p.tables.exec = Jvm.exec) (hb : c.code = cc) {i q : Nat} (hdg : decode cc pc = .ok (.aload i, 2)) (hl : ls[i]? = some (.val (wR loc q))) (kk : W p l e R s m args below meth c H locs cells slots Q (F0 m (pc + 2) ls (wR loc q :: rest))) : W p l e R s m args below meth c H locs cells slots Q (F0 m pc ls rest) := by
  by_cases h : q = 0
  · subst h; exact lv_aloadN hexec hb hdg hl kk
  · rw [wR_ref h] at hl kk; exact lv_aload hexec hb hdg hl kk
theorem wast_n (hexec : p.tables.exec = Jvm.exec) (hb : c.code = cc) {k : Fin 4} {i nL q : Nat} {lv lv' : List (Nat × Value)} (hdg : decode cc pc = .ok (.astore_n k, 1)) (hi : (k : Nat) = i) (h : lv_has ls nL lv) (hn : i < nL) (hl : (i, wR loc q) :: lv.filter (fun q => !(q.1 == i) && !(q.1 + 1 == i && q.2.category == 2)) = lv')
    (kk : ∀ ls' : Array Slot, lv_has ls' nL lv' → W p l e R s m args below meth c H locs cells slots Q (F0 m (pc + 1) ls' rest)) : W p l e R s m args below meth c H locs cells slots Q (F0 m pc ls (wR loc q :: rest)) := by
  by_cases h0 : q = 0
  · subst h0; exact lv_astore_nN hexec hb hdg hi h hn hl kk
  · rw [wR_ref h0] at hl ⊢; exact lv_astore_n hexec hb hdg hi h hn hl kk
theorem wast (hexec : p.tables.exec = Jvm.exec) (hb : c.code = cc) {i nL q : Nat} {lv lv' : List (Nat × Value)} (hdg : decode cc pc = .ok (.astore i, 2)) (h : lv_has ls nL lv) (hn : i < nL) (hl : (i, wR loc q) :: lv.filter (fun q => !(q.1 == i) && !(q.1 + 1 == i && q.2.category == 2)) = lv')
    (kk : ∀ ls' : Array Slot, lv_has ls' nL lv' → W p l e R s m args below meth c H locs cells slots Q (F0 m (pc + 2) ls' rest)) : W p l e R s m args below meth c H locs cells slots Q (F0 m pc ls (wR loc q :: rest)) := by
  by_cases h0 : q = 0
  · subst h0; exact lv_astoreN hexec hb hdg h hn hl kk
  · rw [wR_ref h0] at hl ⊢; exact lv_astore hexec hb hdg h hn hl kk
theorem wifnull (hexec : p.tables.exec = Jvm.exec) (hb : c.code = cc) {q : Nat} {off : Int} {tgt : Nat} (hdg : decode cc pc = .ok (.ifnull off, 3)) (ht : (pc : Int) + off = (tgt : Int)) (kt : q = 0 → W p l e R s m args below meth c H locs cells slots Q (F0 m tgt ls rest)) (kf : ¬ q = 0 → W p l e R s m args below meth c H locs cells slots Q (F0 m (pc + 3) ls rest)) : W p l e R s m args below meth c H locs cells slots Q (F0 m pc ls (wR loc q :: rest)) := by
  by_cases h : q = 0
  · have k := kt h; subst h; exact lv_ifnullN hexec hb hdg ht k
  · rw [wR_ref h]; exact lv_ifnull hexec hb hdg (kf h)
theorem wifnon (hexec : p.tables.exec = Jvm.exec) (hb : c.code = cc) {q : Nat} {off : Int} {tgt : Nat} (hdg : decode cc pc = .ok (.ifnonnull off, 3)) (ht : (pc : Int) + off = (tgt : Int)) (kt : ¬ q = 0 → W p l e R s m args below meth c H locs cells slots Q (F0 m tgt ls rest)) (kf : q = 0 → W p l e R s m args below meth c H locs cells slots Q (F0 m (pc + 3) ls rest)) : W p l e R s m args below meth c H locs cells slots Q (F0 m pc ls (wR loc q :: rest)) := by
  by_cases h : q = 0
  · have k := kf h; subst h; exact lv_ifnonnullN hexec hb hdg k
  · rw [wR_ref h]; exact lv_ifnonnull hexec hb hdg ht (kt h)
/-! contracts -/
def wKn (D : va_G) (K : Nat → ClassId) (U : State) : Prop := va_K D vwCl (wT K) U ∧ va_AO RX0 U ∧ va_AO RX1 U ∧ va_AO RX3 U ∧ va_Nw (.methodLinkNest RX2 49 yX4_isAmong RX4) U
theorem wKn.warm {D : va_G} {K : Nat → ClassId} {U V : State} (h : wKn D K U) (hW : U.WarmedH V.vm) : wKn D K V := ⟨va_K.moved hW.alike h.1, h.2.1.moved hW.alike, h.2.2.1.moved hW.alike, h.2.2.2.1.moved hW.alike, va_Nw.warmM hW h.2.2.2.2⟩
def wPc (D : va_G) (K : Nat → ClassId) (loc sh ln : Nat → Nat) (iv : wI) (rv : wJ) (sz : Nat) (av : List Value) : Array Value → State → Prop := va_Pc av (fun U => U.heap.size = sz ∧ wH D K loc sh ln iv rv U.heap ∧ wKn D K U)
def wA (loc sh : Nat → Nat) (sz : Nat) : Nat → Prop := fun q => (∃ a, sh a ≠ 0 ∧ loc a = q) ∨ sz ≤ q
def wQi (D : va_G) (K : Nat → ClassId) (loc sh ln : Nat → Nat) (iv : wI) (rv : wJ) (sz : Nat) (r : Int32) : Array Value → State → Outcome → State → Prop := va_Qi (fun (r' : Int32) (_ : Unit) => r' = r) (fun _ t => wH D K loc sh ln iv rv t.heap) (wA loc sh sz)
def wQv (D : va_G) (K : Nat → ClassId) (loc sh ln : Nat → Nat) (iv : wI) (rv : wJ) (sz : Nat) : Array Value → State → Outcome → State → Prop := va_Qv (fun (_ : Unit) => True) (fun _ t => wH D K loc sh ln iv rv t.heap) (wA loc sh sz)
def wQr (D : va_G) (K : Nat → ClassId) (loc sh ln : Nat → Nat) (iv : wI) (rv : wJ) (sz : Nat) (r : Nat) : Array Value → State → Outcome → State → Prop := va_Qq (fun (r' : Option Nat) (_ : Unit) => r' = wO loc r) (fun _ t => wH D K loc sh ln iv rv t.heap) (wA loc sh sz)
theorem wPc.blind {sz : Nat} {av : List Value} : FrameBlind (wPc D K loc sh ln iv rv sz av) := fun a U g mk h => by
  obtain ⟨h0, h1, h2, h3⟩ := h
  exact ⟨h0, h1, h2, va_K.moved (u := U) (U := U.calling g mk a) (Vm.Alike.refl U.vm) h3.1, va_AO.moved (u := U) (U := U.calling g mk a) (Vm.Alike.refl U.vm) h3.2.1, va_AO.moved (u := U) (U := U.calling g mk a) (Vm.Alike.refl U.vm) h3.2.2.1, va_AO.moved (u := U) (U := U.calling g mk a) (Vm.Alike.refl U.vm) h3.2.2.2.1, va_Nw.same rfl rfl h3.2.2.2.2⟩
theorem wPreS {As : List Value} (hK : wKn D K s) (hH : wH D K loc sh ln iv rv H) : PreS s H (wPc D K loc sh ln iv rv H.size As) As := ⟨wPc.blind, fun U hU hW => ⟨rfl, by rw [hU], by rw [hU]; exact hH, hK.warm hW⟩⟩
theorem wPreV {As : List Value} (hK : wKn D K s) (hH : wH D K loc sh ln iv rv H) {q kd ci : Nat} {fs : List Value} {C : String} {T : u_T} {N : Nat} (hq : sh q = kd) (hk : kd ≠ 0) (hE : wE K loc kd (ln q) (iv q) (rv q) = .inr (ci, fs)) (hc : vwCl[ci]? = some (C, T, N)) : PreV s H C (loc q) (wPc D K loc sh ln iv rv H.size (wR loc q :: As)) As := by
  have h0 := hH.nz hq hk
  refine ⟨wPc.blind, va_recv hK.1 (hH.one hq hk hE) (ci := ci) (q0 := 0) hc rfl, fun U hU hW => ⟨?_, by rw [hU], by rw [hU]; exact hH, hK.warm hW⟩⟩
  rw [wR_ref h0]
theorem wPreI {As : List Value} (hK : wKn D K s) (hH : wH D K loc sh ln iv rv H) {q kd : Nat} (hq : sh q = kd) (hk : kd ≠ 0) : PreS s H (wPc D K loc sh ln iv rv H.size (wR loc q :: As)) (.ref (loc q) :: As) := by
  have h0 := hH.nz hq hk
  refine ⟨wPc.blind, fun U hU hW => ⟨?_, by rw [hU], by rw [hU]; exact hH, hK.warm hW⟩⟩
  rw [wR_ref h0]
theorem wA_sub {sz : Nat} (hO : ∀ a, sh a ≠ 0 → A (loc a)) (hA : ∀ q, H0.size ≤ q → A q) (hz : H0.size ≤ sz) : ∀ q, wA loc sh sz q → A q := by
  intro q h
  rcases h with ⟨a, h1, rfl⟩ | h
  · exact hO a h1
  · exact hA q (Nat.le_trans hz h)
variable {st0 : List Value} {a : Array Value} {iv' : wI} {rv' : wJ}
theorem wci {r : Int32} (hr : va_Run p l e R s m args below meth c H locs cells slots 0 0 (F0 m pc ls st0) rest (wQi D K loc sh ln iv' rv' H.size r a) (wA loc sh H.size)) (hS : va_S A H0 H locs) (hO : ∀ a, sh a ≠ 0 → A (loc a)) (hA : ∀ q, H0.size ≤ q → A q)
    (kk : ∀ (H : Heap) (locs : List Loc), wH D K loc sh ln iv' rv' H → va_S A H0 H locs → W p l e R s m args below meth c H locs cells slots Q (F0 m (pc + 3) ls (.int r :: rest))) : W p l e R s m args below meth c H locs cells slots Q (F0 m pc ls st0) := by
  refine va_calli hr hS (fun q _ h => wA_sub hO hA hS.1 q h) (wA_sub hO hA hS.1) (fun r1 u t H1 locs ht hvm hw hB hz1 hk1 hS => ?_)
  subst hw
  rw [ht] at hB
  exact kk H1 locs hB hS
theorem wcv (hr : va_Run p l e R s m args below meth c H locs cells slots 0 0 (F0 m pc ls st0) rest (wQv D K loc sh ln iv' rv' H.size a) (wA loc sh H.size)) (hS : va_S A H0 H locs) (hO : ∀ a, sh a ≠ 0 → A (loc a)) (hA : ∀ q, H0.size ≤ q → A q)
    (kk : ∀ (H : Heap) (locs : List Loc), wH D K loc sh ln iv' rv' H → va_S A H0 H locs → W p l e R s m args below meth c H locs cells slots Q (F0 m (pc + 3) ls rest)) : W p l e R s m args below meth c H locs cells slots Q (F0 m pc ls st0) := by
  refine va_callv hr hS (fun q _ h => wA_sub hO hA hS.1 q h) (wA_sub hO hA hS.1) (fun u t H1 locs ht hvm hw hB hz1 hk1 hS => ?_)
  rw [ht] at hB
  exact kk H1 locs hB hS
theorem wcr {r : Nat} (hr : va_Run p l e R s m args below meth c H locs cells slots 0 0 (F0 m pc ls st0) rest (wQr D K loc sh ln iv' rv' H.size r a) (wA loc sh H.size)) (hS : va_S A H0 H locs) (hO : ∀ a, sh a ≠ 0 → A (loc a)) (hA : ∀ q, H0.size ≤ q → A q)
    (kk : ∀ (H : Heap) (locs : List Loc), wH D K loc sh ln iv' rv' H → va_S A H0 H locs → W p l e R s m args below meth c H locs cells slots Q (F0 m (pc + 3) ls (wR loc r :: rest))) : W p l e R s m args below meth c H locs cells slots Q (F0 m pc ls st0) := by
  refine va_callq hr hS (fun q _ h => wA_sub hO hA hS.1 q h) (wA_sub hO hA hS.1) (fun r1 u t H1 locs ht hvm hw hB hz1 hk1 hS => ?_)
  subst hw
  rw [ht] at hB
  rw [wR_rf]
  exact kk H1 locs hB hS
end WROW
/-- the fixed roles of the class's cells and of the model's -/
def wBx (ng : Nat) (sh ln : Nat → Nat) : Prop := (∀ c k : Nat, (c, k) ∈ [(1, 5), (2, 10), (3, 11), (4, 9), (5, 7), (6, 7), (7, 3), (8, 9), (9, 7), (10, 7), (11, 8), (12, 7)] → sh c = k) ∧ (∀ c n : Nat, (c, n) ∈ [(3, 8), (4, 100), (5, 8), (6, 3), (8, 5), (9, 5), (10, 5), (11, 5)] → ln c = n) ∧ ln 2 = ng ∧ ln 12 = ng
def wBm (sh ln : Nat → Nat) : Prop := (∀ c k : Nat, (c, k) ∈ [(1, 6), (15, 7), (16, 7), (17, 7), (19, 7), (20, 7), (21, 7), (22, 7), (23, 7), (24, 7), (25, 7), (26, 7), (27, 7), (28, 7), (29, 7), (30, 7), (31, 7), (32, 7), (36, 7), (37, 7), (38, 7), (39, 7)] → sh c = k) ∧ (∀ c n : Nat, (c, n) ∈ [(15, 8), (16, 8), (17, 3), (19, 100), (20, 100), (21, 100), (22, 100), (23, 100), (24, 100), (25, 100), (26, 100), (27, 100), (28, 100), (29, 100), (30, 3), (31, 3), (32, 3), (36, 5), (37, 5), (38, 5), (39, 5)] → ln c = n) ∧ True
