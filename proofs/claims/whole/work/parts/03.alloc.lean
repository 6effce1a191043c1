theorem iCat (x : Int32) : (Value.int x).category = 1 := rfl
/-! rows that make cells -/
def wFr (sh : Nat → Nat) (rv : wJ) (r : Nat) : Prop := r ≠ 0 ∧ sh r = 0 ∧ (∀ a j, rv a j ≠ r) ∧ (39 < r ∨ ∀ a, sh a ≠ 3 ∧ sh a ≠ 5 ∧ sh a ≠ 6)
theorem wR_up {loc : Nat → Nat} {r q c : Nat} (h : c ≠ r) : wR (va_up loc r q) c = wR loc c := by simp [wR, va_up, h]
theorem wO_up {loc : Nat → Nat} {r q c : Nat} (h : c ≠ r) : wO (va_up loc r q) c = wO loc c := by simp [wO, va_up, h]
theorem wE_up {K : Nat → ClassId} {loc : Nat → Nat} {r q k n : Nat} {i : Nat → Int32} {rr : Nat → Nat} (hr : ∀ j, rr j ≠ r) (h : 39 < r ∨ (k ≠ 3 ∧ k ≠ 5 ∧ k ≠ 6)) : wE K (va_up loc r q) k n i rr = wE K loc k n i rr := by
  have hw : ∀ j, wR (va_up loc r q) (rr j) = wR loc (rr j) := fun j => wR_up (hr j)
  have ho : ∀ j, wO (va_up loc r q) (rr j) = wO loc (rr j) := fun j => wO_up (hr j)
  have hl : 39 < r → ∀ c, c ≤ 39 → wR (va_up loc r q) c = wR loc c := fun h c hc => wR_up (by omega)
  unfold wE
  split
  all_goals first
    | rfl
    | (simp only [wF, hw]; done)
    | (simp only [ho]; done)
    | (rcases h with h | h
       · simp only [wF, hw, hl h 2 (by decide), hl h 3 (by decide), hl h 4 (by decide), hl h 5 (by decide), hl h 6 (by decide), hl h 7 (by decide), hl h 8 (by decide), hl h 9 (by decide), hl h 10 (by decide), hl h 11 (by decide), hl h 12 (by decide), hl h 15 (by decide), hl h 16 (by decide), hl h 17 (by decide), hl h 19 (by decide), hl h 20 (by decide), hl h 21 (by decide), hl h 22 (by decide), hl h 23 (by decide), hl h 24 (by decide), hl h 25 (by decide), hl h 26 (by decide), hl h 27 (by decide), hl h 28 (by decide), hl h 29 (by decide), hl h 30 (by decide), hl h 31 (by decide), hl h 32 (by decide), hl h 36 (by decide), hl h 37 (by decide), hl h 38 (by decide), hl h 39 (by decide)]
       · first
         | exact absurd rfl h.1
         | exact absurd rfl h.2.1
         | exact absurd rfl h.2.2)
theorem wH.new {D : va_G} {K : Nat → ClassId} {loc : Nat → Nat} {sh ln : Nat → Nat} {iv : wI} {rv : wJ} {H H1 : Heap} (h : wH D K loc sh ln iv rv H) {r k n : Nat} {i : Nat → Int32} (hf : wFr sh rv r) (hk : k ≠ 0) (hkeep : ∀ x, x < H.size → H1[x]? = H[x]?) (he : va_at D vwCl (H.size, wE K (va_up loc r H.size) k n i (fun _ => 0)) H1) : wH D K (va_up loc r H.size) (va_up sh r k) (va_up ln r n) (va_up iv r i) (va_up rv r (fun _ => 0)) H1 := by
  obtain ⟨h0, hr, hrv, hlit⟩ := hf
  have hlt : ∀ a, sh a ≠ 0 → loc a < H.size := fun a ha => (h.2.2 a ha).lt
  refine ⟨by rw [va_up_ne _ _ (Ne.symm h0)]; exact h.1, fun a b ha hb hab => ?_, fun a ha => ?_⟩
  · by_cases h1 : a = r <;> by_cases h2 : b = r
    · rw [h1, h2]
    · rw [va_up_ne _ _ h2] at hb
      rw [h1, va_up_self, va_up_ne _ _ h2] at hab
      have := hlt b hb
      omega
    · rw [va_up_ne _ _ h1] at ha
      rw [h2, va_up_self, va_up_ne _ _ h1] at hab
      have := hlt a ha
      omega
    · rw [va_up_ne _ _ h1] at ha
      rw [va_up_ne _ _ h2] at hb
      rw [va_up_ne _ _ h1, va_up_ne _ _ h2] at hab
      exact h.2.1 a b ha hb hab
  · by_cases h1 : a = r
    · subst h1
      simp only [va_up_self]
      exact he
    · rw [va_up_ne _ _ h1] at ha
      simp only [va_up_ne _ _ h1]
      rw [wE_up (fun j => hrv a j) (hlit.elim Or.inl (fun z => Or.inr (z a)))]
      exact (h.2.2 a ha).kept (hkeep _ (hlt a ha))
theorem wO_new {loc sh : Nat → Nat} {A : Nat → Prop} {r k z : Nat} (hO : ∀ a, sh a ≠ 0 → A (loc a)) (hz : A z) : ∀ a, va_up sh r k a ≠ 0 → A (va_up loc r z a) := by
  intro a ha
  by_cases h1 : a = r
  · rw [h1, va_up_self]; exact hz
  · rw [va_up_ne _ _ h1] at ha ⊢; exact hO a ha
section WNEW
variable {p : Program} {l : Launch} {e : Env} {R : Room} {s : State} {m : MethodId} {args : Array Value} {below : List Frame} {meth : Method} {c : Code} {H : Heap} {locs : List Loc} {cells slots : Nat} {Q : State → Prop}
variable {cc : ByteArray} {pc : Nat} {ls : Array Slot} {rest : List Value} {D : va_G} {A : Nat → Prop} {H0 : Heap}
variable {K : Nat → ClassId} {loc sh ln : Nat → Nat} {iv : wI} {rv : wJ}
theorem wna (hexec : p.tables.exec = Jvm.exec) (hb : c.code = cc) {atype : ArrayType} (harr : (Cond.arrayClass (newarray.typeOf atype)).before args s = true) (hK : va_K D vwCl (wT K) s) (hH : wH D K loc sh ln iv rv H) (hO : ∀ a, sh a ≠ 0 → A (loc a)) (hS : va_S A H0 H locs) (hA : ∀ q, H0.size ≤ q → A q) (r kd ki : Nat) (hf : wFr sh rv r) (hk : kd ≠ 0) {ty : FieldType} (hty : newarray.typeOf atype = ty) (hE : ∀ (loc : Nat → Nat) (n : Nat), wE K loc kd n (fun _ => 0) (fun _ => 0) = .inl (K ki, n, .inl (fun _ => 0))) (hd : defaultValue ty = .int 0) (ht : (wT K)[ki]? = some (K ki, ty)) (hra : va_RA s (K ki) ty → s.vm.findClass ("[" ++ ty.toString) = some (K ki)) {n : Int32} {M : Nat} (hn : ¬ n < 0) (hN : n.toNatClampNeg ≤ M) (hM : M ≤ 1000) (hby : componentBytes ty ≤ 8) (hcells : cells + 1 ≤ R.cells) (hslots : slots + M ≤ R.slots) (hdg : decode cc pc = .ok (.newarray atype, 2))
    (kk : ∀ (loc1 : Nat → Nat) (H : Heap), (∀ a, a ≠ r → loc1 a = loc a) → wH D K loc1 (va_up sh r kd) (va_up ln r n.toNatClampNeg) (va_up iv r (fun _ => 0)) (va_up rv r (fun _ => 0)) H → (∀ a, va_up sh r kd a ≠ 0 → A (loc1 a)) → va_S A H0 H locs → W p l e R s m args below meth c H locs (cells + 1) (slots + M) Q (F0 m (pc + 2) ls (wR loc1 r :: rest))) : W p l e R s m args below meth c H locs cells slots Q (F0 m pc ls (.int n :: rest)) := by
  subst hty
  refine va_newaK hexec hb harr rfl hdg rfl hn rfl (by have := Nat.mul_le_mul hN hby; omega) hcells (by omega) rfl fun H1 cA e1 z1 o1 hAr hNm => ?_
  have hcA : cA = K ki := Option.some.inj (hNm.symm.trans (hra (hK.2 ki _ ht).2))
  subst hcA
  have hw := kk (va_up loc r H.size) H1 (fun a h => va_up_ne _ _ h) (hH.new hf hk o1 (by rw [hE]; show H1[H.size]? = some (vp_cell _ _); rw [e1, vp_cell_i, hd])) (wO_new hO (hA _ hS.1)) ⟨Nat.le_trans hS.1 (by omega), fun x h1 h2 => (o1 x (Nat.lt_of_lt_of_le h1 hS.1)).trans (hS.2.1 x h1 h2), hS.2.2⟩
  rw [wR_ref hf.1, va_up_self] at hw
  exact W.widen (Nat.le_refl _) (by omega) hw
theorem wnq (hexec : p.tables.exec = Jvm.exec) (hb : c.code = cc) {own C : String} {index : Nat} (hown : s.vm.findClass own = some m.cls) (hclink : (Cond.classLink own index C).before args s = true) (hover : va_AO C s) (hK : va_K D vwCl (wT K) s) (hH : wH D K loc sh ln iv rv H) (hO : ∀ a, sh a ≠ 0 → A (loc a)) (hS : va_S A H0 H locs) (hA : ∀ q, H0.size ≤ q → A q) (r kd ki : Nat) (hf : wFr sh rv r) (hk : kd ≠ 0) (hE : ∀ (loc : Nat → Nat) (n : Nat), wE K loc kd n (fun _ => 0) (fun _ => 0) = .inl (K ki, n, .inr (.inr (.inr (.inr (fun _ => none)))))) (ht : (wT K)[ki]? = some (K ki, .object C)) {n : Int32} {M : Nat} (hn : ¬ n < 0) (hN : n.toNatClampNeg ≤ M) (hM : M ≤ 1000) (hcells : cells + 1 ≤ R.cells) (hslots : slots + M ≤ R.slots) (hdg : decode cc pc = .ok (.anewarray index, 3))
    (kk : ∀ (loc1 : Nat → Nat) (H : Heap), (∀ a, a ≠ r → loc1 a = loc a) → wH D K loc1 (va_up sh r kd) (va_up ln r n.toNatClampNeg) (va_up iv r (fun _ => 0)) (va_up rv r (fun _ => 0)) H → (∀ a, va_up sh r kd a ≠ 0 → A (loc1 a)) → va_S A H0 H locs → W p l e R s m args below meth c H locs (cells + 1) (slots + M) Q (F0 m (pc + 3) ls (wR loc1 r :: rest))) : W p l e R s m args below meth c H locs cells slots Q (F0 m pc ls (.int n :: rest)) := by
  refine W.anew hexec hb hown hclink (va_AO.use hover) rfl hdg rfl hn (by omega) hcells (by omega) fun cA kA comp f1 f2 f3 f4 => ?_
  obtain ⟨kA', comp', g1, g2, g3, g4⟩ := (hK.2 ki _ ht).2
  have hcA : cA = K ki := Option.some.inj (f1.symm.trans g4)
  subst hcA
  generalize hH1 : H.push ({ cls := K ki, slots := Array.replicate n.toNatClampNeg .null, vm := .none } : Cell) = H1
  have z1 : H1.size = H.size + 1 := by rw [← hH1, Array.size_push]
  have e1 : H1[H.size]? = some (arrV (K ki) n.toNatClampNeg (fun _ => .null)) := by rw [← hH1, Array.getElem?_push_size, ← arrV_new]
  have o1 : ∀ q : Nat, q < H.size → H1[q]? = H[q]? := fun q hq => by rw [← hH1, Array.getElem?_push, if_neg (Nat.ne_of_lt hq)]
  have hw := kk (va_up loc r H.size) H1 (fun a h => va_up_ne _ _ h) (hH.new hf hk o1 (by rw [hE]; show H1[H.size]? = some (vp_cell _ _); rw [e1, vp_cell_q]; rfl)) (wO_new hO (hA _ hS.1)) ⟨Nat.le_trans hS.1 (by omega), fun x h1 h2 => (o1 x (Nat.lt_of_lt_of_le h1 hS.1)).trans (hS.2.1 x h1 h2), hS.2.2⟩
  rw [wR_ref hf.1, va_up_self] at hw
  exact W.widen (Nat.le_refl _) (by omega) hw
theorem wno {c0 : Code} (hexec : p.tables.exec = Jvm.exec) (hb : c0.code = cc) {own C : String} {T : u_T} {N ci index : Nat} {Ts : List Cond} (hts : ∀ w ∈ Ts, w.before args s = true) (hin : ∀ w ∈ u_ws C T N, w ∈ Ts) (ty : Nat → FieldType) (hty : ∀ k, k < N → parseFieldDescriptor (T k).2.2.1 = some (ty k)) (hown : s.vm.findClass own = some m.cls) (hcl : (Cond.classLink own index C).before args s = true) (hinst : (Cond.instantiable C N).before args s = true) (hini : (Cond.initialized C).before args s = true)
    (hK : va_K D vwCl (wT K) s) (hH : wH D K loc sh ln iv rv H) (hO : ∀ a, sh a ≠ 0 → A (loc a)) (hS : va_S A H0 H locs) (hA : ∀ q, H0.size ≤ q → A q) (r kd n : Nat) (hf : wFr sh rv r) (hk : kd ≠ 0) {fs : List Value} (hE : ∀ (loc : Nat → Nat), wE K loc kd n (fun _ => 0) (fun _ => 0) = .inr (ci, fs)) (hc : vwCl[ci]? = some (C, T, N)) (hfs : ∀ j, j < N → defaultValue (ty j) = vp_V fs j) (hcells : cells + 1 ≤ R.cells) (hslots : slots + N ≤ R.slots) (hdg : decode cc pc = .ok (.new index, 3))
    (kk : ∀ (loc1 : Nat → Nat) (H : Heap), (∀ a, a ≠ r → loc1 a = loc a) → wH D K loc1 (va_up sh r kd) (va_up ln r n) (va_up iv r (fun _ => 0)) (va_up rv r (fun _ => 0)) H → (∀ a, va_up sh r kd a ≠ 0 → A (loc1 a)) → va_S A H0 H locs → W p l e R s m args below meth c0 H locs (cells + 1) (slots + N) Q (F0 m (pc + 3) ls (wR loc1 r :: rest))) : W p l e R s m args below meth c0 H locs cells slots Q (F0 m pc ls rest) := by
  have hKn := hK.1 ci _ hc
  refine W.newcK hexec hb hown hcl hinst hini rfl hdg hcells hslots hKn.2.1 rfl fun H1 kC hkC e1 z1 o1 => ?_
  have hw := kk (va_up loc r H.size) H1 (fun a h => va_up_ne _ _ h) (hH.new hf hk o1 (by rw [hE]; exact ⟨_, hc, (u_born ty hts hin hKn hkC e1 hty).to hfs⟩)) (wO_new hO (hA _ hS.1)) ⟨Nat.le_trans hS.1 (by omega), fun x h1 h2 => (o1 x (Nat.lt_of_lt_of_le h1 hS.1)).trans (hS.2.1 x h1 h2), hS.2.2⟩
  rw [wR_ref hf.1, va_up_self] at hw
  exact hw
/-! contracts of methods that make cells: the roles that were there stay where they were -/
def wQnv (D : va_G) (K : Nat → ClassId) (loc sh : Nat → Nat) (sh' ln' : Nat → Nat) (iv' : wI) (rv' : wJ) (sz : Nat) : Array Value → State → Outcome → State → Prop := va_Qv (fun (loc1 : Nat → Nat) => ∀ a, sh a ≠ 0 → loc1 a = loc a ∧ sh' a ≠ 0) (fun loc1 t => wH D K loc1 sh' ln' iv' rv' t.heap ∧ ∀ a, sh' a ≠ 0 → wA loc sh sz (loc1 a)) (wA loc sh sz)
def wQni (D : va_G) (K : Nat → ClassId) (loc sh : Nat → Nat) (sh' ln' : Nat → Nat) (iv' : wI) (rv' : wJ) (sz : Nat) (r : Int32) : Array Value → State → Outcome → State → Prop := va_Qi (fun (r' : Int32) (loc1 : Nat → Nat) => r' = r ∧ ∀ a, sh a ≠ 0 → loc1 a = loc a ∧ sh' a ≠ 0) (fun loc1 t => wH D K loc1 sh' ln' iv' rv' t.heap ∧ ∀ a, sh' a ≠ 0 → wA loc sh sz (loc1 a)) (wA loc sh sz)
def wQnr (D : va_G) (K : Nat → ClassId) (loc sh : Nat → Nat) (sh' ln' : Nat → Nat) (iv' : wI) (rv' : wJ) (sz : Nat) (r : Nat) : Array Value → State → Outcome → State → Prop := va_Qq (fun (r' : Option Nat) (loc1 : Nat → Nat) => r' = wO loc1 r ∧ ∀ a, sh a ≠ 0 → loc1 a = loc a ∧ sh' a ≠ 0) (fun loc1 t => wH D K loc1 sh' ln' iv' rv' t.heap ∧ ∀ a, sh' a ≠ 0 → wA loc sh sz (loc1 a)) (wA loc sh sz)
variable {st0 : List Value} {a : Array Value} {iv' : wI} {rv' : wJ} {sh' ln' : Nat → Nat} {mc ms : Nat}
theorem wcnv (hr : va_Run p l e R s m args below meth c H locs cells slots mc ms (F0 m pc ls st0) rest (wQnv D K loc sh sh' ln' iv' rv' H.size a) (wA loc sh H.size)) (hS : va_S A H0 H locs) (hO : ∀ a, sh a ≠ 0 → A (loc a)) (hA : ∀ q, H0.size ≤ q → A q)
    (kk : ∀ (loc1 : Nat → Nat) (H : Heap) (locs : List Loc), (∀ a, sh a ≠ 0 → loc1 a = loc a ∧ sh' a ≠ 0) → wH D K loc1 sh' ln' iv' rv' H → (∀ a, sh' a ≠ 0 → A (loc1 a)) → va_S A H0 H locs → W p l e R s m args below meth c H locs (cells + mc) (slots + ms) Q (F0 m (pc + 3) ls rest)) : W p l e R s m args below meth c H locs cells slots Q (F0 m pc ls st0) := by
  refine va_callv hr hS (fun q _ h => wA_sub hO hA hS.1 q h) (wA_sub hO hA hS.1) (fun u t H1 locs ht hvm hw hB hz1 hk1 hS1 => ?_)
  rw [ht] at hB
  exact kk u H1 locs hw hB.1 (fun a ha => wA_sub hO hA hS.1 _ (hB.2 a ha)) hS1
theorem wcni {r : Int32} (hr : va_Run p l e R s m args below meth c H locs cells slots mc ms (F0 m pc ls st0) rest (wQni D K loc sh sh' ln' iv' rv' H.size r a) (wA loc sh H.size)) (hS : va_S A H0 H locs) (hO : ∀ a, sh a ≠ 0 → A (loc a)) (hA : ∀ q, H0.size ≤ q → A q)
    (kk : ∀ (loc1 : Nat → Nat) (H : Heap) (locs : List Loc), (∀ a, sh a ≠ 0 → loc1 a = loc a ∧ sh' a ≠ 0) → wH D K loc1 sh' ln' iv' rv' H → (∀ a, sh' a ≠ 0 → A (loc1 a)) → va_S A H0 H locs → W p l e R s m args below meth c H locs (cells + mc) (slots + ms) Q (F0 m (pc + 3) ls (.int r :: rest))) : W p l e R s m args below meth c H locs cells slots Q (F0 m pc ls st0) := by
  refine va_calli hr hS (fun q _ h => wA_sub hO hA hS.1 q h) (wA_sub hO hA hS.1) (fun r1 u t H1 locs ht hvm hw hB hz1 hk1 hS1 => ?_)
  rw [ht] at hB
  obtain ⟨rfl, hw⟩ := hw
  exact kk u H1 locs hw hB.1 (fun a ha => wA_sub hO hA hS.1 _ (hB.2 a ha)) hS1
theorem wcnr {r : Nat} (hr : va_Run p l e R s m args below meth c H locs cells slots mc ms (F0 m pc ls st0) rest (wQnr D K loc sh sh' ln' iv' rv' H.size r a) (wA loc sh H.size)) (hS : va_S A H0 H locs) (hO : ∀ a, sh a ≠ 0 → A (loc a)) (hA : ∀ q, H0.size ≤ q → A q)
    (kk : ∀ (loc1 : Nat → Nat) (H : Heap) (locs : List Loc), (∀ a, sh a ≠ 0 → loc1 a = loc a ∧ sh' a ≠ 0) → wH D K loc1 sh' ln' iv' rv' H → (∀ a, sh' a ≠ 0 → A (loc1 a)) → va_S A H0 H locs → W p l e R s m args below meth c H locs (cells + mc) (slots + ms) Q (F0 m (pc + 3) ls (wR loc1 r :: rest))) : W p l e R s m args below meth c H locs cells slots Q (F0 m pc ls st0) := by
  refine va_callq hr hS (fun q _ h => wA_sub hO hA hS.1 q h) (wA_sub hO hA hS.1) (fun r1 u t H1 locs ht hvm hw hB hz1 hk1 hS1 => ?_)
  rw [ht] at hB
  obtain ⟨rfl, hw⟩ := hw
  rw [wR_rf]
  exact kk u H1 locs hw hB.1 (fun a ha => wA_sub hO hA hS.1 _ (hB.2 a ha)) hS1
theorem wKp {sh shc loc locc loc1 : Nat → Nat} {r kd : Nat} (hkp : ∀ a, sh a ≠ 0 → locc a = loc a ∧ shc a ≠ 0) (hr : shc r = 0) (hkd : kd ≠ 0) (hloc : ∀ a, a ≠ r → loc1 a = locc a) : ∀ a, sh a ≠ 0 → loc1 a = loc a ∧ va_up shc r kd a ≠ 0 := by
  intro a ha
  obtain ⟨h1, h2⟩ := hkp a ha
  have hne : a ≠ r := fun e => h2 (by rw [e]; exact hr)
  exact ⟨(hloc a hne).trans h1, by rw [va_up_ne _ _ hne]; exact h2⟩
theorem wKq {sh shc loc locc loc1 shn : Nat → Nat} (hkp : ∀ a, sh a ≠ 0 → locc a = loc a ∧ shc a ≠ 0) (hloc : ∀ a, shc a ≠ 0 → loc1 a = locc a ∧ shn a ≠ 0) : ∀ a, sh a ≠ 0 → loc1 a = loc a ∧ shn a ≠ 0 := fun a ha => ⟨(hloc a (hkp a ha).2).1.trans (hkp a ha).1, (hloc a (hkp a ha).2).2⟩
theorem wNe {sh : Nat → Nat} {c r k : Nat} (h1 : sh c = k) (hk : k ≠ 0) (h2 : sh r = 0) : c ≠ r := fun e => hk (by rw [← h1, e]; exact h2)
theorem wNz {sh : Nat → Nat} {c k : Nat} (h1 : sh c = k) (hk : k ≠ 0) : sh c ≠ 0 := by rw [h1]; exact hk
theorem wR_same {loc loc1 : Nat → Nat} {c : Nat} (h : loc1 c = loc c) : wR loc c = wR loc1 c := by unfold wR; rw [h]
end WNEW
/-- a kind that was in the making is done -/
theorem wH.kind {D : va_G} {K : Nat → ClassId} {loc : Nat → Nat} {sh ln : Nat → Nat} {iv : wI} {rv : wJ} {H : Heap} (h : wH D K loc sh ln iv rv H) {c k k' : Nat} (hc : sh c = k) (hk : k ≠ 0) (hk' : k' ≠ 0) (hE : wE K loc k (ln c) (iv c) (rv c) = wE K loc k' (ln c) (iv c) (rv c)) : wH D K loc (va_up sh c k') ln iv rv H := by
  have hz : ∀ a, va_up sh c k' a ≠ 0 → sh a ≠ 0 := fun a ha => by
    by_cases h1 : a = c
    · rw [h1, hc]; exact hk
    · rw [va_up_ne _ _ h1] at ha; exact ha
  have hc0 : c ≠ 0 := h.nz hc hk
  refine ⟨by rw [va_up_ne _ _ (Ne.symm hc0)]; exact h.1, fun a b ha hb => h.2.1 a b (hz a ha) (hz b hb), fun a ha => ?_⟩
  by_cases h1 : a = c
  · subst h1
    rw [va_up_self, ← hE, ← hc]
    exact h.2.2 a (by rw [hc]; exact hk)
  · rw [va_up_ne _ _ h1] at ha ⊢
    exact h.2.2 a ha
