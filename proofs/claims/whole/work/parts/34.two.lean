/-! two worlds side by side: the class's and the model's -/
def wDj (l1 s1 l2 s2 : Nat → Nat) : Prop := ∀ a b, s1 a ≠ 0 → s2 b ≠ 0 → l1 a ≠ l2 b
theorem wDj.sym {l1 s1 l2 s2 : Nat → Nat} (h : wDj l1 s1 l2 s2) : wDj l2 s2 l1 s1 := fun a b ha hb e => h b a hb ha e.symm
section WTWO
variable {D : va_G} {K : Nat → ClassId} {l1 s1 n1 l2 s2 n2 l1' s1' : Nat → Nat} {i1 i2 : wI} {r1 r2 : wJ} {H H1 : Heap}
theorem wH.lt (h : wH D K l1 s1 n1 i1 r1 H) {a : Nat} (ha : s1 a ≠ 0) : l1 a < H.size := (h.2.2 a ha).lt
theorem wH.kept (h : wH D K l1 s1 n1 i1 r1 H) (hk : ∀ q : Nat, q < H.size → H1[q]? = H[q]?) : wH D K l1 s1 n1 i1 r1 H1 := ⟨h.1, h.2.1, fun c hc => (h.2.2 c hc).kept (hk _ (h.lt hc))⟩
theorem wH.far (h : wH D K l2 s2 n2 i2 r2 H) (hd : wDj l1 s1 l2 s2) (hk : ∀ q : Nat, q < H.size → ¬ wA l1 s1 H.size q → H1[q]? = H[q]?) : wH D K l2 s2 n2 i2 r2 H1 := by
  refine ⟨h.1, h.2.1, fun c hc => (h.2.2 c hc).kept (hk _ (h.lt hc) (fun z => ?_))⟩
  rcases z with ⟨a, ha, e⟩ | z
  · exact hd a c ha hc e
  · exact Nat.not_lt.mpr z (h.lt hc)
theorem wDj.far (h : wH D K l2 s2 n2 i2 r2 H) (hd : wDj l1 s1 l2 s2) (hn : ∀ a, s1' a ≠ 0 → wA l1 s1 H.size (l1' a)) : wDj l1' s1' l2 s2 := by
  intro a b ha hb e
  rcases hn a ha with ⟨a', h1, h2⟩ | z
  · exact hd a' b h1 hb (h2.trans e)
  · rw [e] at z
    exact Nat.not_lt.mpr z (h.lt hb)
end WTWO
section WTWOROW
variable {p : Program} {l : Launch} {e : Env} {R : Room} {s : State} {m : MethodId} {args : Array Value} {below : List Frame} {meth : Method} {c : Code} {H : Heap} {locs : List Loc} {cells slots : Nat} {Q : State → Prop}
variable {cc : ByteArray} {pc : Nat} {ls : Array Slot} {rest st0 : List Value} {D : va_G} {A : Nat → Prop} {H0 : Heap} {a : Array Value} {mc ms : Nat}
variable {K : Nat → ClassId} {l1 s1 n1 l2 s2 n2 s1' n1' : Nat → Nat} {i1 i2 : wI} {r1 r2 : wJ} {i1' : wI} {r1' : wJ}
theorem wc2 {r : Int32} (hr : va_Run p l e R s m args below meth c H locs cells slots 0 0 (F0 m pc ls st0) rest (wQi D K l1 s1 n1 i1' r1' H.size r a) (wA l1 s1 H.size)) (hS : va_S A H0 H locs) (hO : ∀ a, s1 a ≠ 0 → A (l1 a)) (hA : ∀ q, H0.size ≤ q → A q) (h2 : wH D K l2 s2 n2 i2 r2 H) (hd : wDj l1 s1 l2 s2)
    (kk : ∀ (H : Heap) (locs : List Loc), wH D K l1 s1 n1 i1' r1' H → wH D K l2 s2 n2 i2 r2 H → va_S A H0 H locs → W p l e R s m args below meth c H locs cells slots Q (F0 m (pc + 3) ls (.int r :: rest))) : W p l e R s m args below meth c H locs cells slots Q (F0 m pc ls st0) := by
  refine va_calli hr hS (fun q _ h => wA_sub hO hA hS.1 q h) (wA_sub hO hA hS.1) (fun r1 u t H1 locs ht hvm hw hB hz1 hk1 hS => ?_)
  subst hw
  rw [ht] at hB
  exact kk H1 locs hB (h2.far hd hk1) hS
theorem wcn2 {r : Int32} (hr : va_Run p l e R s m args below meth c H locs cells slots mc ms (F0 m pc ls st0) rest (wQni D K l1 s1 s1' n1' i1' r1' H.size r a) (wA l1 s1 H.size)) (hS : va_S A H0 H locs) (hO : ∀ a, s1 a ≠ 0 → A (l1 a)) (hA : ∀ q, H0.size ≤ q → A q) (h2 : wH D K l2 s2 n2 i2 r2 H) (hd : wDj l1 s1 l2 s2)
    (kk : ∀ (l1' : Nat → Nat) (H : Heap) (locs : List Loc), (∀ a, s1 a ≠ 0 → l1' a = l1 a ∧ s1' a ≠ 0) → wH D K l1' s1' n1' i1' r1' H → (∀ a, s1' a ≠ 0 → A (l1' a)) → wH D K l2 s2 n2 i2 r2 H → wDj l1' s1' l2 s2 → va_S A H0 H locs → W p l e R s m args below meth c H locs (cells + mc) (slots + ms) Q (F0 m (pc + 3) ls (.int r :: rest))) : W p l e R s m args below meth c H locs cells slots Q (F0 m pc ls st0) := by
  refine va_calli hr hS (fun q _ h => wA_sub hO hA hS.1 q h) (wA_sub hO hA hS.1) (fun r1 u t H1 locs ht hvm hw hB hz1 hk1 hS1 => ?_)
  rw [ht] at hB
  obtain ⟨rfl, hw⟩ := hw
  exact kk u H1 locs hw hB.1 (fun a ha => wA_sub hO hA hS.1 _ (hB.2 a ha)) (h2.far hd hk1) (hd.far h2 hB.2) hS1
theorem wcv2 (hr : va_Run p l e R s m args below meth c H locs cells slots mc ms (F0 m pc ls st0) rest (wQnv D K l1 s1 s1' n1' i1' r1' H.size a) (wA l1 s1 H.size)) (hS : va_S A H0 H locs) (hO : ∀ a, s1 a ≠ 0 → A (l1 a)) (hA : ∀ q, H0.size ≤ q → A q) (h2 : wH D K l2 s2 n2 i2 r2 H) (hd : wDj l1 s1 l2 s2)
    (kk : ∀ (l1' : Nat → Nat) (H : Heap) (locs : List Loc), (∀ a, s1 a ≠ 0 → l1' a = l1 a ∧ s1' a ≠ 0) → wH D K l1' s1' n1' i1' r1' H → (∀ a, s1' a ≠ 0 → A (l1' a)) → wH D K l2 s2 n2 i2 r2 H → wDj l1' s1' l2 s2 → va_S A H0 H locs → W p l e R s m args below meth c H locs (cells + mc) (slots + ms) Q (F0 m (pc + 3) ls rest)) : W p l e R s m args below meth c H locs cells slots Q (F0 m pc ls st0) := by
  refine va_callv hr hS (fun q _ h => wA_sub hO hA hS.1 q h) (wA_sub hO hA hS.1) (fun u t H1 locs ht hvm hw hB hz1 hk1 hS1 => ?_)
  rw [ht] at hB
  exact kk u H1 locs hw hB.1 (fun a ha => wA_sub hO hA hS.1 _ (hB.2 a ha)) (h2.far hd hk1) (hd.far h2 hB.2) hS1
/-- the first cell of a new world beside another -/
theorem wno2 {c0 : Code} (hexec : p.tables.exec = Jvm.exec) (hb : c0.code = cc) {own C : String} {T : u_T} {N ci index : Nat} {Ts : List Cond} (hts : ∀ w ∈ Ts, w.before args s = true) (hin : ∀ w ∈ u_ws C T N, w ∈ Ts) (ty : Nat → FieldType) (hty : ∀ k, k < N → parseFieldDescriptor (T k).2.2.1 = some (ty k)) (hown : s.vm.findClass own = some m.cls) (hcl : (Cond.classLink own index C).before args s = true) (hinst : (Cond.instantiable C N).before args s = true) (hini : (Cond.initialized C).before args s = true)
    (hK : va_K D vwCl (wT K) s) (hS : va_S A H0 H locs) (hA : ∀ q, H0.size ≤ q → A q) (kd : Nat) (hk : kd ≠ 0) {fs : List Value} (hE : ∀ (loc : Nat → Nat), wE K loc kd 0 (fun _ => 0) (fun _ => 0) = .inr (ci, fs)) (hc : vwCl[ci]? = some (C, T, N)) (hfs : ∀ j, j < N → defaultValue (ty j) = vp_V fs j) (hcells : cells + 1 ≤ R.cells) (hslots : slots + N ≤ R.slots) (h2 : wH D K l2 s2 n2 i2 r2 H) (hdg : decode cc pc = .ok (.new index, 3))
    (kk : ∀ (l1 : Nat → Nat) (H : Heap), wH D K l1 (tk [(1, kd)]) (tk [(1, 0)]) (tu []) (tr []) H → (∀ a, tk [(1, kd)] a ≠ 0 → A (l1 a)) → wH D K l2 s2 n2 i2 r2 H → wDj l1 (tk [(1, kd)]) l2 s2 → va_S A H0 H locs → W p l e R s m args below meth c0 H locs (cells + 1) (slots + N) Q (F0 m (pc + 3) ls (.ref (l1 1) :: rest))) : W p l e R s m args below meth c0 H locs cells slots Q (F0 m pc ls rest) := by
  have hKn := hK.1 ci _ hc
  have h0 : wH D K (fun _ => 0) (tk []) (tk []) (tu []) (tr []) H := ⟨rfl, fun a b ha => absurd rfl ha, fun c hc => absurd rfl hc⟩
  have hf : wFr (tk []) (tr []) 1 := ⟨by decide, rfl, fun a j => by show (0 : Nat) ≠ 1; decide, Or.inr (fun a => ⟨by show (0 : Nat) ≠ 3; decide, by show (0 : Nat) ≠ 5; decide, by show (0 : Nat) ≠ 6; decide⟩)⟩
  refine W.newcK hexec hb hown hcl hinst hini rfl hdg hcells hslots hKn.2.1 rfl fun H1 kC hkC e1 z1 o1 => ?_
  have hn := h0.new (i := fun _ => 0) (n := 0) hf hk o1 (by rw [hE]; exact ⟨_, hc, (u_born ty hts hin hKn hkC e1 hty).to hfs⟩)
  rw [tk_up, tk_up, tu_new rfl, tr_new rfl] at hn
  have hw := kk (va_up (fun _ => 0) 1 H.size) H1 hn (by rw [← tk_up]; exact wO_new (fun a ha => absurd rfl ha) (hA _ hS.1)) (h2.kept o1) (fun a b ha hb e => ?_) ⟨Nat.le_trans hS.1 (by omega), fun x h1 h2 => (o1 x (Nat.lt_of_lt_of_le h1 hS.1)).trans (hS.2.1 x h1 h2), hS.2.2⟩
  · rw [va_up_self] at hw
    exact hw
  · have ha1 : a = 1 := by
      by_cases h : a = 1
      · exact h
      · exact absurd (show tk [(1, kd)] a = 0 by rw [tk, if_neg h]; rfl) ha
    subst ha1
    rw [va_up_self] at e
    have := h2.lt hb
    omega
end WTWOROW
