/-! THE CLAIM OUT OF ONE WALK OF THE LAW'S BODY. Your part is whole_start (and what it stands on); all else here is the same for every law, but numbers. -/
def R_law : String := "CupByCupLaw"
def lw_P (b : Addr) (xs : List Int32) (args : Array Value) (s : State) : Prop := args = #[.ref b] ∧ s.IntsAt b xs ∧ xs.length ≤ 2050 ∧ (Jvm.Cond.and given_1 narrow_1).before args s = true
def lw_Q (_ : Array Value) (s : State) (o : Outcome) (t : State) : Prop := o = .returned (some (.int 1)) ∧ Framed s o t [] 600000 7302250
def lw_Z (below : List Frame) (a : Array Value) (s : State) : State → Prop := fun t => ∃ o, t.status = .running ∧ Ended t below o ∧ lw_Q a s o t
/-- the law's own end, with 1 on the stack, nothing written that was there before, its room as the claim has it -/
theorem lw_ret {p : Program} {l : Launch} {e : Env} {s : State} {m : MethodId} {below : List Frame} {meth : Method} {c : Code} {b : Nat} (hx : p.tables.exec = Jvm.exec) (hb : c.code = code) (hr : meth.sig.returnType = ret) (hlocks : meth.locks = false) {pc : Nat} {H : Heap} {ls : Array Slot} (hdg : decode code pc = .ok (.ireturn, 1)) : W p l e room_1 s m #[Value.ref b] below meth c H [] 600000 7302250 (lw_Z below #[Value.ref b] s) (F0 m pc ls [.int 1]) := by
  intro T hT X
  obtain ⟨fs, hret, hrun, hended, hW, hframe⟩ := X.leave (v := some (.int 1)) (hlocks := hlocks) (fun h => by rw [hr] at h; cases h)
  have hmeth' : T.vm.method? m = some meth := X.method'
  refine ⟨T.setFrames fs, ?_, .returned (some (.int 1)), hrun, hended, rfl, ⟨_, rfl⟩, hW, hframe⟩
  jvm_step X.here [X.here.top, hx, hb, hdg, hmeth', hr, ret, narrow_b1]
  (try refine ⟨rfl, ?_⟩); (try refine ⟨rfl, ?_⟩)
  first | (intro acts; rw [hret _ acts rfl rfl rfl]) | rw [hret _ _ rfl rfl rfl]
  exact Steps.refl _
/-- what holds at the law's entry: the machine, the code, the tables' words (any of lw_tbl by 'hts w (by decide +kernel)'), the script of L ints xs at the cell b, what the Statement gives of the start (any of its parts by flat_of_before) -/
def lw_At (p : Program) (s : State) (m : MethodId) (meth : Method) (c : Code) (b L : Nat) (xs : Nat → Int32) : Prop :=
  p.tables.exec = Jvm.exec ∧ c.code = code ∧ meth.sig.returnType = ret ∧ c.maxLocals = 4 ∧ s.vm.findClass R_law = some m.cls ∧ (∀ w ∈ lw_tbl, w.before #[Value.ref b] s = true) ∧ va_X b L xs s s.heap ∧ b < s.heap.size ∧ meth.locks = false ∧ (Jvm.Cond.and given_1 narrow_1).before #[Value.ref b] s = true
/-- what holds at the head of the loop: the class's world and the model's, bound by Rel -/
def lw_I (D : va_G) (K : Nat → ClassId) (s : State) (q1 q2 : Nat) (H : Heap) (locs : List Loc) : Prop := ∃ (ng N M nx : Nat) (l1 s1 n1 : Nat → Nat) (i1 : wI) (r1 : wJ) (l2 s2 n2 : Nat → Nat) (i2 : wI) (r2 : wJ), Rel ng N M nx s1 n1 i1 r1 i2 ∧ wBm s2 n2 ∧ wH D K l1 s1 n1 i1 r1 H ∧ wH D K l2 s2 n2 i2 r2 H ∧ wDj l1 s1 l2 s2 ∧ (∀ a, s1 a ≠ 0 → s.heap.size ≤ l1 a) ∧ (∀ a, s2 a ≠ 0 → s.heap.size ≤ l2 a) ∧ va_S (fun q : Nat => s.heap.size ≤ q) s.heap H locs ∧ l1 1 = q1 ∧ l2 1 = q2
abbrev lw_L (b q1 q2 i : Nat) : List (Nat × Value) := [(0, .ref b), (1, .ref q1), (2, .ref q2), (3, .int (nI i))]
set_option maxHeartbeats 1000000 in
theorem mtL_cell (l : Launch) {b L sz : Nat} {xs : Nat → Int32} (hL : L < 2 ^ 31) {j : Nat} {i : Int32} (hi : i = nI j) (hj : j < 2 ^ 31) : Met l yL_cell wsL_cell ({ frames := 0, cells := 0, slots := 0, locals := 0 }) (va_Pc [.ref b, .int i] (fun U => U.heap.size = sz ∧ va_X b L xs U U.heap ∧ b < sz)) (va_Qi (fun (r : Int32) (_ : Unit) => r = if j < L then xs j else 0) (fun _ _ => True) (fun q => sz ≤ q)) 0 0 (fun q => sz ≤ q) := by
  refine Met.ofW (cc := cL_cell) (maxL := 2) (ret := (some .int)) (by decide) rfl ?_
  intro p e s m args below meth c s₁ B hml hv
  obtain ⟨rfl, hsz, hX, hbl⟩ := hv
  have hx := B.exec
  have hb := B.bytes
  have hr := B.returns
  have hlocks := B.notSynchronized
  subst hsz
  have hbA : ¬ (fun q : Nat => s.heap.size ≤ q) b := Nat.not_le.mpr hbl
  have hS : va_S (fun q : Nat => s.heap.size ≤ q) s.heap s.heap [] := va_S.rf
  obtain ⟨ls, hen, hl⟩ := wEntry m [.ref b, .int i] 2 (List.forall_mem_cons.mpr ⟨rfl, List.forall_mem_cons.mpr ⟨rfl, fun _ h => absurd h List.not_mem_nil⟩⟩) (Nat.le_of_ble_eq_true rfl)
  rw [hen]
  clear hen
  have hl : lv_has ls 2 [(0, .ref b), (1, .int i)] := hl
  refine lv_iload_n hx hb dL_cell_0 rfl (lv_at hl 1 rfl) ?_
  refine lv_aload_n hx hb dL_cell_1 rfl (lv_at hl 0 rfl) ?_
  refine va_slen hx hb hX hbl hbA hS dL_cell_2 ?_
  refine lv_icmp_ge (tgt := 12) hx hb dL_cell_3 (by decide) (fun c1 => ?_) (fun c1 => ?_)
  · have hge : ¬ j < L := fun q => nI_ge q hL (by rw [← hi]; exact c1)
    refine lv_iconst (v := 0) hx hb dL_cell_12 (by decide) ?_
    exact W.iret (v := 0) hx hb hr (fun t ht hW => ⟨⟨_, (), rfl, (if_neg hge).symm, trivial⟩, hS.F ht⟩) hS.2.2 dL_cell_13
  · have hlt : j < L := Nat.lt_of_not_le (fun q => c1 (by rw [hi]; exact nI_le q hj))
    refine lv_aload_n hx hb dL_cell_6 rfl (lv_at hl 0 rfl) ?_
    refine lv_iload_n hx hb dL_cell_7 rfl (lv_at hl 1 rfl) ?_
    refine va_sld hx hb hX hbl hbA hS (by rw [hi]; exact vp_in_nI hlt hL) dL_cell_8 ?_
    refine lv_goto (tgt := 13) hx hb dL_cell_9 (by decide) ?_
    exact W.iret (v := xs i.toNatClampNeg) hx hb hr (fun t ht hW => ⟨⟨_, (), rfl, by rw [if_pos hlt, hi, nI_clamp hj], trivial⟩, hS.F ht⟩) hS.2.2 dL_cell_13
section LAWROW
variable {p : Program} {l : Launch} {e : Env} {s : State} {m : MethodId} {below : List Frame} {meth : Method} {c : Code} {b L : Nat} {xs : Nat → Int32} {H : Heap} {locs : List Loc} {cells slots : Nat} {Q : State → Prop} {pc : Nat} {ls : Array Slot} {rest : List Value} {D : va_G} {K : Nat → ClassId} {q1 q2 i : Nat}
theorem wcell (hL : L ≤ 2050) (C0 : lw_At p s m meth c b L xs) (hS : va_S (fun q : Nat => s.heap.size ≤ q) s.heap H locs) (j : Nat) {x : Int32} (hi : x = nI j) (hj : j < 2 ^ 31) (hz : ls.size = 4) (hrm : (rest.map fun v => v.category).sum ≤ 8) (hc : cells ≤ 600000) (hs : slots ≤ 7302250) (hdg : decode cL_law pc = .ok (.invokestatic 9, 3))
    (kk : ∀ (H1 : Heap) (locs1 : List Loc), (∀ q : Nat, q < H.size → H1[q]? = H[q]?) → va_S (fun q : Nat => s.heap.size ≤ q) s.heap H1 locs1 → W p l e room_1 s m #[Value.ref b] below meth c H1 locs1 cells slots Q (F0 m (pc + 3) ls (.int (if j < L then xs j else 0) :: rest))) : W p l e room_1 s m #[Value.ref b] below meth c H locs cells slots Q (F0 m pc ls (.int x :: .ref b :: rest)) := by
  obtain ⟨hx, hb, hr, hml, hown, hts0, hX, hbl, hlocks, hgv⟩ := C0
  have hts : ∀ w ∈ wsL_law, w.before #[Value.ref b] s = true := fun w h => hts0 w (wsL_law_in w h)
  have hXH : va_X b L xs s H := hX.kept (hS.2.1 b hbl (Nat.not_le.mpr hbl))
  refine va_calli (va_runS (As := [.ref b, .int x]) (rest := rest) ⟨hx, hb, hml, hown, hts⟩ (mtL_cell l (b := b) (L := L) (sz := H.size) (xs := xs) (by omega) hi hj) (va_cwS 2 hts gL_law_L_cell rfl rfl rfl (by decide +kernel) ⟨Nat.le_of_ble_eq_true rfl, Nat.le_of_ble_eq_true rfl⟩) ⟨fun a U g mk h => ?_, fun U hU hW => ⟨rfl, by rw [hU], by rw [hU]; exact va_X.moved hW.alike hXH, Nat.lt_of_lt_of_le hbl hS.1⟩⟩ rfl rfl hz rfl (lv_room hrm) hdg ⟨by show _ ≤ 600000; omega, by show _ ≤ 7302250; omega⟩) hS (fun q h1 h2 => absurd h2 (Nat.not_le.mpr h1)) (fun q h => Nat.le_trans hS.1 h) (fun r u t H1 locs ht hvm hw hB hz1 hk1 hS1 => ?_)
  · obtain ⟨h0, h1, h2, h3⟩ := h
    exact ⟨h0, h1, va_X.moved (u := U) (U := U.calling g mk a) (Vm.Alike.refl U.vm) h2, h3⟩
  · subst hw
    exact kk H1 locs (fun q hq => hk1 q hq (Nat.not_le.mpr hq)) hS1
theorem warg (hL : L ≤ 2050) (C0 : lw_At p s m meth c b L xs) (hS : va_S (fun q : Nat => s.heap.size ≤ q) s.heap H locs) (hl : lv_has ls 4 (lw_L b q1 q2 i)) (k : Nat) {n : Int} (hk : i + k < L) (hn : Int32.ofInt n = nI k) (d0 : decode cL_law pc = .ok (.aload_n 0, 1)) (d1 : decode cL_law (pc + 1) = .ok (.iload_n 3, 1)) (d2 : decode cL_law (pc + 1 + 1) = .ok (.iconst n, 1)) (d3 : decode cL_law (pc + 1 + 1 + 1) = .ok (.iadd, 1)) (d4 : decode cL_law (pc + 1 + 1 + 1 + 1) = .ok (.iaload, 1))
    (kk : W p l e room_1 s m #[Value.ref b] below meth c H locs cells slots Q (F0 m (pc + 5) ls (.int (xs (i + k)) :: rest))) : W p l e room_1 s m #[Value.ref b] below meth c H locs cells slots Q (F0 m pc ls rest) := by
  obtain ⟨hx, hb, hr, hml, hown, hts0, hX, hbl, hlocks, hgv⟩ := C0
  refine lv_aload_n hx hb d0 rfl (lv_at hl 0 rfl) ?_
  refine lv_iload_n hx hb d1 rfl (lv_at hl 3 rfl) ?_
  refine lv_iconst (v := nI k) hx hb d2 hn ?_
  refine lv_iadd hx hb d3 ?_
  rw [nI_add]
  refine va_sld hx hb hX hbl (Nat.not_le.mpr hbl) hS (vp_in_nI hk (by omega)) d4 ?_
  rw [nI_clamp (show i + k < 2 ^ 31 by omega)]
  exact kk

set_option maxHeartbeats 1000000 in
theorem case_recipe (hL : L ≤ 2050) (C0 : lw_At p s m meth c b L xs) (hKn : wKn D K s) (hi : i + 4 ≤ L) (hI : lw_I D K s q1 q2 H locs) (hc : cells + 7 ≤ 600000) (hs : slots + 77 ≤ 7302250) (hl : lv_has ls 4 (lw_L b q1 q2 i)) (kk : ∀ (H : Heap) (locs : List Loc), lw_I D K s q1 q2 H locs → W p l e room_1 s m #[Value.ref b] below meth c H locs (cells + 7) (slots + 77) Q (F0 m 536 ls [])) : W p l e room_1 s m #[Value.ref b] below meth c H locs cells slots Q (F0 m 124 ls []) := by
  obtain ⟨hx, hb, hr, hml, hown, hts0, hX, hbl, hlocks, hgv⟩ := id C0
  have hts : ∀ w ∈ wsL_law, w.before #[Value.ref b] s = true := fun w h => hts0 w (wsL_law_in w h)
  have hA : ∀ q : Nat, s.heap.size ≤ q → (fun q : Nat => s.heap.size ≤ q) q := fun _ h => h
  obtain ⟨ng, N, M, nx, l1, s1, n1, i1, r1, l2, s2, n2, i2, r2, hR, hm, h1, h2, hd, hO1, hO2, hS, rfl, rfl⟩ := hI
  have k1 : s1 1 = 5 := hR.1.1.1 1 5 List.mem_cons_self
  have k2 : s2 1 = 6 := hm.1 1 6 List.mem_cons_self
  obtain ⟨M', nx', s1', n1', i1', r1', m', r, f1, f2, hR'⟩ := sim_recipe hR (xs (i + 1)) (xs (i + 2))
  refine lv_aload_n hx hb dL_law_124 rfl (lv_at hl 1 rfl) ?_
  refine warg (pc := 125) hL C0 hS hl 1 (by omega) (by decide +kernel) dL_law_125 dL_law_126 dL_law_127 dL_law_128 dL_law_129 ?_
  refine warg (pc := 130) hL C0 hS hl 2 (by omega) (by decide +kernel) dL_law_130 dL_law_131 dL_law_132 dL_law_133 dL_law_134 ?_
  refine wcn2 (va_runV (As := [.int (xs (i + 1)), .int (xs (i + 2))]) (rest := []) ⟨hx, hb, hml, hown, hts⟩ (mtX4_recipe l D K l1 s1 n1 i1 r1 _ nx _ _ f1) (cwV 2 hts gL_law_X4_recipe rfl rfl rfl (by decide +kernel) ⟨Nat.le_of_ble_eq_true rfl, Nat.le_of_ble_eq_true rfl⟩) (wPreV hKn h1 k1 (by decide) rfl rfl) rfl rfl hl.1 rfl (lv_room (Nat.le_of_ble_eq_true rfl)) dL_law_135 ⟨by show _ ≤ 600000; omega, by show _ ≤ 7302250; omega⟩) hS hO1 hA h2 hd (fun l1' H locs hk h1 hO1 h2 hd hS => ?_)
  refine lv_aload_n hx hb dL_law_138 rfl (lv_at hl 2 rfl) ?_
  refine warg (pc := 139) hL C0 hS hl 1 (by omega) (by decide +kernel) dL_law_139 dL_law_140 dL_law_141 dL_law_142 dL_law_143 ?_
  refine warg (pc := 144) hL C0 hS hl 2 (by omega) (by decide +kernel) dL_law_144 dL_law_145 dL_law_146 dL_law_147 dL_law_148 ?_
  refine wc2 (va_runV (As := [.int (xs (i + 1)), .int (xs (i + 2))]) (rest := [.int r]) ⟨hx, hb, hml, hown, hts⟩ (mtX5_recipe l D K l2 s2 n2 i2 r2 _ _ _ hm f2) (cwV 2 hts gL_law_X5_recipe rfl rfl rfl (by decide +kernel) ⟨Nat.le_of_ble_eq_true rfl, Nat.le_of_ble_eq_true rfl⟩) (wPreV hKn h2 k2 (by decide) rfl rfl) rfl rfl hl.1 rfl (lv_room (Nat.le_of_ble_eq_true rfl)) dL_law_149 ⟨by show _ ≤ 600000; omega, by show _ ≤ 7302250; omega⟩) hS hO2 hA h1 hd.sym (fun H locs h2 h1 hS => ?_)
  refine lv_icmp_eq (tgt := 536) hx hb dL_law_152 (by decide) (fun _ => ?_) (fun z => absurd rfl z)
  refine W.widen (k := cells + 7) (n := slots + 77) (by omega) (by omega) ?_
  exact kk H locs ⟨ng, N, M', nx', l1', s1', n1', i1', r1', l2, s2, n2, m', r2, hR', hm, h1, h2, hd, hO1, hO2, hS, (hk 1 (by rw [k1]; decide)).1, rfl⟩
set_option maxHeartbeats 1000000 in
theorem case_alter (hL : L ≤ 2050) (C0 : lw_At p s m meth c b L xs) (hKn : wKn D K s) (hi : i + 4 ≤ L) (hI : lw_I D K s q1 q2 H locs) (hc : cells + 7 ≤ 600000) (hs : slots + 77 ≤ 7302250) (hl : lv_has ls 4 (lw_L b q1 q2 i)) (kk : ∀ (H : Heap) (locs : List Loc), lw_I D K s q1 q2 H locs → W p l e room_1 s m #[Value.ref b] below meth c H locs (cells + 7) (slots + 77) Q (F0 m 536 ls [])) : W p l e room_1 s m #[Value.ref b] below meth c H locs cells slots Q (F0 m 157 ls []) := by
  obtain ⟨hx, hb, hr, hml, hown, hts0, hX, hbl, hlocks, hgv⟩ := id C0
  have hts : ∀ w ∈ wsL_law, w.before #[Value.ref b] s = true := fun w h => hts0 w (wsL_law_in w h)
  have hA : ∀ q : Nat, s.heap.size ≤ q → (fun q : Nat => s.heap.size ≤ q) q := fun _ h => h
  obtain ⟨ng, N, M, nx, l1, s1, n1, i1, r1, l2, s2, n2, i2, r2, hR, hm, h1, h2, hd, hO1, hO2, hS, rfl, rfl⟩ := hI
  have k1 : s1 1 = 5 := hR.1.1.1 1 5 List.mem_cons_self
  have k2 : s2 1 = 6 := hm.1 1 6 List.mem_cons_self
  obtain ⟨nx', s1', n1', i1', r1', m', r, f1, f2, hR'⟩ := sim_alter hR (xs (i + 1)) (xs (i + 2)) (xs (i + 3))
  refine lv_aload_n hx hb dL_law_157 rfl (lv_at hl 1 rfl) ?_
  refine warg (pc := 158) hL C0 hS hl 1 (by omega) (by decide +kernel) dL_law_158 dL_law_159 dL_law_160 dL_law_161 dL_law_162 ?_
  refine warg (pc := 163) hL C0 hS hl 2 (by omega) (by decide +kernel) dL_law_163 dL_law_164 dL_law_165 dL_law_166 dL_law_167 ?_
  refine warg (pc := 168) hL C0 hS hl 3 (by omega) (by decide +kernel) dL_law_168 dL_law_169 dL_law_170 dL_law_171 dL_law_172 ?_
  refine wcn2 (va_runV (As := [.int (xs (i + 1)), .int (xs (i + 2)), .int (xs (i + 3))]) (rest := []) ⟨hx, hb, hml, hown, hts⟩ (mtX4_alter l D K l1 s1 n1 i1 r1 _ nx _ _ _ f1) (cwV 3 hts gL_law_X4_alter rfl rfl rfl (by decide +kernel) ⟨Nat.le_of_ble_eq_true rfl, Nat.le_of_ble_eq_true rfl⟩) (wPreV hKn h1 k1 (by decide) rfl rfl) rfl rfl hl.1 rfl (lv_room (Nat.le_of_ble_eq_true rfl)) dL_law_173 ⟨by show _ ≤ 600000; omega, by show _ ≤ 7302250; omega⟩) hS hO1 hA h2 hd (fun l1' H locs hk h1 hO1 h2 hd hS => ?_)
  refine lv_aload_n hx hb dL_law_176 rfl (lv_at hl 2 rfl) ?_
  refine warg (pc := 177) hL C0 hS hl 1 (by omega) (by decide +kernel) dL_law_177 dL_law_178 dL_law_179 dL_law_180 dL_law_181 ?_
  refine warg (pc := 182) hL C0 hS hl 2 (by omega) (by decide +kernel) dL_law_182 dL_law_183 dL_law_184 dL_law_185 dL_law_186 ?_
  refine warg (pc := 187) hL C0 hS hl 3 (by omega) (by decide +kernel) dL_law_187 dL_law_188 dL_law_189 dL_law_190 dL_law_191 ?_
  refine wc2 (va_runV (As := [.int (xs (i + 1)), .int (xs (i + 2)), .int (xs (i + 3))]) (rest := [.int r]) ⟨hx, hb, hml, hown, hts⟩ (mtX5_alter l D K l2 s2 n2 i2 r2 _ _ _ _ hm f2) (cwV 3 hts gL_law_X5_alter rfl rfl rfl (by decide +kernel) ⟨Nat.le_of_ble_eq_true rfl, Nat.le_of_ble_eq_true rfl⟩) (wPreV hKn h2 k2 (by decide) rfl rfl) rfl rfl hl.1 rfl (lv_room (Nat.le_of_ble_eq_true rfl)) dL_law_192 ⟨by show _ ≤ 600000; omega, by show _ ≤ 7302250; omega⟩) hS hO2 hA h1 hd.sym (fun H locs h2 h1 hS => ?_)
  refine lv_icmp_eq (tgt := 536) hx hb dL_law_195 (by decide) (fun _ => ?_) (fun z => absurd rfl z)
  refine W.widen (k := cells + 7) (n := slots + 77) (by omega) (by omega) ?_
  exact kk H locs ⟨ng, N, M, nx', l1', s1', n1', i1', r1', l2, s2, n2, m', r2, hR', hm, h1, h2, hd, hO1, hO2, hS, (hk 1 (by rw [k1]; decide)).1, rfl⟩
set_option maxHeartbeats 1000000 in
theorem case_store (hL : L ≤ 2050) (C0 : lw_At p s m meth c b L xs) (hKn : wKn D K s) (hi : i + 4 ≤ L) (hI : lw_I D K s q1 q2 H locs) (hc : cells + 7 ≤ 600000) (hs : slots + 77 ≤ 7302250) (hl : lv_has ls 4 (lw_L b q1 q2 i)) (kk : ∀ (H : Heap) (locs : List Loc), lw_I D K s q1 q2 H locs → W p l e room_1 s m #[Value.ref b] below meth c H locs (cells + 7) (slots + 77) Q (F0 m 536 ls [])) : W p l e room_1 s m #[Value.ref b] below meth c H locs cells slots Q (F0 m 200 ls []) := by
  obtain ⟨hx, hb, hr, hml, hown, hts0, hX, hbl, hlocks, hgv⟩ := id C0
  have hts : ∀ w ∈ wsL_law, w.before #[Value.ref b] s = true := fun w h => hts0 w (wsL_law_in w h)
  have hA : ∀ q : Nat, s.heap.size ≤ q → (fun q : Nat => s.heap.size ≤ q) q := fun _ h => h
  obtain ⟨ng, N, M, nx, l1, s1, n1, i1, r1, l2, s2, n2, i2, r2, hR, hm, h1, h2, hd, hO1, hO2, hS, rfl, rfl⟩ := hI
  have k1 : s1 1 = 5 := hR.1.1.1 1 5 List.mem_cons_self
  have k2 : s2 1 = 6 := hm.1 1 6 List.mem_cons_self
  obtain ⟨i1', m', r, f1, f2, hR'⟩ := sim_store hR (xs (i + 1)) (xs (i + 2))
  refine lv_aload_n hx hb dL_law_200 rfl (lv_at hl 1 rfl) ?_
  refine warg (pc := 201) hL C0 hS hl 1 (by omega) (by decide +kernel) dL_law_201 dL_law_202 dL_law_203 dL_law_204 dL_law_205 ?_
  refine warg (pc := 206) hL C0 hS hl 2 (by omega) (by decide +kernel) dL_law_206 dL_law_207 dL_law_208 dL_law_209 dL_law_210 ?_
  refine wc2 (va_runV (As := [.int (xs (i + 1)), .int (xs (i + 2))]) (rest := []) ⟨hx, hb, hml, hown, hts⟩ (mtX4_store l D K l1 s1 n1 i1 r1 _ ng _ _ hR.1.1 f1) (cwV 2 hts gL_law_X4_store rfl rfl rfl (by decide +kernel) ⟨Nat.le_of_ble_eq_true rfl, Nat.le_of_ble_eq_true rfl⟩) (wPreV hKn h1 k1 (by decide) rfl rfl) rfl rfl hl.1 rfl (lv_room (Nat.le_of_ble_eq_true rfl)) dL_law_211 ⟨by show _ ≤ 600000; omega, by show _ ≤ 7302250; omega⟩) hS hO1 hA h2 hd (fun H locs h1 h2 hS => ?_)
  refine lv_aload_n hx hb dL_law_214 rfl (lv_at hl 2 rfl) ?_
  refine warg (pc := 215) hL C0 hS hl 1 (by omega) (by decide +kernel) dL_law_215 dL_law_216 dL_law_217 dL_law_218 dL_law_219 ?_
  refine warg (pc := 220) hL C0 hS hl 2 (by omega) (by decide +kernel) dL_law_220 dL_law_221 dL_law_222 dL_law_223 dL_law_224 ?_
  refine wc2 (va_runV (As := [.int (xs (i + 1)), .int (xs (i + 2))]) (rest := [.int r]) ⟨hx, hb, hml, hown, hts⟩ (mtX5_store l D K l2 s2 n2 i2 r2 _ _ _ hm f2) (cwV 2 hts gL_law_X5_store rfl rfl rfl (by decide +kernel) ⟨Nat.le_of_ble_eq_true rfl, Nat.le_of_ble_eq_true rfl⟩) (wPreV hKn h2 k2 (by decide) rfl rfl) rfl rfl hl.1 rfl (lv_room (Nat.le_of_ble_eq_true rfl)) dL_law_225 ⟨by show _ ≤ 600000; omega, by show _ ≤ 7302250; omega⟩) hS hO2 hA h1 hd.sym (fun H locs h2 h1 hS => ?_)
  refine lv_icmp_eq (tgt := 536) hx hb dL_law_228 (by decide) (fun _ => ?_) (fun z => absurd rfl z)
  refine W.widen (k := cells + 7) (n := slots + 77) (by omega) (by omega) ?_
  exact kk H locs ⟨ng, N, M, nx, l1, s1, n1, i1', r1, l2, s2, n2, m', r2, hR', hm, h1, h2, hd, hO1, hO2, hS, rfl, rfl⟩
set_option maxHeartbeats 1000000 in
theorem case_order (hL : L ≤ 2050) (C0 : lw_At p s m meth c b L xs) (hKn : wKn D K s) (hi : i + 4 ≤ L) (hI : lw_I D K s q1 q2 H locs) (hc : cells + 7 ≤ 600000) (hs : slots + 77 ≤ 7302250) (hl : lv_has ls 4 (lw_L b q1 q2 i)) (kk : ∀ (H : Heap) (locs : List Loc), lw_I D K s q1 q2 H locs → W p l e room_1 s m #[Value.ref b] below meth c H locs (cells + 7) (slots + 77) Q (F0 m 536 ls [])) : W p l e room_1 s m #[Value.ref b] below meth c H locs cells slots Q (F0 m 233 ls []) := by
  obtain ⟨hx, hb, hr, hml, hown, hts0, hX, hbl, hlocks, hgv⟩ := id C0
  have hts : ∀ w ∈ wsL_law, w.before #[Value.ref b] s = true := fun w h => hts0 w (wsL_law_in w h)
  have hA : ∀ q : Nat, s.heap.size ≤ q → (fun q : Nat => s.heap.size ≤ q) q := fun _ h => h
  obtain ⟨ng, N, M, nx, l1, s1, n1, i1, r1, l2, s2, n2, i2, r2, hR, hm, h1, h2, hd, hO1, hO2, hS, rfl, rfl⟩ := hI
  have k1 : s1 1 = 5 := hR.1.1.1 1 5 List.mem_cons_self
  have k2 : s2 1 = 6 := hm.1 1 6 List.mem_cons_self
  obtain ⟨N', s1', n1', i1', r1', m', r, f1, f2, hR'⟩ := sim_order hR (xs (i + 1)) (xs (i + 2)) (xs (i + 3))
  refine lv_aload_n hx hb dL_law_233 rfl (lv_at hl 1 rfl) ?_
  refine warg (pc := 234) hL C0 hS hl 1 (by omega) (by decide +kernel) dL_law_234 dL_law_235 dL_law_236 dL_law_237 dL_law_238 ?_
  refine warg (pc := 239) hL C0 hS hl 2 (by omega) (by decide +kernel) dL_law_239 dL_law_240 dL_law_241 dL_law_242 dL_law_243 ?_
  refine warg (pc := 244) hL C0 hS hl 3 (by omega) (by decide +kernel) dL_law_244 dL_law_245 dL_law_246 dL_law_247 dL_law_248 ?_
  refine wcn2 (va_runV (As := [.int (xs (i + 1)), .int (xs (i + 2)), .int (xs (i + 3))]) (rest := []) ⟨hx, hb, hml, hown, hts⟩ (mtX4_order l D K l1 s1 n1 i1 r1 _ _ _ _ f1) (cwV 3 hts gL_law_X4_order rfl rfl rfl (by decide +kernel) ⟨Nat.le_of_ble_eq_true rfl, Nat.le_of_ble_eq_true rfl⟩) (wPreV hKn h1 k1 (by decide) rfl rfl) rfl rfl hl.1 rfl (lv_room (Nat.le_of_ble_eq_true rfl)) dL_law_249 ⟨by show _ ≤ 600000; omega, by show _ ≤ 7302250; omega⟩) hS hO1 hA h2 hd (fun l1' H locs hk h1 hO1 h2 hd hS => ?_)
  refine lv_aload_n hx hb dL_law_252 rfl (lv_at hl 2 rfl) ?_
  refine warg (pc := 253) hL C0 hS hl 1 (by omega) (by decide +kernel) dL_law_253 dL_law_254 dL_law_255 dL_law_256 dL_law_257 ?_
  refine warg (pc := 258) hL C0 hS hl 2 (by omega) (by decide +kernel) dL_law_258 dL_law_259 dL_law_260 dL_law_261 dL_law_262 ?_
  refine warg (pc := 263) hL C0 hS hl 3 (by omega) (by decide +kernel) dL_law_263 dL_law_264 dL_law_265 dL_law_266 dL_law_267 ?_
  refine wc2 (va_runV (As := [.int (xs (i + 1)), .int (xs (i + 2)), .int (xs (i + 3))]) (rest := [.int r]) ⟨hx, hb, hml, hown, hts⟩ (mtX5_order l D K l2 s2 n2 i2 r2 _ _ _ _ hm f2) (cwV 3 hts gL_law_X5_order rfl rfl rfl (by decide +kernel) ⟨Nat.le_of_ble_eq_true rfl, Nat.le_of_ble_eq_true rfl⟩) (wPreV hKn h2 k2 (by decide) rfl rfl) rfl rfl hl.1 rfl (lv_room (Nat.le_of_ble_eq_true rfl)) dL_law_268 ⟨by show _ ≤ 600000; omega, by show _ ≤ 7302250; omega⟩) hS hO2 hA h1 hd.sym (fun H locs h2 h1 hS => ?_)
  refine lv_icmp_eq (tgt := 536) hx hb dL_law_271 (by decide) (fun _ => ?_) (fun z => absurd rfl z)
  refine W.widen (k := cells + 7) (n := slots + 77) (by omega) (by omega) ?_
  exact kk H locs ⟨ng, N', M, nx, l1', s1', n1', i1', r1', l2, s2, n2, m', r2, hR', hm, h1, h2, hd, hO1, hO2, hS, (hk 1 (by rw [k1]; decide)).1, rfl⟩
set_option maxHeartbeats 1000000 in
theorem case_take (hL : L ≤ 2050) (C0 : lw_At p s m meth c b L xs) (hKn : wKn D K s) (hi : i + 4 ≤ L) (hI : lw_I D K s q1 q2 H locs) (hc : cells + 7 ≤ 600000) (hs : slots + 77 ≤ 7302250) (hl : lv_has ls 4 (lw_L b q1 q2 i)) (kk : ∀ (H : Heap) (locs : List Loc), lw_I D K s q1 q2 H locs → W p l e room_1 s m #[Value.ref b] below meth c H locs (cells + 7) (slots + 77) Q (F0 m 536 ls [])) : W p l e room_1 s m #[Value.ref b] below meth c H locs cells slots Q (F0 m 276 ls []) := by
  obtain ⟨hx, hb, hr, hml, hown, hts0, hX, hbl, hlocks, hgv⟩ := id C0
  have hts : ∀ w ∈ wsL_law, w.before #[Value.ref b] s = true := fun w h => hts0 w (wsL_law_in w h)
  have hA : ∀ q : Nat, s.heap.size ≤ q → (fun q : Nat => s.heap.size ≤ q) q := fun _ h => h
  obtain ⟨ng, N, M, nx, l1, s1, n1, i1, r1, l2, s2, n2, i2, r2, hR, hm, h1, h2, hd, hO1, hO2, hS, rfl, rfl⟩ := hI
  have k1 : s1 1 = 5 := hR.1.1.1 1 5 List.mem_cons_self
  have k2 : s2 1 = 6 := hm.1 1 6 List.mem_cons_self
  obtain ⟨i1', r1', m', r, f1, f2, hR'⟩ := sim_take hR (xs (i + 1))
  refine lv_aload_n hx hb dL_law_276 rfl (lv_at hl 1 rfl) ?_
  refine warg (pc := 277) hL C0 hS hl 1 (by omega) (by decide +kernel) dL_law_277 dL_law_278 dL_law_279 dL_law_280 dL_law_281 ?_
  refine wc2 (va_runV (As := [.int (xs (i + 1))]) (rest := []) ⟨hx, hb, hml, hown, hts⟩ (mtX4_take l D K l1 s1 n1 i1 r1 _ ng _ hR.1.1 f1) (cwV 1 hts gL_law_X4_take rfl rfl rfl (by decide +kernel) ⟨Nat.le_of_ble_eq_true rfl, Nat.le_of_ble_eq_true rfl⟩) (wPreV hKn h1 k1 (by decide) rfl rfl) rfl rfl hl.1 rfl (lv_room (Nat.le_of_ble_eq_true rfl)) dL_law_282 ⟨by show _ ≤ 600000; omega, by show _ ≤ 7302250; omega⟩) hS hO1 hA h2 hd (fun H locs h1 h2 hS => ?_)
  refine lv_aload_n hx hb dL_law_285 rfl (lv_at hl 2 rfl) ?_
  refine warg (pc := 286) hL C0 hS hl 1 (by omega) (by decide +kernel) dL_law_286 dL_law_287 dL_law_288 dL_law_289 dL_law_290 ?_
  refine wc2 (va_runV (As := [.int (xs (i + 1))]) (rest := [.int r]) ⟨hx, hb, hml, hown, hts⟩ (mtX5_take l D K l2 s2 n2 i2 r2 _ _ hm f2) (cwV 1 hts gL_law_X5_take rfl rfl rfl (by decide +kernel) ⟨Nat.le_of_ble_eq_true rfl, Nat.le_of_ble_eq_true rfl⟩) (wPreV hKn h2 k2 (by decide) rfl rfl) rfl rfl hl.1 rfl (lv_room (Nat.le_of_ble_eq_true rfl)) dL_law_291 ⟨by show _ ≤ 600000; omega, by show _ ≤ 7302250; omega⟩) hS hO2 hA h1 hd.sym (fun H locs h2 h1 hS => ?_)
  refine lv_icmp_eq (tgt := 536) hx hb dL_law_294 (by decide) (fun _ => ?_) (fun z => absurd rfl z)
  refine W.widen (k := cells + 7) (n := slots + 77) (by omega) (by omega) ?_
  exact kk H locs ⟨ng, N, M, nx, l1, s1, n1, i1', r1', l2, s2, n2, m', r2, hR', hm, h1, h2, hd, hO1, hO2, hS, rfl, rfl⟩
set_option maxHeartbeats 1000000 in
theorem case_go (hL : L ≤ 2050) (C0 : lw_At p s m meth c b L xs) (hKn : wKn D K s) (hi : i + 4 ≤ L) (hI : lw_I D K s q1 q2 H locs) (hc : cells + 7 ≤ 600000) (hs : slots + 77 ≤ 7302250) (hl : lv_has ls 4 (lw_L b q1 q2 i)) (kk : ∀ (H : Heap) (locs : List Loc), lw_I D K s q1 q2 H locs → W p l e room_1 s m #[Value.ref b] below meth c H locs (cells + 7) (slots + 77) Q (F0 m 536 ls [])) : W p l e room_1 s m #[Value.ref b] below meth c H locs cells slots Q (F0 m 299 ls []) := by
  obtain ⟨hx, hb, hr, hml, hown, hts0, hX, hbl, hlocks, hgv⟩ := id C0
  have hts : ∀ w ∈ wsL_law, w.before #[Value.ref b] s = true := fun w h => hts0 w (wsL_law_in w h)
  have hA : ∀ q : Nat, s.heap.size ≤ q → (fun q : Nat => s.heap.size ≤ q) q := fun _ h => h
  obtain ⟨ng, N, M, nx, l1, s1, n1, i1, r1, l2, s2, n2, i2, r2, hR, hm, h1, h2, hd, hO1, hO2, hS, rfl, rfl⟩ := hI
  have k1 : s1 1 = 5 := hR.1.1.1 1 5 List.mem_cons_self
  have k2 : s2 1 = 6 := hm.1 1 6 List.mem_cons_self
  obtain ⟨i1', r1', m', r, f1, f2, hR'⟩ := sim_go hR (xs (i + 1))
  refine lv_aload_n hx hb dL_law_299 rfl (lv_at hl 1 rfl) ?_
  refine warg (pc := 300) hL C0 hS hl 1 (by omega) (by decide +kernel) dL_law_300 dL_law_301 dL_law_302 dL_law_303 dL_law_304 ?_
  refine wc2 (va_runV (As := [.int (xs (i + 1))]) (rest := []) ⟨hx, hb, hml, hown, hts⟩ (mtX4_go l D K l1 s1 n1 i1 r1 _ ng _ hR.1.1 f1) (cwV 1 hts gL_law_X4_go rfl rfl rfl (by decide +kernel) ⟨Nat.le_of_ble_eq_true rfl, Nat.le_of_ble_eq_true rfl⟩) (wPreV hKn h1 k1 (by decide) rfl rfl) rfl rfl hl.1 rfl (lv_room (Nat.le_of_ble_eq_true rfl)) dL_law_305 ⟨by show _ ≤ 600000; omega, by show _ ≤ 7302250; omega⟩) hS hO1 hA h2 hd (fun H locs h1 h2 hS => ?_)
  refine lv_aload_n hx hb dL_law_308 rfl (lv_at hl 2 rfl) ?_
  refine warg (pc := 309) hL C0 hS hl 1 (by omega) (by decide +kernel) dL_law_309 dL_law_310 dL_law_311 dL_law_312 dL_law_313 ?_
  refine wc2 (va_runV (As := [.int (xs (i + 1))]) (rest := [.int r]) ⟨hx, hb, hml, hown, hts⟩ (mtX5_go l D K l2 s2 n2 i2 r2 _ _ hm f2) (cwV 1 hts gL_law_X5_go rfl rfl rfl (by decide +kernel) ⟨Nat.le_of_ble_eq_true rfl, Nat.le_of_ble_eq_true rfl⟩) (wPreV hKn h2 k2 (by decide) rfl rfl) rfl rfl hl.1 rfl (lv_room (Nat.le_of_ble_eq_true rfl)) dL_law_314 ⟨by show _ ≤ 600000; omega, by show _ ≤ 7302250; omega⟩) hS hO2 hA h1 hd.sym (fun H locs h2 h1 hS => ?_)
  refine lv_icmp_eq (tgt := 536) hx hb dL_law_317 (by decide) (fun _ => ?_) (fun z => absurd rfl z)
  refine W.widen (k := cells + 7) (n := slots + 77) (by omega) (by omega) ?_
  exact kk H locs ⟨ng, N, M, nx, l1, s1, n1, i1', r1', l2, s2, n2, m', r2, hR', hm, h1, h2, hd, hO1, hO2, hS, rfl, rfl⟩
set_option maxHeartbeats 1000000 in
theorem case_fault (hL : L ≤ 2050) (C0 : lw_At p s m meth c b L xs) (hKn : wKn D K s) (hi : i + 4 ≤ L) (hI : lw_I D K s q1 q2 H locs) (hc : cells + 7 ≤ 600000) (hs : slots + 77 ≤ 7302250) (hl : lv_has ls 4 (lw_L b q1 q2 i)) (kk : ∀ (H : Heap) (locs : List Loc), lw_I D K s q1 q2 H locs → W p l e room_1 s m #[Value.ref b] below meth c H locs (cells + 7) (slots + 77) Q (F0 m 536 ls [])) : W p l e room_1 s m #[Value.ref b] below meth c H locs cells slots Q (F0 m 322 ls []) := by
  obtain ⟨hx, hb, hr, hml, hown, hts0, hX, hbl, hlocks, hgv⟩ := id C0
  have hts : ∀ w ∈ wsL_law, w.before #[Value.ref b] s = true := fun w h => hts0 w (wsL_law_in w h)
  have hA : ∀ q : Nat, s.heap.size ≤ q → (fun q : Nat => s.heap.size ≤ q) q := fun _ h => h
  obtain ⟨ng, N, M, nx, l1, s1, n1, i1, r1, l2, s2, n2, i2, r2, hR, hm, h1, h2, hd, hO1, hO2, hS, rfl, rfl⟩ := hI
  have k1 : s1 1 = 5 := hR.1.1.1 1 5 List.mem_cons_self
  have k2 : s2 1 = 6 := hm.1 1 6 List.mem_cons_self
  obtain ⟨i1', r1', m', r, f1, f2, hR'⟩ := sim_fault hR (xs (i + 1)) (xs (i + 2))
  refine lv_aload_n hx hb dL_law_322 rfl (lv_at hl 1 rfl) ?_
  refine warg (pc := 323) hL C0 hS hl 1 (by omega) (by decide +kernel) dL_law_323 dL_law_324 dL_law_325 dL_law_326 dL_law_327 ?_
  refine warg (pc := 328) hL C0 hS hl 2 (by omega) (by decide +kernel) dL_law_328 dL_law_329 dL_law_330 dL_law_331 dL_law_332 ?_
  refine wc2 (va_runV (As := [.int (xs (i + 1)), .int (xs (i + 2))]) (rest := []) ⟨hx, hb, hml, hown, hts⟩ (mtX4_fault l D K l1 s1 n1 i1 r1 _ ng _ _ hR.1.1 f1) (cwV 2 hts gL_law_X4_fault rfl rfl rfl (by decide +kernel) ⟨Nat.le_of_ble_eq_true rfl, Nat.le_of_ble_eq_true rfl⟩) (wPreV hKn h1 k1 (by decide) rfl rfl) rfl rfl hl.1 rfl (lv_room (Nat.le_of_ble_eq_true rfl)) dL_law_333 ⟨by show _ ≤ 600000; omega, by show _ ≤ 7302250; omega⟩) hS hO1 hA h2 hd (fun H locs h1 h2 hS => ?_)
  refine lv_aload_n hx hb dL_law_336 rfl (lv_at hl 2 rfl) ?_
  refine warg (pc := 337) hL C0 hS hl 1 (by omega) (by decide +kernel) dL_law_337 dL_law_338 dL_law_339 dL_law_340 dL_law_341 ?_
  refine warg (pc := 342) hL C0 hS hl 2 (by omega) (by decide +kernel) dL_law_342 dL_law_343 dL_law_344 dL_law_345 dL_law_346 ?_
  refine wc2 (va_runV (As := [.int (xs (i + 1)), .int (xs (i + 2))]) (rest := [.int r]) ⟨hx, hb, hml, hown, hts⟩ (mtX5_fault l D K l2 s2 n2 i2 r2 _ _ _ hm f2) (cwV 2 hts gL_law_X5_fault rfl rfl rfl (by decide +kernel) ⟨Nat.le_of_ble_eq_true rfl, Nat.le_of_ble_eq_true rfl⟩) (wPreV hKn h2 k2 (by decide) rfl rfl) rfl rfl hl.1 rfl (lv_room (Nat.le_of_ble_eq_true rfl)) dL_law_347 ⟨by show _ ≤ 600000; omega, by show _ ≤ 7302250; omega⟩) hS hO2 hA h1 hd.sym (fun H locs h2 h1 hS => ?_)
  refine lv_icmp_eq (tgt := 536) hx hb dL_law_350 (by decide) (fun _ => ?_) (fun z => absurd rfl z)
  refine W.widen (k := cells + 7) (n := slots + 77) (by omega) (by omega) ?_
  exact kk H locs ⟨ng, N, M, nx, l1, s1, n1, i1', r1', l2, s2, n2, m', r2, hR', hm, h1, h2, hd, hO1, hO2, hS, rfl, rfl⟩
set_option maxHeartbeats 1000000 in
theorem case_limit (hL : L ≤ 2050) (C0 : lw_At p s m meth c b L xs) (hKn : wKn D K s) (hi : i + 4 ≤ L) (hI : lw_I D K s q1 q2 H locs) (hc : cells + 7 ≤ 600000) (hs : slots + 77 ≤ 7302250) (hl : lv_has ls 4 (lw_L b q1 q2 i)) (kk : ∀ (H : Heap) (locs : List Loc), lw_I D K s q1 q2 H locs → W p l e room_1 s m #[Value.ref b] below meth c H locs (cells + 7) (slots + 77) Q (F0 m 536 ls [])) : W p l e room_1 s m #[Value.ref b] below meth c H locs cells slots Q (F0 m 355 ls []) := by
  obtain ⟨hx, hb, hr, hml, hown, hts0, hX, hbl, hlocks, hgv⟩ := id C0
  have hts : ∀ w ∈ wsL_law, w.before #[Value.ref b] s = true := fun w h => hts0 w (wsL_law_in w h)
  have hA : ∀ q : Nat, s.heap.size ≤ q → (fun q : Nat => s.heap.size ≤ q) q := fun _ h => h
  obtain ⟨ng, N, M, nx, l1, s1, n1, i1, r1, l2, s2, n2, i2, r2, hR, hm, h1, h2, hd, hO1, hO2, hS, rfl, rfl⟩ := hI
  have k1 : s1 1 = 5 := hR.1.1.1 1 5 List.mem_cons_self
  have k2 : s2 1 = 6 := hm.1 1 6 List.mem_cons_self
  obtain ⟨i1', m', r, f1, f2, hR'⟩ := sim_limit hR (xs (i + 1))
  refine lv_aload_n hx hb dL_law_355 rfl (lv_at hl 1 rfl) ?_
  refine warg (pc := 356) hL C0 hS hl 1 (by omega) (by decide +kernel) dL_law_356 dL_law_357 dL_law_358 dL_law_359 dL_law_360 ?_
  refine wc2 (va_runV (As := [.int (xs (i + 1))]) (rest := []) ⟨hx, hb, hml, hown, hts⟩ (mtX4_limit l D K l1 s1 n1 i1 r1 _ ng _ hR.1.1 f1) (cwV 1 hts gL_law_X4_limit rfl rfl rfl (by decide +kernel) ⟨Nat.le_of_ble_eq_true rfl, Nat.le_of_ble_eq_true rfl⟩) (wPreV hKn h1 k1 (by decide) rfl rfl) rfl rfl hl.1 rfl (lv_room (Nat.le_of_ble_eq_true rfl)) dL_law_361 ⟨by show _ ≤ 600000; omega, by show _ ≤ 7302250; omega⟩) hS hO1 hA h2 hd (fun H locs h1 h2 hS => ?_)
  refine lv_aload_n hx hb dL_law_364 rfl (lv_at hl 2 rfl) ?_
  refine warg (pc := 365) hL C0 hS hl 1 (by omega) (by decide +kernel) dL_law_365 dL_law_366 dL_law_367 dL_law_368 dL_law_369 ?_
  refine wc2 (va_runV (As := [.int (xs (i + 1))]) (rest := [.int r]) ⟨hx, hb, hml, hown, hts⟩ (mtX5_limit l D K l2 s2 n2 i2 r2 _ _ hm f2) (cwV 1 hts gL_law_X5_limit rfl rfl rfl (by decide +kernel) ⟨Nat.le_of_ble_eq_true rfl, Nat.le_of_ble_eq_true rfl⟩) (wPreV hKn h2 k2 (by decide) rfl rfl) rfl rfl hl.1 rfl (lv_room (Nat.le_of_ble_eq_true rfl)) dL_law_370 ⟨by show _ ≤ 600000; omega, by show _ ≤ 7302250; omega⟩) hS hO2 hA h1 hd.sym (fun H locs h2 h1 hS => ?_)
  refine lv_icmp_eq (tgt := 536) hx hb dL_law_373 (by decide) (fun _ => ?_) (fun z => absurd rfl z)
  refine W.widen (k := cells + 7) (n := slots + 77) (by omega) (by omega) ?_
  exact kk H locs ⟨ng, N, M, nx, l1, s1, n1, i1', r1, l2, s2, n2, m', r2, hR', hm, h1, h2, hd, hO1, hO2, hS, rfl, rfl⟩
set_option maxHeartbeats 1000000 in
theorem case_tell (hL : L ≤ 2050) (C0 : lw_At p s m meth c b L xs) (hKn : wKn D K s) (hi : i + 4 ≤ L) (hI : lw_I D K s q1 q2 H locs) (hc : cells + 7 ≤ 600000) (hs : slots + 77 ≤ 7302250) (hl : lv_has ls 4 (lw_L b q1 q2 i)) (kk : ∀ (H : Heap) (locs : List Loc), lw_I D K s q1 q2 H locs → W p l e room_1 s m #[Value.ref b] below meth c H locs (cells + 7) (slots + 77) Q (F0 m 536 ls [])) : W p l e room_1 s m #[Value.ref b] below meth c H locs cells slots Q (F0 m 378 ls []) := by
  obtain ⟨hx, hb, hr, hml, hown, hts0, hX, hbl, hlocks, hgv⟩ := id C0
  have hts : ∀ w ∈ wsL_law, w.before #[Value.ref b] s = true := fun w h => hts0 w (wsL_law_in w h)
  have hA : ∀ q : Nat, s.heap.size ≤ q → (fun q : Nat => s.heap.size ≤ q) q := fun _ h => h
  obtain ⟨ng, N, M, nx, l1, s1, n1, i1, r1, l2, s2, n2, i2, r2, hR, hm, h1, h2, hd, hO1, hO2, hS, rfl, rfl⟩ := hI
  have k1 : s1 1 = 5 := hR.1.1.1 1 5 List.mem_cons_self
  have k2 : s2 1 = 6 := hm.1 1 6 List.mem_cons_self
  obtain ⟨i1', m', r, f1, f2, hR'⟩ := sim_tell hR (xs (i + 1)) (xs (i + 2))
  refine lv_aload_n hx hb dL_law_378 rfl (lv_at hl 1 rfl) ?_
  refine warg (pc := 379) hL C0 hS hl 1 (by omega) (by decide +kernel) dL_law_379 dL_law_380 dL_law_381 dL_law_382 dL_law_383 ?_
  refine warg (pc := 384) hL C0 hS hl 2 (by omega) (by decide +kernel) dL_law_384 dL_law_385 dL_law_386 dL_law_387 dL_law_388 ?_
  refine wc2 (va_runV (As := [.int (xs (i + 1)), .int (xs (i + 2))]) (rest := []) ⟨hx, hb, hml, hown, hts⟩ (mtX4_tell l D K l1 s1 n1 i1 r1 _ ng _ _ hR.1.1 f1) (cwV 2 hts gL_law_X4_tell rfl rfl rfl (by decide +kernel) ⟨Nat.le_of_ble_eq_true rfl, Nat.le_of_ble_eq_true rfl⟩) (wPreV hKn h1 k1 (by decide) rfl rfl) rfl rfl hl.1 rfl (lv_room (Nat.le_of_ble_eq_true rfl)) dL_law_389 ⟨by show _ ≤ 600000; omega, by show _ ≤ 7302250; omega⟩) hS hO1 hA h2 hd (fun H locs h1 h2 hS => ?_)
  refine lv_aload_n hx hb dL_law_392 rfl (lv_at hl 2 rfl) ?_
  refine warg (pc := 393) hL C0 hS hl 1 (by omega) (by decide +kernel) dL_law_393 dL_law_394 dL_law_395 dL_law_396 dL_law_397 ?_
  refine warg (pc := 398) hL C0 hS hl 2 (by omega) (by decide +kernel) dL_law_398 dL_law_399 dL_law_400 dL_law_401 dL_law_402 ?_
  refine wc2 (va_runV (As := [.int (xs (i + 1)), .int (xs (i + 2))]) (rest := [.int r]) ⟨hx, hb, hml, hown, hts⟩ (mtX5_tell l D K l2 s2 n2 i2 r2 _ _ _ hm f2) (cwV 2 hts gL_law_X5_tell rfl rfl rfl (by decide +kernel) ⟨Nat.le_of_ble_eq_true rfl, Nat.le_of_ble_eq_true rfl⟩) (wPreV hKn h2 k2 (by decide) rfl rfl) rfl rfl hl.1 rfl (lv_room (Nat.le_of_ble_eq_true rfl)) dL_law_403 ⟨by show _ ≤ 600000; omega, by show _ ≤ 7302250; omega⟩) hS hO2 hA h1 hd.sym (fun H locs h2 h1 hS => ?_)
  refine lv_icmp_eq (tgt := 536) hx hb dL_law_406 (by decide) (fun _ => ?_) (fun z => absurd rfl z)
  refine W.widen (k := cells + 7) (n := slots + 77) (by omega) (by omega) ?_
  exact kk H locs ⟨ng, N, M, nx, l1, s1, n1, i1', r1, l2, s2, n2, m', r2, hR', hm, h1, h2, hd, hO1, hO2, hS, rfl, rfl⟩
set_option maxHeartbeats 1000000 in
theorem case_cup (hL : L ≤ 2050) (C0 : lw_At p s m meth c b L xs) (hKn : wKn D K s) (hi : i + 4 ≤ L) (hI : lw_I D K s q1 q2 H locs) (hc : cells + 7 ≤ 600000) (hs : slots + 77 ≤ 7302250) (hl : lv_has ls 4 (lw_L b q1 q2 i)) (kk : ∀ (H : Heap) (locs : List Loc), lw_I D K s q1 q2 H locs → W p l e room_1 s m #[Value.ref b] below meth c H locs (cells + 7) (slots + 77) Q (F0 m 536 ls [])) : W p l e room_1 s m #[Value.ref b] below meth c H locs cells slots Q (F0 m 411 ls []) := by
  obtain ⟨hx, hb, hr, hml, hown, hts0, hX, hbl, hlocks, hgv⟩ := id C0
  have hts : ∀ w ∈ wsL_law, w.before #[Value.ref b] s = true := fun w h => hts0 w (wsL_law_in w h)
  have hA : ∀ q : Nat, s.heap.size ≤ q → (fun q : Nat => s.heap.size ≤ q) q := fun _ h => h
  obtain ⟨ng, N, M, nx, l1, s1, n1, i1, r1, l2, s2, n2, i2, r2, hR, hm, h1, h2, hd, hO1, hO2, hS, rfl, rfl⟩ := hI
  have k1 : s1 1 = 5 := hR.1.1.1 1 5 List.mem_cons_self
  have k2 : s2 1 = 6 := hm.1 1 6 List.mem_cons_self
  obtain ⟨r, f1, f2⟩ := sim_cup hR (xs (i + 1)) (xs (i + 2))
  have hR' := hR
  refine lv_aload_n hx hb dL_law_411 rfl (lv_at hl 1 rfl) ?_
  refine warg (pc := 412) hL C0 hS hl 1 (by omega) (by decide +kernel) dL_law_412 dL_law_413 dL_law_414 dL_law_415 dL_law_416 ?_
  refine warg (pc := 417) hL C0 hS hl 2 (by omega) (by decide +kernel) dL_law_417 dL_law_418 dL_law_419 dL_law_420 dL_law_421 ?_
  refine wc2 (va_runV (As := [.int (xs (i + 1)), .int (xs (i + 2))]) (rest := []) ⟨hx, hb, hml, hown, hts⟩ (mtX4_cup l D K l1 s1 n1 i1 r1 _ ng _ _ hR.1.1 f1) (cwV 2 hts gL_law_X4_cup rfl rfl rfl (by decide +kernel) ⟨Nat.le_of_ble_eq_true rfl, Nat.le_of_ble_eq_true rfl⟩) (wPreV hKn h1 k1 (by decide) rfl rfl) rfl rfl hl.1 rfl (lv_room (Nat.le_of_ble_eq_true rfl)) dL_law_422 ⟨by show _ ≤ 600000; omega, by show _ ≤ 7302250; omega⟩) hS hO1 hA h2 hd (fun H locs h1 h2 hS => ?_)
  refine lv_aload_n hx hb dL_law_425 rfl (lv_at hl 2 rfl) ?_
  refine warg (pc := 426) hL C0 hS hl 1 (by omega) (by decide +kernel) dL_law_426 dL_law_427 dL_law_428 dL_law_429 dL_law_430 ?_
  refine warg (pc := 431) hL C0 hS hl 2 (by omega) (by decide +kernel) dL_law_431 dL_law_432 dL_law_433 dL_law_434 dL_law_435 ?_
  refine wc2 (va_runV (As := [.int (xs (i + 1)), .int (xs (i + 2))]) (rest := [.int r]) ⟨hx, hb, hml, hown, hts⟩ (mtX5_cup l D K l2 s2 n2 i2 r2 _ _ _ hm f2) (cwV 2 hts gL_law_X5_cup rfl rfl rfl (by decide +kernel) ⟨Nat.le_of_ble_eq_true rfl, Nat.le_of_ble_eq_true rfl⟩) (wPreV hKn h2 k2 (by decide) rfl rfl) rfl rfl hl.1 rfl (lv_room (Nat.le_of_ble_eq_true rfl)) dL_law_436 ⟨by show _ ≤ 600000; omega, by show _ ≤ 7302250; omega⟩) hS hO2 hA h1 hd.sym (fun H locs h2 h1 hS => ?_)
  refine lv_icmp_eq (tgt := 536) hx hb dL_law_439 (by decide) (fun _ => ?_) (fun z => absurd rfl z)
  refine W.widen (k := cells + 7) (n := slots + 77) (by omega) (by omega) ?_
  exact kk H locs ⟨ng, N, M, nx, l1, s1, n1, i1, r1, l2, s2, n2, i2, r2, hR', hm, h1, h2, hd, hO1, hO2, hS, rfl, rfl⟩
set_option maxHeartbeats 1000000 in
theorem case_group (hL : L ≤ 2050) (C0 : lw_At p s m meth c b L xs) (hKn : wKn D K s) (hi : i + 4 ≤ L) (hI : lw_I D K s q1 q2 H locs) (hc : cells + 7 ≤ 600000) (hs : slots + 77 ≤ 7302250) (hl : lv_has ls 4 (lw_L b q1 q2 i)) (kk : ∀ (H : Heap) (locs : List Loc), lw_I D K s q1 q2 H locs → W p l e room_1 s m #[Value.ref b] below meth c H locs (cells + 7) (slots + 77) Q (F0 m 536 ls [])) : W p l e room_1 s m #[Value.ref b] below meth c H locs cells slots Q (F0 m 444 ls []) := by
  obtain ⟨hx, hb, hr, hml, hown, hts0, hX, hbl, hlocks, hgv⟩ := id C0
  have hts : ∀ w ∈ wsL_law, w.before #[Value.ref b] s = true := fun w h => hts0 w (wsL_law_in w h)
  have hA : ∀ q : Nat, s.heap.size ≤ q → (fun q : Nat => s.heap.size ≤ q) q := fun _ h => h
  obtain ⟨ng, N, M, nx, l1, s1, n1, i1, r1, l2, s2, n2, i2, r2, hR, hm, h1, h2, hd, hO1, hO2, hS, rfl, rfl⟩ := hI
  have k1 : s1 1 = 5 := hR.1.1.1 1 5 List.mem_cons_self
  have k2 : s2 1 = 6 := hm.1 1 6 List.mem_cons_self
  obtain ⟨r, f1, f2⟩ := sim_group hR (xs (i + 1)) (xs (i + 2))
  have hR' := hR
  refine lv_aload_n hx hb dL_law_444 rfl (lv_at hl 1 rfl) ?_
  refine warg (pc := 445) hL C0 hS hl 1 (by omega) (by decide +kernel) dL_law_445 dL_law_446 dL_law_447 dL_law_448 dL_law_449 ?_
  refine warg (pc := 450) hL C0 hS hl 2 (by omega) (by decide +kernel) dL_law_450 dL_law_451 dL_law_452 dL_law_453 dL_law_454 ?_
  refine wc2 (va_runV (As := [.int (xs (i + 1)), .int (xs (i + 2))]) (rest := []) ⟨hx, hb, hml, hown, hts⟩ (mtX4_group l D K l1 s1 n1 i1 r1 _ ng _ _ hR.1.1 f1) (cwV 2 hts gL_law_X4_group rfl rfl rfl (by decide +kernel) ⟨Nat.le_of_ble_eq_true rfl, Nat.le_of_ble_eq_true rfl⟩) (wPreV hKn h1 k1 (by decide) rfl rfl) rfl rfl hl.1 rfl (lv_room (Nat.le_of_ble_eq_true rfl)) dL_law_455 ⟨by show _ ≤ 600000; omega, by show _ ≤ 7302250; omega⟩) hS hO1 hA h2 hd (fun H locs h1 h2 hS => ?_)
  refine lv_aload_n hx hb dL_law_458 rfl (lv_at hl 2 rfl) ?_
  refine warg (pc := 459) hL C0 hS hl 1 (by omega) (by decide +kernel) dL_law_459 dL_law_460 dL_law_461 dL_law_462 dL_law_463 ?_
  refine warg (pc := 464) hL C0 hS hl 2 (by omega) (by decide +kernel) dL_law_464 dL_law_465 dL_law_466 dL_law_467 dL_law_468 ?_
  refine wc2 (va_runV (As := [.int (xs (i + 1)), .int (xs (i + 2))]) (rest := [.int r]) ⟨hx, hb, hml, hown, hts⟩ (mtX5_group l D K l2 s2 n2 i2 r2 _ _ _ hm f2) (cwV 2 hts gL_law_X5_group rfl rfl rfl (by decide +kernel) ⟨Nat.le_of_ble_eq_true rfl, Nat.le_of_ble_eq_true rfl⟩) (wPreV hKn h2 k2 (by decide) rfl rfl) rfl rfl hl.1 rfl (lv_room (Nat.le_of_ble_eq_true rfl)) dL_law_469 ⟨by show _ ≤ 600000; omega, by show _ ≤ 7302250; omega⟩) hS hO2 hA h1 hd.sym (fun H locs h2 h1 hS => ?_)
  refine lv_icmp_eq (tgt := 536) hx hb dL_law_472 (by decide) (fun _ => ?_) (fun z => absurd rfl z)
  refine W.widen (k := cells + 7) (n := slots + 77) (by omega) (by omega) ?_
  exact kk H locs ⟨ng, N, M, nx, l1, s1, n1, i1, r1, l2, s2, n2, i2, r2, hR', hm, h1, h2, hd, hO1, hO2, hS, rfl, rfl⟩
set_option maxHeartbeats 1000000 in
theorem case_best (hL : L ≤ 2050) (C0 : lw_At p s m meth c b L xs) (hKn : wKn D K s) (hi : i + 4 ≤ L) (hI : lw_I D K s q1 q2 H locs) (hc : cells + 7 ≤ 600000) (hs : slots + 77 ≤ 7302250) (hl : lv_has ls 4 (lw_L b q1 q2 i)) (kk : ∀ (H : Heap) (locs : List Loc), lw_I D K s q1 q2 H locs → W p l e room_1 s m #[Value.ref b] below meth c H locs (cells + 7) (slots + 77) Q (F0 m 536 ls [])) : W p l e room_1 s m #[Value.ref b] below meth c H locs cells slots Q (F0 m 477 ls []) := by
  obtain ⟨hx, hb, hr, hml, hown, hts0, hX, hbl, hlocks, hgv⟩ := id C0
  have hts : ∀ w ∈ wsL_law, w.before #[Value.ref b] s = true := fun w h => hts0 w (wsL_law_in w h)
  have hA : ∀ q : Nat, s.heap.size ≤ q → (fun q : Nat => s.heap.size ≤ q) q := fun _ h => h
  obtain ⟨ng, N, M, nx, l1, s1, n1, i1, r1, l2, s2, n2, i2, r2, hR, hm, h1, h2, hd, hO1, hO2, hS, rfl, rfl⟩ := hI
  have k1 : s1 1 = 5 := hR.1.1.1 1 5 List.mem_cons_self
  have k2 : s2 1 = 6 := hm.1 1 6 List.mem_cons_self
  obtain ⟨i1', r1', m', r, f1, f2, hR'⟩ := sim_best hR (xs (i + 1))
  refine lv_aload_n hx hb dL_law_477 rfl (lv_at hl 1 rfl) ?_
  refine warg (pc := 478) hL C0 hS hl 1 (by omega) (by decide +kernel) dL_law_478 dL_law_479 dL_law_480 dL_law_481 dL_law_482 ?_
  refine wc2 (va_runV (As := [.int (xs (i + 1))]) (rest := []) ⟨hx, hb, hml, hown, hts⟩ (mtX4_best l D K l1 s1 n1 i1 r1 _ ng _ hR.1.1 f1) (cwV 1 hts gL_law_X4_best rfl rfl rfl (by decide +kernel) ⟨Nat.le_of_ble_eq_true rfl, Nat.le_of_ble_eq_true rfl⟩) (wPreV hKn h1 k1 (by decide) rfl rfl) rfl rfl hl.1 rfl (lv_room (Nat.le_of_ble_eq_true rfl)) dL_law_483 ⟨by show _ ≤ 600000; omega, by show _ ≤ 7302250; omega⟩) hS hO1 hA h2 hd (fun H locs h1 h2 hS => ?_)
  refine lv_aload_n hx hb dL_law_486 rfl (lv_at hl 2 rfl) ?_
  refine warg (pc := 487) hL C0 hS hl 1 (by omega) (by decide +kernel) dL_law_487 dL_law_488 dL_law_489 dL_law_490 dL_law_491 ?_
  refine wc2 (va_runV (As := [.int (xs (i + 1))]) (rest := [.int r]) ⟨hx, hb, hml, hown, hts⟩ (mtX5_best l D K l2 s2 n2 i2 r2 _ _ hm f2) (cwV 1 hts gL_law_X5_best rfl rfl rfl (by decide +kernel) ⟨Nat.le_of_ble_eq_true rfl, Nat.le_of_ble_eq_true rfl⟩) (wPreV hKn h2 k2 (by decide) rfl rfl) rfl rfl hl.1 rfl (lv_room (Nat.le_of_ble_eq_true rfl)) dL_law_492 ⟨by show _ ≤ 600000; omega, by show _ ≤ 7302250; omega⟩) hS hO2 hA h1 hd.sym (fun H locs h2 h1 hS => ?_)
  refine lv_icmp_eq (tgt := 536) hx hb dL_law_495 (by decide) (fun _ => ?_) (fun z => absurd rfl z)
  refine W.widen (k := cells + 7) (n := slots + 77) (by omega) (by omega) ?_
  exact kk H locs ⟨ng, N, M, nx, l1, s1, n1, i1', r1', l2, s2, n2, m', r2, hR', hm, h1, h2, hd, hO1, hO2, hS, rfl, rfl⟩
set_option maxHeartbeats 1000000 in
theorem case_sum (hL : L ≤ 2050) (C0 : lw_At p s m meth c b L xs) (hKn : wKn D K s) (hi : i + 4 ≤ L) (hI : lw_I D K s q1 q2 H locs) (hc : cells + 7 ≤ 600000) (hs : slots + 77 ≤ 7302250) (hl : lv_has ls 4 (lw_L b q1 q2 i)) (kk : ∀ (H : Heap) (locs : List Loc), lw_I D K s q1 q2 H locs → W p l e room_1 s m #[Value.ref b] below meth c H locs (cells + 7) (slots + 77) Q (F0 m 536 ls [])) : W p l e room_1 s m #[Value.ref b] below meth c H locs cells slots Q (F0 m 500 ls []) := by
  obtain ⟨hx, hb, hr, hml, hown, hts0, hX, hbl, hlocks, hgv⟩ := id C0
  have hts : ∀ w ∈ wsL_law, w.before #[Value.ref b] s = true := fun w h => hts0 w (wsL_law_in w h)
  have hA : ∀ q : Nat, s.heap.size ≤ q → (fun q : Nat => s.heap.size ≤ q) q := fun _ h => h
  obtain ⟨ng, N, M, nx, l1, s1, n1, i1, r1, l2, s2, n2, i2, r2, hR, hm, h1, h2, hd, hO1, hO2, hS, rfl, rfl⟩ := hI
  have k1 : s1 1 = 5 := hR.1.1.1 1 5 List.mem_cons_self
  have k2 : s2 1 = 6 := hm.1 1 6 List.mem_cons_self
  obtain ⟨i1', r1', m', r, f1, f2, hR'⟩ := sim_sum hR 
  refine lv_aload_n hx hb dL_law_500 rfl (lv_at hl 1 rfl) ?_
  refine wc2 (va_runV (As := []) (rest := []) ⟨hx, hb, hml, hown, hts⟩ (mtX4_sum l D K l1 s1 n1 i1 r1 _ ng  hR.1.1 f1) (cwV 0 hts gL_law_X4_sum rfl rfl rfl (by decide +kernel) ⟨Nat.le_of_ble_eq_true rfl, Nat.le_of_ble_eq_true rfl⟩) (wPreV hKn h1 k1 (by decide) rfl rfl) rfl rfl hl.1 rfl (lv_room (Nat.le_of_ble_eq_true rfl)) dL_law_501 ⟨by show _ ≤ 600000; omega, by show _ ≤ 7302250; omega⟩) hS hO1 hA h2 hd (fun H locs h1 h2 hS => ?_)
  refine lv_aload_n hx hb dL_law_504 rfl (lv_at hl 2 rfl) ?_
  refine wc2 (va_runV (As := []) (rest := [.int r]) ⟨hx, hb, hml, hown, hts⟩ (mtX5_sum l D K l2 s2 n2 i2 r2 _  hm f2) (cwV 0 hts gL_law_X5_sum rfl rfl rfl (by decide +kernel) ⟨Nat.le_of_ble_eq_true rfl, Nat.le_of_ble_eq_true rfl⟩) (wPreV hKn h2 k2 (by decide) rfl rfl) rfl rfl hl.1 rfl (lv_room (Nat.le_of_ble_eq_true rfl)) dL_law_505 ⟨by show _ ≤ 600000; omega, by show _ ≤ 7302250; omega⟩) hS hO2 hA h1 hd.sym (fun H locs h2 h1 hS => ?_)
  refine lv_icmp_eq (tgt := 536) hx hb dL_law_508 (by decide) (fun _ => ?_) (fun z => absurd rfl z)
  refine W.widen (k := cells + 7) (n := slots + 77) (by omega) (by omega) ?_
  exact kk H locs ⟨ng, N, M, nx, l1, s1, n1, i1', r1', l2, s2, n2, m', r2, hR', hm, h1, h2, hd, hO1, hO2, hS, rfl, rfl⟩
set_option maxHeartbeats 1000000 in
theorem case_count (hL : L ≤ 2050) (C0 : lw_At p s m meth c b L xs) (hKn : wKn D K s) (hi : i + 4 ≤ L) (hI : lw_I D K s q1 q2 H locs) (hc : cells + 7 ≤ 600000) (hs : slots + 77 ≤ 7302250) (hl : lv_has ls 4 (lw_L b q1 q2 i)) (kk : ∀ (H : Heap) (locs : List Loc), lw_I D K s q1 q2 H locs → W p l e room_1 s m #[Value.ref b] below meth c H locs (cells + 7) (slots + 77) Q (F0 m 536 ls [])) : W p l e room_1 s m #[Value.ref b] below meth c H locs cells slots Q (F0 m 513 ls []) := by
  obtain ⟨hx, hb, hr, hml, hown, hts0, hX, hbl, hlocks, hgv⟩ := id C0
  have hts : ∀ w ∈ wsL_law, w.before #[Value.ref b] s = true := fun w h => hts0 w (wsL_law_in w h)
  have hA : ∀ q : Nat, s.heap.size ≤ q → (fun q : Nat => s.heap.size ≤ q) q := fun _ h => h
  obtain ⟨ng, N, M, nx, l1, s1, n1, i1, r1, l2, s2, n2, i2, r2, hR, hm, h1, h2, hd, hO1, hO2, hS, rfl, rfl⟩ := hI
  have k1 : s1 1 = 5 := hR.1.1.1 1 5 List.mem_cons_self
  have k2 : s2 1 = 6 := hm.1 1 6 List.mem_cons_self
  obtain ⟨r, f1, f2⟩ := sim_count hR (xs (i + 1))
  have hR' := hR
  refine lv_aload_n hx hb dL_law_513 rfl (lv_at hl 1 rfl) ?_
  refine warg (pc := 514) hL C0 hS hl 1 (by omega) (by decide +kernel) dL_law_514 dL_law_515 dL_law_516 dL_law_517 dL_law_518 ?_
  refine wc2 (va_runV (As := [.int (xs (i + 1))]) (rest := []) ⟨hx, hb, hml, hown, hts⟩ (mtX4_count l D K l1 s1 n1 i1 r1 _ ng _ hR.1.1 f1) (cwV 1 hts gL_law_X4_count rfl rfl rfl (by decide +kernel) ⟨Nat.le_of_ble_eq_true rfl, Nat.le_of_ble_eq_true rfl⟩) (wPreV hKn h1 k1 (by decide) rfl rfl) rfl rfl hl.1 rfl (lv_room (Nat.le_of_ble_eq_true rfl)) dL_law_519 ⟨by show _ ≤ 600000; omega, by show _ ≤ 7302250; omega⟩) hS hO1 hA h2 hd (fun H locs h1 h2 hS => ?_)
  refine lv_aload_n hx hb dL_law_522 rfl (lv_at hl 2 rfl) ?_
  refine warg (pc := 523) hL C0 hS hl 1 (by omega) (by decide +kernel) dL_law_523 dL_law_524 dL_law_525 dL_law_526 dL_law_527 ?_
  refine wc2 (va_runV (As := [.int (xs (i + 1))]) (rest := [.int r]) ⟨hx, hb, hml, hown, hts⟩ (mtX5_count l D K l2 s2 n2 i2 r2 _ _ hm f2) (cwV 1 hts gL_law_X5_count rfl rfl rfl (by decide +kernel) ⟨Nat.le_of_ble_eq_true rfl, Nat.le_of_ble_eq_true rfl⟩) (wPreV hKn h2 k2 (by decide) rfl rfl) rfl rfl hl.1 rfl (lv_room (Nat.le_of_ble_eq_true rfl)) dL_law_528 ⟨by show _ ≤ 600000; omega, by show _ ≤ 7302250; omega⟩) hS hO2 hA h1 hd.sym (fun H locs h2 h1 hS => ?_)
  refine lv_icmp_eq (tgt := 536) hx hb dL_law_531 (by decide) (fun _ => ?_) (fun z => absurd rfl z)
  refine W.widen (k := cells + 7) (n := slots + 77) (by omega) (by omega) ?_
  exact kk H locs ⟨ng, N, M, nx, l1, s1, n1, i1, r1, l2, s2, n2, i2, r2, hR', hm, h1, h2, hd, hO1, hO2, hS, rfl, rfl⟩
end LAWROW
