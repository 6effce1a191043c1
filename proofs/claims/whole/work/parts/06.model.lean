noncomputable def fX5_in  (a0 : Int32) (a1 : Int32) (a2 : Int32) : Option (Int32) := if a0 < a1 then some (0 : Int32) else if a2 < a0 then some (0 : Int32) else some (1 : Int32)
set_option maxHeartbeats 4000000 in
set_option maxRecDepth 100000 in
theorem mtX5_in (l : Launch) (D : va_G) (K : Nat → ClassId) (loc sh ln : Nat → Nat) (iv : wI) (rv : wJ) (sz : Nat) (a0 : Int32) (a1 : Int32) (a2 : Int32) {r' : Int32} (hf : fX5_in a0 a1 a2 = some r') : Met l yX5_in wsX5_in ({ frames := 0, cells := 0, slots := 0, locals := 0 }) (wPc D K loc sh ln iv rv sz [.int a0, .int a1, .int a2]) (wQi D K loc sh ln iv rv sz r') 0 0 (wA loc sh sz) := by
  refine Met.ofW (cc := cX5_in) (maxL := 3) (ret := (some .boolean)) (by decide) rfl ?_
  intro p e s m args below meth c s₁ B hml hv
  obtain ⟨rfl, hsz, hH, hKn⟩ := hv
  have hx := B.exec
  have hb := B.bytes
  have hr := B.returns
  have hts := atoms_spec (ws := wsX5_in) B.pre
  have hown : s.vm.findClass RX5 = some m.cls := findClass_of_methodNamed B.named
  have hlocks := B.notSynchronized
  subst hsz
  have hA : ∀ q : Nat, s.heap.size ≤ q → wA loc sh s.heap.size q := fun q h => Or.inr h
  have hO : ∀ a, sh a ≠ 0 → wA loc sh s.heap.size (loc a) := fun a h => Or.inl ⟨a, h, rfl⟩
  have hS : va_S (wA loc sh s.heap.size) s.heap s.heap [] := va_S.rf
  obtain ⟨ls, hen, hl⟩ := wEntry m [.int a0, .int a1, .int a2] 3 (List.forall_mem_cons.mpr ⟨rfl, List.forall_mem_cons.mpr ⟨rfl, List.forall_mem_cons.mpr ⟨rfl, fun _ h => absurd h List.not_mem_nil⟩⟩⟩) (Nat.le_of_ble_eq_true rfl)
  rw [hen]
  clear hen
  have hl : lv_has ls 3 [(0, .int a0), (1, .int a1), (2, .int a2)] := hl
  unfold fX5_in at hf
  refine lv_iload_n hx hb dX5_in_0 rfl (lv_at hl 0 rfl) ?_
  refine lv_iload_n hx hb dX5_in_1 rfl (lv_at hl 1 rfl) ?_
  refine lv_icmp_lt (tgt := 14) hx hb dX5_in_2 (by decide) (fun c1 => ?_) (fun c1 => ?_)
  · have hf := wIt c1 hf
    refine lv_iconst (v := 0) hx hb dX5_in_14 (by decide) ?_
    cases hf
    exact W.zret hx hb hr rfl (fun t ht hW => ⟨⟨_, (), rfl, rfl, by show wH _ _ _ _ _ _ _ t.heap; rw [ht]; exact hH⟩, hS.F ht⟩) hS.2.2 dX5_in_15
  · have hf := wIf c1 hf
    refine lv_iload_n hx hb dX5_in_5 rfl (lv_at hl 0 rfl) ?_
    refine lv_iload_n hx hb dX5_in_6 rfl (lv_at hl 2 rfl) ?_
    refine lv_icmp_gt (tgt := 14) hx hb dX5_in_7 (by decide) (fun c2 => ?_) (fun c2 => ?_)
    · have hf := wIt c2 hf
      refine lv_iconst (v := 0) hx hb dX5_in_14 (by decide) ?_
      cases hf
      exact W.zret hx hb hr rfl (fun t ht hW => ⟨⟨_, (), rfl, rfl, by show wH _ _ _ _ _ _ _ t.heap; rw [ht]; exact hH⟩, hS.F ht⟩) hS.2.2 dX5_in_15
    · have hf := wIf c2 hf
      refine lv_iconst (v := 1) hx hb dX5_in_10 (by decide) ?_
      refine lv_goto (tgt := 15) hx hb dX5_in_11 (by decide) ?_
      cases hf
      exact W.zret hx hb hr rfl (fun t ht hW => ⟨⟨_, (), rfl, rfl, by show wH _ _ _ _ _ _ _ t.heap; rw [ht]; exact hH⟩, hS.F ht⟩) hS.2.2 dX5_in_15
noncomputable def fX5_beans  (a0 : Int32) : Option (Int32) := some (a0 / 1000000)
set_option maxHeartbeats 4000000 in
set_option maxRecDepth 100000 in
theorem mtX5_beans (l : Launch) (D : va_G) (K : Nat → ClassId) (loc sh ln : Nat → Nat) (iv : wI) (rv : wJ) (sz : Nat) (a0 : Int32) {r' : Int32} (hf : fX5_beans a0 = some r') : Met l yX5_beans wsX5_beans ({ frames := 0, cells := 0, slots := 0, locals := 0 }) (wPc D K loc sh ln iv rv sz [.int a0]) (wQi D K loc sh ln iv rv sz r') 0 0 (wA loc sh sz) := by
  refine Met.ofW (cc := cX5_beans) (maxL := 1) (ret := (some .int)) (by decide) rfl ?_
  intro p e s m args below meth c s₁ B hml hv
  obtain ⟨rfl, hsz, hH, hKn⟩ := hv
  have hx := B.exec
  have hb := B.bytes
  have hr := B.returns
  have hts := atoms_spec (ws := wsX5_beans) B.pre
  have hown : s.vm.findClass RX5 = some m.cls := findClass_of_methodNamed B.named
  have hlocks := B.notSynchronized
  subst hsz
  have hA : ∀ q : Nat, s.heap.size ≤ q → wA loc sh s.heap.size q := fun q h => Or.inr h
  have hO : ∀ a, sh a ≠ 0 → wA loc sh s.heap.size (loc a) := fun a h => Or.inl ⟨a, h, rfl⟩
  have hS : va_S (wA loc sh s.heap.size) s.heap s.heap [] := va_S.rf
  obtain ⟨ls, hen, hl⟩ := wEntry m [.int a0] 1 (List.forall_mem_cons.mpr ⟨rfl, fun _ h => absurd h List.not_mem_nil⟩) (Nat.le_of_ble_eq_true rfl)
  rw [hen]
  clear hen
  have hl : lv_has ls 1 [(0, .int a0)] := hl
  unfold fX5_beans at hf
  refine lv_iload_n hx hb dX5_beans_0 rfl (lv_at hl 0 rfl) ?_
  refine lv_ldc (v := 1000000) hx hb hown (hts (.constant RX5 86 (1000000)) (List.mem_of_getElem? (i := 1) rfl)) dX5_beans_1 ?_
  refine lv_idiv hx hb dX5_beans_3 (by decide) ?_
  cases hf
  exact W.iret hx hb hr (fun t ht hW => ⟨⟨_, (), rfl, rfl, by show wH _ _ _ _ _ _ _ t.heap; rw [ht]; exact hH⟩, hS.F ht⟩) hS.2.2 dX5_beans_4
noncomputable def fX5_grind  (a0 : Int32) : Option (Int32) := some ((a0 / 100000) - (a0 / 100000) / 10 * 10)
set_option maxHeartbeats 4000000 in
set_option maxRecDepth 100000 in
theorem mtX5_grind (l : Launch) (D : va_G) (K : Nat → ClassId) (loc sh ln : Nat → Nat) (iv : wI) (rv : wJ) (sz : Nat) (a0 : Int32) {r' : Int32} (hf : fX5_grind a0 = some r') : Met l yX5_grind wsX5_grind ({ frames := 0, cells := 0, slots := 0, locals := 0 }) (wPc D K loc sh ln iv rv sz [.int a0]) (wQi D K loc sh ln iv rv sz r') 0 0 (wA loc sh sz) := by
  refine Met.ofW (cc := cX5_grind) (maxL := 1) (ret := (some .int)) (by decide) rfl ?_
  intro p e s m args below meth c s₁ B hml hv
  obtain ⟨rfl, hsz, hH, hKn⟩ := hv
  have hx := B.exec
  have hb := B.bytes
  have hr := B.returns
  have hts := atoms_spec (ws := wsX5_grind) B.pre
  have hown : s.vm.findClass RX5 = some m.cls := findClass_of_methodNamed B.named
  have hlocks := B.notSynchronized
  subst hsz
  have hA : ∀ q : Nat, s.heap.size ≤ q → wA loc sh s.heap.size q := fun q h => Or.inr h
  have hO : ∀ a, sh a ≠ 0 → wA loc sh s.heap.size (loc a) := fun a h => Or.inl ⟨a, h, rfl⟩
  have hS : va_S (wA loc sh s.heap.size) s.heap s.heap [] := va_S.rf
  obtain ⟨ls, hen, hl⟩ := wEntry m [.int a0] 1 (List.forall_mem_cons.mpr ⟨rfl, fun _ h => absurd h List.not_mem_nil⟩) (Nat.le_of_ble_eq_true rfl)
  rw [hen]
  clear hen
  have hl : lv_has ls 1 [(0, .int a0)] := hl
  unfold fX5_grind at hf
  refine lv_iload_n hx hb dX5_grind_0 rfl (lv_at hl 0 rfl) ?_
  refine lv_ldc (v := 100000) hx hb hown (hts (.constant RX5 87 (100000)) (List.mem_of_getElem? (i := 1) rfl)) dX5_grind_1 ?_
  refine lv_idiv hx hb dX5_grind_3 (by decide) ?_
  refine lv_bipush (v := 10) hx hb dX5_grind_4 (by decide) ?_
  refine lv_irem hx hb dX5_grind_6 (by decide) ?_
  cases hf
  exact W.iret hx hb hr (fun t ht hW => ⟨⟨_, (), rfl, rfl, by show wH _ _ _ _ _ _ _ t.heap; rw [ht]; exact hH⟩, hS.F ht⟩) hS.2.2 dX5_grind_7
noncomputable def fX5_brew  (a0 : Int32) : Option (Int32) := some ((a0 / 1000) - (a0 / 1000) / 100 * 100)
set_option maxHeartbeats 4000000 in
set_option maxRecDepth 100000 in
theorem mtX5_brew (l : Launch) (D : va_G) (K : Nat → ClassId) (loc sh ln : Nat → Nat) (iv : wI) (rv : wJ) (sz : Nat) (a0 : Int32) {r' : Int32} (hf : fX5_brew a0 = some r') : Met l yX5_brew wsX5_brew ({ frames := 0, cells := 0, slots := 0, locals := 0 }) (wPc D K loc sh ln iv rv sz [.int a0]) (wQi D K loc sh ln iv rv sz r') 0 0 (wA loc sh sz) := by
  refine Met.ofW (cc := cX5_brew) (maxL := 1) (ret := (some .int)) (by decide) rfl ?_
  intro p e s m args below meth c s₁ B hml hv
  obtain ⟨rfl, hsz, hH, hKn⟩ := hv
  have hx := B.exec
  have hb := B.bytes
  have hr := B.returns
  have hts := atoms_spec (ws := wsX5_brew) B.pre
  have hown : s.vm.findClass RX5 = some m.cls := findClass_of_methodNamed B.named
  have hlocks := B.notSynchronized
  subst hsz
  have hA : ∀ q : Nat, s.heap.size ≤ q → wA loc sh s.heap.size q := fun q h => Or.inr h
  have hO : ∀ a, sh a ≠ 0 → wA loc sh s.heap.size (loc a) := fun a h => Or.inl ⟨a, h, rfl⟩
  have hS : va_S (wA loc sh s.heap.size) s.heap s.heap [] := va_S.rf
  obtain ⟨ls, hen, hl⟩ := wEntry m [.int a0] 1 (List.forall_mem_cons.mpr ⟨rfl, fun _ h => absurd h List.not_mem_nil⟩) (Nat.le_of_ble_eq_true rfl)
  rw [hen]
  clear hen
  have hl : lv_has ls 1 [(0, .int a0)] := hl
  unfold fX5_brew at hf
  refine lv_iload_n hx hb dX5_brew_0 rfl (lv_at hl 0 rfl) ?_
  refine lv_sipush (v := 1000) hx hb dX5_brew_1 (by decide) ?_
  refine lv_idiv hx hb dX5_brew_4 (by decide) ?_
  refine lv_bipush (v := 100) hx hb dX5_brew_5 (by decide) ?_
  refine lv_irem hx hb dX5_brew_7 (by decide) ?_
  cases hf
  exact W.iret hx hb hr (fun t ht hW => ⟨⟨_, (), rfl, rfl, by show wH _ _ _ _ _ _ _ t.heap; rw [ht]; exact hH⟩, hS.F ht⟩) hS.2.2 dX5_brew_8
noncomputable def fX5_steam  (a0 : Int32) : Option (Int32) := some ((a0 / 10) - (a0 / 10) / 100 * 100)
set_option maxHeartbeats 4000000 in
set_option maxRecDepth 100000 in
theorem mtX5_steam (l : Launch) (D : va_G) (K : Nat → ClassId) (loc sh ln : Nat → Nat) (iv : wI) (rv : wJ) (sz : Nat) (a0 : Int32) {r' : Int32} (hf : fX5_steam a0 = some r') : Met l yX5_steam wsX5_steam ({ frames := 0, cells := 0, slots := 0, locals := 0 }) (wPc D K loc sh ln iv rv sz [.int a0]) (wQi D K loc sh ln iv rv sz r') 0 0 (wA loc sh sz) := by
  refine Met.ofW (cc := cX5_steam) (maxL := 1) (ret := (some .int)) (by decide) rfl ?_
  intro p e s m args below meth c s₁ B hml hv
  obtain ⟨rfl, hsz, hH, hKn⟩ := hv
  have hx := B.exec
  have hb := B.bytes
  have hr := B.returns
  have hts := atoms_spec (ws := wsX5_steam) B.pre
  have hown : s.vm.findClass RX5 = some m.cls := findClass_of_methodNamed B.named
  have hlocks := B.notSynchronized
  subst hsz
  have hA : ∀ q : Nat, s.heap.size ≤ q → wA loc sh s.heap.size q := fun q h => Or.inr h
  have hO : ∀ a, sh a ≠ 0 → wA loc sh s.heap.size (loc a) := fun a h => Or.inl ⟨a, h, rfl⟩
  have hS : va_S (wA loc sh s.heap.size) s.heap s.heap [] := va_S.rf
  obtain ⟨ls, hen, hl⟩ := wEntry m [.int a0] 1 (List.forall_mem_cons.mpr ⟨rfl, fun _ h => absurd h List.not_mem_nil⟩) (Nat.le_of_ble_eq_true rfl)
  rw [hen]
  clear hen
  have hl : lv_has ls 1 [(0, .int a0)] := hl
  unfold fX5_steam at hf
  refine lv_iload_n hx hb dX5_steam_0 rfl (lv_at hl 0 rfl) ?_
  refine lv_bipush (v := 10) hx hb dX5_steam_1 (by decide) ?_
  refine lv_idiv hx hb dX5_steam_3 (by decide) ?_
  refine lv_bipush (v := 100) hx hb dX5_steam_4 (by decide) ?_
  refine lv_irem hx hb dX5_steam_6 (by decide) ?_
  cases hf
  exact W.iret hx hb hr (fun t ht hW => ⟨⟨_, (), rfl, rfl, by show wH _ _ _ _ _ _ _ t.heap; rw [ht]; exact hH⟩, hS.F ht⟩) hS.2.2 dX5_steam_7
noncomputable def fX5_isRecipe  (a0 : Int32) (a1 : Int32) : Option (Int32) := if a0 < 0 then some (0 : Int32) else if a1 < 0 then some (0 : Int32) else if (a0 - a0 / 10 * 10) = 0 then wBd (fX5_beans a0) (fun (r4 : Int32) => wBd (fX5_in r4 5 30) (fun (r6 : Int32) => if r6 = 0 then some (0 : Int32) else wBd (fX5_grind a0) (fun (r9 : Int32) => if r9 = 0 then some (0 : Int32) else wBd (fX5_brew a0) (fun (r12 : Int32) => wBd (fX5_in r12 1 30) (fun (r14 : Int32) => if r14 = 0 then some (0 : Int32) else wBd (fX5_steam a0) (fun (r17 : Int32) => if r17 ≤ 20 then wBd (fX5_in (a1 / 1000) 10 250) (fun (r20 : Int32) => if r20 = 0 then some (0 : Int32) else wBd (fX5_steam a0) (fun (r23 : Int32) => if r23 = 0 then wBd (fX5_in (a1 - a1 / 1000 * 1000) 0 0) (fun (r29 : Int32) => if r29 = 0 then some (0 : Int32) else some (1 : Int32)) else wBd (fX5_in (a1 - a1 / 1000 * 1000) 0 250) (fun (r26 : Int32) => if r26 = 0 then some (0 : Int32) else some (1 : Int32)))) else some (0 : Int32))))))) else some (0 : Int32)
set_option maxHeartbeats 4000000 in
set_option maxRecDepth 100000 in
theorem mtX5_isRecipe (l : Launch) (D : va_G) (K : Nat → ClassId) (loc sh ln : Nat → Nat) (iv : wI) (rv : wJ) (sz : Nat) (a0 : Int32) (a1 : Int32) {r' : Int32} (hf : fX5_isRecipe a0 a1 = some r') : Met l yX5_isRecipe wsX5_isRecipe ({ frames := 1, cells := 0, slots := 0, locals := 22 }) (wPc D K loc sh ln iv rv sz [.int a0, .int a1]) (wQi D K loc sh ln iv rv sz r') 0 0 (wA loc sh sz) := by
  refine Met.ofW (cc := cX5_isRecipe) (maxL := 2) (ret := (some .boolean)) (by decide) rfl ?_
  intro p e s m args below meth c s₁ B hml hv
  obtain ⟨rfl, hsz, hH, hKn⟩ := hv
  have hx := B.exec
  have hb := B.bytes
  have hr := B.returns
  have hts := atoms_spec (ws := wsX5_isRecipe) B.pre
  have hown : s.vm.findClass RX5 = some m.cls := findClass_of_methodNamed B.named
  have hlocks := B.notSynchronized
  subst hsz
  have hA : ∀ q : Nat, s.heap.size ≤ q → wA loc sh s.heap.size q := fun q h => Or.inr h
  have hO : ∀ a, sh a ≠ 0 → wA loc sh s.heap.size (loc a) := fun a h => Or.inl ⟨a, h, rfl⟩
  have hS : va_S (wA loc sh s.heap.size) s.heap s.heap [] := va_S.rf
  obtain ⟨ls, hen, hl⟩ := wEntry m [.int a0, .int a1] 2 (List.forall_mem_cons.mpr ⟨rfl, List.forall_mem_cons.mpr ⟨rfl, fun _ h => absurd h List.not_mem_nil⟩⟩) (Nat.le_of_ble_eq_true rfl)
  rw [hen]
  clear hen
  have hl : lv_has ls 2 [(0, .int a0), (1, .int a1)] := hl
  unfold fX5_isRecipe at hf
  refine lv_iload_n hx hb dX5_isRecipe_0 rfl (lv_at hl 0 rfl) ?_
  refine lv_if_lt (tgt := 57) hx hb dX5_isRecipe_1 (by decide) (fun c1 => ?_) (fun c1 => ?_)
  · have hf := wIt c1 hf
    refine lv_iconst (v := 0) hx hb dX5_isRecipe_57 (by decide) ?_
    cases hf
    exact W.zret hx hb hr rfl (fun t ht hW => ⟨⟨_, (), rfl, rfl, by show wH _ _ _ _ _ _ _ t.heap; rw [ht]; exact hH⟩, hS.F ht⟩) hS.2.2 dX5_isRecipe_58
  · have hf := wIf c1 hf
    refine lv_iload_n hx hb dX5_isRecipe_4 rfl (lv_at hl 1 rfl) ?_
    refine lv_if_lt (tgt := 57) hx hb dX5_isRecipe_5 (by decide) (fun c2 => ?_) (fun c2 => ?_)
    · have hf := wIt c2 hf
      refine lv_iconst (v := 0) hx hb dX5_isRecipe_57 (by decide) ?_
      cases hf
      exact W.zret hx hb hr rfl (fun t ht hW => ⟨⟨_, (), rfl, rfl, by show wH _ _ _ _ _ _ _ t.heap; rw [ht]; exact hH⟩, hS.F ht⟩) hS.2.2 dX5_isRecipe_58
    · have hf := wIf c2 hf
      refine lv_iload_n hx hb dX5_isRecipe_8 rfl (lv_at hl 0 rfl) ?_
      refine lv_bipush (v := 10) hx hb dX5_isRecipe_9 (by decide) ?_
      refine lv_irem hx hb dX5_isRecipe_11 (by decide) ?_
      refine lv_if_ne (tgt := 57) hx hb dX5_isRecipe_12 (by decide) (fun c3 => ?_) (fun c3 => ?_)
      · have hf := wIf c3 hf
        refine lv_iconst (v := 0) hx hb dX5_isRecipe_57 (by decide) ?_
        cases hf
        exact W.zret hx hb hr rfl (fun t ht hW => ⟨⟨_, (), rfl, rfl, by show wH _ _ _ _ _ _ _ t.heap; rw [ht]; exact hH⟩, hS.F ht⟩) hS.2.2 dX5_isRecipe_58
      · have hf := wIt c3 hf
        refine lv_iload_n hx hb dX5_isRecipe_15 rfl (lv_at hl 0 rfl) ?_
        obtain ⟨r4, h5, hf⟩ := wBd_e hf
        refine wci (va_runS (As := [.int a0]) (rest := []) ⟨hx, hb, hml, hown, hts⟩ (mtX5_beans l D K loc sh ln iv rv _ a0 h5) (va_cwS 1 hts gX5_isRecipe_X5_beans rfl rfl rfl (by decide +kernel) ⟨Nat.le_of_ble_eq_true rfl, Nat.le_of_ble_eq_true rfl⟩) (wPreS hKn hH) rfl rfl hl.1 rfl (lv_room (Nat.le_of_ble_eq_true rfl)) dX5_isRecipe_16 ⟨Nat.zero_le _, Nat.zero_le _⟩) hS hO hA (fun H locs hH hS => ?_)
        refine lv_iconst (v := 5) hx hb dX5_isRecipe_19 (by decide) ?_
        refine lv_bipush (v := 30) hx hb dX5_isRecipe_20 (by decide) ?_
        obtain ⟨r6, h7, hf⟩ := wBd_e hf
        refine wci (va_runS (As := [.int r4, .int 5, .int 30]) (rest := []) ⟨hx, hb, hml, hown, hts⟩ (mtX5_in l D K loc sh ln iv rv _ r4 5 30 h7) (va_cwS 3 hts gX5_isRecipe_X5_in rfl rfl rfl (by decide +kernel) ⟨Nat.le_of_ble_eq_true rfl, Nat.le_of_ble_eq_true rfl⟩) (wPreS hKn hH) rfl rfl hl.1 rfl (lv_room (Nat.le_of_ble_eq_true rfl)) dX5_isRecipe_22 ⟨Nat.zero_le _, Nat.zero_le _⟩) hS hO hA (fun H locs hH hS => ?_)
        refine lv_if_eq (tgt := 57) hx hb dX5_isRecipe_25 (by decide) (fun c8 => ?_) (fun c8 => ?_)
        · have hf := wIt c8 hf
          refine lv_iconst (v := 0) hx hb dX5_isRecipe_57 (by decide) ?_
          cases hf
          exact W.zret hx hb hr rfl (fun t ht hW => ⟨⟨_, (), rfl, rfl, by show wH _ _ _ _ _ _ _ t.heap; rw [ht]; exact hH⟩, hS.F ht⟩) hS.2.2 dX5_isRecipe_58
        · have hf := wIf c8 hf
          refine lv_iload_n hx hb dX5_isRecipe_28 rfl (lv_at hl 0 rfl) ?_
          obtain ⟨r9, h10, hf⟩ := wBd_e hf
          refine wci (va_runS (As := [.int a0]) (rest := []) ⟨hx, hb, hml, hown, hts⟩ (mtX5_grind l D K loc sh ln iv rv _ a0 h10) (va_cwS 1 hts gX5_isRecipe_X5_grind rfl rfl rfl (by decide +kernel) ⟨Nat.le_of_ble_eq_true rfl, Nat.le_of_ble_eq_true rfl⟩) (wPreS hKn hH) rfl rfl hl.1 rfl (lv_room (Nat.le_of_ble_eq_true rfl)) dX5_isRecipe_29 ⟨Nat.zero_le _, Nat.zero_le _⟩) hS hO hA (fun H locs hH hS => ?_)
          refine lv_if_eq (tgt := 57) hx hb dX5_isRecipe_32 (by decide) (fun c11 => ?_) (fun c11 => ?_)
          · have hf := wIt c11 hf
            refine lv_iconst (v := 0) hx hb dX5_isRecipe_57 (by decide) ?_
            cases hf
            exact W.zret hx hb hr rfl (fun t ht hW => ⟨⟨_, (), rfl, rfl, by show wH _ _ _ _ _ _ _ t.heap; rw [ht]; exact hH⟩, hS.F ht⟩) hS.2.2 dX5_isRecipe_58
          · have hf := wIf c11 hf
            refine lv_iload_n hx hb dX5_isRecipe_35 rfl (lv_at hl 0 rfl) ?_
            obtain ⟨r12, h13, hf⟩ := wBd_e hf
            refine wci (va_runS (As := [.int a0]) (rest := []) ⟨hx, hb, hml, hown, hts⟩ (mtX5_brew l D K loc sh ln iv rv _ a0 h13) (va_cwS 1 hts gX5_isRecipe_X5_brew rfl rfl rfl (by decide +kernel) ⟨Nat.le_of_ble_eq_true rfl, Nat.le_of_ble_eq_true rfl⟩) (wPreS hKn hH) rfl rfl hl.1 rfl (lv_room (Nat.le_of_ble_eq_true rfl)) dX5_isRecipe_36 ⟨Nat.zero_le _, Nat.zero_le _⟩) hS hO hA (fun H locs hH hS => ?_)
            refine lv_iconst (v := 1) hx hb dX5_isRecipe_39 (by decide) ?_
            refine lv_bipush (v := 30) hx hb dX5_isRecipe_40 (by decide) ?_
            obtain ⟨r14, h15, hf⟩ := wBd_e hf
            refine wci (va_runS (As := [.int r12, .int 1, .int 30]) (rest := []) ⟨hx, hb, hml, hown, hts⟩ (mtX5_in l D K loc sh ln iv rv _ r12 1 30 h15) (va_cwS 3 hts gX5_isRecipe_X5_in rfl rfl rfl (by decide +kernel) ⟨Nat.le_of_ble_eq_true rfl, Nat.le_of_ble_eq_true rfl⟩) (wPreS hKn hH) rfl rfl hl.1 rfl (lv_room (Nat.le_of_ble_eq_true rfl)) dX5_isRecipe_42 ⟨Nat.zero_le _, Nat.zero_le _⟩) hS hO hA (fun H locs hH hS => ?_)
            refine lv_if_eq (tgt := 57) hx hb dX5_isRecipe_45 (by decide) (fun c16 => ?_) (fun c16 => ?_)
            · have hf := wIt c16 hf
              refine lv_iconst (v := 0) hx hb dX5_isRecipe_57 (by decide) ?_
              cases hf
              exact W.zret hx hb hr rfl (fun t ht hW => ⟨⟨_, (), rfl, rfl, by show wH _ _ _ _ _ _ _ t.heap; rw [ht]; exact hH⟩, hS.F ht⟩) hS.2.2 dX5_isRecipe_58
            · have hf := wIf c16 hf
              refine lv_iload_n hx hb dX5_isRecipe_48 rfl (lv_at hl 0 rfl) ?_
              obtain ⟨r17, h18, hf⟩ := wBd_e hf
              refine wci (va_runS (As := [.int a0]) (rest := []) ⟨hx, hb, hml, hown, hts⟩ (mtX5_steam l D K loc sh ln iv rv _ a0 h18) (va_cwS 1 hts gX5_isRecipe_X5_steam rfl rfl rfl (by decide +kernel) ⟨Nat.le_of_ble_eq_true rfl, Nat.le_of_ble_eq_true rfl⟩) (wPreS hKn hH) rfl rfl hl.1 rfl (lv_room (Nat.le_of_ble_eq_true rfl)) dX5_isRecipe_49 ⟨Nat.zero_le _, Nat.zero_le _⟩) hS hO hA (fun H locs hH hS => ?_)
              refine lv_bipush (v := 20) hx hb dX5_isRecipe_52 (by decide) ?_
              refine lv_icmp_le (tgt := 59) hx hb dX5_isRecipe_54 (by decide) (fun c19 => ?_) (fun c19 => ?_)
              · have hf := wIt c19 hf
                refine lv_iload_n hx hb dX5_isRecipe_59 rfl (lv_at hl 1 rfl) ?_
                refine lv_sipush (v := 1000) hx hb dX5_isRecipe_60 (by decide) ?_
                refine lv_idiv hx hb dX5_isRecipe_63 (by decide) ?_
                refine lv_bipush (v := 10) hx hb dX5_isRecipe_64 (by decide) ?_
                refine lv_sipush (v := 250) hx hb dX5_isRecipe_66 (by decide) ?_
                obtain ⟨r20, h21, hf⟩ := wBd_e hf
                refine wci (va_runS (As := [.int (a1 / 1000), .int 10, .int 250]) (rest := []) ⟨hx, hb, hml, hown, hts⟩ (mtX5_in l D K loc sh ln iv rv _ (a1 / 1000) 10 250 h21) (va_cwS 3 hts gX5_isRecipe_X5_in rfl rfl rfl (by decide +kernel) ⟨Nat.le_of_ble_eq_true rfl, Nat.le_of_ble_eq_true rfl⟩) (wPreS hKn hH) rfl rfl hl.1 rfl (lv_room (Nat.le_of_ble_eq_true rfl)) dX5_isRecipe_69 ⟨Nat.zero_le _, Nat.zero_le _⟩) hS hO hA (fun H locs hH hS => ?_)
                refine lv_if_eq (tgt := 105) hx hb dX5_isRecipe_72 (by decide) (fun c22 => ?_) (fun c22 => ?_)
                · have hf := wIt c22 hf
                  refine lv_iconst (v := 0) hx hb dX5_isRecipe_105 (by decide) ?_
                  cases hf
                  exact W.zret hx hb hr rfl (fun t ht hW => ⟨⟨_, (), rfl, rfl, by show wH _ _ _ _ _ _ _ t.heap; rw [ht]; exact hH⟩, hS.F ht⟩) hS.2.2 dX5_isRecipe_106
                · have hf := wIf c22 hf
                  refine lv_iload_n hx hb dX5_isRecipe_75 rfl (lv_at hl 1 rfl) ?_
                  refine lv_sipush (v := 1000) hx hb dX5_isRecipe_76 (by decide) ?_
                  refine lv_irem hx hb dX5_isRecipe_79 (by decide) ?_
                  refine lv_iconst (v := 0) hx hb dX5_isRecipe_80 (by decide) ?_
                  refine lv_iload_n hx hb dX5_isRecipe_81 rfl (lv_at hl 0 rfl) ?_
                  obtain ⟨r23, h24, hf⟩ := wBd_e hf
                  refine wci (va_runS (As := [.int a0]) (rest := [.int 0, .int (a1 - a1 / 1000 * 1000)]) ⟨hx, hb, hml, hown, hts⟩ (mtX5_steam l D K loc sh ln iv rv _ a0 h24) (va_cwS 1 hts gX5_isRecipe_X5_steam rfl rfl rfl (by decide +kernel) ⟨Nat.le_of_ble_eq_true rfl, Nat.le_of_ble_eq_true rfl⟩) (wPreS hKn hH) rfl rfl hl.1 rfl (lv_room (Nat.le_of_ble_eq_true rfl)) dX5_isRecipe_82 ⟨Nat.zero_le _, Nat.zero_le _⟩) hS hO hA (fun H locs hH hS => ?_)
                  refine lv_if_ne (tgt := 92) hx hb dX5_isRecipe_85 (by decide) (fun c25 => ?_) (fun c25 => ?_)
                  · have hf := wIf c25 hf
                    refine lv_sipush (v := 250) hx hb dX5_isRecipe_92 (by decide) ?_
                    obtain ⟨r26, h27, hf⟩ := wBd_e hf
                    refine wci (va_runS (As := [.int (a1 - a1 / 1000 * 1000), .int 0, .int 250]) (rest := []) ⟨hx, hb, hml, hown, hts⟩ (mtX5_in l D K loc sh ln iv rv _ (a1 - a1 / 1000 * 1000) 0 250 h27) (va_cwS 3 hts gX5_isRecipe_X5_in rfl rfl rfl (by decide +kernel) ⟨Nat.le_of_ble_eq_true rfl, Nat.le_of_ble_eq_true rfl⟩) (wPreS hKn hH) rfl rfl hl.1 rfl (lv_room (Nat.le_of_ble_eq_true rfl)) dX5_isRecipe_95 ⟨Nat.zero_le _, Nat.zero_le _⟩) hS hO hA (fun H locs hH hS => ?_)
                    refine lv_if_eq (tgt := 105) hx hb dX5_isRecipe_98 (by decide) (fun c28 => ?_) (fun c28 => ?_)
                    · have hf := wIt c28 hf
                      refine lv_iconst (v := 0) hx hb dX5_isRecipe_105 (by decide) ?_
                      cases hf
                      exact W.zret hx hb hr rfl (fun t ht hW => ⟨⟨_, (), rfl, rfl, by show wH _ _ _ _ _ _ _ t.heap; rw [ht]; exact hH⟩, hS.F ht⟩) hS.2.2 dX5_isRecipe_106
                    · have hf := wIf c28 hf
                      refine lv_iconst (v := 1) hx hb dX5_isRecipe_101 (by decide) ?_
                      refine lv_goto (tgt := 106) hx hb dX5_isRecipe_102 (by decide) ?_
                      cases hf
                      exact W.zret hx hb hr rfl (fun t ht hW => ⟨⟨_, (), rfl, rfl, by show wH _ _ _ _ _ _ _ t.heap; rw [ht]; exact hH⟩, hS.F ht⟩) hS.2.2 dX5_isRecipe_106
                  · have hf := wIt c25 hf
                    refine lv_iconst (v := 0) hx hb dX5_isRecipe_88 (by decide) ?_
                    refine lv_goto (tgt := 95) hx hb dX5_isRecipe_89 (by decide) ?_
                    obtain ⟨r29, h30, hf⟩ := wBd_e hf
                    refine wci (va_runS (As := [.int (a1 - a1 / 1000 * 1000), .int 0, .int 0]) (rest := []) ⟨hx, hb, hml, hown, hts⟩ (mtX5_in l D K loc sh ln iv rv _ (a1 - a1 / 1000 * 1000) 0 0 h30) (va_cwS 3 hts gX5_isRecipe_X5_in rfl rfl rfl (by decide +kernel) ⟨Nat.le_of_ble_eq_true rfl, Nat.le_of_ble_eq_true rfl⟩) (wPreS hKn hH) rfl rfl hl.1 rfl (lv_room (Nat.le_of_ble_eq_true rfl)) dX5_isRecipe_95 ⟨Nat.zero_le _, Nat.zero_le _⟩) hS hO hA (fun H locs hH hS => ?_)
                    refine lv_if_eq (tgt := 105) hx hb dX5_isRecipe_98 (by decide) (fun c31 => ?_) (fun c31 => ?_)
                    · have hf := wIt c31 hf
                      refine lv_iconst (v := 0) hx hb dX5_isRecipe_105 (by decide) ?_
                      cases hf
                      exact W.zret hx hb hr rfl (fun t ht hW => ⟨⟨_, (), rfl, rfl, by show wH _ _ _ _ _ _ _ t.heap; rw [ht]; exact hH⟩, hS.F ht⟩) hS.2.2 dX5_isRecipe_106
                    · have hf := wIf c31 hf
                      refine lv_iconst (v := 1) hx hb dX5_isRecipe_101 (by decide) ?_
                      refine lv_goto (tgt := 106) hx hb dX5_isRecipe_102 (by decide) ?_
                      cases hf
                      exact W.zret hx hb hr rfl (fun t ht hW => ⟨⟨_, (), rfl, rfl, by show wH _ _ _ _ _ _ _ t.heap; rw [ht]; exact hH⟩, hS.F ht⟩) hS.2.2 dX5_isRecipe_106
              · have hf := wIf c19 hf
                refine lv_iconst (v := 0) hx hb dX5_isRecipe_57 (by decide) ?_
                cases hf
                exact W.zret hx hb hr rfl (fun t ht hW => ⟨⟨_, (), rfl, rfl, by show wH _ _ _ _ _ _ _ t.heap; rw [ht]; exact hH⟩, hS.F ht⟩) hS.2.2 dX5_isRecipe_58
noncomputable def fX5_recipe  (iv : wI) (a1 : Int32) (a2 : Int32) : Option (wI × Int32) := wBd (fX5_isRecipe a1 a2) (fun (r1 : Int32) => if r1 = 0 then some (iv, ((-1) : Int32)) else if (iv 1 4) = 8 then some (iv, ((-1) : Int32)) else wGd (vp_in (iv 1 4) 8) (wLt (wU iv 15 (iv 1 4).toNatClampNeg a1) (fun (iv6 : wI) => wGd (vp_in (iv6 1 4) 8) (wLt (wU iv6 16 (iv6 1 4).toNatClampNeg a2) (fun (iv9 : wI) => wLt (wU iv9 1 4 ((iv9 1 4) + 1)) (fun (iv11 : wI) => some (iv11, ((iv11 1 4) - 1))))))))
set_option maxHeartbeats 4000000 in
set_option maxRecDepth 100000 in
theorem mtX5_recipe (l : Launch) (D : va_G) (K : Nat → ClassId) (loc sh ln : Nat → Nat) (iv : wI) (rv : wJ) (sz : Nat) (a1 : Int32) (a2 : Int32) {iv' : wI} {r' : Int32} (hB : wBm sh ln) (hf : fX5_recipe iv a1 a2 = some (iv', r')) : Met l yX5_recipe wsX5_recipe ({ frames := 2, cells := 0, slots := 0, locals := 43 }) (wPc D K loc sh ln iv rv sz [wR loc 1, .int a1, .int a2]) (wQi D K loc sh ln iv' rv sz r') 0 0 (wA loc sh sz) := by
  refine Met.ofW (cc := cX5_recipe) (maxL := 3) (ret := (some .int)) (by decide) rfl ?_
  intro p e s m args below meth c s₁ B hml hv
  obtain ⟨rfl, hsz, hH, hKn⟩ := hv
  have hx := B.exec
  have hb := B.bytes
  have hr := B.returns
  have hts := atoms_spec (ws := wsX5_recipe) B.pre
  have hown : s.vm.findClass RX5 = some m.cls := findClass_of_methodNamed B.named
  have hlocks := B.notSynchronized
  subst hsz
  have hA : ∀ q : Nat, s.heap.size ≤ q → wA loc sh s.heap.size q := fun q h => Or.inr h
  have hO : ∀ a, sh a ≠ 0 → wA loc sh s.heap.size (loc a) := fun a h => Or.inl ⟨a, h, rfl⟩
  have hS : va_S (wA loc sh s.heap.size) s.heap s.heap [] := va_S.rf
  obtain ⟨ls, hen, hl⟩ := wEntry m [wR loc 1, .int a1, .int a2] 3 (List.forall_mem_cons.mpr ⟨wR_cat _ _, List.forall_mem_cons.mpr ⟨rfl, List.forall_mem_cons.mpr ⟨rfl, fun _ h => absurd h List.not_mem_nil⟩⟩⟩) (Nat.le_of_ble_eq_true rfl)
  rw [hen]
  clear hen
  have hl : lv_has ls 3 [(0, wR loc 1), (1, .int a1), (2, .int a2)] := hl
  have k109 := hts (.fieldLink RX5 109 "CupByCupModel" "recipes" "I") (List.mem_of_getElem? (i := 1) rfl)
  have iX5 : ∀ w ∈ wsX50, w ∈ wsX5_recipe := fun w h => List.mem_cons_of_mem _ (List.mem_append_right _ h)
  have k13 := hts (.fieldLink RX5 13 "CupByCupModel" "recipeWhat" "[I") (List.mem_of_getElem? (i := 2) rfl)
  have k17 := hts (.fieldLink RX5 17 "CupByCupModel" "recipeWet" "[I") (List.mem_of_getElem? (i := 3) rfl)
  unfold fX5_recipe at hf
  refine lv_iload_n hx hb dX5_recipe_0 rfl (lv_at hl 1 rfl) ?_
  refine lv_iload_n hx hb dX5_recipe_1 rfl (lv_at hl 2 rfl) ?_
  obtain ⟨r1, h2, hf⟩ := wBd_e hf
  refine wci (va_runS (As := [.int a1, .int a2]) (rest := []) ⟨hx, hb, hml, hown, hts⟩ (mtX5_isRecipe l D K loc sh ln iv rv _ a1 a2 h2) (va_cwS 2 hts gX5_recipe_X5_isRecipe rfl rfl rfl (by decide +kernel) ⟨Nat.le_of_ble_eq_true rfl, Nat.le_of_ble_eq_true rfl⟩) (wPreS hKn hH) rfl rfl hl.1 rfl (lv_room (Nat.le_of_ble_eq_true rfl)) dX5_recipe_2 ⟨Nat.zero_le _, Nat.zero_le _⟩) hS hO hA (fun H locs hH hS => ?_)
  refine lv_if_eq (tgt := 17) hx hb dX5_recipe_5 (by decide) (fun c3 => ?_) (fun c3 => ?_)
  · have hf := wIt c3 hf
    refine lv_iconst (v := (-1)) hx hb dX5_recipe_17 (by decide) ?_
    cases hf
    exact W.iret hx hb hr (fun t ht hW => ⟨⟨_, (), rfl, rfl, by show wH _ _ _ _ _ _ _ t.heap; rw [ht]; exact hH⟩, hS.F ht⟩) hS.2.2 dX5_recipe_18
  · have hf := wIf c3 hf
    refine wald_n hx hb dX5_recipe_8 rfl (lv_at hl 0 rfl) ?_
    refine wg (C := RX5) (T := TX5) (N := 31) (v := .int (iv 1 4)) hx hb hts iX5 hown hKn.1 hH (q := 1) (hB.1 1 6 (by decide)) (by decide) rfl rfl 4 (by decide) k109 rfl dX5_recipe_9 ?_
    refine lv_bipush (v := 8) hx hb dX5_recipe_12 (by decide) ?_
    refine lv_icmp_ne (tgt := 19) hx hb dX5_recipe_14 (by decide) (fun c4 => ?_) (fun c4 => ?_)
    · have hf := wIf c4 hf
      refine wald_n hx hb dX5_recipe_19 rfl (lv_at hl 0 rfl) ?_
      refine wg (C := RX5) (T := TX5) (N := 31) (v := wR loc 15) hx hb hts iX5 hown hKn.1 hH (q := 1) (hB.1 1 6 (by decide)) (by decide) rfl rfl 5 (by decide) k13 rfl dX5_recipe_20 ?_
      refine wald_n hx hb dX5_recipe_23 rfl (lv_at hl 0 rfl) ?_
      refine wg (C := RX5) (T := TX5) (N := 31) (v := .int (iv 1 4)) hx hb hts iX5 hown hKn.1 hH (q := 1) (hB.1 1 6 (by decide)) (by decide) rfl rfl 4 (by decide) k109 rfl dX5_recipe_24 ?_
      refine lv_iload_n hx hb dX5_recipe_27 rfl (lv_at hl 1 rfl) ?_
      obtain ⟨g5, hf⟩ := wGd_e hf
      obtain ⟨iv6, e7, hf⟩ := wLt_e hf
      refine wis hx hb hKn.1 hH hO hS (hB.1 15 7 (by decide)) (hB.2.1 15 _ (by decide)) g5 dX5_recipe_28 (fun H locs hH hS => ?_)
      rw [← e7] at hH
      refine wald_n hx hb dX5_recipe_29 rfl (lv_at hl 0 rfl) ?_
      refine wg (C := RX5) (T := TX5) (N := 31) (v := wR loc 16) hx hb hts iX5 hown hKn.1 hH (q := 1) (hB.1 1 6 (by decide)) (by decide) rfl rfl 6 (by decide) k17 rfl dX5_recipe_30 ?_
      refine wald_n hx hb dX5_recipe_33 rfl (lv_at hl 0 rfl) ?_
      refine wg (C := RX5) (T := TX5) (N := 31) (v := .int (iv6 1 4)) hx hb hts iX5 hown hKn.1 hH (q := 1) (hB.1 1 6 (by decide)) (by decide) rfl rfl 4 (by decide) k109 rfl dX5_recipe_34 ?_
      refine lv_iload_n hx hb dX5_recipe_37 rfl (lv_at hl 2 rfl) ?_
      obtain ⟨g8, hf⟩ := wGd_e hf
      obtain ⟨iv9, e10, hf⟩ := wLt_e hf
      refine wis hx hb hKn.1 hH hO hS (hB.1 16 7 (by decide)) (hB.2.1 16 _ (by decide)) g8 dX5_recipe_38 (fun H locs hH hS => ?_)
      rw [← e10] at hH
      refine wald_n hx hb dX5_recipe_39 rfl (lv_at hl 0 rfl) ?_
      refine lv_dup hx hb dX5_recipe_40 (wR_cat _ _) ?_
      refine wg (C := RX5) (T := TX5) (N := 31) (v := .int (iv9 1 4)) hx hb hts iX5 hown hKn.1 hH (q := 1) (hB.1 1 6 (by decide)) (by decide) rfl rfl 4 (by decide) k109 rfl dX5_recipe_41 ?_
      refine lv_iconst (v := 1) hx hb dX5_recipe_44 (by decide) ?_
      refine lv_iadd hx hb dX5_recipe_45 ?_
      obtain ⟨iv11, e12, hf⟩ := wLt_e hf
      refine wp (C := RX5) (T := TX5) (N := 31) (v := .int ((iv9 1 4) + 1)) (ty := tyX5 4) (iv' := iv11) (rv' := rv) hx hb hts iX5 tyX5 tyX5_ok nmX5 hown hKn.1 hH hO hS (q := 1) (hB.1 1 6 (by decide)) (by decide) rfl rfl 4 (by decide) k109 rfl (tyX5_ok 4 (by decide)) rfl rfl (Nat.le_of_ble_eq_true rfl) (by rw [e12, wU_self]; rfl) (fun a ha => by rw [e12]; exact wU_ne a ha) (fun _ _ => rfl) dX5_recipe_46 (fun H locs hH hS => ?_)
      refine wald_n hx hb dX5_recipe_49 rfl (lv_at hl 0 rfl) ?_
      refine wg (C := RX5) (T := TX5) (N := 31) (v := .int (iv11 1 4)) hx hb hts iX5 hown hKn.1 hH (q := 1) (hB.1 1 6 (by decide)) (by decide) rfl rfl 4 (by decide) k109 rfl dX5_recipe_50 ?_
      refine lv_iconst (v := 1) hx hb dX5_recipe_53 (by decide) ?_
      refine lv_isub hx hb dX5_recipe_54 ?_
      cases hf
      exact W.iret hx hb hr (fun t ht hW => ⟨⟨_, (), rfl, rfl, by show wH _ _ _ _ _ _ _ t.heap; rw [ht]; exact hH⟩, hS.F ht⟩) hS.2.2 dX5_recipe_55
    · have hf := wIt c4 hf
      refine lv_iconst (v := (-1)) hx hb dX5_recipe_17 (by decide) ?_
      cases hf
      exact W.iret hx hb hr (fun t ht hW => ⟨⟨_, (), rfl, rfl, by show wH _ _ _ _ _ _ _ t.heap; rw [ht]; exact hH⟩, hS.F ht⟩) hS.2.2 dX5_recipe_18
noncomputable def fX5_alter  (iv : wI) (a1 : Int32) (a2 : Int32) (a3 : Int32) : Option (wI × Int32) := wBd (fX5_in a1 0 ((iv 1 4) - 1)) (fun (r1 : Int32) => if r1 = 0 then some (iv, (0 : Int32)) else wBd (fX5_isRecipe a2 a3) (fun (r4 : Int32) => if r4 = 0 then some (iv, (0 : Int32)) else wGd (vp_in a1 8) (wLt (wU iv 15 a1.toNatClampNeg a2) (fun (iv8 : wI) => wLt (wU iv8 16 a1.toNatClampNeg a3) (fun (iv10 : wI) => some (iv10, (1 : Int32)))))))
set_option maxHeartbeats 4000000 in
set_option maxRecDepth 100000 in
theorem mtX5_alter (l : Launch) (D : va_G) (K : Nat → ClassId) (loc sh ln : Nat → Nat) (iv : wI) (rv : wJ) (sz : Nat) (a1 : Int32) (a2 : Int32) (a3 : Int32) {iv' : wI} {r' : Int32} (hB : wBm sh ln) (hf : fX5_alter iv a1 a2 a3 = some (iv', r')) : Met l yX5_alter wsX5_alter ({ frames := 2, cells := 0, slots := 0, locals := 43 }) (wPc D K loc sh ln iv rv sz [wR loc 1, .int a1, .int a2, .int a3]) (wQi D K loc sh ln iv' rv sz r') 0 0 (wA loc sh sz) := by
  refine Met.ofW (cc := cX5_alter) (maxL := 4) (ret := (some .boolean)) (by decide) rfl ?_
  intro p e s m args below meth c s₁ B hml hv
  obtain ⟨rfl, hsz, hH, hKn⟩ := hv
  have hx := B.exec
  have hb := B.bytes
  have hr := B.returns
  have hts := atoms_spec (ws := wsX5_alter) B.pre
  have hown : s.vm.findClass RX5 = some m.cls := findClass_of_methodNamed B.named
  have hlocks := B.notSynchronized
  subst hsz
  have hA : ∀ q : Nat, s.heap.size ≤ q → wA loc sh s.heap.size q := fun q h => Or.inr h
  have hO : ∀ a, sh a ≠ 0 → wA loc sh s.heap.size (loc a) := fun a h => Or.inl ⟨a, h, rfl⟩
  have hS : va_S (wA loc sh s.heap.size) s.heap s.heap [] := va_S.rf
  obtain ⟨ls, hen, hl⟩ := wEntry m [wR loc 1, .int a1, .int a2, .int a3] 4 (List.forall_mem_cons.mpr ⟨wR_cat _ _, List.forall_mem_cons.mpr ⟨rfl, List.forall_mem_cons.mpr ⟨rfl, List.forall_mem_cons.mpr ⟨rfl, fun _ h => absurd h List.not_mem_nil⟩⟩⟩⟩) (Nat.le_of_ble_eq_true rfl)
  rw [hen]
  clear hen
  have hl : lv_has ls 4 [(0, wR loc 1), (1, .int a1), (2, .int a2), (3, .int a3)] := hl
  have k109 := hts (.fieldLink RX5 109 "CupByCupModel" "recipes" "I") (List.mem_of_getElem? (i := 1) rfl)
  have iX5 : ∀ w ∈ wsX50, w ∈ wsX5_alter := fun w h => List.mem_cons_of_mem _ (List.mem_append_right _ h)
  have k13 := hts (.fieldLink RX5 13 "CupByCupModel" "recipeWhat" "[I") (List.mem_of_getElem? (i := 2) rfl)
  have k17 := hts (.fieldLink RX5 17 "CupByCupModel" "recipeWet" "[I") (List.mem_of_getElem? (i := 3) rfl)
  unfold fX5_alter at hf
  refine lv_iload_n hx hb dX5_alter_0 rfl (lv_at hl 1 rfl) ?_
  refine lv_iconst (v := 0) hx hb dX5_alter_1 (by decide) ?_
  refine wald_n hx hb dX5_alter_2 rfl (lv_at hl 0 rfl) ?_
  refine wg (C := RX5) (T := TX5) (N := 31) (v := .int (iv 1 4)) hx hb hts iX5 hown hKn.1 hH (q := 1) (hB.1 1 6 (by decide)) (by decide) rfl rfl 4 (by decide) k109 rfl dX5_alter_3 ?_
  refine lv_iconst (v := 1) hx hb dX5_alter_6 (by decide) ?_
  refine lv_isub hx hb dX5_alter_7 ?_
  obtain ⟨r1, h2, hf⟩ := wBd_e hf
  refine wci (va_runS (As := [.int a1, .int 0, .int ((iv 1 4) - 1)]) (rest := []) ⟨hx, hb, hml, hown, hts⟩ (mtX5_in l D K loc sh ln iv rv _ a1 0 ((iv 1 4) - 1) h2) (va_cwS 3 hts gX5_alter_X5_in rfl rfl rfl (by decide +kernel) ⟨Nat.le_of_ble_eq_true rfl, Nat.le_of_ble_eq_true rfl⟩) (wPreS hKn hH) rfl rfl hl.1 rfl (lv_room (Nat.le_of_ble_eq_true rfl)) dX5_alter_8 ⟨Nat.zero_le _, Nat.zero_le _⟩) hS hO hA (fun H locs hH hS => ?_)
  refine lv_if_eq (tgt := 22) hx hb dX5_alter_11 (by decide) (fun c3 => ?_) (fun c3 => ?_)
  · have hf := wIt c3 hf
    refine lv_iconst (v := 0) hx hb dX5_alter_22 (by decide) ?_
    cases hf
    exact W.zret hx hb hr rfl (fun t ht hW => ⟨⟨_, (), rfl, rfl, by show wH _ _ _ _ _ _ _ t.heap; rw [ht]; exact hH⟩, hS.F ht⟩) hS.2.2 dX5_alter_23
  · have hf := wIf c3 hf
    refine lv_iload_n hx hb dX5_alter_14 rfl (lv_at hl 2 rfl) ?_
    refine lv_iload_n hx hb dX5_alter_15 rfl (lv_at hl 3 rfl) ?_
    obtain ⟨r4, h5, hf⟩ := wBd_e hf
    refine wci (va_runS (As := [.int a2, .int a3]) (rest := []) ⟨hx, hb, hml, hown, hts⟩ (mtX5_isRecipe l D K loc sh ln iv rv _ a2 a3 h5) (va_cwS 2 hts gX5_alter_X5_isRecipe rfl rfl rfl (by decide +kernel) ⟨Nat.le_of_ble_eq_true rfl, Nat.le_of_ble_eq_true rfl⟩) (wPreS hKn hH) rfl rfl hl.1 rfl (lv_room (Nat.le_of_ble_eq_true rfl)) dX5_alter_16 ⟨Nat.zero_le _, Nat.zero_le _⟩) hS hO hA (fun H locs hH hS => ?_)
    refine lv_if_ne (tgt := 24) hx hb dX5_alter_19 (by decide) (fun c6 => ?_) (fun c6 => ?_)
    · have hf := wIf c6 hf
      refine wald_n hx hb dX5_alter_24 rfl (lv_at hl 0 rfl) ?_
      refine wg (C := RX5) (T := TX5) (N := 31) (v := wR loc 15) hx hb hts iX5 hown hKn.1 hH (q := 1) (hB.1 1 6 (by decide)) (by decide) rfl rfl 5 (by decide) k13 rfl dX5_alter_25 ?_
      refine lv_iload_n hx hb dX5_alter_28 rfl (lv_at hl 1 rfl) ?_
      refine lv_iload_n hx hb dX5_alter_29 rfl (lv_at hl 2 rfl) ?_
      obtain ⟨g7, hf⟩ := wGd_e hf
      obtain ⟨iv8, e9, hf⟩ := wLt_e hf
      refine wis hx hb hKn.1 hH hO hS (hB.1 15 7 (by decide)) (hB.2.1 15 _ (by decide)) g7 dX5_alter_30 (fun H locs hH hS => ?_)
      rw [← e9] at hH
      refine wald_n hx hb dX5_alter_31 rfl (lv_at hl 0 rfl) ?_
      refine wg (C := RX5) (T := TX5) (N := 31) (v := wR loc 16) hx hb hts iX5 hown hKn.1 hH (q := 1) (hB.1 1 6 (by decide)) (by decide) rfl rfl 6 (by decide) k17 rfl dX5_alter_32 ?_
      refine lv_iload_n hx hb dX5_alter_35 rfl (lv_at hl 1 rfl) ?_
      refine lv_iload_n hx hb dX5_alter_36 rfl (lv_at hl 3 rfl) ?_
      obtain ⟨iv10, e11, hf⟩ := wLt_e hf
      refine wis hx hb hKn.1 hH hO hS (hB.1 16 7 (by decide)) (hB.2.1 16 _ (by decide)) g7 dX5_alter_37 (fun H locs hH hS => ?_)
      rw [← e11] at hH
      refine lv_iconst (v := 1) hx hb dX5_alter_38 (by decide) ?_
      cases hf
      exact W.zret hx hb hr rfl (fun t ht hW => ⟨⟨_, (), rfl, rfl, by show wH _ _ _ _ _ _ _ t.heap; rw [ht]; exact hH⟩, hS.F ht⟩) hS.2.2 dX5_alter_39
    · have hf := wIt c6 hf
      refine lv_iconst (v := 0) hx hb dX5_alter_22 (by decide) ?_
      cases hf
      exact W.zret hx hb hr rfl (fun t ht hW => ⟨⟨_, (), rfl, rfl, by show wH _ _ _ _ _ _ _ t.heap; rw [ht]; exact hH⟩, hS.F ht⟩) hS.2.2 dX5_alter_23
noncomputable def fX5_store  (iv : wI) (a1 : Int32) (a2 : Int32) : Option (wI × Int32) := wBd (fX5_in a1 0 2) (fun (r1 : Int32) => if r1 = 0 then some (iv, ((-1) : Int32)) else wBd (fX5_in a2 1 10000) (fun (r4 : Int32) => if r4 = 0 then some (iv, ((-1) : Int32)) else wGd (vp_in a1 3) (if ((iv 17 a1.toNatClampNeg) + a2) ≤ 100000 then wLt (wU iv 17 a1.toNatClampNeg ((iv 17 a1.toNatClampNeg) + a2)) (fun (iv9 : wI) => some (iv9, (iv9 17 a1.toNatClampNeg))) else some (iv, ((-1) : Int32)))))
set_option maxHeartbeats 4000000 in
set_option maxRecDepth 100000 in
theorem mtX5_store (l : Launch) (D : va_G) (K : Nat → ClassId) (loc sh ln : Nat → Nat) (iv : wI) (rv : wJ) (sz : Nat) (a1 : Int32) (a2 : Int32) {iv' : wI} {r' : Int32} (hB : wBm sh ln) (hf : fX5_store iv a1 a2 = some (iv', r')) : Met l yX5_store wsX5_store ({ frames := 1, cells := 0, slots := 0, locals := 22 }) (wPc D K loc sh ln iv rv sz [wR loc 1, .int a1, .int a2]) (wQi D K loc sh ln iv' rv sz r') 0 0 (wA loc sh sz) := by
  refine Met.ofW (cc := cX5_store) (maxL := 3) (ret := (some .int)) (by decide) rfl ?_
  intro p e s m args below meth c s₁ B hml hv
  obtain ⟨rfl, hsz, hH, hKn⟩ := hv
  have hx := B.exec
  have hb := B.bytes
  have hr := B.returns
  have hts := atoms_spec (ws := wsX5_store) B.pre
  have hown : s.vm.findClass RX5 = some m.cls := findClass_of_methodNamed B.named
  have hlocks := B.notSynchronized
  subst hsz
  have hA : ∀ q : Nat, s.heap.size ≤ q → wA loc sh s.heap.size q := fun q h => Or.inr h
  have hO : ∀ a, sh a ≠ 0 → wA loc sh s.heap.size (loc a) := fun a h => Or.inl ⟨a, h, rfl⟩
  have hS : va_S (wA loc sh s.heap.size) s.heap s.heap [] := va_S.rf
  obtain ⟨ls, hen, hl⟩ := wEntry m [wR loc 1, .int a1, .int a2] 3 (List.forall_mem_cons.mpr ⟨wR_cat _ _, List.forall_mem_cons.mpr ⟨rfl, List.forall_mem_cons.mpr ⟨rfl, fun _ h => absurd h List.not_mem_nil⟩⟩⟩) (Nat.le_of_ble_eq_true rfl)
  rw [hen]
  clear hen
  have hl : lv_has ls 3 [(0, wR loc 1), (1, .int a1), (2, .int a2)] := hl
  have k20 := hts (.fieldLink RX5 20 "CupByCupModel" "stores" "[I") (List.mem_of_getElem? (i := 1) rfl)
  have iX5 : ∀ w ∈ wsX50, w ∈ wsX5_store := fun w h => List.mem_cons_of_mem _ (List.mem_append_right _ h)
  unfold fX5_store at hf
  refine lv_iload_n hx hb dX5_store_0 rfl (lv_at hl 1 rfl) ?_
  refine lv_iconst (v := 0) hx hb dX5_store_1 (by decide) ?_
  refine lv_iconst (v := 2) hx hb dX5_store_2 (by decide) ?_
  obtain ⟨r1, h2, hf⟩ := wBd_e hf
  refine wci (va_runS (As := [.int a1, .int 0, .int 2]) (rest := []) ⟨hx, hb, hml, hown, hts⟩ (mtX5_in l D K loc sh ln iv rv _ a1 0 2 h2) (va_cwS 3 hts gX5_store_X5_in rfl rfl rfl (by decide +kernel) ⟨Nat.le_of_ble_eq_true rfl, Nat.le_of_ble_eq_true rfl⟩) (wPreS hKn hH) rfl rfl hl.1 rfl (lv_room (Nat.le_of_ble_eq_true rfl)) dX5_store_3 ⟨Nat.zero_le _, Nat.zero_le _⟩) hS hO hA (fun H locs hH hS => ?_)
  refine lv_if_eq (tgt := 33) hx hb dX5_store_6 (by decide) (fun c3 => ?_) (fun c3 => ?_)
  · have hf := wIt c3 hf
    refine lv_iconst (v := (-1)) hx hb dX5_store_33 (by decide) ?_
    cases hf
    exact W.iret hx hb hr (fun t ht hW => ⟨⟨_, (), rfl, rfl, by show wH _ _ _ _ _ _ _ t.heap; rw [ht]; exact hH⟩, hS.F ht⟩) hS.2.2 dX5_store_34
  · have hf := wIf c3 hf
    refine lv_iload_n hx hb dX5_store_9 rfl (lv_at hl 2 rfl) ?_
    refine lv_iconst (v := 1) hx hb dX5_store_10 (by decide) ?_
    refine lv_sipush (v := 10000) hx hb dX5_store_11 (by decide) ?_
    obtain ⟨r4, h5, hf⟩ := wBd_e hf
    refine wci (va_runS (As := [.int a2, .int 1, .int 10000]) (rest := []) ⟨hx, hb, hml, hown, hts⟩ (mtX5_in l D K loc sh ln iv rv _ a2 1 10000 h5) (va_cwS 3 hts gX5_store_X5_in rfl rfl rfl (by decide +kernel) ⟨Nat.le_of_ble_eq_true rfl, Nat.le_of_ble_eq_true rfl⟩) (wPreS hKn hH) rfl rfl hl.1 rfl (lv_room (Nat.le_of_ble_eq_true rfl)) dX5_store_14 ⟨Nat.zero_le _, Nat.zero_le _⟩) hS hO hA (fun H locs hH hS => ?_)
    refine lv_if_eq (tgt := 33) hx hb dX5_store_17 (by decide) (fun c6 => ?_) (fun c6 => ?_)
    · have hf := wIt c6 hf
      refine lv_iconst (v := (-1)) hx hb dX5_store_33 (by decide) ?_
      cases hf
      exact W.iret hx hb hr (fun t ht hW => ⟨⟨_, (), rfl, rfl, by show wH _ _ _ _ _ _ _ t.heap; rw [ht]; exact hH⟩, hS.F ht⟩) hS.2.2 dX5_store_34
    · have hf := wIf c6 hf
      refine wald_n hx hb dX5_store_20 rfl (lv_at hl 0 rfl) ?_
      refine wg (C := RX5) (T := TX5) (N := 31) (v := wR loc 17) hx hb hts iX5 hown hKn.1 hH (q := 1) (hB.1 1 6 (by decide)) (by decide) rfl rfl 7 (by decide) k20 rfl dX5_store_21 ?_
      refine lv_iload_n hx hb dX5_store_24 rfl (lv_at hl 1 rfl) ?_
      obtain ⟨g7, hf⟩ := wGd_e hf
      refine wia hx hb hKn.1 hH (hB.1 17 7 (by decide)) (hB.2.1 17 _ (by decide)) g7 dX5_store_25 ?_
      refine lv_iload_n hx hb dX5_store_26 rfl (lv_at hl 2 rfl) ?_
      refine lv_iadd hx hb dX5_store_27 ?_
      refine lv_ldc (v := 100000) hx hb hown (hts (.constant RX5 87 (100000)) (List.mem_of_getElem? (i := 2) rfl)) dX5_store_28 ?_
      refine lv_icmp_le (tgt := 35) hx hb dX5_store_30 (by decide) (fun c8 => ?_) (fun c8 => ?_)
      · have hf := wIt c8 hf
        refine wald_n hx hb dX5_store_35 rfl (lv_at hl 0 rfl) ?_
        refine wg (C := RX5) (T := TX5) (N := 31) (v := wR loc 17) hx hb hts iX5 hown hKn.1 hH (q := 1) (hB.1 1 6 (by decide)) (by decide) rfl rfl 7 (by decide) k20 rfl dX5_store_36 ?_
        refine lv_iload_n hx hb dX5_store_39 rfl (lv_at hl 1 rfl) ?_
        refine lv_dup2_11 hx hb dX5_store_40 rfl (wR_cat _ _) ?_
        refine wia hx hb hKn.1 hH (hB.1 17 7 (by decide)) (hB.2.1 17 _ (by decide)) g7 dX5_store_41 ?_
        refine lv_iload_n hx hb dX5_store_42 rfl (lv_at hl 2 rfl) ?_
        refine lv_iadd hx hb dX5_store_43 ?_
        obtain ⟨iv9, e10, hf⟩ := wLt_e hf
        refine wis hx hb hKn.1 hH hO hS (hB.1 17 7 (by decide)) (hB.2.1 17 _ (by decide)) g7 dX5_store_44 (fun H locs hH hS => ?_)
        rw [← e10] at hH
        refine wald_n hx hb dX5_store_45 rfl (lv_at hl 0 rfl) ?_
        refine wg (C := RX5) (T := TX5) (N := 31) (v := wR loc 17) hx hb hts iX5 hown hKn.1 hH (q := 1) (hB.1 1 6 (by decide)) (by decide) rfl rfl 7 (by decide) k20 rfl dX5_store_46 ?_
        refine lv_iload_n hx hb dX5_store_49 rfl (lv_at hl 1 rfl) ?_
        refine wia hx hb hKn.1 hH (hB.1 17 7 (by decide)) (hB.2.1 17 _ (by decide)) g7 dX5_store_50 ?_
        cases hf
        exact W.iret hx hb hr (fun t ht hW => ⟨⟨_, (), rfl, rfl, by show wH _ _ _ _ _ _ _ t.heap; rw [ht]; exact hH⟩, hS.F ht⟩) hS.2.2 dX5_store_51
      · have hf := wIf c8 hf
        refine lv_iconst (v := (-1)) hx hb dX5_store_33 (by decide) ?_
        cases hf
        exact W.iret hx hb hr (fun t ht hW => ⟨⟨_, (), rfl, rfl, by show wH _ _ _ _ _ _ _ t.heap; rw [ht]; exact hH⟩, hS.F ht⟩) hS.2.2 dX5_store_34
noncomputable def fX5_order_55  : Nat → wI → Int32 → Int32 → Int32 → Int32 → Int32 → Option (wI)
  | 0, _, _, _, _, _, _ => none
  | n + 1, iv, x1, x2, x3, x4, x5 => if x2 ≤ x5 then some iv else wGd (vp_in x1 8) (wGd (vp_in (iv 1 8) 100) (wLt (wU iv 19 (iv 1 8).toNatClampNeg (iv 15 x1.toNatClampNeg)) (fun (iv14 : wI) => wGd (vp_in (iv14 1 8) 100) (wLt (wU iv14 20 (iv14 1 8).toNatClampNeg (iv14 16 x1.toNatClampNeg)) (fun (iv17 : wI) => wGd (vp_in (iv17 1 8) 100) (wLt (wU iv17 21 (iv17 1 8).toNatClampNeg x4) (fun (iv20 : wI) => wGd (vp_in (iv20 1 8) 100) (wLt (wU iv20 22 (iv20 1 8).toNatClampNeg x3) (fun (iv23 : wI) => wGd (vp_in (iv23 1 8) 100) (wLt (wU iv23 23 (iv23 1 8).toNatClampNeg (iv23 1 2)) (fun (iv26 : wI) => wGd (vp_in (iv26 1 8) 100) (wLt (wU iv26 28 (iv26 1 8).toNatClampNeg (-1)) (fun (iv29 : wI) => wLt (wU iv29 1 8 ((iv29 1 8) + 1)) (fun (iv31 : wI) => fX5_order_55 n iv31 x1 x2 x3 x4 (x5 + 1)))))))))))))))
noncomputable def fX5_order  (iv : wI) (a1 : Int32) (a2 : Int32) (a3 : Int32) : Option (wI × Int32) := wBd (fX5_in a1 0 ((iv 1 4) - 1)) (fun (r1 : Int32) => if r1 = 0 then some (iv, ((-1) : Int32)) else wBd (fX5_in a2 1 6) (fun (r4 : Int32) => if r4 = 0 then some (iv, ((-1) : Int32)) else wBd (fX5_in a3 0 1) (fun (r7 : Int32) => if r7 = 0 then some (iv, ((-1) : Int32)) else if ((iv 1 8) + a2) ≤ 100 then wBd (fX5_order_55 wN iv a1 a2 a3 (iv 1 8) 0) (fun (iv17 : wI) => some (iv17, (iv 1 8))) else some (iv, ((-1) : Int32)))))
set_option maxHeartbeats 4000000 in
set_option maxRecDepth 100000 in
theorem mtX5_order (l : Launch) (D : va_G) (K : Nat → ClassId) (loc sh ln : Nat → Nat) (iv : wI) (rv : wJ) (sz : Nat) (a1 : Int32) (a2 : Int32) (a3 : Int32) {iv' : wI} {r' : Int32} (hB : wBm sh ln) (hf : fX5_order iv a1 a2 a3 = some (iv', r')) : Met l yX5_order wsX5_order ({ frames := 1, cells := 0, slots := 0, locals := 22 }) (wPc D K loc sh ln iv rv sz [wR loc 1, .int a1, .int a2, .int a3]) (wQi D K loc sh ln iv' rv sz r') 0 0 (wA loc sh sz) := by
  refine Met.ofW (cc := cX5_order) (maxL := 6) (ret := (some .int)) (by decide) rfl ?_
  intro p e s m args below meth c s₁ B hml hv
  obtain ⟨rfl, hsz, hH, hKn⟩ := hv
  have hx := B.exec
  have hb := B.bytes
  have hr := B.returns
  have hts := atoms_spec (ws := wsX5_order) B.pre
  have hown : s.vm.findClass RX5 = some m.cls := findClass_of_methodNamed B.named
  have hlocks := B.notSynchronized
  subst hsz
  have hA : ∀ q : Nat, s.heap.size ≤ q → wA loc sh s.heap.size q := fun q h => Or.inr h
  have hO : ∀ a, sh a ≠ 0 → wA loc sh s.heap.size (loc a) := fun a h => Or.inl ⟨a, h, rfl⟩
  have hS : va_S (wA loc sh s.heap.size) s.heap s.heap [] := va_S.rf
  obtain ⟨ls, hen, hl⟩ := wEntry m [wR loc 1, .int a1, .int a2, .int a3] 6 (List.forall_mem_cons.mpr ⟨wR_cat _ _, List.forall_mem_cons.mpr ⟨rfl, List.forall_mem_cons.mpr ⟨rfl, List.forall_mem_cons.mpr ⟨rfl, fun _ h => absurd h List.not_mem_nil⟩⟩⟩⟩) (Nat.le_of_ble_eq_true rfl)
  rw [hen]
  clear hen
  have hl : lv_has ls 6 [(0, wR loc 1), (1, .int a1), (2, .int a2), (3, .int a3)] := hl
  have k109 := hts (.fieldLink RX5 109 "CupByCupModel" "recipes" "I") (List.mem_of_getElem? (i := 1) rfl)
  have iX5 : ∀ w ∈ wsX50, w ∈ wsX5_order := fun w h => List.mem_cons_of_mem _ (List.mem_append_right _ h)
  have k112 := hts (.fieldLink RX5 112 "CupByCupModel" "cups" "I") (List.mem_of_getElem? (i := 2) rfl)
  have k23 := hts (.fieldLink RX5 23 "CupByCupModel" "what" "[I") (List.mem_of_getElem? (i := 3) rfl)
  have k13 := hts (.fieldLink RX5 13 "CupByCupModel" "recipeWhat" "[I") (List.mem_of_getElem? (i := 4) rfl)
  have k26 := hts (.fieldLink RX5 26 "CupByCupModel" "wet" "[I") (List.mem_of_getElem? (i := 5) rfl)
  have k17 := hts (.fieldLink RX5 17 "CupByCupModel" "recipeWet" "[I") (List.mem_of_getElem? (i := 6) rfl)
  have k29 := hts (.fieldLink RX5 29 "CupByCupModel" "orderOf" "[I") (List.mem_of_getElem? (i := 7) rfl)
  have k32 := hts (.fieldLink RX5 32 "CupByCupModel" "lane" "[I") (List.mem_of_getElem? (i := 8) rfl)
  have k35 := hts (.fieldLink RX5 35 "CupByCupModel" "came" "[I") (List.mem_of_getElem? (i := 9) rfl)
  have k115 := hts (.fieldLink RX5 115 "CupByCupModel" "now" "I") (List.mem_of_getElem? (i := 10) rfl)
  have k50 := hts (.fieldLink RX5 50 "CupByCupModel" "doneIn" "[I") (List.mem_of_getElem? (i := 11) rfl)
  unfold fX5_order at hf
  refine lv_iload_n hx hb dX5_order_0 rfl (lv_at hl 1 rfl) ?_
  refine lv_iconst (v := 0) hx hb dX5_order_1 (by decide) ?_
  refine wald_n hx hb dX5_order_2 rfl (lv_at hl 0 rfl) ?_
  refine wg (C := RX5) (T := TX5) (N := 31) (v := .int (iv 1 4)) hx hb hts iX5 hown hKn.1 hH (q := 1) (hB.1 1 6 (by decide)) (by decide) rfl rfl 4 (by decide) k109 rfl dX5_order_3 ?_
  refine lv_iconst (v := 1) hx hb dX5_order_6 (by decide) ?_
  refine lv_isub hx hb dX5_order_7 ?_
  obtain ⟨r1, h2, hf⟩ := wBd_e hf
  refine wci (va_runS (As := [.int a1, .int 0, .int ((iv 1 4) - 1)]) (rest := []) ⟨hx, hb, hml, hown, hts⟩ (mtX5_in l D K loc sh ln iv rv _ a1 0 ((iv 1 4) - 1) h2) (va_cwS 3 hts gX5_order_X5_in rfl rfl rfl (by decide +kernel) ⟨Nat.le_of_ble_eq_true rfl, Nat.le_of_ble_eq_true rfl⟩) (wPreS hKn hH) rfl rfl hl.1 rfl (lv_room (Nat.le_of_ble_eq_true rfl)) dX5_order_8 ⟨Nat.zero_le _, Nat.zero_le _⟩) hS hO hA (fun H locs hH hS => ?_)
  refine lv_if_eq (tgt := 44) hx hb dX5_order_11 (by decide) (fun c3 => ?_) (fun c3 => ?_)
  · have hf := wIt c3 hf
    refine lv_iconst (v := (-1)) hx hb dX5_order_44 (by decide) ?_
    cases hf
    exact W.iret hx hb hr (fun t ht hW => ⟨⟨_, (), rfl, rfl, by show wH _ _ _ _ _ _ _ t.heap; rw [ht]; exact hH⟩, hS.F ht⟩) hS.2.2 dX5_order_45
  · have hf := wIf c3 hf
    refine lv_iload_n hx hb dX5_order_14 rfl (lv_at hl 2 rfl) ?_
    refine lv_iconst (v := 1) hx hb dX5_order_15 (by decide) ?_
    refine lv_bipush (v := 6) hx hb dX5_order_16 (by decide) ?_
    obtain ⟨r4, h5, hf⟩ := wBd_e hf
    refine wci (va_runS (As := [.int a2, .int 1, .int 6]) (rest := []) ⟨hx, hb, hml, hown, hts⟩ (mtX5_in l D K loc sh ln iv rv _ a2 1 6 h5) (va_cwS 3 hts gX5_order_X5_in rfl rfl rfl (by decide +kernel) ⟨Nat.le_of_ble_eq_true rfl, Nat.le_of_ble_eq_true rfl⟩) (wPreS hKn hH) rfl rfl hl.1 rfl (lv_room (Nat.le_of_ble_eq_true rfl)) dX5_order_18 ⟨Nat.zero_le _, Nat.zero_le _⟩) hS hO hA (fun H locs hH hS => ?_)
    refine lv_if_eq (tgt := 44) hx hb dX5_order_21 (by decide) (fun c6 => ?_) (fun c6 => ?_)
    · have hf := wIt c6 hf
      refine lv_iconst (v := (-1)) hx hb dX5_order_44 (by decide) ?_
      cases hf
      exact W.iret hx hb hr (fun t ht hW => ⟨⟨_, (), rfl, rfl, by show wH _ _ _ _ _ _ _ t.heap; rw [ht]; exact hH⟩, hS.F ht⟩) hS.2.2 dX5_order_45
    · have hf := wIf c6 hf
      refine lv_iload_n hx hb dX5_order_24 rfl (lv_at hl 3 rfl) ?_
      refine lv_iconst (v := 0) hx hb dX5_order_25 (by decide) ?_
      refine lv_iconst (v := 1) hx hb dX5_order_26 (by decide) ?_
      obtain ⟨r7, h8, hf⟩ := wBd_e hf
      refine wci (va_runS (As := [.int a3, .int 0, .int 1]) (rest := []) ⟨hx, hb, hml, hown, hts⟩ (mtX5_in l D K loc sh ln iv rv _ a3 0 1 h8) (va_cwS 3 hts gX5_order_X5_in rfl rfl rfl (by decide +kernel) ⟨Nat.le_of_ble_eq_true rfl, Nat.le_of_ble_eq_true rfl⟩) (wPreS hKn hH) rfl rfl hl.1 rfl (lv_room (Nat.le_of_ble_eq_true rfl)) dX5_order_27 ⟨Nat.zero_le _, Nat.zero_le _⟩) hS hO hA (fun H locs hH hS => ?_)
      refine lv_if_eq (tgt := 44) hx hb dX5_order_30 (by decide) (fun c9 => ?_) (fun c9 => ?_)
      · have hf := wIt c9 hf
        refine lv_iconst (v := (-1)) hx hb dX5_order_44 (by decide) ?_
        cases hf
        exact W.iret hx hb hr (fun t ht hW => ⟨⟨_, (), rfl, rfl, by show wH _ _ _ _ _ _ _ t.heap; rw [ht]; exact hH⟩, hS.F ht⟩) hS.2.2 dX5_order_45
      · have hf := wIf c9 hf
        refine wald_n hx hb dX5_order_33 rfl (lv_at hl 0 rfl) ?_
        refine wg (C := RX5) (T := TX5) (N := 31) (v := .int (iv 1 8)) hx hb hts iX5 hown hKn.1 hH (q := 1) (hB.1 1 6 (by decide)) (by decide) rfl rfl 8 (by decide) k112 rfl dX5_order_34 ?_
        refine lv_iload_n hx hb dX5_order_37 rfl (lv_at hl 2 rfl) ?_
        refine lv_iadd hx hb dX5_order_38 ?_
        refine lv_bipush (v := 100) hx hb dX5_order_39 (by decide) ?_
        refine lv_icmp_le (tgt := 46) hx hb dX5_order_41 (by decide) (fun c10 => ?_) (fun c10 => ?_)
        · have hf := wIt c10 hf
          refine wald_n hx hb dX5_order_46 rfl (lv_at hl 0 rfl) ?_
          refine wg (C := RX5) (T := TX5) (N := 31) (v := .int (iv 1 8)) hx hb hts iX5 hown hKn.1 hH (q := 1) (hB.1 1 6 (by decide)) (by decide) rfl rfl 8 (by decide) k112 rfl dX5_order_47 ?_
          refine lv_istore (lv' := [(4, .int (iv 1 8)), (0, wR loc 1), (1, .int a1), (2, .int a2), (3, .int a3)]) hx hb dX5_order_50 hl (by decide) rfl (fun ls hl => ?_)
          refine lv_iconst (v := 0) hx hb dX5_order_52 (by decide) ?_
          refine lv_istore (lv' := [(5, .int 0), (4, .int (iv 1 8)), (0, wR loc 1), (1, .int a1), (2, .int a2), (3, .int a3)]) hx hb dX5_order_53 hl (by decide) rfl (fun ls hl => ?_)
          obtain ⟨iv17, hL14, hf⟩ := wBd_e hf
          have hk15 : ∀ (H : Heap) (locs : List Loc) (ls : Array Slot), wH D K loc sh ln iv17 rv H → va_S (wA loc sh s.heap.size) s.heap H locs → lv_has ls 6 [(4, .int (iv 1 8))] → W p l e (headSpec wsX5_order ({ frames := 1, cells := 0, slots := 0, locals := 22 })).room s m ([wR loc 1, .int a1, .int a2, .int a3] : List Value).toArray below meth c H locs 0 0 (MQ below (wQi D K loc sh ln iv' rv s.heap.size r') ([wR loc 1, .int a1, .int a2, .int a3] : List Value).toArray s 0 0 (wA loc sh s.heap.size)) (F0 m 151 ls []) := by
            clear hL14 hl hS hH
            intro H locs ls hH hS hl
            refine lv_iload hx hb dX5_order_151 (lv_at hl 0 rfl) ?_
            cases hf
            exact W.iret hx hb hr (fun t ht hW => ⟨⟨_, (), rfl, rfl, by show wH _ _ _ _ _ _ _ t.heap; rw [ht]; exact hH⟩, hS.F ht⟩) hS.2.2 dX5_order_153
          have lp16 : ∀ (n11 : Nat) (iv12 : wI) (x13 : Int32) (H : Heap) (locs : List Loc) (ls : Array Slot), fX5_order_55 n11 iv12 a1 a2 a3 (iv 1 8) x13 = some iv17 → wH D K loc sh ln iv12 rv H → va_S (wA loc sh s.heap.size) s.heap H locs → lv_has ls 6 [(0, wR loc 1), (1, .int a1), (2, .int a2), (3, .int a3), (4, .int (iv 1 8)), (5, .int x13)] → W p l e (headSpec wsX5_order ({ frames := 1, cells := 0, slots := 0, locals := 22 })).room s m ([wR loc 1, .int a1, .int a2, .int a3] : List Value).toArray below meth c H locs 0 0 (MQ below (wQi D K loc sh ln iv' rv s.heap.size r') ([wR loc 1, .int a1, .int a2, .int a3] : List Value).toArray s 0 0 (wA loc sh s.heap.size)) (F0 m 55 ls []) := by
            clear hf hl hS hH hL14
            intro n11
            induction n11 with
            | zero => intro iv12 x13 H locs ls hf; cases hf
            | succ n11 ih =>
              intro iv12 x13 H locs ls hf hH hS hl
              rw [fX5_order_55.eq_2] at hf
              refine lv_iload hx hb dX5_order_55 (lv_at hl 5 rfl) ?_
              refine lv_iload_n hx hb dX5_order_57 rfl (lv_at hl 2 rfl) ?_
              refine lv_icmp_ge (tgt := 151) hx hb dX5_order_58 (by decide) (fun c18 => ?_) (fun c18 => ?_)
              · have hf := wIt c18 hf
                cases hf
                exact hk15 _ _ _ hH hS (lv_sub hl [4] rfl)
              · have hf := wIf c18 hf
                refine wald_n hx hb dX5_order_61 rfl (lv_at hl 0 rfl) ?_
                refine wg (C := RX5) (T := TX5) (N := 31) (v := wR loc 19) hx hb hts iX5 hown hKn.1 hH (q := 1) (hB.1 1 6 (by decide)) (by decide) rfl rfl 9 (by decide) k23 rfl dX5_order_62 ?_
                refine wald_n hx hb dX5_order_65 rfl (lv_at hl 0 rfl) ?_
                refine wg (C := RX5) (T := TX5) (N := 31) (v := .int (iv12 1 8)) hx hb hts iX5 hown hKn.1 hH (q := 1) (hB.1 1 6 (by decide)) (by decide) rfl rfl 8 (by decide) k112 rfl dX5_order_66 ?_
                refine wald_n hx hb dX5_order_69 rfl (lv_at hl 0 rfl) ?_
                refine wg (C := RX5) (T := TX5) (N := 31) (v := wR loc 15) hx hb hts iX5 hown hKn.1 hH (q := 1) (hB.1 1 6 (by decide)) (by decide) rfl rfl 5 (by decide) k13 rfl dX5_order_70 ?_
                refine lv_iload_n hx hb dX5_order_73 rfl (lv_at hl 1 rfl) ?_
                obtain ⟨g19, hf⟩ := wGd_e hf
                refine wia hx hb hKn.1 hH (hB.1 15 7 (by decide)) (hB.2.1 15 _ (by decide)) g19 dX5_order_74 ?_
                obtain ⟨g20, hf⟩ := wGd_e hf
                obtain ⟨iv21, e22, hf⟩ := wLt_e hf
                refine wis hx hb hKn.1 hH hO hS (hB.1 19 7 (by decide)) (hB.2.1 19 _ (by decide)) g20 dX5_order_75 (fun H locs hH hS => ?_)
                rw [← e22] at hH
                refine wald_n hx hb dX5_order_76 rfl (lv_at hl 0 rfl) ?_
                refine wg (C := RX5) (T := TX5) (N := 31) (v := wR loc 20) hx hb hts iX5 hown hKn.1 hH (q := 1) (hB.1 1 6 (by decide)) (by decide) rfl rfl 10 (by decide) k26 rfl dX5_order_77 ?_
                refine wald_n hx hb dX5_order_80 rfl (lv_at hl 0 rfl) ?_
                refine wg (C := RX5) (T := TX5) (N := 31) (v := .int (iv21 1 8)) hx hb hts iX5 hown hKn.1 hH (q := 1) (hB.1 1 6 (by decide)) (by decide) rfl rfl 8 (by decide) k112 rfl dX5_order_81 ?_
                refine wald_n hx hb dX5_order_84 rfl (lv_at hl 0 rfl) ?_
                refine wg (C := RX5) (T := TX5) (N := 31) (v := wR loc 16) hx hb hts iX5 hown hKn.1 hH (q := 1) (hB.1 1 6 (by decide)) (by decide) rfl rfl 6 (by decide) k17 rfl dX5_order_85 ?_
                refine lv_iload_n hx hb dX5_order_88 rfl (lv_at hl 1 rfl) ?_
                refine wia hx hb hKn.1 hH (hB.1 16 7 (by decide)) (hB.2.1 16 _ (by decide)) g19 dX5_order_89 ?_
                obtain ⟨g23, hf⟩ := wGd_e hf
                obtain ⟨iv24, e25, hf⟩ := wLt_e hf
                refine wis hx hb hKn.1 hH hO hS (hB.1 20 7 (by decide)) (hB.2.1 20 _ (by decide)) g23 dX5_order_90 (fun H locs hH hS => ?_)
                rw [← e25] at hH
                refine wald_n hx hb dX5_order_91 rfl (lv_at hl 0 rfl) ?_
                refine wg (C := RX5) (T := TX5) (N := 31) (v := wR loc 21) hx hb hts iX5 hown hKn.1 hH (q := 1) (hB.1 1 6 (by decide)) (by decide) rfl rfl 11 (by decide) k29 rfl dX5_order_92 ?_
                refine wald_n hx hb dX5_order_95 rfl (lv_at hl 0 rfl) ?_
                refine wg (C := RX5) (T := TX5) (N := 31) (v := .int (iv24 1 8)) hx hb hts iX5 hown hKn.1 hH (q := 1) (hB.1 1 6 (by decide)) (by decide) rfl rfl 8 (by decide) k112 rfl dX5_order_96 ?_
                refine lv_iload hx hb dX5_order_99 (lv_at hl 4 rfl) ?_
                obtain ⟨g26, hf⟩ := wGd_e hf
                obtain ⟨iv27, e28, hf⟩ := wLt_e hf
                refine wis hx hb hKn.1 hH hO hS (hB.1 21 7 (by decide)) (hB.2.1 21 _ (by decide)) g26 dX5_order_101 (fun H locs hH hS => ?_)
                rw [← e28] at hH
                refine wald_n hx hb dX5_order_102 rfl (lv_at hl 0 rfl) ?_
                refine wg (C := RX5) (T := TX5) (N := 31) (v := wR loc 22) hx hb hts iX5 hown hKn.1 hH (q := 1) (hB.1 1 6 (by decide)) (by decide) rfl rfl 12 (by decide) k32 rfl dX5_order_103 ?_
                refine wald_n hx hb dX5_order_106 rfl (lv_at hl 0 rfl) ?_
                refine wg (C := RX5) (T := TX5) (N := 31) (v := .int (iv27 1 8)) hx hb hts iX5 hown hKn.1 hH (q := 1) (hB.1 1 6 (by decide)) (by decide) rfl rfl 8 (by decide) k112 rfl dX5_order_107 ?_
                refine lv_iload_n hx hb dX5_order_110 rfl (lv_at hl 3 rfl) ?_
                obtain ⟨g29, hf⟩ := wGd_e hf
                obtain ⟨iv30, e31, hf⟩ := wLt_e hf
                refine wis hx hb hKn.1 hH hO hS (hB.1 22 7 (by decide)) (hB.2.1 22 _ (by decide)) g29 dX5_order_111 (fun H locs hH hS => ?_)
                rw [← e31] at hH
                refine wald_n hx hb dX5_order_112 rfl (lv_at hl 0 rfl) ?_
                refine wg (C := RX5) (T := TX5) (N := 31) (v := wR loc 23) hx hb hts iX5 hown hKn.1 hH (q := 1) (hB.1 1 6 (by decide)) (by decide) rfl rfl 13 (by decide) k35 rfl dX5_order_113 ?_
                refine wald_n hx hb dX5_order_116 rfl (lv_at hl 0 rfl) ?_
                refine wg (C := RX5) (T := TX5) (N := 31) (v := .int (iv30 1 8)) hx hb hts iX5 hown hKn.1 hH (q := 1) (hB.1 1 6 (by decide)) (by decide) rfl rfl 8 (by decide) k112 rfl dX5_order_117 ?_
                refine wald_n hx hb dX5_order_120 rfl (lv_at hl 0 rfl) ?_
                refine wg (C := RX5) (T := TX5) (N := 31) (v := .int (iv30 1 2)) hx hb hts iX5 hown hKn.1 hH (q := 1) (hB.1 1 6 (by decide)) (by decide) rfl rfl 2 (by decide) k115 rfl dX5_order_121 ?_
                obtain ⟨g32, hf⟩ := wGd_e hf
                obtain ⟨iv33, e34, hf⟩ := wLt_e hf
                refine wis hx hb hKn.1 hH hO hS (hB.1 23 7 (by decide)) (hB.2.1 23 _ (by decide)) g32 dX5_order_124 (fun H locs hH hS => ?_)
                rw [← e34] at hH
                refine wald_n hx hb dX5_order_125 rfl (lv_at hl 0 rfl) ?_
                refine wg (C := RX5) (T := TX5) (N := 31) (v := wR loc 28) hx hb hts iX5 hown hKn.1 hH (q := 1) (hB.1 1 6 (by decide)) (by decide) rfl rfl 18 (by decide) k50 rfl dX5_order_126 ?_
                refine wald_n hx hb dX5_order_129 rfl (lv_at hl 0 rfl) ?_
                refine wg (C := RX5) (T := TX5) (N := 31) (v := .int (iv33 1 8)) hx hb hts iX5 hown hKn.1 hH (q := 1) (hB.1 1 6 (by decide)) (by decide) rfl rfl 8 (by decide) k112 rfl dX5_order_130 ?_
                refine lv_iconst (v := (-1)) hx hb dX5_order_133 (by decide) ?_
                obtain ⟨g35, hf⟩ := wGd_e hf
                obtain ⟨iv36, e37, hf⟩ := wLt_e hf
                refine wis hx hb hKn.1 hH hO hS (hB.1 28 7 (by decide)) (hB.2.1 28 _ (by decide)) g35 dX5_order_134 (fun H locs hH hS => ?_)
                rw [← e37] at hH
                refine wald_n hx hb dX5_order_135 rfl (lv_at hl 0 rfl) ?_
                refine lv_dup hx hb dX5_order_136 (wR_cat _ _) ?_
                refine wg (C := RX5) (T := TX5) (N := 31) (v := .int (iv36 1 8)) hx hb hts iX5 hown hKn.1 hH (q := 1) (hB.1 1 6 (by decide)) (by decide) rfl rfl 8 (by decide) k112 rfl dX5_order_137 ?_
                refine lv_iconst (v := 1) hx hb dX5_order_140 (by decide) ?_
                refine lv_iadd hx hb dX5_order_141 ?_
                obtain ⟨iv38, e39, hf⟩ := wLt_e hf
                refine wp (C := RX5) (T := TX5) (N := 31) (v := .int ((iv36 1 8) + 1)) (ty := tyX5 8) (iv' := iv38) (rv' := rv) hx hb hts iX5 tyX5 tyX5_ok nmX5 hown hKn.1 hH hO hS (q := 1) (hB.1 1 6 (by decide)) (by decide) rfl rfl 8 (by decide) k112 rfl (tyX5_ok 8 (by decide)) rfl rfl (Nat.le_of_ble_eq_true rfl) (by rw [e39, wU_self]; rfl) (fun a ha => by rw [e39]; exact wU_ne a ha) (fun _ _ => rfl) dX5_order_142 (fun H locs hH hS => ?_)
                refine lv_iinc (v := (x13 + 1)) (lv' := [(5, .int (x13 + 1)), (0, wR loc 1), (1, .int a1), (2, .int a2), (3, .int a3), (4, .int (iv 1 8))]) hx hb dX5_order_145 hl (k := 5) rfl rfl (by decide) rfl (fun ls hl => ?_)
                refine lv_goto (tgt := 55) hx hb dX5_order_148 (by decide) ?_
                exact ih _ _ _ _ _ hf hH hS (lv_sub hl [1, 2, 3, 4, 5, 0] rfl)
          exact lp16 wN _ _ _ _ _ hL14 hH hS (lv_sub hl [2, 3, 4, 5, 1, 0] rfl)
        · have hf := wIf c10 hf
          refine lv_iconst (v := (-1)) hx hb dX5_order_44 (by decide) ?_
          cases hf
          exact W.iret hx hb hr (fun t ht hW => ⟨⟨_, (), rfl, rfl, by show wH _ _ _ _ _ _ _ t.heap; rw [ht]; exact hH⟩, hS.F ht⟩) hS.2.2 dX5_order_45
noncomputable def fX5_take  (iv : wI) (a1 : Int32) : Option (wI × Int32) := wBd (fX5_in a1 0 ((iv 1 8) - 1)) (fun (r1 : Int32) => if r1 = 0 then some (iv, (0 : Int32)) else wGd (vp_in a1 100) (if (iv 24 a1.toNatClampNeg) = 0 then if (iv 24 a1.toNatClampNeg) = 2 then wBd (fX5_beans (iv 19 a1.toNatClampNeg)) (fun (r9 : Int32) => wLt (wU iv 1 23 ((iv 1 23) + r9)) (fun (iv11 : wI) => wLt (wU iv11 24 a1.toNatClampNeg 7) (fun (iv13 : wI) => some (iv13, (1 : Int32))))) else wLt (wU iv 24 a1.toNatClampNeg 7) (fun (iv7 : wI) => some (iv7, (1 : Int32))) else if (iv 24 a1.toNatClampNeg) = 2 then if (iv 24 a1.toNatClampNeg) = 2 then wBd (fX5_beans (iv 19 a1.toNatClampNeg)) (fun (r19 : Int32) => wLt (wU iv 1 23 ((iv 1 23) + r19)) (fun (iv21 : wI) => wLt (wU iv21 24 a1.toNatClampNeg 7) (fun (iv23 : wI) => some (iv23, (1 : Int32))))) else wLt (wU iv 24 a1.toNatClampNeg 7) (fun (iv17 : wI) => some (iv17, (1 : Int32))) else some (iv, (0 : Int32))))
set_option maxHeartbeats 4000000 in
set_option maxRecDepth 100000 in
theorem mtX5_take (l : Launch) (D : va_G) (K : Nat → ClassId) (loc sh ln : Nat → Nat) (iv : wI) (rv : wJ) (sz : Nat) (a1 : Int32) {iv' : wI} {r' : Int32} (hB : wBm sh ln) (hf : fX5_take iv a1 = some (iv', r')) : Met l yX5_take wsX5_take ({ frames := 1, cells := 0, slots := 0, locals := 22 }) (wPc D K loc sh ln iv rv sz [wR loc 1, .int a1]) (wQi D K loc sh ln iv' rv sz r') 0 0 (wA loc sh sz) := by
  refine Met.ofW (cc := cX5_take) (maxL := 2) (ret := (some .boolean)) (by decide) rfl ?_
  intro p e s m args below meth c s₁ B hml hv
  obtain ⟨rfl, hsz, hH, hKn⟩ := hv
  have hx := B.exec
  have hb := B.bytes
  have hr := B.returns
  have hts := atoms_spec (ws := wsX5_take) B.pre
  have hown : s.vm.findClass RX5 = some m.cls := findClass_of_methodNamed B.named
  have hlocks := B.notSynchronized
  subst hsz
  have hA : ∀ q : Nat, s.heap.size ≤ q → wA loc sh s.heap.size q := fun q h => Or.inr h
  have hO : ∀ a, sh a ≠ 0 → wA loc sh s.heap.size (loc a) := fun a h => Or.inl ⟨a, h, rfl⟩
  have hS : va_S (wA loc sh s.heap.size) s.heap s.heap [] := va_S.rf
  obtain ⟨ls, hen, hl⟩ := wEntry m [wR loc 1, .int a1] 2 (List.forall_mem_cons.mpr ⟨wR_cat _ _, List.forall_mem_cons.mpr ⟨rfl, fun _ h => absurd h List.not_mem_nil⟩⟩) (Nat.le_of_ble_eq_true rfl)
  rw [hen]
  clear hen
  have hl : lv_has ls 2 [(0, wR loc 1), (1, .int a1)] := hl
  have k112 := hts (.fieldLink RX5 112 "CupByCupModel" "cups" "I") (List.mem_of_getElem? (i := 1) rfl)
  have iX5 : ∀ w ∈ wsX50, w ∈ wsX5_take := fun w h => List.mem_cons_of_mem _ (List.mem_append_right _ h)
  have k38 := hts (.fieldLink RX5 38 "CupByCupModel" "state" "[I") (List.mem_of_getElem? (i := 2) rfl)
  have k118 := hts (.fieldLink RX5 118 "CupByCupModel" "spoilt" "I") (List.mem_of_getElem? (i := 3) rfl)
  have k23 := hts (.fieldLink RX5 23 "CupByCupModel" "what" "[I") (List.mem_of_getElem? (i := 4) rfl)
  unfold fX5_take at hf
  refine lv_iload_n hx hb dX5_take_0 rfl (lv_at hl 1 rfl) ?_
  refine lv_iconst (v := 0) hx hb dX5_take_1 (by decide) ?_
  refine wald_n hx hb dX5_take_2 rfl (lv_at hl 0 rfl) ?_
  refine wg (C := RX5) (T := TX5) (N := 31) (v := .int (iv 1 8)) hx hb hts iX5 hown hKn.1 hH (q := 1) (hB.1 1 6 (by decide)) (by decide) rfl rfl 8 (by decide) k112 rfl dX5_take_3 ?_
  refine lv_iconst (v := 1) hx hb dX5_take_6 (by decide) ?_
  refine lv_isub hx hb dX5_take_7 ?_
  obtain ⟨r1, h2, hf⟩ := wBd_e hf
  refine wci (va_runS (As := [.int a1, .int 0, .int ((iv 1 8) - 1)]) (rest := []) ⟨hx, hb, hml, hown, hts⟩ (mtX5_in l D K loc sh ln iv rv _ a1 0 ((iv 1 8) - 1) h2) (va_cwS 3 hts gX5_take_X5_in rfl rfl rfl (by decide +kernel) ⟨Nat.le_of_ble_eq_true rfl, Nat.le_of_ble_eq_true rfl⟩) (wPreS hKn hH) rfl rfl hl.1 rfl (lv_room (Nat.le_of_ble_eq_true rfl)) dX5_take_8 ⟨Nat.zero_le _, Nat.zero_le _⟩) hS hO hA (fun H locs hH hS => ?_)
  refine lv_if_eq (tgt := 33) hx hb dX5_take_11 (by decide) (fun c3 => ?_) (fun c3 => ?_)
  · have hf := wIt c3 hf
    refine lv_iconst (v := 0) hx hb dX5_take_33 (by decide) ?_
    cases hf
    exact W.zret hx hb hr rfl (fun t ht hW => ⟨⟨_, (), rfl, rfl, by show wH _ _ _ _ _ _ _ t.heap; rw [ht]; exact hH⟩, hS.F ht⟩) hS.2.2 dX5_take_34
  · have hf := wIf c3 hf
    refine wald_n hx hb dX5_take_14 rfl (lv_at hl 0 rfl) ?_
    refine wg (C := RX5) (T := TX5) (N := 31) (v := wR loc 24) hx hb hts iX5 hown hKn.1 hH (q := 1) (hB.1 1 6 (by decide)) (by decide) rfl rfl 14 (by decide) k38 rfl dX5_take_15 ?_
    refine lv_iload_n hx hb dX5_take_18 rfl (lv_at hl 1 rfl) ?_
    obtain ⟨g4, hf⟩ := wGd_e hf
    refine wia hx hb hKn.1 hH (hB.1 24 7 (by decide)) (hB.2.1 24 _ (by decide)) g4 dX5_take_19 ?_
    refine lv_if_eq (tgt := 35) hx hb dX5_take_20 (by decide) (fun c5 => ?_) (fun c5 => ?_)
    · have hf := wIt c5 hf
      refine wald_n hx hb dX5_take_35 rfl (lv_at hl 0 rfl) ?_
      refine wg (C := RX5) (T := TX5) (N := 31) (v := wR loc 24) hx hb hts iX5 hown hKn.1 hH (q := 1) (hB.1 1 6 (by decide)) (by decide) rfl rfl 14 (by decide) k38 rfl dX5_take_36 ?_
      refine lv_iload_n hx hb dX5_take_39 rfl (lv_at hl 1 rfl) ?_
      refine wia hx hb hKn.1 hH (hB.1 24 7 (by decide)) (hB.2.1 24 _ (by decide)) g4 dX5_take_40 ?_
      refine lv_iconst (v := 2) hx hb dX5_take_41 (by decide) ?_
      refine lv_icmp_ne (tgt := 63) hx hb dX5_take_42 (by decide) (fun c6 => ?_) (fun c6 => ?_)
      · have hf := wIf c6 hf
        refine wald_n hx hb dX5_take_63 rfl (lv_at hl 0 rfl) ?_
        refine wg (C := RX5) (T := TX5) (N := 31) (v := wR loc 24) hx hb hts iX5 hown hKn.1 hH (q := 1) (hB.1 1 6 (by decide)) (by decide) rfl rfl 14 (by decide) k38 rfl dX5_take_64 ?_
        refine lv_iload_n hx hb dX5_take_67 rfl (lv_at hl 1 rfl) ?_
        refine lv_bipush (v := 7) hx hb dX5_take_68 (by decide) ?_
        obtain ⟨iv7, e8, hf⟩ := wLt_e hf
        refine wis hx hb hKn.1 hH hO hS (hB.1 24 7 (by decide)) (hB.2.1 24 _ (by decide)) g4 dX5_take_70 (fun H locs hH hS => ?_)
        rw [← e8] at hH
        refine lv_iconst (v := 1) hx hb dX5_take_71 (by decide) ?_
        cases hf
        exact W.zret hx hb hr rfl (fun t ht hW => ⟨⟨_, (), rfl, rfl, by show wH _ _ _ _ _ _ _ t.heap; rw [ht]; exact hH⟩, hS.F ht⟩) hS.2.2 dX5_take_72
      · have hf := wIt c6 hf
        refine wald_n hx hb dX5_take_45 rfl (lv_at hl 0 rfl) ?_
        refine lv_dup hx hb dX5_take_46 (wR_cat _ _) ?_
        refine wg (C := RX5) (T := TX5) (N := 31) (v := .int (iv 1 23)) hx hb hts iX5 hown hKn.1 hH (q := 1) (hB.1 1 6 (by decide)) (by decide) rfl rfl 23 (by decide) k118 rfl dX5_take_47 ?_
        refine wald_n hx hb dX5_take_50 rfl (lv_at hl 0 rfl) ?_
        refine wg (C := RX5) (T := TX5) (N := 31) (v := wR loc 19) hx hb hts iX5 hown hKn.1 hH (q := 1) (hB.1 1 6 (by decide)) (by decide) rfl rfl 9 (by decide) k23 rfl dX5_take_51 ?_
        refine lv_iload_n hx hb dX5_take_54 rfl (lv_at hl 1 rfl) ?_
        refine wia hx hb hKn.1 hH (hB.1 19 7 (by decide)) (hB.2.1 19 _ (by decide)) g4 dX5_take_55 ?_
        obtain ⟨r9, h10, hf⟩ := wBd_e hf
        refine wci (va_runS (As := [.int (iv 19 a1.toNatClampNeg)]) (rest := [.int (iv 1 23), wR loc 1]) ⟨hx, hb, hml, hown, hts⟩ (mtX5_beans l D K loc sh ln iv rv _ (iv 19 a1.toNatClampNeg) h10) (va_cwS 1 hts gX5_take_X5_beans rfl rfl rfl (by decide +kernel) ⟨Nat.le_of_ble_eq_true rfl, Nat.le_of_ble_eq_true rfl⟩) (wPreS hKn hH) rfl rfl hl.1 rfl (lv_room (Nat.le_of_ble_eq_true rfl)) dX5_take_56 ⟨Nat.zero_le _, Nat.zero_le _⟩) hS hO hA (fun H locs hH hS => ?_)
        refine lv_iadd hx hb dX5_take_59 ?_
        obtain ⟨iv11, e12, hf⟩ := wLt_e hf
        refine wp (C := RX5) (T := TX5) (N := 31) (v := .int ((iv 1 23) + r9)) (ty := tyX5 23) (iv' := iv11) (rv' := rv) hx hb hts iX5 tyX5 tyX5_ok nmX5 hown hKn.1 hH hO hS (q := 1) (hB.1 1 6 (by decide)) (by decide) rfl rfl 23 (by decide) k118 rfl (tyX5_ok 23 (by decide)) rfl rfl (Nat.le_of_ble_eq_true rfl) (by rw [e12, wU_self]; rfl) (fun a ha => by rw [e12]; exact wU_ne a ha) (fun _ _ => rfl) dX5_take_60 (fun H locs hH hS => ?_)
        refine wald_n hx hb dX5_take_63 rfl (lv_at hl 0 rfl) ?_
        refine wg (C := RX5) (T := TX5) (N := 31) (v := wR loc 24) hx hb hts iX5 hown hKn.1 hH (q := 1) (hB.1 1 6 (by decide)) (by decide) rfl rfl 14 (by decide) k38 rfl dX5_take_64 ?_
        refine lv_iload_n hx hb dX5_take_67 rfl (lv_at hl 1 rfl) ?_
        refine lv_bipush (v := 7) hx hb dX5_take_68 (by decide) ?_
        obtain ⟨iv13, e14, hf⟩ := wLt_e hf
        refine wis hx hb hKn.1 hH hO hS (hB.1 24 7 (by decide)) (hB.2.1 24 _ (by decide)) g4 dX5_take_70 (fun H locs hH hS => ?_)
        rw [← e14] at hH
        refine lv_iconst (v := 1) hx hb dX5_take_71 (by decide) ?_
        cases hf
        exact W.zret hx hb hr rfl (fun t ht hW => ⟨⟨_, (), rfl, rfl, by show wH _ _ _ _ _ _ _ t.heap; rw [ht]; exact hH⟩, hS.F ht⟩) hS.2.2 dX5_take_72
    · have hf := wIf c5 hf
      refine wald_n hx hb dX5_take_23 rfl (lv_at hl 0 rfl) ?_
      refine wg (C := RX5) (T := TX5) (N := 31) (v := wR loc 24) hx hb hts iX5 hown hKn.1 hH (q := 1) (hB.1 1 6 (by decide)) (by decide) rfl rfl 14 (by decide) k38 rfl dX5_take_24 ?_
      refine lv_iload_n hx hb dX5_take_27 rfl (lv_at hl 1 rfl) ?_
      refine wia hx hb hKn.1 hH (hB.1 24 7 (by decide)) (hB.2.1 24 _ (by decide)) g4 dX5_take_28 ?_
      refine lv_iconst (v := 2) hx hb dX5_take_29 (by decide) ?_
      refine lv_icmp_eq (tgt := 35) hx hb dX5_take_30 (by decide) (fun c15 => ?_) (fun c15 => ?_)
      · have hf := wIt c15 hf
        refine wald_n hx hb dX5_take_35 rfl (lv_at hl 0 rfl) ?_
        refine wg (C := RX5) (T := TX5) (N := 31) (v := wR loc 24) hx hb hts iX5 hown hKn.1 hH (q := 1) (hB.1 1 6 (by decide)) (by decide) rfl rfl 14 (by decide) k38 rfl dX5_take_36 ?_
        refine lv_iload_n hx hb dX5_take_39 rfl (lv_at hl 1 rfl) ?_
        refine wia hx hb hKn.1 hH (hB.1 24 7 (by decide)) (hB.2.1 24 _ (by decide)) g4 dX5_take_40 ?_
        refine lv_iconst (v := 2) hx hb dX5_take_41 (by decide) ?_
        refine lv_icmp_ne (tgt := 63) hx hb dX5_take_42 (by decide) (fun c16 => ?_) (fun c16 => ?_)
        · have hf := wIf c16 hf
          refine wald_n hx hb dX5_take_63 rfl (lv_at hl 0 rfl) ?_
          refine wg (C := RX5) (T := TX5) (N := 31) (v := wR loc 24) hx hb hts iX5 hown hKn.1 hH (q := 1) (hB.1 1 6 (by decide)) (by decide) rfl rfl 14 (by decide) k38 rfl dX5_take_64 ?_
          refine lv_iload_n hx hb dX5_take_67 rfl (lv_at hl 1 rfl) ?_
          refine lv_bipush (v := 7) hx hb dX5_take_68 (by decide) ?_
          obtain ⟨iv17, e18, hf⟩ := wLt_e hf
          refine wis hx hb hKn.1 hH hO hS (hB.1 24 7 (by decide)) (hB.2.1 24 _ (by decide)) g4 dX5_take_70 (fun H locs hH hS => ?_)
          rw [← e18] at hH
          refine lv_iconst (v := 1) hx hb dX5_take_71 (by decide) ?_
          cases hf
          exact W.zret hx hb hr rfl (fun t ht hW => ⟨⟨_, (), rfl, rfl, by show wH _ _ _ _ _ _ _ t.heap; rw [ht]; exact hH⟩, hS.F ht⟩) hS.2.2 dX5_take_72
        · have hf := wIt c16 hf
          refine wald_n hx hb dX5_take_45 rfl (lv_at hl 0 rfl) ?_
          refine lv_dup hx hb dX5_take_46 (wR_cat _ _) ?_
          refine wg (C := RX5) (T := TX5) (N := 31) (v := .int (iv 1 23)) hx hb hts iX5 hown hKn.1 hH (q := 1) (hB.1 1 6 (by decide)) (by decide) rfl rfl 23 (by decide) k118 rfl dX5_take_47 ?_
          refine wald_n hx hb dX5_take_50 rfl (lv_at hl 0 rfl) ?_
          refine wg (C := RX5) (T := TX5) (N := 31) (v := wR loc 19) hx hb hts iX5 hown hKn.1 hH (q := 1) (hB.1 1 6 (by decide)) (by decide) rfl rfl 9 (by decide) k23 rfl dX5_take_51 ?_
          refine lv_iload_n hx hb dX5_take_54 rfl (lv_at hl 1 rfl) ?_
          refine wia hx hb hKn.1 hH (hB.1 19 7 (by decide)) (hB.2.1 19 _ (by decide)) g4 dX5_take_55 ?_
          obtain ⟨r19, h20, hf⟩ := wBd_e hf
          refine wci (va_runS (As := [.int (iv 19 a1.toNatClampNeg)]) (rest := [.int (iv 1 23), wR loc 1]) ⟨hx, hb, hml, hown, hts⟩ (mtX5_beans l D K loc sh ln iv rv _ (iv 19 a1.toNatClampNeg) h20) (va_cwS 1 hts gX5_take_X5_beans rfl rfl rfl (by decide +kernel) ⟨Nat.le_of_ble_eq_true rfl, Nat.le_of_ble_eq_true rfl⟩) (wPreS hKn hH) rfl rfl hl.1 rfl (lv_room (Nat.le_of_ble_eq_true rfl)) dX5_take_56 ⟨Nat.zero_le _, Nat.zero_le _⟩) hS hO hA (fun H locs hH hS => ?_)
          refine lv_iadd hx hb dX5_take_59 ?_
          obtain ⟨iv21, e22, hf⟩ := wLt_e hf
          refine wp (C := RX5) (T := TX5) (N := 31) (v := .int ((iv 1 23) + r19)) (ty := tyX5 23) (iv' := iv21) (rv' := rv) hx hb hts iX5 tyX5 tyX5_ok nmX5 hown hKn.1 hH hO hS (q := 1) (hB.1 1 6 (by decide)) (by decide) rfl rfl 23 (by decide) k118 rfl (tyX5_ok 23 (by decide)) rfl rfl (Nat.le_of_ble_eq_true rfl) (by rw [e22, wU_self]; rfl) (fun a ha => by rw [e22]; exact wU_ne a ha) (fun _ _ => rfl) dX5_take_60 (fun H locs hH hS => ?_)
          refine wald_n hx hb dX5_take_63 rfl (lv_at hl 0 rfl) ?_
          refine wg (C := RX5) (T := TX5) (N := 31) (v := wR loc 24) hx hb hts iX5 hown hKn.1 hH (q := 1) (hB.1 1 6 (by decide)) (by decide) rfl rfl 14 (by decide) k38 rfl dX5_take_64 ?_
          refine lv_iload_n hx hb dX5_take_67 rfl (lv_at hl 1 rfl) ?_
          refine lv_bipush (v := 7) hx hb dX5_take_68 (by decide) ?_
          obtain ⟨iv23, e24, hf⟩ := wLt_e hf
          refine wis hx hb hKn.1 hH hO hS (hB.1 24 7 (by decide)) (hB.2.1 24 _ (by decide)) g4 dX5_take_70 (fun H locs hH hS => ?_)
          rw [← e24] at hH
          refine lv_iconst (v := 1) hx hb dX5_take_71 (by decide) ?_
          cases hf
          exact W.zret hx hb hr rfl (fun t ht hW => ⟨⟨_, (), rfl, rfl, by show wH _ _ _ _ _ _ _ t.heap; rw [ht]; exact hH⟩, hS.F ht⟩) hS.2.2 dX5_take_72
      · have hf := wIf c15 hf
        refine lv_iconst (v := 0) hx hb dX5_take_33 (by decide) ?_
        cases hf
        exact W.zret hx hb hr rfl (fun t ht hW => ⟨⟨_, (), rfl, rfl, by show wH _ _ _ _ _ _ _ t.heap; rw [ht]; exact hH⟩, hS.F ht⟩) hS.2.2 dX5_take_34
noncomputable def fX5_countOf_4  : Nat → wI → Int32 → Int32 → Int32 → Option (Int32)
  | 0, _, _, _, _ => none
  | n + 1, iv, x1, x2, x3 => if (iv 1 8) ≤ x3 then some x2 else wGd (vp_in x3 100) (if (iv 24 x3.toNatClampNeg) = x1 then fX5_countOf_4 n iv x1 (x2 + 1) (x3 + 1) else fX5_countOf_4 n iv x1 (x2 + 0) (x3 + 1))
noncomputable def fX5_countOf  (iv : wI) (a1 : Int32) : Option (Int32) := wBd (fX5_countOf_4 wN iv a1 0 0) (fun (z7 : Int32) => some z7)
set_option maxHeartbeats 4000000 in
set_option maxRecDepth 100000 in
theorem mtX5_countOf (l : Launch) (D : va_G) (K : Nat → ClassId) (loc sh ln : Nat → Nat) (iv : wI) (rv : wJ) (sz : Nat) (a1 : Int32) {r' : Int32} (hB : wBm sh ln) (hf : fX5_countOf iv a1 = some r') : Met l yX5_countOf wsX5_countOf ({ frames := 0, cells := 0, slots := 0, locals := 0 }) (wPc D K loc sh ln iv rv sz [wR loc 1, .int a1]) (wQi D K loc sh ln iv rv sz r') 0 0 (wA loc sh sz) := by
  refine Met.ofW (cc := cX5_countOf) (maxL := 4) (ret := (some .int)) (by decide) rfl ?_
  intro p e s m args below meth c s₁ B hml hv
  obtain ⟨rfl, hsz, hH, hKn⟩ := hv
  have hx := B.exec
  have hb := B.bytes
  have hr := B.returns
  have hts := atoms_spec (ws := wsX5_countOf) B.pre
  have hown : s.vm.findClass RX5 = some m.cls := findClass_of_methodNamed B.named
  have hlocks := B.notSynchronized
  subst hsz
  have hA : ∀ q : Nat, s.heap.size ≤ q → wA loc sh s.heap.size q := fun q h => Or.inr h
  have hO : ∀ a, sh a ≠ 0 → wA loc sh s.heap.size (loc a) := fun a h => Or.inl ⟨a, h, rfl⟩
  have hS : va_S (wA loc sh s.heap.size) s.heap s.heap [] := va_S.rf
  obtain ⟨ls, hen, hl⟩ := wEntry m [wR loc 1, .int a1] 4 (List.forall_mem_cons.mpr ⟨wR_cat _ _, List.forall_mem_cons.mpr ⟨rfl, fun _ h => absurd h List.not_mem_nil⟩⟩) (Nat.le_of_ble_eq_true rfl)
  rw [hen]
  clear hen
  have hl : lv_has ls 4 [(0, wR loc 1), (1, .int a1)] := hl
  have k112 := hts (.fieldLink RX5 112 "CupByCupModel" "cups" "I") (List.mem_of_getElem? (i := 1) rfl)
  have iX5 : ∀ w ∈ wsX50, w ∈ wsX5_countOf := fun w h => List.mem_cons_of_mem _ (List.mem_append_right _ h)
  have k38 := hts (.fieldLink RX5 38 "CupByCupModel" "state" "[I") (List.mem_of_getElem? (i := 2) rfl)
  unfold fX5_countOf at hf
  refine lv_iconst (v := 0) hx hb dX5_countOf_0 (by decide) ?_
  refine lv_istore_n (lv' := [(2, .int 0), (0, wR loc 1), (1, .int a1)]) hx hb dX5_countOf_1 rfl hl (by decide) rfl (fun ls hl => ?_)
  refine lv_iconst (v := 0) hx hb dX5_countOf_2 (by decide) ?_
  refine lv_istore_n (lv' := [(3, .int 0), (2, .int 0), (0, wR loc 1), (1, .int a1)]) hx hb dX5_countOf_3 rfl hl (by decide) rfl (fun ls hl => ?_)
  obtain ⟨z7, hL4, hf⟩ := wBd_e hf
  have hk5 : ∀ (H : Heap) (locs : List Loc) (ls : Array Slot), wH D K loc sh ln iv rv H → va_S (wA loc sh s.heap.size) s.heap H locs → lv_has ls 4 [(2, .int z7)] → W p l e (headSpec wsX5_countOf ({ frames := 0, cells := 0, slots := 0, locals := 0 })).room s m ([wR loc 1, .int a1] : List Value).toArray below meth c H locs 0 0 (MQ below (wQi D K loc sh ln iv rv s.heap.size r') ([wR loc 1, .int a1] : List Value).toArray s 0 0 (wA loc sh s.heap.size)) (F0 m 36 ls []) := by
    clear hL4 hl hS hH
    intro H locs ls hH hS hl
    refine lv_iload_n hx hb dX5_countOf_36 rfl (lv_at hl 0 rfl) ?_
    cases hf
    exact W.iret hx hb hr (fun t ht hW => ⟨⟨_, (), rfl, rfl, by show wH _ _ _ _ _ _ _ t.heap; rw [ht]; exact hH⟩, hS.F ht⟩) hS.2.2 dX5_countOf_37
  have lp6 : ∀ (n1 : Nat) (x2 : Int32) (x3 : Int32) (H : Heap) (locs : List Loc) (ls : Array Slot), fX5_countOf_4 n1 iv a1 x2 x3 = some z7 → wH D K loc sh ln iv rv H → va_S (wA loc sh s.heap.size) s.heap H locs → lv_has ls 4 [(0, wR loc 1), (1, .int a1), (2, .int x2), (3, .int x3)] → W p l e (headSpec wsX5_countOf ({ frames := 0, cells := 0, slots := 0, locals := 0 })).room s m ([wR loc 1, .int a1] : List Value).toArray below meth c H locs 0 0 (MQ below (wQi D K loc sh ln iv rv s.heap.size r') ([wR loc 1, .int a1] : List Value).toArray s 0 0 (wA loc sh s.heap.size)) (F0 m 4 ls []) := by
    clear hf hl hS hH hL4
    intro n1
    induction n1 with
    | zero => intro x2 x3 H locs ls hf; cases hf
    | succ n1 ih =>
      intro x2 x3 H locs ls hf hH hS hl
      rw [fX5_countOf_4.eq_2] at hf
      refine lv_iload_n hx hb dX5_countOf_4 rfl (lv_at hl 3 rfl) ?_
      refine wald_n hx hb dX5_countOf_5 rfl (lv_at hl 0 rfl) ?_
      refine wg (C := RX5) (T := TX5) (N := 31) (v := .int (iv 1 8)) hx hb hts iX5 hown hKn.1 hH (q := 1) (hB.1 1 6 (by decide)) (by decide) rfl rfl 8 (by decide) k112 rfl dX5_countOf_6 ?_
      refine lv_icmp_ge (tgt := 36) hx hb dX5_countOf_9 (by decide) (fun c8 => ?_) (fun c8 => ?_)
      · have hf := wIt c8 hf
        cases hf
        exact hk5 _ _ _ hH hS (lv_sub hl [2] rfl)
      · have hf := wIf c8 hf
        refine lv_iload_n hx hb dX5_countOf_12 rfl (lv_at hl 2 rfl) ?_
        refine wald_n hx hb dX5_countOf_13 rfl (lv_at hl 0 rfl) ?_
        refine wg (C := RX5) (T := TX5) (N := 31) (v := wR loc 24) hx hb hts iX5 hown hKn.1 hH (q := 1) (hB.1 1 6 (by decide)) (by decide) rfl rfl 14 (by decide) k38 rfl dX5_countOf_14 ?_
        refine lv_iload_n hx hb dX5_countOf_17 rfl (lv_at hl 3 rfl) ?_
        obtain ⟨g9, hf⟩ := wGd_e hf
        refine wia hx hb hKn.1 hH (hB.1 24 7 (by decide)) (hB.2.1 24 _ (by decide)) g9 dX5_countOf_18 ?_
        refine lv_iload_n hx hb dX5_countOf_19 rfl (lv_at hl 1 rfl) ?_
        refine lv_icmp_ne (tgt := 27) hx hb dX5_countOf_20 (by decide) (fun c10 => ?_) (fun c10 => ?_)
        · have hf := wIf c10 hf
          refine lv_iconst (v := 0) hx hb dX5_countOf_27 (by decide) ?_
          refine lv_iadd hx hb dX5_countOf_28 ?_
          refine lv_istore_n (lv' := [(2, .int (x2 + 0)), (0, wR loc 1), (1, .int a1), (3, .int x3)]) hx hb dX5_countOf_29 rfl hl (by decide) rfl (fun ls hl => ?_)
          refine lv_iinc (v := (x3 + 1)) (lv' := [(3, .int (x3 + 1)), (2, .int (x2 + 0)), (0, wR loc 1), (1, .int a1)]) hx hb dX5_countOf_30 hl (k := 3) rfl rfl (by decide) rfl (fun ls hl => ?_)
          refine lv_goto (tgt := 4) hx hb dX5_countOf_33 (by decide) ?_
          exact ih _ _ _ _ _ hf hH hS (lv_sub hl [2, 3, 1, 0] rfl)
        · have hf := wIt c10 hf
          refine lv_iconst (v := 1) hx hb dX5_countOf_23 (by decide) ?_
          refine lv_goto (tgt := 28) hx hb dX5_countOf_24 (by decide) ?_
          refine lv_iadd hx hb dX5_countOf_28 ?_
          refine lv_istore_n (lv' := [(2, .int (x2 + 1)), (0, wR loc 1), (1, .int a1), (3, .int x3)]) hx hb dX5_countOf_29 rfl hl (by decide) rfl (fun ls hl => ?_)
          refine lv_iinc (v := (x3 + 1)) (lv' := [(3, .int (x3 + 1)), (2, .int (x2 + 1)), (0, wR loc 1), (1, .int a1)]) hx hb dX5_countOf_30 hl (k := 3) rfl rfl (by decide) rfl (fun ls hl => ?_)
          refine lv_goto (tgt := 4) hx hb dX5_countOf_33 (by decide) ?_
          exact ih _ _ _ _ _ hf hH hS (lv_sub hl [2, 3, 1, 0] rfl)
  exact lp6 wN _ _ _ _ _ hL4 hH hS (lv_sub hl [2, 3, 1, 0] rfl)
noncomputable def fX5_power_26  : Nat → wI → Int32 → Int32 → Option (Int32)
  | 0, _, _, _ => none
  | n + 1, iv, x1, x2 => if (iv 1 0) ≤ x2 then some x1 else wGd (vp_in x2 3) (if (iv 30 x2.toNatClampNeg) ≤ 0 then fX5_power_26 n iv (x1 + 0) (x2 + 1) else fX5_power_26 n iv (x1 + 2) (x2 + 1))
noncomputable def fX5_power  (iv : wI) : Option (Int32) := wBd (fX5_countOf iv 1) (fun (r1 : Int32) => wBd (fX5_countOf iv 3) (fun (r3 : Int32) => wBd (fX5_countOf iv 5) (fun (r5 : Int32) => wLt ((((4 * r1) + (2 * r3)) + (3 * r5))) (fun (y7 : Int32) => wBd (fX5_power_26 wN iv y7 0) (fun (z15 : Int32) => some z15)))))
set_option maxHeartbeats 4000000 in
set_option maxRecDepth 100000 in
theorem mtX5_power (l : Launch) (D : va_G) (K : Nat → ClassId) (loc sh ln : Nat → Nat) (iv : wI) (rv : wJ) (sz : Nat) {r' : Int32} (hB : wBm sh ln) (hf : fX5_power iv = some r') : Met l yX5_power wsX5_power ({ frames := 1, cells := 0, slots := 0, locals := 23 }) (wPc D K loc sh ln iv rv sz [wR loc 1]) (wQi D K loc sh ln iv rv sz r') 0 0 (wA loc sh sz) := by
  refine Met.ofW (cc := cX5_power) (maxL := 3) (ret := (some .int)) (by decide) rfl ?_
  intro p e s m args below meth c s₁ B hml hv
  obtain ⟨rfl, hsz, hH, hKn⟩ := hv
  have hx := B.exec
  have hb := B.bytes
  have hr := B.returns
  have hts := atoms_spec (ws := wsX5_power) B.pre
  have hown : s.vm.findClass RX5 = some m.cls := findClass_of_methodNamed B.named
  have hlocks := B.notSynchronized
  subst hsz
  have hA : ∀ q : Nat, s.heap.size ≤ q → wA loc sh s.heap.size q := fun q h => Or.inr h
  have hO : ∀ a, sh a ≠ 0 → wA loc sh s.heap.size (loc a) := fun a h => Or.inl ⟨a, h, rfl⟩
  have hS : va_S (wA loc sh s.heap.size) s.heap s.heap [] := va_S.rf
  obtain ⟨ls, hen, hl⟩ := wEntry m [wR loc 1] 3 (List.forall_mem_cons.mpr ⟨wR_cat _ _, fun _ h => absurd h List.not_mem_nil⟩) (Nat.le_of_ble_eq_true rfl)
  rw [hen]
  clear hen
  have hl : lv_has ls 3 [(0, wR loc 1)] := hl
  have k80 := hts (.fieldLink RX5 80 "CupByCupModel" "groups" "I") (List.mem_of_getElem? (i := 1) rfl)
  have iX5 : ∀ w ∈ wsX50, w ∈ wsX5_power := fun w h => List.mem_cons_of_mem _ (List.mem_append_right _ h)
  have k56 := hts (.fieldLink RX5 56 "CupByCupModel" "rinses" "[I") (List.mem_of_getElem? (i := 2) rfl)
  unfold fX5_power at hf
  refine lv_iconst (v := 4) hx hb dX5_power_0 (by decide) ?_
  refine wald_n hx hb dX5_power_1 rfl (lv_at hl 0 rfl) ?_
  refine lv_iconst (v := 1) hx hb dX5_power_2 (by decide) ?_
  obtain ⟨r1, h2, hf⟩ := wBd_e hf
  refine wci (va_runV (As := [.int 1]) (rest := [.int 4]) ⟨hx, hb, hml, hown, hts⟩ (mtX5_countOf l D K loc sh ln iv rv _ 1 hB h2) (cwV 1 hts gX5_power_X5_countOf rfl rfl rfl (by decide +kernel) ⟨Nat.le_of_ble_eq_true rfl, Nat.le_of_ble_eq_true rfl⟩) (wPreV hKn hH (hB.1 1 6 (by decide)) (by decide) rfl rfl) rfl rfl hl.1 rfl (lv_room (Nat.le_of_ble_eq_true rfl)) dX5_power_3 ⟨Nat.zero_le _, Nat.zero_le _⟩) hS hO hA (fun H locs hH hS => ?_)
  refine lv_imul hx hb dX5_power_6 ?_
  refine lv_iconst (v := 2) hx hb dX5_power_7 (by decide) ?_
  refine wald_n hx hb dX5_power_8 rfl (lv_at hl 0 rfl) ?_
  refine lv_iconst (v := 3) hx hb dX5_power_9 (by decide) ?_
  obtain ⟨r3, h4, hf⟩ := wBd_e hf
  refine wci (va_runV (As := [.int 3]) (rest := [.int 2, .int (4 * r1)]) ⟨hx, hb, hml, hown, hts⟩ (mtX5_countOf l D K loc sh ln iv rv _ 3 hB h4) (cwV 1 hts gX5_power_X5_countOf rfl rfl rfl (by decide +kernel) ⟨Nat.le_of_ble_eq_true rfl, Nat.le_of_ble_eq_true rfl⟩) (wPreV hKn hH (hB.1 1 6 (by decide)) (by decide) rfl rfl) rfl rfl hl.1 rfl (lv_room (Nat.le_of_ble_eq_true rfl)) dX5_power_10 ⟨Nat.zero_le _, Nat.zero_le _⟩) hS hO hA (fun H locs hH hS => ?_)
  refine lv_imul hx hb dX5_power_13 ?_
  refine lv_iadd hx hb dX5_power_14 ?_
  refine lv_iconst (v := 3) hx hb dX5_power_15 (by decide) ?_
  refine wald_n hx hb dX5_power_16 rfl (lv_at hl 0 rfl) ?_
  refine lv_iconst (v := 5) hx hb dX5_power_17 (by decide) ?_
  obtain ⟨r5, h6, hf⟩ := wBd_e hf
  refine wci (va_runV (As := [.int 5]) (rest := [.int 3, .int ((4 * r1) + (2 * r3))]) ⟨hx, hb, hml, hown, hts⟩ (mtX5_countOf l D K loc sh ln iv rv _ 5 hB h6) (cwV 1 hts gX5_power_X5_countOf rfl rfl rfl (by decide +kernel) ⟨Nat.le_of_ble_eq_true rfl, Nat.le_of_ble_eq_true rfl⟩) (wPreV hKn hH (hB.1 1 6 (by decide)) (by decide) rfl rfl) rfl rfl hl.1 rfl (lv_room (Nat.le_of_ble_eq_true rfl)) dX5_power_18 ⟨Nat.zero_le _, Nat.zero_le _⟩) hS hO hA (fun H locs hH hS => ?_)
  refine lv_imul hx hb dX5_power_21 ?_
  refine lv_iadd hx hb dX5_power_22 ?_
  obtain ⟨y7, e8, hf⟩ := wLt_e hf
  refine wInt e8 ?_
  refine lv_istore_n (lv' := [(1, .int y7), (0, wR loc 1)]) hx hb dX5_power_23 rfl hl (by decide) rfl (fun ls hl => ?_)
  refine lv_iconst (v := 0) hx hb dX5_power_24 (by decide) ?_
  refine lv_istore_n (lv' := [(2, .int 0), (1, .int y7), (0, wR loc 1)]) hx hb dX5_power_25 rfl hl (by decide) rfl (fun ls hl => ?_)
  obtain ⟨z15, hL12, hf⟩ := wBd_e hf
  have hk13 : ∀ (H : Heap) (locs : List Loc) (ls : Array Slot), wH D K loc sh ln iv rv H → va_S (wA loc sh s.heap.size) s.heap H locs → lv_has ls 3 [(1, .int z15)] → W p l e (headSpec wsX5_power ({ frames := 1, cells := 0, slots := 0, locals := 23 })).room s m ([wR loc 1] : List Value).toArray below meth c H locs 0 0 (MQ below (wQi D K loc sh ln iv rv s.heap.size r') ([wR loc 1] : List Value).toArray s 0 0 (wA loc sh s.heap.size)) (F0 m 57 ls []) := by
    clear hL12 hl hS hH
    intro H locs ls hH hS hl
    refine lv_iload_n hx hb dX5_power_57 rfl (lv_at hl 0 rfl) ?_
    cases hf
    exact W.iret hx hb hr (fun t ht hW => ⟨⟨_, (), rfl, rfl, by show wH _ _ _ _ _ _ _ t.heap; rw [ht]; exact hH⟩, hS.F ht⟩) hS.2.2 dX5_power_58
  have lp14 : ∀ (n9 : Nat) (x10 : Int32) (x11 : Int32) (H : Heap) (locs : List Loc) (ls : Array Slot), fX5_power_26 n9 iv x10 x11 = some z15 → wH D K loc sh ln iv rv H → va_S (wA loc sh s.heap.size) s.heap H locs → lv_has ls 3 [(0, wR loc 1), (1, .int x10), (2, .int x11)] → W p l e (headSpec wsX5_power ({ frames := 1, cells := 0, slots := 0, locals := 23 })).room s m ([wR loc 1] : List Value).toArray below meth c H locs 0 0 (MQ below (wQi D K loc sh ln iv rv s.heap.size r') ([wR loc 1] : List Value).toArray s 0 0 (wA loc sh s.heap.size)) (F0 m 26 ls []) := by
    clear hf hl hS hH hL12
    intro n9
    induction n9 with
    | zero => intro x10 x11 H locs ls hf; cases hf
    | succ n9 ih =>
      intro x10 x11 H locs ls hf hH hS hl
      rw [fX5_power_26.eq_2] at hf
      refine lv_iload_n hx hb dX5_power_26 rfl (lv_at hl 2 rfl) ?_
      refine wald_n hx hb dX5_power_27 rfl (lv_at hl 0 rfl) ?_
      refine wg (C := RX5) (T := TX5) (N := 31) (v := .int (iv 1 0)) hx hb hts iX5 hown hKn.1 hH (q := 1) (hB.1 1 6 (by decide)) (by decide) rfl rfl 0 (by decide) k80 rfl dX5_power_28 ?_
      refine lv_icmp_ge (tgt := 57) hx hb dX5_power_31 (by decide) (fun c16 => ?_) (fun c16 => ?_)
      · have hf := wIt c16 hf
        cases hf
        exact hk13 _ _ _ hH hS (lv_sub hl [1] rfl)
      · have hf := wIf c16 hf
        refine lv_iload_n hx hb dX5_power_34 rfl (lv_at hl 1 rfl) ?_
        refine wald_n hx hb dX5_power_35 rfl (lv_at hl 0 rfl) ?_
        refine wg (C := RX5) (T := TX5) (N := 31) (v := wR loc 30) hx hb hts iX5 hown hKn.1 hH (q := 1) (hB.1 1 6 (by decide)) (by decide) rfl rfl 20 (by decide) k56 rfl dX5_power_36 ?_
        refine lv_iload_n hx hb dX5_power_39 rfl (lv_at hl 2 rfl) ?_
        obtain ⟨g17, hf⟩ := wGd_e hf
        refine wia hx hb hKn.1 hH (hB.1 30 7 (by decide)) (hB.2.1 30 _ (by decide)) g17 dX5_power_40 ?_
        refine lv_if_le (tgt := 48) hx hb dX5_power_41 (by decide) (fun c18 => ?_) (fun c18 => ?_)
        · have hf := wIt c18 hf
          refine lv_iconst (v := 0) hx hb dX5_power_48 (by decide) ?_
          refine lv_iadd hx hb dX5_power_49 ?_
          refine lv_istore_n (lv' := [(1, .int (x10 + 0)), (0, wR loc 1), (2, .int x11)]) hx hb dX5_power_50 rfl hl (by decide) rfl (fun ls hl => ?_)
          refine lv_iinc (v := (x11 + 1)) (lv' := [(2, .int (x11 + 1)), (1, .int (x10 + 0)), (0, wR loc 1)]) hx hb dX5_power_51 hl (k := 2) rfl rfl (by decide) rfl (fun ls hl => ?_)
          refine lv_goto (tgt := 26) hx hb dX5_power_54 (by decide) ?_
          exact ih _ _ _ _ _ hf hH hS (lv_sub hl [2, 1, 0] rfl)
        · have hf := wIf c18 hf
          refine lv_iconst (v := 2) hx hb dX5_power_44 (by decide) ?_
          refine lv_goto (tgt := 49) hx hb dX5_power_45 (by decide) ?_
          refine lv_iadd hx hb dX5_power_49 ?_
          refine lv_istore_n (lv' := [(1, .int (x10 + 2)), (0, wR loc 1), (2, .int x11)]) hx hb dX5_power_50 rfl hl (by decide) rfl (fun ls hl => ?_)
          refine lv_iinc (v := (x11 + 1)) (lv' := [(2, .int (x11 + 1)), (1, .int (x10 + 2)), (0, wR loc 1)]) hx hb dX5_power_51 hl (k := 2) rfl rfl (by decide) rfl (fun ls hl => ?_)
          refine lv_goto (tgt := 26) hx hb dX5_power_54 (by decide) ?_
          exact ih _ _ _ _ _ hf hH hS (lv_sub hl [2, 1, 0] rfl)
  exact lp14 wN _ _ _ _ _ hL12 hH hS (lv_sub hl [2, 1, 0] rfl)
noncomputable def fX5_mayTake  (iv : wI) (a1 : Int32) : Option (Int32) := wBd (fX5_power iv) (fun (r1 : Int32) => if (iv 1 1) < (r1 + a1) then some (0 : Int32) else some (1 : Int32))
set_option maxHeartbeats 4000000 in
set_option maxRecDepth 100000 in
theorem mtX5_mayTake (l : Launch) (D : va_G) (K : Nat → ClassId) (loc sh ln : Nat → Nat) (iv : wI) (rv : wJ) (sz : Nat) (a1 : Int32) {r' : Int32} (hB : wBm sh ln) (hf : fX5_mayTake iv a1 = some r') : Met l yX5_mayTake wsX5_mayTake ({ frames := 2, cells := 0, slots := 0, locals := 45 }) (wPc D K loc sh ln iv rv sz [wR loc 1, .int a1]) (wQi D K loc sh ln iv rv sz r') 0 0 (wA loc sh sz) := by
  refine Met.ofW (cc := cX5_mayTake) (maxL := 2) (ret := (some .boolean)) (by decide) rfl ?_
  intro p e s m args below meth c s₁ B hml hv
  obtain ⟨rfl, hsz, hH, hKn⟩ := hv
  have hx := B.exec
  have hb := B.bytes
  have hr := B.returns
  have hts := atoms_spec (ws := wsX5_mayTake) B.pre
  have hown : s.vm.findClass RX5 = some m.cls := findClass_of_methodNamed B.named
  have hlocks := B.notSynchronized
  subst hsz
  have hA : ∀ q : Nat, s.heap.size ≤ q → wA loc sh s.heap.size q := fun q h => Or.inr h
  have hO : ∀ a, sh a ≠ 0 → wA loc sh s.heap.size (loc a) := fun a h => Or.inl ⟨a, h, rfl⟩
  have hS : va_S (wA loc sh s.heap.size) s.heap s.heap [] := va_S.rf
  obtain ⟨ls, hen, hl⟩ := wEntry m [wR loc 1, .int a1] 2 (List.forall_mem_cons.mpr ⟨wR_cat _ _, List.forall_mem_cons.mpr ⟨rfl, fun _ h => absurd h List.not_mem_nil⟩⟩) (Nat.le_of_ble_eq_true rfl)
  rw [hen]
  clear hen
  have hl : lv_has ls 2 [(0, wR loc 1), (1, .int a1)] := hl
  have k83 := hts (.fieldLink RX5 83 "CupByCupModel" "limit" "I") (List.mem_of_getElem? (i := 1) rfl)
  have iX5 : ∀ w ∈ wsX50, w ∈ wsX5_mayTake := fun w h => List.mem_cons_of_mem _ (List.mem_append_right _ h)
  unfold fX5_mayTake at hf
  refine wald_n hx hb dX5_mayTake_0 rfl (lv_at hl 0 rfl) ?_
  obtain ⟨r1, h2, hf⟩ := wBd_e hf
  refine wci (va_runV (As := []) (rest := []) ⟨hx, hb, hml, hown, hts⟩ (mtX5_power l D K loc sh ln iv rv _ hB h2) (cwV 0 hts gX5_mayTake_X5_power rfl rfl rfl (by decide +kernel) ⟨Nat.le_of_ble_eq_true rfl, Nat.le_of_ble_eq_true rfl⟩) (wPreV hKn hH (hB.1 1 6 (by decide)) (by decide) rfl rfl) rfl rfl hl.1 rfl (lv_room (Nat.le_of_ble_eq_true rfl)) dX5_mayTake_1 ⟨Nat.zero_le _, Nat.zero_le _⟩) hS hO hA (fun H locs hH hS => ?_)
  refine lv_iload_n hx hb dX5_mayTake_4 rfl (lv_at hl 1 rfl) ?_
  refine lv_iadd hx hb dX5_mayTake_5 ?_
  refine wald_n hx hb dX5_mayTake_6 rfl (lv_at hl 0 rfl) ?_
  refine wg (C := RX5) (T := TX5) (N := 31) (v := .int (iv 1 1)) hx hb hts iX5 hown hKn.1 hH (q := 1) (hB.1 1 6 (by decide)) (by decide) rfl rfl 1 (by decide) k83 rfl dX5_mayTake_7 ?_
  refine lv_icmp_gt (tgt := 17) hx hb dX5_mayTake_10 (by decide) (fun c3 => ?_) (fun c3 => ?_)
  · have hf := wIt c3 hf
    refine lv_iconst (v := 0) hx hb dX5_mayTake_17 (by decide) ?_
    cases hf
    exact W.zret hx hb hr rfl (fun t ht hW => ⟨⟨_, (), rfl, rfl, by show wH _ _ _ _ _ _ _ t.heap; rw [ht]; exact hH⟩, hS.F ht⟩) hS.2.2 dX5_mayTake_18
  · have hf := wIf c3 hf
    refine lv_iconst (v := 1) hx hb dX5_mayTake_13 (by decide) ?_
    refine lv_goto (tgt := 18) hx hb dX5_mayTake_14 (by decide) ?_
    cases hf
    exact W.zret hx hb hr rfl (fun t ht hW => ⟨⟨_, (), rfl, rfl, by show wH _ _ _ _ _ _ _ t.heap; rw [ht]; exact hH⟩, hS.F ht⟩) hS.2.2 dX5_mayTake_18
noncomputable def fX5_isFree_26  : Nat → wI → Int32 → Int32 → Int32 → Option (Int32)
  | 0, _, _, _, _ => none
  | n + 1, iv, x1, x2, x3 => if (iv 1 8) ≤ x3 then some x2 else if x2 = 0 then fX5_isFree_26 n iv x1 0 (x3 + 1) else wGd (vp_in x3 100) (if (iv 24 x3.toNatClampNeg) = 3 then if (iv 26 x3.toNatClampNeg) = x1 then fX5_isFree_26 n iv x1 0 (x3 + 1) else fX5_isFree_26 n iv x1 1 (x3 + 1) else fX5_isFree_26 n iv x1 1 (x3 + 1))
noncomputable def fX5_isFree  (iv : wI) (a1 : Int32) : Option (Int32) := wGd (vp_in a1 3) (wBd (if (iv 30 a1.toNatClampNeg) = 0 then if (iv 32 a1.toNatClampNeg) = 0 then some (1 : Int32) else some (0 : Int32) else some (0 : Int32)) (fun (z3 : Int32) => wBd (fX5_isFree_26 wN iv a1 z3 0) (fun (z13 : Int32) => wGd (narrow .boolean (.int z13) = .int z13) (some z13))))
set_option maxHeartbeats 4000000 in
set_option maxRecDepth 100000 in
theorem mtX5_isFree (l : Launch) (D : va_G) (K : Nat → ClassId) (loc sh ln : Nat → Nat) (iv : wI) (rv : wJ) (sz : Nat) (a1 : Int32) {r' : Int32} (hB : wBm sh ln) (hf : fX5_isFree iv a1 = some r') : Met l yX5_isFree wsX5_isFree ({ frames := 0, cells := 0, slots := 0, locals := 0 }) (wPc D K loc sh ln iv rv sz [wR loc 1, .int a1]) (wQi D K loc sh ln iv rv sz r') 0 0 (wA loc sh sz) := by
  refine Met.ofW (cc := cX5_isFree) (maxL := 4) (ret := (some .boolean)) (by decide) rfl ?_
  intro p e s m args below meth c s₁ B hml hv
  obtain ⟨rfl, hsz, hH, hKn⟩ := hv
  have hx := B.exec
  have hb := B.bytes
  have hr := B.returns
  have hts := atoms_spec (ws := wsX5_isFree) B.pre
  have hown : s.vm.findClass RX5 = some m.cls := findClass_of_methodNamed B.named
  have hlocks := B.notSynchronized
  subst hsz
  have hA : ∀ q : Nat, s.heap.size ≤ q → wA loc sh s.heap.size q := fun q h => Or.inr h
  have hO : ∀ a, sh a ≠ 0 → wA loc sh s.heap.size (loc a) := fun a h => Or.inl ⟨a, h, rfl⟩
  have hS : va_S (wA loc sh s.heap.size) s.heap s.heap [] := va_S.rf
  obtain ⟨ls, hen, hl⟩ := wEntry m [wR loc 1, .int a1] 4 (List.forall_mem_cons.mpr ⟨wR_cat _ _, List.forall_mem_cons.mpr ⟨rfl, fun _ h => absurd h List.not_mem_nil⟩⟩) (Nat.le_of_ble_eq_true rfl)
  rw [hen]
  clear hen
  have hl : lv_has ls 4 [(0, wR loc 1), (1, .int a1)] := hl
  have k56 := hts (.fieldLink RX5 56 "CupByCupModel" "rinses" "[I") (List.mem_of_getElem? (i := 1) rfl)
  have iX5 : ∀ w ∈ wsX50, w ∈ wsX5_isFree := fun w h => List.mem_cons_of_mem _ (List.mem_append_right _ h)
  have k62 := hts (.fieldLink RX5 62 "CupByCupModel" "faults" "[I") (List.mem_of_getElem? (i := 2) rfl)
  have k112 := hts (.fieldLink RX5 112 "CupByCupModel" "cups" "I") (List.mem_of_getElem? (i := 3) rfl)
  have k38 := hts (.fieldLink RX5 38 "CupByCupModel" "state" "[I") (List.mem_of_getElem? (i := 4) rfl)
  have k44 := hts (.fieldLink RX5 44 "CupByCupModel" "at" "[I") (List.mem_of_getElem? (i := 5) rfl)
  unfold fX5_isFree at hf
  refine wald_n hx hb dX5_isFree_0 rfl (lv_at hl 0 rfl) ?_
  refine wg (C := RX5) (T := TX5) (N := 31) (v := wR loc 30) hx hb hts iX5 hown hKn.1 hH (q := 1) (hB.1 1 6 (by decide)) (by decide) rfl rfl 20 (by decide) k56 rfl dX5_isFree_1 ?_
  refine lv_iload_n hx hb dX5_isFree_4 rfl (lv_at hl 1 rfl) ?_
  obtain ⟨g1, hf⟩ := wGd_e hf
  refine wia hx hb hKn.1 hH (hB.1 30 7 (by decide)) (hB.2.1 30 _ (by decide)) g1 dX5_isFree_5 ?_
  obtain ⟨z3, hv4, hf⟩ := wBd_e hf
  have hj5 : ∀ (H : Heap) (locs : List Loc) (ls : Array Slot), wH D K loc sh ln iv rv H → va_S (wA loc sh s.heap.size) s.heap H locs → lv_has ls 4 [(0, wR loc 1), (1, .int a1)] → W p l e (headSpec wsX5_isFree ({ frames := 0, cells := 0, slots := 0, locals := 0 })).room s m ([wR loc 1, .int a1] : List Value).toArray below meth c H locs 0 0 (MQ below (wQi D K loc sh ln iv rv s.heap.size r') ([wR loc 1, .int a1] : List Value).toArray s 0 0 (wA loc sh s.heap.size)) (F0 m 23 ls [.int z3]) := by
    intro H locs ls hH hS hl
    refine lv_istore_n (lv' := [(2, .int z3), (0, wR loc 1), (1, .int a1)]) hx hb dX5_isFree_23 rfl hl (by decide) rfl (fun ls hl => ?_)
    refine lv_iconst (v := 0) hx hb dX5_isFree_24 (by decide) ?_
    refine lv_istore_n (lv' := [(3, .int 0), (2, .int z3), (0, wR loc 1), (1, .int a1)]) hx hb dX5_isFree_25 rfl hl (by decide) rfl (fun ls hl => ?_)
    obtain ⟨z13, hL10, hf⟩ := wBd_e hf
    have hk11 : ∀ (H : Heap) (locs : List Loc) (ls : Array Slot), wH D K loc sh ln iv rv H → va_S (wA loc sh s.heap.size) s.heap H locs → lv_has ls 4 [(2, .int z13)] → W p l e (headSpec wsX5_isFree ({ frames := 0, cells := 0, slots := 0, locals := 0 })).room s m ([wR loc 1, .int a1] : List Value).toArray below meth c H locs 0 0 (MQ below (wQi D K loc sh ln iv rv s.heap.size r') ([wR loc 1, .int a1] : List Value).toArray s 0 0 (wA loc sh s.heap.size)) (F0 m 70 ls []) := by
      clear hL10 hl hS hH
      intro H locs ls hH hS hl
      refine lv_iload_n hx hb dX5_isFree_70 rfl (lv_at hl 0 rfl) ?_
      obtain ⟨hnar, hf⟩ := wGd_e hf
      cases hf
      exact W.zret hx hb hr hnar (fun t ht hW => ⟨⟨_, (), rfl, rfl, by show wH _ _ _ _ _ _ _ t.heap; rw [ht]; exact hH⟩, hS.F ht⟩) hS.2.2 dX5_isFree_71
    have lp12 : ∀ (n7 : Nat) (x8 : Int32) (x9 : Int32) (H : Heap) (locs : List Loc) (ls : Array Slot), fX5_isFree_26 n7 iv a1 x8 x9 = some z13 → wH D K loc sh ln iv rv H → va_S (wA loc sh s.heap.size) s.heap H locs → lv_has ls 4 [(0, wR loc 1), (1, .int a1), (2, .int x8), (3, .int x9)] → W p l e (headSpec wsX5_isFree ({ frames := 0, cells := 0, slots := 0, locals := 0 })).room s m ([wR loc 1, .int a1] : List Value).toArray below meth c H locs 0 0 (MQ below (wQi D K loc sh ln iv rv s.heap.size r') ([wR loc 1, .int a1] : List Value).toArray s 0 0 (wA loc sh s.heap.size)) (F0 m 26 ls []) := by
      clear hf hl hS hH hL10
      intro n7
      induction n7 with
      | zero => intro x8 x9 H locs ls hf; cases hf
      | succ n7 ih =>
        intro x8 x9 H locs ls hf hH hS hl
        rw [fX5_isFree_26.eq_2] at hf
        refine lv_iload_n hx hb dX5_isFree_26 rfl (lv_at hl 3 rfl) ?_
        refine wald_n hx hb dX5_isFree_27 rfl (lv_at hl 0 rfl) ?_
        refine wg (C := RX5) (T := TX5) (N := 31) (v := .int (iv 1 8)) hx hb hts iX5 hown hKn.1 hH (q := 1) (hB.1 1 6 (by decide)) (by decide) rfl rfl 8 (by decide) k112 rfl dX5_isFree_28 ?_
        refine lv_icmp_ge (tgt := 70) hx hb dX5_isFree_31 (by decide) (fun c14 => ?_) (fun c14 => ?_)
        · have hf := wIt c14 hf
          cases hf
          exact hk11 _ _ _ hH hS (lv_sub hl [2] rfl)
        · have hf := wIf c14 hf
          refine lv_iload_n hx hb dX5_isFree_34 rfl (lv_at hl 2 rfl) ?_
          refine lv_if_eq (tgt := 62) hx hb dX5_isFree_35 (by decide) (fun c15 => ?_) (fun c15 => ?_)
          · have hf := wIt c15 hf
            refine lv_iconst (v := 0) hx hb dX5_isFree_62 (by decide) ?_
            refine lv_istore_n (lv' := [(2, .int 0), (0, wR loc 1), (1, .int a1), (3, .int x9)]) hx hb dX5_isFree_63 rfl hl (by decide) rfl (fun ls hl => ?_)
            refine lv_iinc (v := (x9 + 1)) (lv' := [(3, .int (x9 + 1)), (2, .int 0), (0, wR loc 1), (1, .int a1)]) hx hb dX5_isFree_64 hl (k := 3) rfl rfl (by decide) rfl (fun ls hl => ?_)
            refine lv_goto (tgt := 26) hx hb dX5_isFree_67 (by decide) ?_
            exact ih _ _ _ _ _ hf hH hS (lv_sub hl [2, 3, 1, 0] rfl)
          · have hf := wIf c15 hf
            refine wald_n hx hb dX5_isFree_38 rfl (lv_at hl 0 rfl) ?_
            refine wg (C := RX5) (T := TX5) (N := 31) (v := wR loc 24) hx hb hts iX5 hown hKn.1 hH (q := 1) (hB.1 1 6 (by decide)) (by decide) rfl rfl 14 (by decide) k38 rfl dX5_isFree_39 ?_
            refine lv_iload_n hx hb dX5_isFree_42 rfl (lv_at hl 3 rfl) ?_
            obtain ⟨g16, hf⟩ := wGd_e hf
            refine wia hx hb hKn.1 hH (hB.1 24 7 (by decide)) (hB.2.1 24 _ (by decide)) g16 dX5_isFree_43 ?_
            refine lv_iconst (v := 3) hx hb dX5_isFree_44 (by decide) ?_
            refine lv_icmp_ne (tgt := 58) hx hb dX5_isFree_45 (by decide) (fun c17 => ?_) (fun c17 => ?_)
            · have hf := wIf c17 hf
              refine lv_iconst (v := 1) hx hb dX5_isFree_58 (by decide) ?_
              refine lv_goto (tgt := 63) hx hb dX5_isFree_59 (by decide) ?_
              refine lv_istore_n (lv' := [(2, .int 1), (0, wR loc 1), (1, .int a1), (3, .int x9)]) hx hb dX5_isFree_63 rfl hl (by decide) rfl (fun ls hl => ?_)
              refine lv_iinc (v := (x9 + 1)) (lv' := [(3, .int (x9 + 1)), (2, .int 1), (0, wR loc 1), (1, .int a1)]) hx hb dX5_isFree_64 hl (k := 3) rfl rfl (by decide) rfl (fun ls hl => ?_)
              refine lv_goto (tgt := 26) hx hb dX5_isFree_67 (by decide) ?_
              exact ih _ _ _ _ _ hf hH hS (lv_sub hl [2, 3, 1, 0] rfl)
            · have hf := wIt c17 hf
              refine wald_n hx hb dX5_isFree_48 rfl (lv_at hl 0 rfl) ?_
              refine wg (C := RX5) (T := TX5) (N := 31) (v := wR loc 26) hx hb hts iX5 hown hKn.1 hH (q := 1) (hB.1 1 6 (by decide)) (by decide) rfl rfl 16 (by decide) k44 rfl dX5_isFree_49 ?_
              refine lv_iload_n hx hb dX5_isFree_52 rfl (lv_at hl 3 rfl) ?_
              refine wia hx hb hKn.1 hH (hB.1 26 7 (by decide)) (hB.2.1 26 _ (by decide)) g16 dX5_isFree_53 ?_
              refine lv_iload_n hx hb dX5_isFree_54 rfl (lv_at hl 1 rfl) ?_
              refine lv_icmp_eq (tgt := 62) hx hb dX5_isFree_55 (by decide) (fun c18 => ?_) (fun c18 => ?_)
              · have hf := wIt c18 hf
                refine lv_iconst (v := 0) hx hb dX5_isFree_62 (by decide) ?_
                refine lv_istore_n (lv' := [(2, .int 0), (0, wR loc 1), (1, .int a1), (3, .int x9)]) hx hb dX5_isFree_63 rfl hl (by decide) rfl (fun ls hl => ?_)
                refine lv_iinc (v := (x9 + 1)) (lv' := [(3, .int (x9 + 1)), (2, .int 0), (0, wR loc 1), (1, .int a1)]) hx hb dX5_isFree_64 hl (k := 3) rfl rfl (by decide) rfl (fun ls hl => ?_)
                refine lv_goto (tgt := 26) hx hb dX5_isFree_67 (by decide) ?_
                exact ih _ _ _ _ _ hf hH hS (lv_sub hl [2, 3, 1, 0] rfl)
              · have hf := wIf c18 hf
                refine lv_iconst (v := 1) hx hb dX5_isFree_58 (by decide) ?_
                refine lv_goto (tgt := 63) hx hb dX5_isFree_59 (by decide) ?_
                refine lv_istore_n (lv' := [(2, .int 1), (0, wR loc 1), (1, .int a1), (3, .int x9)]) hx hb dX5_isFree_63 rfl hl (by decide) rfl (fun ls hl => ?_)
                refine lv_iinc (v := (x9 + 1)) (lv' := [(3, .int (x9 + 1)), (2, .int 1), (0, wR loc 1), (1, .int a1)]) hx hb dX5_isFree_64 hl (k := 3) rfl rfl (by decide) rfl (fun ls hl => ?_)
                refine lv_goto (tgt := 26) hx hb dX5_isFree_67 (by decide) ?_
                exact ih _ _ _ _ _ hf hH hS (lv_sub hl [2, 3, 1, 0] rfl)
    exact lp12 wN _ _ _ _ _ hL10 hH hS (lv_sub hl [2, 3, 1, 0] rfl)
  clear hf
  have hf := hv4
  clear hv4
  refine lv_if_ne (tgt := 22) hx hb dX5_isFree_6 (by decide) (fun c2 => ?_) (fun c2 => ?_)
  · have hf := wIf c2 hf
    refine lv_iconst (v := 0) hx hb dX5_isFree_22 (by decide) ?_
    cases hf
    exact hj5 _ _ _ hH hS (lv_sub hl [0, 1] rfl)
  · have hf := wIt c2 hf
    refine wald_n hx hb dX5_isFree_9 rfl (lv_at hl 0 rfl) ?_
    refine wg (C := RX5) (T := TX5) (N := 31) (v := wR loc 32) hx hb hts iX5 hown hKn.1 hH (q := 1) (hB.1 1 6 (by decide)) (by decide) rfl rfl 22 (by decide) k62 rfl dX5_isFree_10 ?_
    refine lv_iload_n hx hb dX5_isFree_13 rfl (lv_at hl 1 rfl) ?_
    refine wia hx hb hKn.1 hH (hB.1 32 7 (by decide)) (hB.2.1 32 _ (by decide)) g1 dX5_isFree_14 ?_
    refine lv_if_ne (tgt := 22) hx hb dX5_isFree_15 (by decide) (fun c6 => ?_) (fun c6 => ?_)
    · have hf := wIf c6 hf
      refine lv_iconst (v := 0) hx hb dX5_isFree_22 (by decide) ?_
      cases hf
      exact hj5 _ _ _ hH hS (lv_sub hl [0, 1] rfl)
    · have hf := wIt c6 hf
      refine lv_iconst (v := 1) hx hb dX5_isFree_18 (by decide) ?_
      refine lv_goto (tgt := 23) hx hb dX5_isFree_19 (by decide) ?_
      cases hf
      exact hj5 _ _ _ hH hS (lv_sub hl [0, 1] rfl)
noncomputable def fX5_spoils  (iv : wI) (a1 : Int32) : Option (wI) := wGd (vp_in a1 100) (wBd (fX5_beans (iv 19 a1.toNatClampNeg)) (fun (r2 : Int32) => wLt (wU iv 1 23 ((iv 1 23) + r2)) (fun (iv4 : wI) => wLt (wU iv4 29 a1.toNatClampNeg ((iv4 29 a1.toNatClampNeg) + 1)) (fun (iv6 : wI) => wLt (wU iv6 24 a1.toNatClampNeg 0) (fun (iv8 : wI) => some iv8)))))
set_option maxHeartbeats 4000000 in
set_option maxRecDepth 100000 in
theorem mtX5_spoils (l : Launch) (D : va_G) (K : Nat → ClassId) (loc sh ln : Nat → Nat) (iv : wI) (rv : wJ) (sz : Nat) (a1 : Int32) {iv' : wI} (hB : wBm sh ln) (hf : fX5_spoils iv a1 = some iv') : Met l yX5_spoils wsX5_spoils ({ frames := 1, cells := 0, slots := 0, locals := 20 }) (wPc D K loc sh ln iv rv sz [wR loc 1, .int a1]) (wQv D K loc sh ln iv' rv sz) 0 0 (wA loc sh sz) := by
  refine Met.ofW (cc := cX5_spoils) (maxL := 2) (ret := none) (by decide) rfl ?_
  intro p e s m args below meth c s₁ B hml hv
  obtain ⟨rfl, hsz, hH, hKn⟩ := hv
  have hx := B.exec
  have hb := B.bytes
  have hr := B.returns
  have hts := atoms_spec (ws := wsX5_spoils) B.pre
  have hown : s.vm.findClass RX5 = some m.cls := findClass_of_methodNamed B.named
  have hlocks := B.notSynchronized
  subst hsz
  have hA : ∀ q : Nat, s.heap.size ≤ q → wA loc sh s.heap.size q := fun q h => Or.inr h
  have hO : ∀ a, sh a ≠ 0 → wA loc sh s.heap.size (loc a) := fun a h => Or.inl ⟨a, h, rfl⟩
  have hS : va_S (wA loc sh s.heap.size) s.heap s.heap [] := va_S.rf
  obtain ⟨ls, hen, hl⟩ := wEntry m [wR loc 1, .int a1] 2 (List.forall_mem_cons.mpr ⟨wR_cat _ _, List.forall_mem_cons.mpr ⟨rfl, fun _ h => absurd h List.not_mem_nil⟩⟩) (Nat.le_of_ble_eq_true rfl)
  rw [hen]
  clear hen
  have hl : lv_has ls 2 [(0, wR loc 1), (1, .int a1)] := hl
  have k118 := hts (.fieldLink RX5 118 "CupByCupModel" "spoilt" "I") (List.mem_of_getElem? (i := 1) rfl)
  have iX5 : ∀ w ∈ wsX50, w ∈ wsX5_spoils := fun w h => List.mem_cons_of_mem _ (List.mem_append_right _ h)
  have k23 := hts (.fieldLink RX5 23 "CupByCupModel" "what" "[I") (List.mem_of_getElem? (i := 2) rfl)
  have k53 := hts (.fieldLink RX5 53 "CupByCupModel" "anew" "[I") (List.mem_of_getElem? (i := 3) rfl)
  have k38 := hts (.fieldLink RX5 38 "CupByCupModel" "state" "[I") (List.mem_of_getElem? (i := 4) rfl)
  unfold fX5_spoils at hf
  refine wald_n hx hb dX5_spoils_0 rfl (lv_at hl 0 rfl) ?_
  refine lv_dup hx hb dX5_spoils_1 (wR_cat _ _) ?_
  refine wg (C := RX5) (T := TX5) (N := 31) (v := .int (iv 1 23)) hx hb hts iX5 hown hKn.1 hH (q := 1) (hB.1 1 6 (by decide)) (by decide) rfl rfl 23 (by decide) k118 rfl dX5_spoils_2 ?_
  refine wald_n hx hb dX5_spoils_5 rfl (lv_at hl 0 rfl) ?_
  refine wg (C := RX5) (T := TX5) (N := 31) (v := wR loc 19) hx hb hts iX5 hown hKn.1 hH (q := 1) (hB.1 1 6 (by decide)) (by decide) rfl rfl 9 (by decide) k23 rfl dX5_spoils_6 ?_
  refine lv_iload_n hx hb dX5_spoils_9 rfl (lv_at hl 1 rfl) ?_
  obtain ⟨g1, hf⟩ := wGd_e hf
  refine wia hx hb hKn.1 hH (hB.1 19 7 (by decide)) (hB.2.1 19 _ (by decide)) g1 dX5_spoils_10 ?_
  obtain ⟨r2, h3, hf⟩ := wBd_e hf
  refine wci (va_runS (As := [.int (iv 19 a1.toNatClampNeg)]) (rest := [.int (iv 1 23), wR loc 1]) ⟨hx, hb, hml, hown, hts⟩ (mtX5_beans l D K loc sh ln iv rv _ (iv 19 a1.toNatClampNeg) h3) (va_cwS 1 hts gX5_spoils_X5_beans rfl rfl rfl (by decide +kernel) ⟨Nat.le_of_ble_eq_true rfl, Nat.le_of_ble_eq_true rfl⟩) (wPreS hKn hH) rfl rfl hl.1 rfl (lv_room (Nat.le_of_ble_eq_true rfl)) dX5_spoils_11 ⟨Nat.zero_le _, Nat.zero_le _⟩) hS hO hA (fun H locs hH hS => ?_)
  refine lv_iadd hx hb dX5_spoils_14 ?_
  obtain ⟨iv4, e5, hf⟩ := wLt_e hf
  refine wp (C := RX5) (T := TX5) (N := 31) (v := .int ((iv 1 23) + r2)) (ty := tyX5 23) (iv' := iv4) (rv' := rv) hx hb hts iX5 tyX5 tyX5_ok nmX5 hown hKn.1 hH hO hS (q := 1) (hB.1 1 6 (by decide)) (by decide) rfl rfl 23 (by decide) k118 rfl (tyX5_ok 23 (by decide)) rfl rfl (Nat.le_of_ble_eq_true rfl) (by rw [e5, wU_self]; rfl) (fun a ha => by rw [e5]; exact wU_ne a ha) (fun _ _ => rfl) dX5_spoils_15 (fun H locs hH hS => ?_)
  refine wald_n hx hb dX5_spoils_18 rfl (lv_at hl 0 rfl) ?_
  refine wg (C := RX5) (T := TX5) (N := 31) (v := wR loc 29) hx hb hts iX5 hown hKn.1 hH (q := 1) (hB.1 1 6 (by decide)) (by decide) rfl rfl 19 (by decide) k53 rfl dX5_spoils_19 ?_
  refine lv_iload_n hx hb dX5_spoils_22 rfl (lv_at hl 1 rfl) ?_
  refine lv_dup2_11 hx hb dX5_spoils_23 rfl (wR_cat _ _) ?_
  refine wia hx hb hKn.1 hH (hB.1 29 7 (by decide)) (hB.2.1 29 _ (by decide)) g1 dX5_spoils_24 ?_
  refine lv_iconst (v := 1) hx hb dX5_spoils_25 (by decide) ?_
  refine lv_iadd hx hb dX5_spoils_26 ?_
  obtain ⟨iv6, e7, hf⟩ := wLt_e hf
  refine wis hx hb hKn.1 hH hO hS (hB.1 29 7 (by decide)) (hB.2.1 29 _ (by decide)) g1 dX5_spoils_27 (fun H locs hH hS => ?_)
  rw [← e7] at hH
  refine wald_n hx hb dX5_spoils_28 rfl (lv_at hl 0 rfl) ?_
  refine wg (C := RX5) (T := TX5) (N := 31) (v := wR loc 24) hx hb hts iX5 hown hKn.1 hH (q := 1) (hB.1 1 6 (by decide)) (by decide) rfl rfl 14 (by decide) k38 rfl dX5_spoils_29 ?_
  refine lv_iload_n hx hb dX5_spoils_32 rfl (lv_at hl 1 rfl) ?_
  refine lv_iconst (v := 0) hx hb dX5_spoils_33 (by decide) ?_
  obtain ⟨iv8, e9, hf⟩ := wLt_e hf
  refine wis hx hb hKn.1 hH hO hS (hB.1 24 7 (by decide)) (hB.2.1 24 _ (by decide)) g1 dX5_spoils_34 (fun H locs hH hS => ?_)
  rw [← e9] at hH
  cases hf
  exact W.vret hx hb hr (fun t ht hW => ⟨⟨(), rfl, trivial, by show wH _ _ _ _ _ _ _ t.heap; rw [ht]; exact hH⟩, hS.F ht⟩) hS.2.2 dX5_spoils_35
noncomputable def fX5_cupGoes  (iv : wI) (a1 : Int32) : Option (wI) := wGd (vp_in a1 100) (wLt (wU iv 25 a1.toNatClampNeg ((iv 25 a1.toNatClampNeg) - 1)) (fun (iv2 : wI) => if (iv2 25 a1.toNatClampNeg) ≤ 0 then if (iv2 24 a1.toNatClampNeg) = 1 then wLt (wU iv2 24 a1.toNatClampNeg 2) (fun (iv20 : wI) => wLt (wU iv20 27 a1.toNatClampNeg (iv20 1 2)) (fun (iv22 : wI) => some iv22)) else if (iv2 24 a1.toNatClampNeg) = 3 then wBd (fX5_steam (iv2 19 a1.toNatClampNeg)) (fun (r11 : Int32) => if r11 ≤ 0 then wLt (wU iv2 24 a1.toNatClampNeg 6) (fun (iv14 : wI) => wLt (wU iv14 28 a1.toNatClampNeg (iv14 1 2)) (fun (iv16 : wI) => some iv16)) else wLt (wU iv2 24 a1.toNatClampNeg 4) (fun (iv18 : wI) => some iv18)) else wLt (wU iv2 24 a1.toNatClampNeg 6) (fun (iv7 : wI) => wLt (wU iv7 28 a1.toNatClampNeg (iv7 1 2)) (fun (iv9 : wI) => some iv9)) else some iv2))
set_option maxHeartbeats 4000000 in
set_option maxRecDepth 100000 in
theorem mtX5_cupGoes (l : Launch) (D : va_G) (K : Nat → ClassId) (loc sh ln : Nat → Nat) (iv : wI) (rv : wJ) (sz : Nat) (a1 : Int32) {iv' : wI} (hB : wBm sh ln) (hf : fX5_cupGoes iv a1 = some iv') : Met l yX5_cupGoes wsX5_cupGoes ({ frames := 1, cells := 0, slots := 0, locals := 20 }) (wPc D K loc sh ln iv rv sz [wR loc 1, .int a1]) (wQv D K loc sh ln iv' rv sz) 0 0 (wA loc sh sz) := by
  refine Met.ofW (cc := cX5_cupGoes) (maxL := 2) (ret := none) (by decide) rfl ?_
  intro p e s m args below meth c s₁ B hml hv
  obtain ⟨rfl, hsz, hH, hKn⟩ := hv
  have hx := B.exec
  have hb := B.bytes
  have hr := B.returns
  have hts := atoms_spec (ws := wsX5_cupGoes) B.pre
  have hown : s.vm.findClass RX5 = some m.cls := findClass_of_methodNamed B.named
  have hlocks := B.notSynchronized
  subst hsz
  have hA : ∀ q : Nat, s.heap.size ≤ q → wA loc sh s.heap.size q := fun q h => Or.inr h
  have hO : ∀ a, sh a ≠ 0 → wA loc sh s.heap.size (loc a) := fun a h => Or.inl ⟨a, h, rfl⟩
  have hS : va_S (wA loc sh s.heap.size) s.heap s.heap [] := va_S.rf
  obtain ⟨ls, hen, hl⟩ := wEntry m [wR loc 1, .int a1] 2 (List.forall_mem_cons.mpr ⟨wR_cat _ _, List.forall_mem_cons.mpr ⟨rfl, fun _ h => absurd h List.not_mem_nil⟩⟩) (Nat.le_of_ble_eq_true rfl)
  rw [hen]
  clear hen
  have hl : lv_has ls 2 [(0, wR loc 1), (1, .int a1)] := hl
  have k41 := hts (.fieldLink RX5 41 "CupByCupModel" "left" "[I") (List.mem_of_getElem? (i := 1) rfl)
  have iX5 : ∀ w ∈ wsX50, w ∈ wsX5_cupGoes := fun w h => List.mem_cons_of_mem _ (List.mem_append_right _ h)
  have k38 := hts (.fieldLink RX5 38 "CupByCupModel" "state" "[I") (List.mem_of_getElem? (i := 2) rfl)
  have k50 := hts (.fieldLink RX5 50 "CupByCupModel" "doneIn" "[I") (List.mem_of_getElem? (i := 6) rfl)
  have k115 := hts (.fieldLink RX5 115 "CupByCupModel" "now" "I") (List.mem_of_getElem? (i := 4) rfl)
  have k23 := hts (.fieldLink RX5 23 "CupByCupModel" "what" "[I") (List.mem_of_getElem? (i := 5) rfl)
  have k47 := hts (.fieldLink RX5 47 "CupByCupModel" "since" "[I") (List.mem_of_getElem? (i := 3) rfl)
  unfold fX5_cupGoes at hf
  refine wald_n hx hb dX5_cupGoes_0 rfl (lv_at hl 0 rfl) ?_
  refine wg (C := RX5) (T := TX5) (N := 31) (v := wR loc 25) hx hb hts iX5 hown hKn.1 hH (q := 1) (hB.1 1 6 (by decide)) (by decide) rfl rfl 15 (by decide) k41 rfl dX5_cupGoes_1 ?_
  refine lv_iload_n hx hb dX5_cupGoes_4 rfl (lv_at hl 1 rfl) ?_
  refine lv_dup2_11 hx hb dX5_cupGoes_5 rfl (wR_cat _ _) ?_
  obtain ⟨g1, hf⟩ := wGd_e hf
  refine wia hx hb hKn.1 hH (hB.1 25 7 (by decide)) (hB.2.1 25 _ (by decide)) g1 dX5_cupGoes_6 ?_
  refine lv_iconst (v := 1) hx hb dX5_cupGoes_7 (by decide) ?_
  refine lv_isub hx hb dX5_cupGoes_8 ?_
  obtain ⟨iv2, e3, hf⟩ := wLt_e hf
  refine wis hx hb hKn.1 hH hO hS (hB.1 25 7 (by decide)) (hB.2.1 25 _ (by decide)) g1 dX5_cupGoes_9 (fun H locs hH hS => ?_)
  rw [← e3] at hH
  refine wald_n hx hb dX5_cupGoes_10 rfl (lv_at hl 0 rfl) ?_
  refine wg (C := RX5) (T := TX5) (N := 31) (v := wR loc 25) hx hb hts iX5 hown hKn.1 hH (q := 1) (hB.1 1 6 (by decide)) (by decide) rfl rfl 15 (by decide) k41 rfl dX5_cupGoes_11 ?_
  refine lv_iload_n hx hb dX5_cupGoes_14 rfl (lv_at hl 1 rfl) ?_
  refine wia hx hb hKn.1 hH (hB.1 25 7 (by decide)) (hB.2.1 25 _ (by decide)) g1 dX5_cupGoes_15 ?_
  refine lv_if_le (tgt := 20) hx hb dX5_cupGoes_16 (by decide) (fun c4 => ?_) (fun c4 => ?_)
  · have hf := wIt c4 hf
    refine wald_n hx hb dX5_cupGoes_20 rfl (lv_at hl 0 rfl) ?_
    refine wg (C := RX5) (T := TX5) (N := 31) (v := wR loc 24) hx hb hts iX5 hown hKn.1 hH (q := 1) (hB.1 1 6 (by decide)) (by decide) rfl rfl 14 (by decide) k38 rfl dX5_cupGoes_21 ?_
    refine lv_iload_n hx hb dX5_cupGoes_24 rfl (lv_at hl 1 rfl) ?_
    refine wia hx hb hKn.1 hH (hB.1 24 7 (by decide)) (hB.2.1 24 _ (by decide)) g1 dX5_cupGoes_25 ?_
    refine lv_iconst (v := 1) hx hb dX5_cupGoes_26 (by decide) ?_
    refine lv_icmp_ne (tgt := 50) hx hb dX5_cupGoes_27 (by decide) (fun c5 => ?_) (fun c5 => ?_)
    · have hf := wIf c5 hf
      refine wald_n hx hb dX5_cupGoes_50 rfl (lv_at hl 0 rfl) ?_
      refine wg (C := RX5) (T := TX5) (N := 31) (v := wR loc 24) hx hb hts iX5 hown hKn.1 hH (q := 1) (hB.1 1 6 (by decide)) (by decide) rfl rfl 14 (by decide) k38 rfl dX5_cupGoes_51 ?_
      refine lv_iload_n hx hb dX5_cupGoes_54 rfl (lv_at hl 1 rfl) ?_
      refine wia hx hb hKn.1 hH (hB.1 24 7 (by decide)) (hB.2.1 24 _ (by decide)) g1 dX5_cupGoes_55 ?_
      refine lv_iconst (v := 3) hx hb dX5_cupGoes_56 (by decide) ?_
      refine lv_icmp_ne (tgt := 82) hx hb dX5_cupGoes_57 (by decide) (fun c6 => ?_) (fun c6 => ?_)
      · have hf := wIf c6 hf
        refine wald_n hx hb dX5_cupGoes_82 rfl (lv_at hl 0 rfl) ?_
        refine wg (C := RX5) (T := TX5) (N := 31) (v := wR loc 24) hx hb hts iX5 hown hKn.1 hH (q := 1) (hB.1 1 6 (by decide)) (by decide) rfl rfl 14 (by decide) k38 rfl dX5_cupGoes_83 ?_
        refine lv_iload_n hx hb dX5_cupGoes_86 rfl (lv_at hl 1 rfl) ?_
        refine lv_bipush (v := 6) hx hb dX5_cupGoes_87 (by decide) ?_
        obtain ⟨iv7, e8, hf⟩ := wLt_e hf
        refine wis hx hb hKn.1 hH hO hS (hB.1 24 7 (by decide)) (hB.2.1 24 _ (by decide)) g1 dX5_cupGoes_89 (fun H locs hH hS => ?_)
        rw [← e8] at hH
        refine wald_n hx hb dX5_cupGoes_90 rfl (lv_at hl 0 rfl) ?_
        refine wg (C := RX5) (T := TX5) (N := 31) (v := wR loc 28) hx hb hts iX5 hown hKn.1 hH (q := 1) (hB.1 1 6 (by decide)) (by decide) rfl rfl 18 (by decide) k50 rfl dX5_cupGoes_91 ?_
        refine lv_iload_n hx hb dX5_cupGoes_94 rfl (lv_at hl 1 rfl) ?_
        refine wald_n hx hb dX5_cupGoes_95 rfl (lv_at hl 0 rfl) ?_
        refine wg (C := RX5) (T := TX5) (N := 31) (v := .int (iv7 1 2)) hx hb hts iX5 hown hKn.1 hH (q := 1) (hB.1 1 6 (by decide)) (by decide) rfl rfl 2 (by decide) k115 rfl dX5_cupGoes_96 ?_
        obtain ⟨iv9, e10, hf⟩ := wLt_e hf
        refine wis hx hb hKn.1 hH hO hS (hB.1 28 7 (by decide)) (hB.2.1 28 _ (by decide)) g1 dX5_cupGoes_99 (fun H locs hH hS => ?_)
        rw [← e10] at hH
        cases hf
        exact W.vret hx hb hr (fun t ht hW => ⟨⟨(), rfl, trivial, by show wH _ _ _ _ _ _ _ t.heap; rw [ht]; exact hH⟩, hS.F ht⟩) hS.2.2 dX5_cupGoes_100
      · have hf := wIt c6 hf
        refine wald_n hx hb dX5_cupGoes_60 rfl (lv_at hl 0 rfl) ?_
        refine wg (C := RX5) (T := TX5) (N := 31) (v := wR loc 19) hx hb hts iX5 hown hKn.1 hH (q := 1) (hB.1 1 6 (by decide)) (by decide) rfl rfl 9 (by decide) k23 rfl dX5_cupGoes_61 ?_
        refine lv_iload_n hx hb dX5_cupGoes_64 rfl (lv_at hl 1 rfl) ?_
        refine wia hx hb hKn.1 hH (hB.1 19 7 (by decide)) (hB.2.1 19 _ (by decide)) g1 dX5_cupGoes_65 ?_
        obtain ⟨r11, h12, hf⟩ := wBd_e hf
        refine wci (va_runS (As := [.int (iv2 19 a1.toNatClampNeg)]) (rest := []) ⟨hx, hb, hml, hown, hts⟩ (mtX5_steam l D K loc sh ln iv2 rv _ (iv2 19 a1.toNatClampNeg) h12) (va_cwS 1 hts gX5_cupGoes_X5_steam rfl rfl rfl (by decide +kernel) ⟨Nat.le_of_ble_eq_true rfl, Nat.le_of_ble_eq_true rfl⟩) (wPreS hKn hH) rfl rfl hl.1 rfl (lv_room (Nat.le_of_ble_eq_true rfl)) dX5_cupGoes_66 ⟨Nat.zero_le _, Nat.zero_le _⟩) hS hO hA (fun H locs hH hS => ?_)
        refine lv_if_le (tgt := 82) hx hb dX5_cupGoes_69 (by decide) (fun c13 => ?_) (fun c13 => ?_)
        · have hf := wIt c13 hf
          refine wald_n hx hb dX5_cupGoes_82 rfl (lv_at hl 0 rfl) ?_
          refine wg (C := RX5) (T := TX5) (N := 31) (v := wR loc 24) hx hb hts iX5 hown hKn.1 hH (q := 1) (hB.1 1 6 (by decide)) (by decide) rfl rfl 14 (by decide) k38 rfl dX5_cupGoes_83 ?_
          refine lv_iload_n hx hb dX5_cupGoes_86 rfl (lv_at hl 1 rfl) ?_
          refine lv_bipush (v := 6) hx hb dX5_cupGoes_87 (by decide) ?_
          obtain ⟨iv14, e15, hf⟩ := wLt_e hf
          refine wis hx hb hKn.1 hH hO hS (hB.1 24 7 (by decide)) (hB.2.1 24 _ (by decide)) g1 dX5_cupGoes_89 (fun H locs hH hS => ?_)
          rw [← e15] at hH
          refine wald_n hx hb dX5_cupGoes_90 rfl (lv_at hl 0 rfl) ?_
          refine wg (C := RX5) (T := TX5) (N := 31) (v := wR loc 28) hx hb hts iX5 hown hKn.1 hH (q := 1) (hB.1 1 6 (by decide)) (by decide) rfl rfl 18 (by decide) k50 rfl dX5_cupGoes_91 ?_
          refine lv_iload_n hx hb dX5_cupGoes_94 rfl (lv_at hl 1 rfl) ?_
          refine wald_n hx hb dX5_cupGoes_95 rfl (lv_at hl 0 rfl) ?_
          refine wg (C := RX5) (T := TX5) (N := 31) (v := .int (iv14 1 2)) hx hb hts iX5 hown hKn.1 hH (q := 1) (hB.1 1 6 (by decide)) (by decide) rfl rfl 2 (by decide) k115 rfl dX5_cupGoes_96 ?_
          obtain ⟨iv16, e17, hf⟩ := wLt_e hf
          refine wis hx hb hKn.1 hH hO hS (hB.1 28 7 (by decide)) (hB.2.1 28 _ (by decide)) g1 dX5_cupGoes_99 (fun H locs hH hS => ?_)
          rw [← e17] at hH
          cases hf
          exact W.vret hx hb hr (fun t ht hW => ⟨⟨(), rfl, trivial, by show wH _ _ _ _ _ _ _ t.heap; rw [ht]; exact hH⟩, hS.F ht⟩) hS.2.2 dX5_cupGoes_100
        · have hf := wIf c13 hf
          refine wald_n hx hb dX5_cupGoes_72 rfl (lv_at hl 0 rfl) ?_
          refine wg (C := RX5) (T := TX5) (N := 31) (v := wR loc 24) hx hb hts iX5 hown hKn.1 hH (q := 1) (hB.1 1 6 (by decide)) (by decide) rfl rfl 14 (by decide) k38 rfl dX5_cupGoes_73 ?_
          refine lv_iload_n hx hb dX5_cupGoes_76 rfl (lv_at hl 1 rfl) ?_
          refine lv_iconst (v := 4) hx hb dX5_cupGoes_77 (by decide) ?_
          obtain ⟨iv18, e19, hf⟩ := wLt_e hf
          refine wis hx hb hKn.1 hH hO hS (hB.1 24 7 (by decide)) (hB.2.1 24 _ (by decide)) g1 dX5_cupGoes_78 (fun H locs hH hS => ?_)
          rw [← e19] at hH
          refine lv_goto (tgt := 100) hx hb dX5_cupGoes_79 (by decide) ?_
          cases hf
          exact W.vret hx hb hr (fun t ht hW => ⟨⟨(), rfl, trivial, by show wH _ _ _ _ _ _ _ t.heap; rw [ht]; exact hH⟩, hS.F ht⟩) hS.2.2 dX5_cupGoes_100
    · have hf := wIt c5 hf
      refine wald_n hx hb dX5_cupGoes_30 rfl (lv_at hl 0 rfl) ?_
      refine wg (C := RX5) (T := TX5) (N := 31) (v := wR loc 24) hx hb hts iX5 hown hKn.1 hH (q := 1) (hB.1 1 6 (by decide)) (by decide) rfl rfl 14 (by decide) k38 rfl dX5_cupGoes_31 ?_
      refine lv_iload_n hx hb dX5_cupGoes_34 rfl (lv_at hl 1 rfl) ?_
      refine lv_iconst (v := 2) hx hb dX5_cupGoes_35 (by decide) ?_
      obtain ⟨iv20, e21, hf⟩ := wLt_e hf
      refine wis hx hb hKn.1 hH hO hS (hB.1 24 7 (by decide)) (hB.2.1 24 _ (by decide)) g1 dX5_cupGoes_36 (fun H locs hH hS => ?_)
      rw [← e21] at hH
      refine wald_n hx hb dX5_cupGoes_37 rfl (lv_at hl 0 rfl) ?_
      refine wg (C := RX5) (T := TX5) (N := 31) (v := wR loc 27) hx hb hts iX5 hown hKn.1 hH (q := 1) (hB.1 1 6 (by decide)) (by decide) rfl rfl 17 (by decide) k47 rfl dX5_cupGoes_38 ?_
      refine lv_iload_n hx hb dX5_cupGoes_41 rfl (lv_at hl 1 rfl) ?_
      refine wald_n hx hb dX5_cupGoes_42 rfl (lv_at hl 0 rfl) ?_
      refine wg (C := RX5) (T := TX5) (N := 31) (v := .int (iv20 1 2)) hx hb hts iX5 hown hKn.1 hH (q := 1) (hB.1 1 6 (by decide)) (by decide) rfl rfl 2 (by decide) k115 rfl dX5_cupGoes_43 ?_
      obtain ⟨iv22, e23, hf⟩ := wLt_e hf
      refine wis hx hb hKn.1 hH hO hS (hB.1 27 7 (by decide)) (hB.2.1 27 _ (by decide)) g1 dX5_cupGoes_46 (fun H locs hH hS => ?_)
      rw [← e23] at hH
      refine lv_goto (tgt := 100) hx hb dX5_cupGoes_47 (by decide) ?_
      cases hf
      exact W.vret hx hb hr (fun t ht hW => ⟨⟨(), rfl, trivial, by show wH _ _ _ _ _ _ _ t.heap; rw [ht]; exact hH⟩, hS.F ht⟩) hS.2.2 dX5_cupGoes_100
  · have hf := wIf c4 hf
    cases hf
    exact W.vret hx hb hr (fun t ht hW => ⟨⟨(), rfl, trivial, by show wH _ _ _ _ _ _ _ t.heap; rw [ht]; exact hH⟩, hS.F ht⟩) hS.2.2 dX5_cupGoes_19
noncomputable def fX5_goesOn_2  : Nat → wI → Int32 → Option (wI)
  | 0, _, _ => none
  | n + 1, iv, x1 => if (iv 1 8) ≤ x1 then some iv else wGd (vp_in x1 100) (if (iv 24 x1.toNatClampNeg) = 2 then if ((iv 1 2) - (iv 27 x1.toNatClampNeg)) < 30 then if (iv 24 x1.toNatClampNeg) = 1 then wBd (fX5_cupGoes iv x1) (fun (iv15 : wI) => fX5_goesOn_2 n iv15 (x1 + 1)) else if (iv 24 x1.toNatClampNeg) = 3 then wBd (fX5_cupGoes iv x1) (fun (iv18 : wI) => fX5_goesOn_2 n iv18 (x1 + 1)) else if (iv 24 x1.toNatClampNeg) = 5 then wBd (fX5_cupGoes iv x1) (fun (iv21 : wI) => fX5_goesOn_2 n iv21 (x1 + 1)) else fX5_goesOn_2 n iv (x1 + 1) else wBd (fX5_spoils iv x1) (fun (iv23 : wI) => fX5_goesOn_2 n iv23 (x1 + 1)) else if (iv 24 x1.toNatClampNeg) = 1 then wBd (fX5_cupGoes iv x1) (fun (iv5 : wI) => fX5_goesOn_2 n iv5 (x1 + 1)) else if (iv 24 x1.toNatClampNeg) = 3 then wBd (fX5_cupGoes iv x1) (fun (iv8 : wI) => fX5_goesOn_2 n iv8 (x1 + 1)) else if (iv 24 x1.toNatClampNeg) = 5 then wBd (fX5_cupGoes iv x1) (fun (iv11 : wI) => fX5_goesOn_2 n iv11 (x1 + 1)) else fX5_goesOn_2 n iv (x1 + 1))
noncomputable def fX5_goesOn_87  : Nat → wI → Int32 → Option (wI)
  | 0, _, _ => none
  | n + 1, iv, x1 => if (iv 1 0) ≤ x1 then some iv else wGd (vp_in x1 3) (wBd (if (iv 32 x1.toNatClampNeg) ≤ 0 then some iv else wLt (wU iv 32 x1.toNatClampNeg ((iv 32 x1.toNatClampNeg) - 1)) (fun (iv38 : wI) => some iv38)) (fun (iv35 : wI) => if (iv35 30 x1.toNatClampNeg) = 0 then fX5_goesOn_87 n iv35 (x1 + 1) else wLt (wU iv35 30 x1.toNatClampNeg ((iv35 30 x1.toNatClampNeg) - 1)) (fun (iv41 : wI) => if (iv41 30 x1.toNatClampNeg) ≤ 0 then wLt (wU iv41 31 x1.toNatClampNeg 0) (fun (iv44 : wI) => wLt (wU iv44 1 24 ((iv44 1 24) + 1)) (fun (iv46 : wI) => fX5_goesOn_87 n iv46 (x1 + 1))) else fX5_goesOn_87 n iv41 (x1 + 1))))
noncomputable def fX5_goesOn  (iv : wI) : Option (wI) := wBd (fX5_goesOn_2 wN iv 0) (fun (iv7 : wI) => wBd (fX5_goesOn_87 wN iv7 0) (fun (iv38 : wI) => some iv38))
set_option maxHeartbeats 4000000 in
set_option maxRecDepth 100000 in
theorem mtX5_goesOn (l : Launch) (D : va_G) (K : Nat → ClassId) (loc sh ln : Nat → Nat) (iv : wI) (rv : wJ) (sz : Nat) {iv' : wI} (hB : wBm sh ln) (hf : fX5_goesOn iv = some iv') : Met l yX5_goesOn wsX5_goesOn ({ frames := 2, cells := 0, slots := 0, locals := 41 }) (wPc D K loc sh ln iv rv sz [wR loc 1]) (wQv D K loc sh ln iv' rv sz) 0 0 (wA loc sh sz) := by
  refine Met.ofW (cc := cX5_goesOn) (maxL := 2) (ret := none) (by decide) rfl ?_
  intro p e s m args below meth c s₁ B hml hv
  obtain ⟨rfl, hsz, hH, hKn⟩ := hv
  have hx := B.exec
  have hb := B.bytes
  have hr := B.returns
  have hts := atoms_spec (ws := wsX5_goesOn) B.pre
  have hown : s.vm.findClass RX5 = some m.cls := findClass_of_methodNamed B.named
  have hlocks := B.notSynchronized
  subst hsz
  have hA : ∀ q : Nat, s.heap.size ≤ q → wA loc sh s.heap.size q := fun q h => Or.inr h
  have hO : ∀ a, sh a ≠ 0 → wA loc sh s.heap.size (loc a) := fun a h => Or.inl ⟨a, h, rfl⟩
  have hS : va_S (wA loc sh s.heap.size) s.heap s.heap [] := va_S.rf
  obtain ⟨ls, hen, hl⟩ := wEntry m [wR loc 1] 2 (List.forall_mem_cons.mpr ⟨wR_cat _ _, fun _ h => absurd h List.not_mem_nil⟩) (Nat.le_of_ble_eq_true rfl)
  rw [hen]
  clear hen
  have hl : lv_has ls 2 [(0, wR loc 1)] := hl
  have k112 := hts (.fieldLink RX5 112 "CupByCupModel" "cups" "I") (List.mem_of_getElem? (i := 1) rfl)
  have iX5 : ∀ w ∈ wsX50, w ∈ wsX5_goesOn := fun w h => List.mem_cons_of_mem _ (List.mem_append_right _ h)
  have k38 := hts (.fieldLink RX5 38 "CupByCupModel" "state" "[I") (List.mem_of_getElem? (i := 2) rfl)
  have k115 := hts (.fieldLink RX5 115 "CupByCupModel" "now" "I") (List.mem_of_getElem? (i := 3) rfl)
  have k47 := hts (.fieldLink RX5 47 "CupByCupModel" "since" "[I") (List.mem_of_getElem? (i := 4) rfl)
  have k80 := hts (.fieldLink RX5 80 "CupByCupModel" "groups" "I") (List.mem_of_getElem? (i := 5) rfl)
  have k62 := hts (.fieldLink RX5 62 "CupByCupModel" "faults" "[I") (List.mem_of_getElem? (i := 6) rfl)
  have k56 := hts (.fieldLink RX5 56 "CupByCupModel" "rinses" "[I") (List.mem_of_getElem? (i := 7) rfl)
  have k59 := hts (.fieldLink RX5 59 "CupByCupModel" "due" "[I") (List.mem_of_getElem? (i := 8) rfl)
  have k135 := hts (.fieldLink RX5 135 "CupByCupModel" "rinsed" "I") (List.mem_of_getElem? (i := 9) rfl)
  unfold fX5_goesOn at hf
  refine lv_iconst (v := 0) hx hb dX5_goesOn_0 (by decide) ?_
  refine lv_istore_n (lv' := [(1, .int 0), (0, wR loc 1)]) hx hb dX5_goesOn_1 rfl hl (by decide) rfl (fun ls hl => ?_)
  obtain ⟨iv7, hL4, hf⟩ := wBd_e hf
  have hk5 : ∀ (H : Heap) (locs : List Loc) (ls : Array Slot), wH D K loc sh ln iv7 rv H → va_S (wA loc sh s.heap.size) s.heap H locs → lv_has ls 2 [(0, wR loc 1)] → W p l e (headSpec wsX5_goesOn ({ frames := 2, cells := 0, slots := 0, locals := 41 })).room s m ([wR loc 1] : List Value).toArray below meth c H locs 0 0 (MQ below (wQv D K loc sh ln iv' rv s.heap.size) ([wR loc 1] : List Value).toArray s 0 0 (wA loc sh s.heap.size)) (F0 m 85 ls []) := by
    clear hL4 hl hS hH
    intro H locs ls hH hS hl
    refine lv_iconst (v := 0) hx hb dX5_goesOn_85 (by decide) ?_
    refine lv_istore_n (lv' := [(1, .int 0), (0, wR loc 1)]) hx hb dX5_goesOn_86 rfl hl (by decide) rfl (fun ls hl => ?_)
    obtain ⟨iv38, hL35, hf⟩ := wBd_e hf
    have hk36 : ∀ (H : Heap) (locs : List Loc) (ls : Array Slot), wH D K loc sh ln iv38 rv H → va_S (wA loc sh s.heap.size) s.heap H locs → lv_has ls 2 [] → W p l e (headSpec wsX5_goesOn ({ frames := 2, cells := 0, slots := 0, locals := 41 })).room s m ([wR loc 1] : List Value).toArray below meth c H locs 0 0 (MQ below (wQv D K loc sh ln iv' rv s.heap.size) ([wR loc 1] : List Value).toArray s 0 0 (wA loc sh s.heap.size)) (F0 m 171 ls []) := by
      clear hL35 hl hS hH
      intro H locs ls hH hS hl
      cases hf
      exact W.vret hx hb hr (fun t ht hW => ⟨⟨(), rfl, trivial, by show wH _ _ _ _ _ _ _ t.heap; rw [ht]; exact hH⟩, hS.F ht⟩) hS.2.2 dX5_goesOn_171
    have lp37 : ∀ (n32 : Nat) (iv33 : wI) (x34 : Int32) (H : Heap) (locs : List Loc) (ls : Array Slot), fX5_goesOn_87 n32 iv33 x34 = some iv38 → wH D K loc sh ln iv33 rv H → va_S (wA loc sh s.heap.size) s.heap H locs → lv_has ls 2 [(0, wR loc 1), (1, .int x34)] → W p l e (headSpec wsX5_goesOn ({ frames := 2, cells := 0, slots := 0, locals := 41 })).room s m ([wR loc 1] : List Value).toArray below meth c H locs 0 0 (MQ below (wQv D K loc sh ln iv' rv s.heap.size) ([wR loc 1] : List Value).toArray s 0 0 (wA loc sh s.heap.size)) (F0 m 87 ls []) := by
      clear hf hl hS hH hL35
      intro n32
      induction n32 with
      | zero => intro iv33 x34 H locs ls hf; cases hf
      | succ n32 ih =>
        intro iv33 x34 H locs ls hf hH hS hl
        rw [fX5_goesOn_87.eq_2] at hf
        refine lv_iload_n hx hb dX5_goesOn_87 rfl (lv_at hl 1 rfl) ?_
        refine wald_n hx hb dX5_goesOn_88 rfl (lv_at hl 0 rfl) ?_
        refine wg (C := RX5) (T := TX5) (N := 31) (v := .int (iv33 1 0)) hx hb hts iX5 hown hKn.1 hH (q := 1) (hB.1 1 6 (by decide)) (by decide) rfl rfl 0 (by decide) k80 rfl dX5_goesOn_89 ?_
        refine lv_icmp_ge (tgt := 171) hx hb dX5_goesOn_92 (by decide) (fun c39 => ?_) (fun c39 => ?_)
        · have hf := wIt c39 hf
          cases hf
          exact hk36 _ _ _ hH hS (lv_sub hl [] rfl)
        · have hf := wIf c39 hf
          refine wald_n hx hb dX5_goesOn_95 rfl (lv_at hl 0 rfl) ?_
          refine wg (C := RX5) (T := TX5) (N := 31) (v := wR loc 32) hx hb hts iX5 hown hKn.1 hH (q := 1) (hB.1 1 6 (by decide)) (by decide) rfl rfl 22 (by decide) k62 rfl dX5_goesOn_96 ?_
          refine lv_iload_n hx hb dX5_goesOn_99 rfl (lv_at hl 1 rfl) ?_
          obtain ⟨g40, hf⟩ := wGd_e hf
          refine wia hx hb hKn.1 hH (hB.1 32 7 (by decide)) (hB.2.1 32 _ (by decide)) g40 dX5_goesOn_100 ?_
          obtain ⟨iv42, hv43, hf⟩ := wBd_e hf
          have hj44 : ∀ (H : Heap) (locs : List Loc) (ls : Array Slot), wH D K loc sh ln iv42 rv H → va_S (wA loc sh s.heap.size) s.heap H locs → lv_has ls 2 [(0, wR loc 1), (1, .int x34)] → W p l e (headSpec wsX5_goesOn ({ frames := 2, cells := 0, slots := 0, locals := 41 })).room s m ([wR loc 1] : List Value).toArray below meth c H locs 0 0 (MQ below (wQv D K loc sh ln iv' rv s.heap.size) ([wR loc 1] : List Value).toArray s 0 0 (wA loc sh s.heap.size)) (F0 m 114 ls []) := by
            intro H locs ls hH hS hl
            refine wald_n hx hb dX5_goesOn_114 rfl (lv_at hl 0 rfl) ?_
            refine wg (C := RX5) (T := TX5) (N := 31) (v := wR loc 30) hx hb hts iX5 hown hKn.1 hH (q := 1) (hB.1 1 6 (by decide)) (by decide) rfl rfl 20 (by decide) k56 rfl dX5_goesOn_115 ?_
            refine lv_iload_n hx hb dX5_goesOn_118 rfl (lv_at hl 1 rfl) ?_
            refine wia hx hb hKn.1 hH (hB.1 30 7 (by decide)) (hB.2.1 30 _ (by decide)) g40 dX5_goesOn_119 ?_
            refine lv_if_ne (tgt := 126) hx hb dX5_goesOn_120 (by decide) (fun c47 => ?_) (fun c47 => ?_)
            · have hf := wIf c47 hf
              refine wald_n hx hb dX5_goesOn_126 rfl (lv_at hl 0 rfl) ?_
              refine wg (C := RX5) (T := TX5) (N := 31) (v := wR loc 30) hx hb hts iX5 hown hKn.1 hH (q := 1) (hB.1 1 6 (by decide)) (by decide) rfl rfl 20 (by decide) k56 rfl dX5_goesOn_127 ?_
              refine lv_iload_n hx hb dX5_goesOn_130 rfl (lv_at hl 1 rfl) ?_
              refine lv_dup2_11 hx hb dX5_goesOn_131 rfl (wR_cat _ _) ?_
              refine wia hx hb hKn.1 hH (hB.1 30 7 (by decide)) (hB.2.1 30 _ (by decide)) g40 dX5_goesOn_132 ?_
              refine lv_iconst (v := 1) hx hb dX5_goesOn_133 (by decide) ?_
              refine lv_isub hx hb dX5_goesOn_134 ?_
              obtain ⟨iv48, e49, hf⟩ := wLt_e hf
              refine wis hx hb hKn.1 hH hO hS (hB.1 30 7 (by decide)) (hB.2.1 30 _ (by decide)) g40 dX5_goesOn_135 (fun H locs hH hS => ?_)
              rw [← e49] at hH
              refine wald_n hx hb dX5_goesOn_136 rfl (lv_at hl 0 rfl) ?_
              refine wg (C := RX5) (T := TX5) (N := 31) (v := wR loc 30) hx hb hts iX5 hown hKn.1 hH (q := 1) (hB.1 1 6 (by decide)) (by decide) rfl rfl 20 (by decide) k56 rfl dX5_goesOn_137 ?_
              refine lv_iload_n hx hb dX5_goesOn_140 rfl (lv_at hl 1 rfl) ?_
              refine wia hx hb hKn.1 hH (hB.1 30 7 (by decide)) (hB.2.1 30 _ (by decide)) g40 dX5_goesOn_141 ?_
              refine lv_if_le (tgt := 148) hx hb dX5_goesOn_142 (by decide) (fun c50 => ?_) (fun c50 => ?_)
              · have hf := wIt c50 hf
                refine wald_n hx hb dX5_goesOn_148 rfl (lv_at hl 0 rfl) ?_
                refine wg (C := RX5) (T := TX5) (N := 31) (v := wR loc 31) hx hb hts iX5 hown hKn.1 hH (q := 1) (hB.1 1 6 (by decide)) (by decide) rfl rfl 21 (by decide) k59 rfl dX5_goesOn_149 ?_
                refine lv_iload_n hx hb dX5_goesOn_152 rfl (lv_at hl 1 rfl) ?_
                refine lv_iconst (v := 0) hx hb dX5_goesOn_153 (by decide) ?_
                obtain ⟨iv51, e52, hf⟩ := wLt_e hf
                refine wis hx hb hKn.1 hH hO hS (hB.1 31 7 (by decide)) (hB.2.1 31 _ (by decide)) g40 dX5_goesOn_154 (fun H locs hH hS => ?_)
                rw [← e52] at hH
                refine wald_n hx hb dX5_goesOn_155 rfl (lv_at hl 0 rfl) ?_
                refine lv_dup hx hb dX5_goesOn_156 (wR_cat _ _) ?_
                refine wg (C := RX5) (T := TX5) (N := 31) (v := .int (iv51 1 24)) hx hb hts iX5 hown hKn.1 hH (q := 1) (hB.1 1 6 (by decide)) (by decide) rfl rfl 24 (by decide) k135 rfl dX5_goesOn_157 ?_
                refine lv_iconst (v := 1) hx hb dX5_goesOn_160 (by decide) ?_
                refine lv_iadd hx hb dX5_goesOn_161 ?_
                obtain ⟨iv53, e54, hf⟩ := wLt_e hf
                refine wp (C := RX5) (T := TX5) (N := 31) (v := .int ((iv51 1 24) + 1)) (ty := tyX5 24) (iv' := iv53) (rv' := rv) hx hb hts iX5 tyX5 tyX5_ok nmX5 hown hKn.1 hH hO hS (q := 1) (hB.1 1 6 (by decide)) (by decide) rfl rfl 24 (by decide) k135 rfl (tyX5_ok 24 (by decide)) rfl rfl (Nat.le_of_ble_eq_true rfl) (by rw [e54, wU_self]; rfl) (fun a ha => by rw [e54]; exact wU_ne a ha) (fun _ _ => rfl) dX5_goesOn_162 (fun H locs hH hS => ?_)
                refine lv_iinc (v := (x34 + 1)) (lv' := [(1, .int (x34 + 1)), (0, wR loc 1)]) hx hb dX5_goesOn_165 hl (k := 1) rfl rfl (by decide) rfl (fun ls hl => ?_)
                refine lv_goto (tgt := 87) hx hb dX5_goesOn_168 (by decide) ?_
                exact ih _ _ _ _ _ hf hH hS (lv_sub hl [1, 0] rfl)
              · have hf := wIf c50 hf
                refine lv_goto (tgt := 165) hx hb dX5_goesOn_145 (by decide) ?_
                refine lv_iinc (v := (x34 + 1)) (lv' := [(1, .int (x34 + 1)), (0, wR loc 1)]) hx hb dX5_goesOn_165 hl (k := 1) rfl rfl (by decide) rfl (fun ls hl => ?_)
                refine lv_goto (tgt := 87) hx hb dX5_goesOn_168 (by decide) ?_
                exact ih _ _ _ _ _ hf hH hS (lv_sub hl [1, 0] rfl)
            · have hf := wIt c47 hf
              refine lv_goto (tgt := 165) hx hb dX5_goesOn_123 (by decide) ?_
              refine lv_iinc (v := (x34 + 1)) (lv' := [(1, .int (x34 + 1)), (0, wR loc 1)]) hx hb dX5_goesOn_165 hl (k := 1) rfl rfl (by decide) rfl (fun ls hl => ?_)
              refine lv_goto (tgt := 87) hx hb dX5_goesOn_168 (by decide) ?_
              exact ih _ _ _ _ _ hf hH hS (lv_sub hl [1, 0] rfl)
          clear hf
          have hf := hv43
          clear hv43
          refine lv_if_le (tgt := 114) hx hb dX5_goesOn_101 (by decide) (fun c41 => ?_) (fun c41 => ?_)
          · have hf := wIt c41 hf
            cases hf
            exact hj44 _ _ _ hH hS (lv_sub hl [0, 1] rfl)
          · have hf := wIf c41 hf
            refine wald_n hx hb dX5_goesOn_104 rfl (lv_at hl 0 rfl) ?_
            refine wg (C := RX5) (T := TX5) (N := 31) (v := wR loc 32) hx hb hts iX5 hown hKn.1 hH (q := 1) (hB.1 1 6 (by decide)) (by decide) rfl rfl 22 (by decide) k62 rfl dX5_goesOn_105 ?_
            refine lv_iload_n hx hb dX5_goesOn_108 rfl (lv_at hl 1 rfl) ?_
            refine lv_dup2_11 hx hb dX5_goesOn_109 rfl (wR_cat _ _) ?_
            refine wia hx hb hKn.1 hH (hB.1 32 7 (by decide)) (hB.2.1 32 _ (by decide)) g40 dX5_goesOn_110 ?_
            refine lv_iconst (v := 1) hx hb dX5_goesOn_111 (by decide) ?_
            refine lv_isub hx hb dX5_goesOn_112 ?_
            obtain ⟨iv45, e46, hf⟩ := wLt_e hf
            refine wis hx hb hKn.1 hH hO hS (hB.1 32 7 (by decide)) (hB.2.1 32 _ (by decide)) g40 dX5_goesOn_113 (fun H locs hH hS => ?_)
            rw [← e46] at hH
            cases hf
            exact hj44 _ _ _ hH hS (lv_sub hl [0, 1] rfl)
    exact lp37 wN _ _ _ _ _ hL35 hH hS (lv_sub hl [1, 0] rfl)
  have lp6 : ∀ (n1 : Nat) (iv2 : wI) (x3 : Int32) (H : Heap) (locs : List Loc) (ls : Array Slot), fX5_goesOn_2 n1 iv2 x3 = some iv7 → wH D K loc sh ln iv2 rv H → va_S (wA loc sh s.heap.size) s.heap H locs → lv_has ls 2 [(0, wR loc 1), (1, .int x3)] → W p l e (headSpec wsX5_goesOn ({ frames := 2, cells := 0, slots := 0, locals := 41 })).room s m ([wR loc 1] : List Value).toArray below meth c H locs 0 0 (MQ below (wQv D K loc sh ln iv' rv s.heap.size) ([wR loc 1] : List Value).toArray s 0 0 (wA loc sh s.heap.size)) (F0 m 2 ls []) := by
    clear hf hl hS hH hL4
    intro n1
    induction n1 with
    | zero => intro iv2 x3 H locs ls hf; cases hf
    | succ n1 ih =>
      intro iv2 x3 H locs ls hf hH hS hl
      rw [fX5_goesOn_2.eq_2] at hf
      refine lv_iload_n hx hb dX5_goesOn_2 rfl (lv_at hl 1 rfl) ?_
      refine wald_n hx hb dX5_goesOn_3 rfl (lv_at hl 0 rfl) ?_
      refine wg (C := RX5) (T := TX5) (N := 31) (v := .int (iv2 1 8)) hx hb hts iX5 hown hKn.1 hH (q := 1) (hB.1 1 6 (by decide)) (by decide) rfl rfl 8 (by decide) k112 rfl dX5_goesOn_4 ?_
      refine lv_icmp_ge (tgt := 85) hx hb dX5_goesOn_7 (by decide) (fun c8 => ?_) (fun c8 => ?_)
      · have hf := wIt c8 hf
        cases hf
        exact hk5 _ _ _ hH hS (lv_sub hl [0] rfl)
      · have hf := wIf c8 hf
        refine wald_n hx hb dX5_goesOn_10 rfl (lv_at hl 0 rfl) ?_
        refine wg (C := RX5) (T := TX5) (N := 31) (v := wR loc 24) hx hb hts iX5 hown hKn.1 hH (q := 1) (hB.1 1 6 (by decide)) (by decide) rfl rfl 14 (by decide) k38 rfl dX5_goesOn_11 ?_
        refine lv_iload_n hx hb dX5_goesOn_14 rfl (lv_at hl 1 rfl) ?_
        obtain ⟨g9, hf⟩ := wGd_e hf
        refine wia hx hb hKn.1 hH (hB.1 24 7 (by decide)) (hB.2.1 24 _ (by decide)) g9 dX5_goesOn_15 ?_
        refine lv_iconst (v := 2) hx hb dX5_goesOn_16 (by decide) ?_
        refine lv_icmp_ne (tgt := 44) hx hb dX5_goesOn_17 (by decide) (fun c10 => ?_) (fun c10 => ?_)
        · have hf := wIf c10 hf
          refine wald_n hx hb dX5_goesOn_44 rfl (lv_at hl 0 rfl) ?_
          refine wg (C := RX5) (T := TX5) (N := 31) (v := wR loc 24) hx hb hts iX5 hown hKn.1 hH (q := 1) (hB.1 1 6 (by decide)) (by decide) rfl rfl 14 (by decide) k38 rfl dX5_goesOn_45 ?_
          refine lv_iload_n hx hb dX5_goesOn_48 rfl (lv_at hl 1 rfl) ?_
          refine wia hx hb hKn.1 hH (hB.1 24 7 (by decide)) (hB.2.1 24 _ (by decide)) g9 dX5_goesOn_49 ?_
          refine lv_iconst (v := 1) hx hb dX5_goesOn_50 (by decide) ?_
          refine lv_icmp_eq (tgt := 74) hx hb dX5_goesOn_51 (by decide) (fun c11 => ?_) (fun c11 => ?_)
          · have hf := wIt c11 hf
            refine wald_n hx hb dX5_goesOn_74 rfl (lv_at hl 0 rfl) ?_
            refine lv_iload_n hx hb dX5_goesOn_75 rfl (lv_at hl 1 rfl) ?_
            obtain ⟨iv12, h13, hf⟩ := wBd_e hf
            refine wcv (va_runV (As := [.int x3]) (rest := []) ⟨hx, hb, hml, hown, hts⟩ (mtX5_cupGoes l D K loc sh ln iv2 rv _ x3 hB h13) (cwV 1 hts gX5_goesOn_X5_cupGoes rfl rfl rfl (by decide +kernel) ⟨Nat.le_of_ble_eq_true rfl, Nat.le_of_ble_eq_true rfl⟩) (wPreV hKn hH (hB.1 1 6 (by decide)) (by decide) rfl rfl) rfl rfl hl.1 rfl (lv_room (Nat.le_of_ble_eq_true rfl)) dX5_goesOn_76 ⟨Nat.zero_le _, Nat.zero_le _⟩) hS hO hA (fun H locs hH hS => ?_)
            refine lv_iinc (v := (x3 + 1)) (lv' := [(1, .int (x3 + 1)), (0, wR loc 1)]) hx hb dX5_goesOn_79 hl (k := 1) rfl rfl (by decide) rfl (fun ls hl => ?_)
            refine lv_goto (tgt := 2) hx hb dX5_goesOn_82 (by decide) ?_
            exact ih _ _ _ _ _ hf hH hS (lv_sub hl [1, 0] rfl)
          · have hf := wIf c11 hf
            refine wald_n hx hb dX5_goesOn_54 rfl (lv_at hl 0 rfl) ?_
            refine wg (C := RX5) (T := TX5) (N := 31) (v := wR loc 24) hx hb hts iX5 hown hKn.1 hH (q := 1) (hB.1 1 6 (by decide)) (by decide) rfl rfl 14 (by decide) k38 rfl dX5_goesOn_55 ?_
            refine lv_iload_n hx hb dX5_goesOn_58 rfl (lv_at hl 1 rfl) ?_
            refine wia hx hb hKn.1 hH (hB.1 24 7 (by decide)) (hB.2.1 24 _ (by decide)) g9 dX5_goesOn_59 ?_
            refine lv_iconst (v := 3) hx hb dX5_goesOn_60 (by decide) ?_
            refine lv_icmp_eq (tgt := 74) hx hb dX5_goesOn_61 (by decide) (fun c14 => ?_) (fun c14 => ?_)
            · have hf := wIt c14 hf
              refine wald_n hx hb dX5_goesOn_74 rfl (lv_at hl 0 rfl) ?_
              refine lv_iload_n hx hb dX5_goesOn_75 rfl (lv_at hl 1 rfl) ?_
              obtain ⟨iv15, h16, hf⟩ := wBd_e hf
              refine wcv (va_runV (As := [.int x3]) (rest := []) ⟨hx, hb, hml, hown, hts⟩ (mtX5_cupGoes l D K loc sh ln iv2 rv _ x3 hB h16) (cwV 1 hts gX5_goesOn_X5_cupGoes rfl rfl rfl (by decide +kernel) ⟨Nat.le_of_ble_eq_true rfl, Nat.le_of_ble_eq_true rfl⟩) (wPreV hKn hH (hB.1 1 6 (by decide)) (by decide) rfl rfl) rfl rfl hl.1 rfl (lv_room (Nat.le_of_ble_eq_true rfl)) dX5_goesOn_76 ⟨Nat.zero_le _, Nat.zero_le _⟩) hS hO hA (fun H locs hH hS => ?_)
              refine lv_iinc (v := (x3 + 1)) (lv' := [(1, .int (x3 + 1)), (0, wR loc 1)]) hx hb dX5_goesOn_79 hl (k := 1) rfl rfl (by decide) rfl (fun ls hl => ?_)
              refine lv_goto (tgt := 2) hx hb dX5_goesOn_82 (by decide) ?_
              exact ih _ _ _ _ _ hf hH hS (lv_sub hl [1, 0] rfl)
            · have hf := wIf c14 hf
              refine wald_n hx hb dX5_goesOn_64 rfl (lv_at hl 0 rfl) ?_
              refine wg (C := RX5) (T := TX5) (N := 31) (v := wR loc 24) hx hb hts iX5 hown hKn.1 hH (q := 1) (hB.1 1 6 (by decide)) (by decide) rfl rfl 14 (by decide) k38 rfl dX5_goesOn_65 ?_
              refine lv_iload_n hx hb dX5_goesOn_68 rfl (lv_at hl 1 rfl) ?_
              refine wia hx hb hKn.1 hH (hB.1 24 7 (by decide)) (hB.2.1 24 _ (by decide)) g9 dX5_goesOn_69 ?_
              refine lv_iconst (v := 5) hx hb dX5_goesOn_70 (by decide) ?_
              refine lv_icmp_ne (tgt := 79) hx hb dX5_goesOn_71 (by decide) (fun c17 => ?_) (fun c17 => ?_)
              · have hf := wIf c17 hf
                refine lv_iinc (v := (x3 + 1)) (lv' := [(1, .int (x3 + 1)), (0, wR loc 1)]) hx hb dX5_goesOn_79 hl (k := 1) rfl rfl (by decide) rfl (fun ls hl => ?_)
                refine lv_goto (tgt := 2) hx hb dX5_goesOn_82 (by decide) ?_
                exact ih _ _ _ _ _ hf hH hS (lv_sub hl [1, 0] rfl)
              · have hf := wIt c17 hf
                refine wald_n hx hb dX5_goesOn_74 rfl (lv_at hl 0 rfl) ?_
                refine lv_iload_n hx hb dX5_goesOn_75 rfl (lv_at hl 1 rfl) ?_
                obtain ⟨iv18, h19, hf⟩ := wBd_e hf
                refine wcv (va_runV (As := [.int x3]) (rest := []) ⟨hx, hb, hml, hown, hts⟩ (mtX5_cupGoes l D K loc sh ln iv2 rv _ x3 hB h19) (cwV 1 hts gX5_goesOn_X5_cupGoes rfl rfl rfl (by decide +kernel) ⟨Nat.le_of_ble_eq_true rfl, Nat.le_of_ble_eq_true rfl⟩) (wPreV hKn hH (hB.1 1 6 (by decide)) (by decide) rfl rfl) rfl rfl hl.1 rfl (lv_room (Nat.le_of_ble_eq_true rfl)) dX5_goesOn_76 ⟨Nat.zero_le _, Nat.zero_le _⟩) hS hO hA (fun H locs hH hS => ?_)
                refine lv_iinc (v := (x3 + 1)) (lv' := [(1, .int (x3 + 1)), (0, wR loc 1)]) hx hb dX5_goesOn_79 hl (k := 1) rfl rfl (by decide) rfl (fun ls hl => ?_)
                refine lv_goto (tgt := 2) hx hb dX5_goesOn_82 (by decide) ?_
                exact ih _ _ _ _ _ hf hH hS (lv_sub hl [1, 0] rfl)
        · have hf := wIt c10 hf
          refine wald_n hx hb dX5_goesOn_20 rfl (lv_at hl 0 rfl) ?_
          refine wg (C := RX5) (T := TX5) (N := 31) (v := .int (iv2 1 2)) hx hb hts iX5 hown hKn.1 hH (q := 1) (hB.1 1 6 (by decide)) (by decide) rfl rfl 2 (by decide) k115 rfl dX5_goesOn_21 ?_
          refine wald_n hx hb dX5_goesOn_24 rfl (lv_at hl 0 rfl) ?_
          refine wg (C := RX5) (T := TX5) (N := 31) (v := wR loc 27) hx hb hts iX5 hown hKn.1 hH (q := 1) (hB.1 1 6 (by decide)) (by decide) rfl rfl 17 (by decide) k47 rfl dX5_goesOn_25 ?_
          refine lv_iload_n hx hb dX5_goesOn_28 rfl (lv_at hl 1 rfl) ?_
          refine wia hx hb hKn.1 hH (hB.1 27 7 (by decide)) (hB.2.1 27 _ (by decide)) g9 dX5_goesOn_29 ?_
          refine lv_isub hx hb dX5_goesOn_30 ?_
          refine lv_bipush (v := 30) hx hb dX5_goesOn_31 (by decide) ?_
          refine lv_icmp_lt (tgt := 44) hx hb dX5_goesOn_33 (by decide) (fun c20 => ?_) (fun c20 => ?_)
          · have hf := wIt c20 hf
            refine wald_n hx hb dX5_goesOn_44 rfl (lv_at hl 0 rfl) ?_
            refine wg (C := RX5) (T := TX5) (N := 31) (v := wR loc 24) hx hb hts iX5 hown hKn.1 hH (q := 1) (hB.1 1 6 (by decide)) (by decide) rfl rfl 14 (by decide) k38 rfl dX5_goesOn_45 ?_
            refine lv_iload_n hx hb dX5_goesOn_48 rfl (lv_at hl 1 rfl) ?_
            refine wia hx hb hKn.1 hH (hB.1 24 7 (by decide)) (hB.2.1 24 _ (by decide)) g9 dX5_goesOn_49 ?_
            refine lv_iconst (v := 1) hx hb dX5_goesOn_50 (by decide) ?_
            refine lv_icmp_eq (tgt := 74) hx hb dX5_goesOn_51 (by decide) (fun c21 => ?_) (fun c21 => ?_)
            · have hf := wIt c21 hf
              refine wald_n hx hb dX5_goesOn_74 rfl (lv_at hl 0 rfl) ?_
              refine lv_iload_n hx hb dX5_goesOn_75 rfl (lv_at hl 1 rfl) ?_
              obtain ⟨iv22, h23, hf⟩ := wBd_e hf
              refine wcv (va_runV (As := [.int x3]) (rest := []) ⟨hx, hb, hml, hown, hts⟩ (mtX5_cupGoes l D K loc sh ln iv2 rv _ x3 hB h23) (cwV 1 hts gX5_goesOn_X5_cupGoes rfl rfl rfl (by decide +kernel) ⟨Nat.le_of_ble_eq_true rfl, Nat.le_of_ble_eq_true rfl⟩) (wPreV hKn hH (hB.1 1 6 (by decide)) (by decide) rfl rfl) rfl rfl hl.1 rfl (lv_room (Nat.le_of_ble_eq_true rfl)) dX5_goesOn_76 ⟨Nat.zero_le _, Nat.zero_le _⟩) hS hO hA (fun H locs hH hS => ?_)
              refine lv_iinc (v := (x3 + 1)) (lv' := [(1, .int (x3 + 1)), (0, wR loc 1)]) hx hb dX5_goesOn_79 hl (k := 1) rfl rfl (by decide) rfl (fun ls hl => ?_)
              refine lv_goto (tgt := 2) hx hb dX5_goesOn_82 (by decide) ?_
              exact ih _ _ _ _ _ hf hH hS (lv_sub hl [1, 0] rfl)
            · have hf := wIf c21 hf
              refine wald_n hx hb dX5_goesOn_54 rfl (lv_at hl 0 rfl) ?_
              refine wg (C := RX5) (T := TX5) (N := 31) (v := wR loc 24) hx hb hts iX5 hown hKn.1 hH (q := 1) (hB.1 1 6 (by decide)) (by decide) rfl rfl 14 (by decide) k38 rfl dX5_goesOn_55 ?_
              refine lv_iload_n hx hb dX5_goesOn_58 rfl (lv_at hl 1 rfl) ?_
              refine wia hx hb hKn.1 hH (hB.1 24 7 (by decide)) (hB.2.1 24 _ (by decide)) g9 dX5_goesOn_59 ?_
              refine lv_iconst (v := 3) hx hb dX5_goesOn_60 (by decide) ?_
              refine lv_icmp_eq (tgt := 74) hx hb dX5_goesOn_61 (by decide) (fun c24 => ?_) (fun c24 => ?_)
              · have hf := wIt c24 hf
                refine wald_n hx hb dX5_goesOn_74 rfl (lv_at hl 0 rfl) ?_
                refine lv_iload_n hx hb dX5_goesOn_75 rfl (lv_at hl 1 rfl) ?_
                obtain ⟨iv25, h26, hf⟩ := wBd_e hf
                refine wcv (va_runV (As := [.int x3]) (rest := []) ⟨hx, hb, hml, hown, hts⟩ (mtX5_cupGoes l D K loc sh ln iv2 rv _ x3 hB h26) (cwV 1 hts gX5_goesOn_X5_cupGoes rfl rfl rfl (by decide +kernel) ⟨Nat.le_of_ble_eq_true rfl, Nat.le_of_ble_eq_true rfl⟩) (wPreV hKn hH (hB.1 1 6 (by decide)) (by decide) rfl rfl) rfl rfl hl.1 rfl (lv_room (Nat.le_of_ble_eq_true rfl)) dX5_goesOn_76 ⟨Nat.zero_le _, Nat.zero_le _⟩) hS hO hA (fun H locs hH hS => ?_)
                refine lv_iinc (v := (x3 + 1)) (lv' := [(1, .int (x3 + 1)), (0, wR loc 1)]) hx hb dX5_goesOn_79 hl (k := 1) rfl rfl (by decide) rfl (fun ls hl => ?_)
                refine lv_goto (tgt := 2) hx hb dX5_goesOn_82 (by decide) ?_
                exact ih _ _ _ _ _ hf hH hS (lv_sub hl [1, 0] rfl)
              · have hf := wIf c24 hf
                refine wald_n hx hb dX5_goesOn_64 rfl (lv_at hl 0 rfl) ?_
                refine wg (C := RX5) (T := TX5) (N := 31) (v := wR loc 24) hx hb hts iX5 hown hKn.1 hH (q := 1) (hB.1 1 6 (by decide)) (by decide) rfl rfl 14 (by decide) k38 rfl dX5_goesOn_65 ?_
                refine lv_iload_n hx hb dX5_goesOn_68 rfl (lv_at hl 1 rfl) ?_
                refine wia hx hb hKn.1 hH (hB.1 24 7 (by decide)) (hB.2.1 24 _ (by decide)) g9 dX5_goesOn_69 ?_
                refine lv_iconst (v := 5) hx hb dX5_goesOn_70 (by decide) ?_
                refine lv_icmp_ne (tgt := 79) hx hb dX5_goesOn_71 (by decide) (fun c27 => ?_) (fun c27 => ?_)
                · have hf := wIf c27 hf
                  refine lv_iinc (v := (x3 + 1)) (lv' := [(1, .int (x3 + 1)), (0, wR loc 1)]) hx hb dX5_goesOn_79 hl (k := 1) rfl rfl (by decide) rfl (fun ls hl => ?_)
                  refine lv_goto (tgt := 2) hx hb dX5_goesOn_82 (by decide) ?_
                  exact ih _ _ _ _ _ hf hH hS (lv_sub hl [1, 0] rfl)
                · have hf := wIt c27 hf
                  refine wald_n hx hb dX5_goesOn_74 rfl (lv_at hl 0 rfl) ?_
                  refine lv_iload_n hx hb dX5_goesOn_75 rfl (lv_at hl 1 rfl) ?_
                  obtain ⟨iv28, h29, hf⟩ := wBd_e hf
                  refine wcv (va_runV (As := [.int x3]) (rest := []) ⟨hx, hb, hml, hown, hts⟩ (mtX5_cupGoes l D K loc sh ln iv2 rv _ x3 hB h29) (cwV 1 hts gX5_goesOn_X5_cupGoes rfl rfl rfl (by decide +kernel) ⟨Nat.le_of_ble_eq_true rfl, Nat.le_of_ble_eq_true rfl⟩) (wPreV hKn hH (hB.1 1 6 (by decide)) (by decide) rfl rfl) rfl rfl hl.1 rfl (lv_room (Nat.le_of_ble_eq_true rfl)) dX5_goesOn_76 ⟨Nat.zero_le _, Nat.zero_le _⟩) hS hO hA (fun H locs hH hS => ?_)
                  refine lv_iinc (v := (x3 + 1)) (lv' := [(1, .int (x3 + 1)), (0, wR loc 1)]) hx hb dX5_goesOn_79 hl (k := 1) rfl rfl (by decide) rfl (fun ls hl => ?_)
                  refine lv_goto (tgt := 2) hx hb dX5_goesOn_82 (by decide) ?_
                  exact ih _ _ _ _ _ hf hH hS (lv_sub hl [1, 0] rfl)
          · have hf := wIf c20 hf
            refine wald_n hx hb dX5_goesOn_36 rfl (lv_at hl 0 rfl) ?_
            refine lv_iload_n hx hb dX5_goesOn_37 rfl (lv_at hl 1 rfl) ?_
            obtain ⟨iv30, h31, hf⟩ := wBd_e hf
            refine wcv (va_runV (As := [.int x3]) (rest := []) ⟨hx, hb, hml, hown, hts⟩ (mtX5_spoils l D K loc sh ln iv2 rv _ x3 hB h31) (cwV 1 hts gX5_goesOn_X5_spoils rfl rfl rfl (by decide +kernel) ⟨Nat.le_of_ble_eq_true rfl, Nat.le_of_ble_eq_true rfl⟩) (wPreV hKn hH (hB.1 1 6 (by decide)) (by decide) rfl rfl) rfl rfl hl.1 rfl (lv_room (Nat.le_of_ble_eq_true rfl)) dX5_goesOn_38 ⟨Nat.zero_le _, Nat.zero_le _⟩) hS hO hA (fun H locs hH hS => ?_)
            refine lv_goto (tgt := 79) hx hb dX5_goesOn_41 (by decide) ?_
            refine lv_iinc (v := (x3 + 1)) (lv' := [(1, .int (x3 + 1)), (0, wR loc 1)]) hx hb dX5_goesOn_79 hl (k := 1) rfl rfl (by decide) rfl (fun ls hl => ?_)
            refine lv_goto (tgt := 2) hx hb dX5_goesOn_82 (by decide) ?_
            exact ih _ _ _ _ _ hf hH hS (lv_sub hl [1, 0] rfl)
  exact lp6 wN _ _ _ _ _ hL4 hH hS (lv_sub hl [1, 0] rfl)
noncomputable def fX5_firstOf_2  : Nat → wI → Int32 → Int32 → Option (Int32)
  | 0, _, _, _ => none
  | n + 1, iv, x1, x2 => if (iv 1 8) ≤ x2 then some ((-1) : Int32) else wGd (vp_in x2 100) (if (iv 24 x2.toNatClampNeg) = x1 then some x2 else fX5_firstOf_2 n iv x1 (x2 + 1))
noncomputable def fX5_firstOf  (iv : wI) (a1 : Int32) : Option (Int32) := fX5_firstOf_2 wN iv a1 0
set_option maxHeartbeats 4000000 in
set_option maxRecDepth 100000 in
theorem mtX5_firstOf (l : Launch) (D : va_G) (K : Nat → ClassId) (loc sh ln : Nat → Nat) (iv : wI) (rv : wJ) (sz : Nat) (a1 : Int32) {r' : Int32} (hB : wBm sh ln) (hf : fX5_firstOf iv a1 = some r') : Met l yX5_firstOf wsX5_firstOf ({ frames := 0, cells := 0, slots := 0, locals := 0 }) (wPc D K loc sh ln iv rv sz [wR loc 1, .int a1]) (wQi D K loc sh ln iv rv sz r') 0 0 (wA loc sh sz) := by
  refine Met.ofW (cc := cX5_firstOf) (maxL := 3) (ret := (some .int)) (by decide) rfl ?_
  intro p e s m args below meth c s₁ B hml hv
  obtain ⟨rfl, hsz, hH, hKn⟩ := hv
  have hx := B.exec
  have hb := B.bytes
  have hr := B.returns
  have hts := atoms_spec (ws := wsX5_firstOf) B.pre
  have hown : s.vm.findClass RX5 = some m.cls := findClass_of_methodNamed B.named
  have hlocks := B.notSynchronized
  subst hsz
  have hA : ∀ q : Nat, s.heap.size ≤ q → wA loc sh s.heap.size q := fun q h => Or.inr h
  have hO : ∀ a, sh a ≠ 0 → wA loc sh s.heap.size (loc a) := fun a h => Or.inl ⟨a, h, rfl⟩
  have hS : va_S (wA loc sh s.heap.size) s.heap s.heap [] := va_S.rf
  obtain ⟨ls, hen, hl⟩ := wEntry m [wR loc 1, .int a1] 3 (List.forall_mem_cons.mpr ⟨wR_cat _ _, List.forall_mem_cons.mpr ⟨rfl, fun _ h => absurd h List.not_mem_nil⟩⟩) (Nat.le_of_ble_eq_true rfl)
  rw [hen]
  clear hen
  have hl : lv_has ls 3 [(0, wR loc 1), (1, .int a1)] := hl
  have k112 := hts (.fieldLink RX5 112 "CupByCupModel" "cups" "I") (List.mem_of_getElem? (i := 1) rfl)
  have iX5 : ∀ w ∈ wsX50, w ∈ wsX5_firstOf := fun w h => List.mem_cons_of_mem _ (List.mem_append_right _ h)
  have k38 := hts (.fieldLink RX5 38 "CupByCupModel" "state" "[I") (List.mem_of_getElem? (i := 2) rfl)
  unfold fX5_firstOf at hf
  refine lv_iconst (v := 0) hx hb dX5_firstOf_0 (by decide) ?_
  refine lv_istore_n (lv' := [(2, .int 0), (0, wR loc 1), (1, .int a1)]) hx hb dX5_firstOf_1 rfl hl (by decide) rfl (fun ls hl => ?_)
  have lp5 : ∀ (n1 : Nat) (x2 : Int32) (H : Heap) (locs : List Loc) (ls : Array Slot), fX5_firstOf_2 n1 iv a1 x2 = some r' → wH D K loc sh ln iv rv H → va_S (wA loc sh s.heap.size) s.heap H locs → lv_has ls 3 [(0, wR loc 1), (1, .int a1), (2, .int x2)] → W p l e (headSpec wsX5_firstOf ({ frames := 0, cells := 0, slots := 0, locals := 0 })).room s m ([wR loc 1, .int a1] : List Value).toArray below meth c H locs 0 0 (MQ below (wQi D K loc sh ln iv rv s.heap.size r') ([wR loc 1, .int a1] : List Value).toArray s 0 0 (wA loc sh s.heap.size)) (F0 m 2 ls []) := by
    clear hf hl hS hH
    intro n1
    induction n1 with
    | zero => intro x2 H locs ls hf; cases hf
    | succ n1 ih =>
      intro x2 H locs ls hf hH hS hl
      rw [fX5_firstOf_2.eq_2] at hf
      refine lv_iload_n hx hb dX5_firstOf_2 rfl (lv_at hl 2 rfl) ?_
      refine wald_n hx hb dX5_firstOf_3 rfl (lv_at hl 0 rfl) ?_
      refine wg (C := RX5) (T := TX5) (N := 31) (v := .int (iv 1 8)) hx hb hts iX5 hown hKn.1 hH (q := 1) (hB.1 1 6 (by decide)) (by decide) rfl rfl 8 (by decide) k112 rfl dX5_firstOf_4 ?_
      refine lv_icmp_ge (tgt := 28) hx hb dX5_firstOf_7 (by decide) (fun c6 => ?_) (fun c6 => ?_)
      · have hf := wIt c6 hf
        refine lv_iconst (v := (-1)) hx hb dX5_firstOf_28 (by decide) ?_
        cases hf
        exact W.iret hx hb hr (fun t ht hW => ⟨⟨_, (), rfl, rfl, by show wH _ _ _ _ _ _ _ t.heap; rw [ht]; exact hH⟩, hS.F ht⟩) hS.2.2 dX5_firstOf_29
      · have hf := wIf c6 hf
        refine wald_n hx hb dX5_firstOf_10 rfl (lv_at hl 0 rfl) ?_
        refine wg (C := RX5) (T := TX5) (N := 31) (v := wR loc 24) hx hb hts iX5 hown hKn.1 hH (q := 1) (hB.1 1 6 (by decide)) (by decide) rfl rfl 14 (by decide) k38 rfl dX5_firstOf_11 ?_
        refine lv_iload_n hx hb dX5_firstOf_14 rfl (lv_at hl 2 rfl) ?_
        obtain ⟨g7, hf⟩ := wGd_e hf
        refine wia hx hb hKn.1 hH (hB.1 24 7 (by decide)) (hB.2.1 24 _ (by decide)) g7 dX5_firstOf_15 ?_
        refine lv_iload_n hx hb dX5_firstOf_16 rfl (lv_at hl 1 rfl) ?_
        refine lv_icmp_ne (tgt := 22) hx hb dX5_firstOf_17 (by decide) (fun c8 => ?_) (fun c8 => ?_)
        · have hf := wIf c8 hf
          refine lv_iinc (v := (x2 + 1)) (lv' := [(2, .int (x2 + 1)), (0, wR loc 1), (1, .int a1)]) hx hb dX5_firstOf_22 hl (k := 2) rfl rfl (by decide) rfl (fun ls hl => ?_)
          refine lv_goto (tgt := 2) hx hb dX5_firstOf_25 (by decide) ?_
          exact ih _ _ _ _ hf hH hS (lv_sub hl [1, 2, 0] rfl)
        · have hf := wIt c8 hf
          refine lv_iload_n hx hb dX5_firstOf_20 rfl (lv_at hl 2 rfl) ?_
          cases hf
          exact W.iret hx hb hr (fun t ht hW => ⟨⟨_, (), rfl, rfl, by show wH _ _ _ _ _ _ _ t.heap; rw [ht]; exact hH⟩, hS.F ht⟩) hS.2.2 dX5_firstOf_21
  exact lp5 wN _ _ _ _ hf hH hS (lv_sub hl [1, 2, 0] rfl)
noncomputable def fX5_begins  (iv : wI) (a1 : Int32) (a2 : Int32) (a3 : Int32) : Option (wI) := wGd (vp_in a1 100) (wLt (wU iv 24 a1.toNatClampNeg a2) (fun (iv2 : wI) => wLt (wU iv2 25 a1.toNatClampNeg a3) (fun (iv4 : wI) => some iv4)))
set_option maxHeartbeats 4000000 in
set_option maxRecDepth 100000 in
theorem mtX5_begins (l : Launch) (D : va_G) (K : Nat → ClassId) (loc sh ln : Nat → Nat) (iv : wI) (rv : wJ) (sz : Nat) (a1 : Int32) (a2 : Int32) (a3 : Int32) {iv' : wI} (hB : wBm sh ln) (hf : fX5_begins iv a1 a2 a3 = some iv') : Met l yX5_begins wsX5_begins ({ frames := 0, cells := 0, slots := 0, locals := 0 }) (wPc D K loc sh ln iv rv sz [wR loc 1, .int a1, .int a2, .int a3]) (wQv D K loc sh ln iv' rv sz) 0 0 (wA loc sh sz) := by
  refine Met.ofW (cc := cX5_begins) (maxL := 4) (ret := none) (by decide) rfl ?_
  intro p e s m args below meth c s₁ B hml hv
  obtain ⟨rfl, hsz, hH, hKn⟩ := hv
  have hx := B.exec
  have hb := B.bytes
  have hr := B.returns
  have hts := atoms_spec (ws := wsX5_begins) B.pre
  have hown : s.vm.findClass RX5 = some m.cls := findClass_of_methodNamed B.named
  have hlocks := B.notSynchronized
  subst hsz
  have hA : ∀ q : Nat, s.heap.size ≤ q → wA loc sh s.heap.size q := fun q h => Or.inr h
  have hO : ∀ a, sh a ≠ 0 → wA loc sh s.heap.size (loc a) := fun a h => Or.inl ⟨a, h, rfl⟩
  have hS : va_S (wA loc sh s.heap.size) s.heap s.heap [] := va_S.rf
  obtain ⟨ls, hen, hl⟩ := wEntry m [wR loc 1, .int a1, .int a2, .int a3] 4 (List.forall_mem_cons.mpr ⟨wR_cat _ _, List.forall_mem_cons.mpr ⟨rfl, List.forall_mem_cons.mpr ⟨rfl, List.forall_mem_cons.mpr ⟨rfl, fun _ h => absurd h List.not_mem_nil⟩⟩⟩⟩) (Nat.le_of_ble_eq_true rfl)
  rw [hen]
  clear hen
  have hl : lv_has ls 4 [(0, wR loc 1), (1, .int a1), (2, .int a2), (3, .int a3)] := hl
  have k38 := hts (.fieldLink RX5 38 "CupByCupModel" "state" "[I") (List.mem_of_getElem? (i := 1) rfl)
  have iX5 : ∀ w ∈ wsX50, w ∈ wsX5_begins := fun w h => List.mem_cons_of_mem _ (List.mem_append_right _ h)
  have k41 := hts (.fieldLink RX5 41 "CupByCupModel" "left" "[I") (List.mem_of_getElem? (i := 2) rfl)
  unfold fX5_begins at hf
  refine wald_n hx hb dX5_begins_0 rfl (lv_at hl 0 rfl) ?_
  refine wg (C := RX5) (T := TX5) (N := 31) (v := wR loc 24) hx hb hts iX5 hown hKn.1 hH (q := 1) (hB.1 1 6 (by decide)) (by decide) rfl rfl 14 (by decide) k38 rfl dX5_begins_1 ?_
  refine lv_iload_n hx hb dX5_begins_4 rfl (lv_at hl 1 rfl) ?_
  refine lv_iload_n hx hb dX5_begins_5 rfl (lv_at hl 2 rfl) ?_
  obtain ⟨g1, hf⟩ := wGd_e hf
  obtain ⟨iv2, e3, hf⟩ := wLt_e hf
  refine wis hx hb hKn.1 hH hO hS (hB.1 24 7 (by decide)) (hB.2.1 24 _ (by decide)) g1 dX5_begins_6 (fun H locs hH hS => ?_)
  rw [← e3] at hH
  refine wald_n hx hb dX5_begins_7 rfl (lv_at hl 0 rfl) ?_
  refine wg (C := RX5) (T := TX5) (N := 31) (v := wR loc 25) hx hb hts iX5 hown hKn.1 hH (q := 1) (hB.1 1 6 (by decide)) (by decide) rfl rfl 15 (by decide) k41 rfl dX5_begins_8 ?_
  refine lv_iload_n hx hb dX5_begins_11 rfl (lv_at hl 1 rfl) ?_
  refine lv_iload_n hx hb dX5_begins_12 rfl (lv_at hl 3 rfl) ?_
  obtain ⟨iv4, e5, hf⟩ := wLt_e hf
  refine wis hx hb hKn.1 hH hO hS (hB.1 25 7 (by decide)) (hB.2.1 25 _ (by decide)) g1 dX5_begins_13 (fun H locs hH hS => ?_)
  rw [← e5] at hH
  cases hf
  exact W.vret hx hb hr (fun t ht hW => ⟨⟨(), rfl, trivial, by show wH _ _ _ _ _ _ _ t.heap; rw [ht]; exact hH⟩, hS.F ht⟩) hS.2.2 dX5_begins_14
noncomputable def fX5_steams  (iv : wI) : Option (wI) := wBd (fX5_firstOf iv 4) (fun (r1 : Int32) => if r1 = (-1) then some iv else wBd (fX5_countOf iv 5) (fun (r4 : Int32) => if 0 < r4 then some iv else wBd (fX5_mayTake iv 3) (fun (r7 : Int32) => if r7 = 0 then some iv else wGd (vp_in 2 3) (wGd (vp_in r1 100) (if ((iv 20 r1.toNatClampNeg) - (iv 20 r1.toNatClampNeg) / 1000 * 1000) ≤ (iv 17 (2 : Int32).toNatClampNeg) then wLt (wU iv 17 (2 : Int32).toNatClampNeg ((iv 17 (2 : Int32).toNatClampNeg) - ((iv 20 r1.toNatClampNeg) - (iv 20 r1.toNatClampNeg) / 1000 * 1000))) (fun (iv13 : wI) => wBd (fX5_steam (iv13 19 r1.toNatClampNeg)) (fun (r15 : Int32) => wBd (fX5_begins iv13 r1 5 r15) (fun (iv17 : wI) => some iv17))) else some iv)))))
set_option maxHeartbeats 4000000 in
set_option maxRecDepth 100000 in
theorem mtX5_steams (l : Launch) (D : va_G) (K : Nat → ClassId) (loc sh ln : Nat → Nat) (iv : wI) (rv : wJ) (sz : Nat) {iv' : wI} (hB : wBm sh ln) (hf : fX5_steams iv = some iv') : Met l yX5_steams wsX5_steams ({ frames := 3, cells := 0, slots := 0, locals := 66 }) (wPc D K loc sh ln iv rv sz [wR loc 1]) (wQv D K loc sh ln iv' rv sz) 0 0 (wA loc sh sz) := by
  refine Met.ofW (cc := cX5_steams) (maxL := 2) (ret := none) (by decide) rfl ?_
  intro p e s m args below meth c s₁ B hml hv
  obtain ⟨rfl, hsz, hH, hKn⟩ := hv
  have hx := B.exec
  have hb := B.bytes
  have hr := B.returns
  have hts := atoms_spec (ws := wsX5_steams) B.pre
  have hown : s.vm.findClass RX5 = some m.cls := findClass_of_methodNamed B.named
  have hlocks := B.notSynchronized
  subst hsz
  have hA : ∀ q : Nat, s.heap.size ≤ q → wA loc sh s.heap.size q := fun q h => Or.inr h
  have hO : ∀ a, sh a ≠ 0 → wA loc sh s.heap.size (loc a) := fun a h => Or.inl ⟨a, h, rfl⟩
  have hS : va_S (wA loc sh s.heap.size) s.heap s.heap [] := va_S.rf
  obtain ⟨ls, hen, hl⟩ := wEntry m [wR loc 1] 2 (List.forall_mem_cons.mpr ⟨wR_cat _ _, fun _ h => absurd h List.not_mem_nil⟩) (Nat.le_of_ble_eq_true rfl)
  rw [hen]
  clear hen
  have hl : lv_has ls 2 [(0, wR loc 1)] := hl
  have k20 := hts (.fieldLink RX5 20 "CupByCupModel" "stores" "[I") (List.mem_of_getElem? (i := 1) rfl)
  have iX5 : ∀ w ∈ wsX50, w ∈ wsX5_steams := fun w h => List.mem_cons_of_mem _ (List.mem_append_right _ h)
  have k26 := hts (.fieldLink RX5 26 "CupByCupModel" "wet" "[I") (List.mem_of_getElem? (i := 2) rfl)
  have k23 := hts (.fieldLink RX5 23 "CupByCupModel" "what" "[I") (List.mem_of_getElem? (i := 3) rfl)
  unfold fX5_steams at hf
  refine wald_n hx hb dX5_steams_0 rfl (lv_at hl 0 rfl) ?_
  refine lv_iconst (v := 4) hx hb dX5_steams_1 (by decide) ?_
  obtain ⟨r1, h2, hf⟩ := wBd_e hf
  refine wci (va_runV (As := [.int 4]) (rest := []) ⟨hx, hb, hml, hown, hts⟩ (mtX5_firstOf l D K loc sh ln iv rv _ 4 hB h2) (cwV 1 hts gX5_steams_X5_firstOf rfl rfl rfl (by decide +kernel) ⟨Nat.le_of_ble_eq_true rfl, Nat.le_of_ble_eq_true rfl⟩) (wPreV hKn hH (hB.1 1 6 (by decide)) (by decide) rfl rfl) rfl rfl hl.1 rfl (lv_room (Nat.le_of_ble_eq_true rfl)) dX5_steams_2 ⟨Nat.zero_le _, Nat.zero_le _⟩) hS hO hA (fun H locs hH hS => ?_)
  refine lv_istore_n (lv' := [(1, .int r1), (0, wR loc 1)]) hx hb dX5_steams_5 rfl hl (by decide) rfl (fun ls hl => ?_)
  refine lv_iload_n hx hb dX5_steams_6 rfl (lv_at hl 0 rfl) ?_
  refine lv_iconst (v := (-1)) hx hb dX5_steams_7 (by decide) ?_
  refine lv_icmp_eq (tgt := 46) hx hb dX5_steams_8 (by decide) (fun c3 => ?_) (fun c3 => ?_)
  · have hf := wIt c3 hf
    cases hf
    exact W.vret hx hb hr (fun t ht hW => ⟨⟨(), rfl, trivial, by show wH _ _ _ _ _ _ _ t.heap; rw [ht]; exact hH⟩, hS.F ht⟩) hS.2.2 dX5_steams_46
  · have hf := wIf c3 hf
    refine wald_n hx hb dX5_steams_11 rfl (lv_at hl 1 rfl) ?_
    refine lv_iconst (v := 5) hx hb dX5_steams_12 (by decide) ?_
    obtain ⟨r4, h5, hf⟩ := wBd_e hf
    refine wci (va_runV (As := [.int 5]) (rest := []) ⟨hx, hb, hml, hown, hts⟩ (mtX5_countOf l D K loc sh ln iv rv _ 5 hB h5) (cwV 1 hts gX5_steams_X5_countOf rfl rfl rfl (by decide +kernel) ⟨Nat.le_of_ble_eq_true rfl, Nat.le_of_ble_eq_true rfl⟩) (wPreV hKn hH (hB.1 1 6 (by decide)) (by decide) rfl rfl) rfl rfl hl.1 rfl (lv_room (Nat.le_of_ble_eq_true rfl)) dX5_steams_13 ⟨Nat.zero_le _, Nat.zero_le _⟩) hS hO hA (fun H locs hH hS => ?_)
    refine lv_if_gt (tgt := 46) hx hb dX5_steams_16 (by decide) (fun c6 => ?_) (fun c6 => ?_)
    · have hf := wIt c6 hf
      cases hf
      exact W.vret hx hb hr (fun t ht hW => ⟨⟨(), rfl, trivial, by show wH _ _ _ _ _ _ _ t.heap; rw [ht]; exact hH⟩, hS.F ht⟩) hS.2.2 dX5_steams_46
    · have hf := wIf c6 hf
      refine wald_n hx hb dX5_steams_19 rfl (lv_at hl 1 rfl) ?_
      refine lv_iconst (v := 3) hx hb dX5_steams_20 (by decide) ?_
      obtain ⟨r7, h8, hf⟩ := wBd_e hf
      refine wci (va_runV (As := [.int 3]) (rest := []) ⟨hx, hb, hml, hown, hts⟩ (mtX5_mayTake l D K loc sh ln iv rv _ 3 hB h8) (cwV 1 hts gX5_steams_X5_mayTake rfl rfl rfl (by decide +kernel) ⟨Nat.le_of_ble_eq_true rfl, Nat.le_of_ble_eq_true rfl⟩) (wPreV hKn hH (hB.1 1 6 (by decide)) (by decide) rfl rfl) rfl rfl hl.1 rfl (lv_room (Nat.le_of_ble_eq_true rfl)) dX5_steams_21 ⟨Nat.zero_le _, Nat.zero_le _⟩) hS hO hA (fun H locs hH hS => ?_)
      refine lv_if_eq (tgt := 46) hx hb dX5_steams_24 (by decide) (fun c9 => ?_) (fun c9 => ?_)
      · have hf := wIt c9 hf
        cases hf
        exact W.vret hx hb hr (fun t ht hW => ⟨⟨(), rfl, trivial, by show wH _ _ _ _ _ _ _ t.heap; rw [ht]; exact hH⟩, hS.F ht⟩) hS.2.2 dX5_steams_46
      · have hf := wIf c9 hf
        refine wald_n hx hb dX5_steams_27 rfl (lv_at hl 1 rfl) ?_
        refine wg (C := RX5) (T := TX5) (N := 31) (v := wR loc 17) hx hb hts iX5 hown hKn.1 hH (q := 1) (hB.1 1 6 (by decide)) (by decide) rfl rfl 7 (by decide) k20 rfl dX5_steams_28 ?_
        refine lv_iconst (v := 2) hx hb dX5_steams_31 (by decide) ?_
        obtain ⟨g10, hf⟩ := wGd_e hf
        refine wia hx hb hKn.1 hH (hB.1 17 7 (by decide)) (hB.2.1 17 _ (by decide)) g10 dX5_steams_32 ?_
        refine wald_n hx hb dX5_steams_33 rfl (lv_at hl 1 rfl) ?_
        refine wg (C := RX5) (T := TX5) (N := 31) (v := wR loc 20) hx hb hts iX5 hown hKn.1 hH (q := 1) (hB.1 1 6 (by decide)) (by decide) rfl rfl 10 (by decide) k26 rfl dX5_steams_34 ?_
        refine lv_iload_n hx hb dX5_steams_37 rfl (lv_at hl 0 rfl) ?_
        obtain ⟨g11, hf⟩ := wGd_e hf
        refine wia hx hb hKn.1 hH (hB.1 20 7 (by decide)) (hB.2.1 20 _ (by decide)) g11 dX5_steams_38 ?_
        refine lv_sipush (v := 1000) hx hb dX5_steams_39 (by decide) ?_
        refine lv_irem hx hb dX5_steams_42 (by decide) ?_
        refine lv_icmp_ge (tgt := 47) hx hb dX5_steams_43 (by decide) (fun c12 => ?_) (fun c12 => ?_)
        · have hf := wIt c12 hf
          refine wald_n hx hb dX5_steams_47 rfl (lv_at hl 1 rfl) ?_
          refine wg (C := RX5) (T := TX5) (N := 31) (v := wR loc 17) hx hb hts iX5 hown hKn.1 hH (q := 1) (hB.1 1 6 (by decide)) (by decide) rfl rfl 7 (by decide) k20 rfl dX5_steams_48 ?_
          refine lv_iconst (v := 2) hx hb dX5_steams_51 (by decide) ?_
          refine lv_dup2_11 hx hb dX5_steams_52 rfl (wR_cat _ _) ?_
          refine wia hx hb hKn.1 hH (hB.1 17 7 (by decide)) (hB.2.1 17 _ (by decide)) g10 dX5_steams_53 ?_
          refine wald_n hx hb dX5_steams_54 rfl (lv_at hl 1 rfl) ?_
          refine wg (C := RX5) (T := TX5) (N := 31) (v := wR loc 20) hx hb hts iX5 hown hKn.1 hH (q := 1) (hB.1 1 6 (by decide)) (by decide) rfl rfl 10 (by decide) k26 rfl dX5_steams_55 ?_
          refine lv_iload_n hx hb dX5_steams_58 rfl (lv_at hl 0 rfl) ?_
          refine wia hx hb hKn.1 hH (hB.1 20 7 (by decide)) (hB.2.1 20 _ (by decide)) g11 dX5_steams_59 ?_
          refine lv_sipush (v := 1000) hx hb dX5_steams_60 (by decide) ?_
          refine lv_irem hx hb dX5_steams_63 (by decide) ?_
          refine lv_isub hx hb dX5_steams_64 ?_
          obtain ⟨iv13, e14, hf⟩ := wLt_e hf
          refine wis hx hb hKn.1 hH hO hS (hB.1 17 7 (by decide)) (hB.2.1 17 _ (by decide)) g10 dX5_steams_65 (fun H locs hH hS => ?_)
          rw [← e14] at hH
          refine wald_n hx hb dX5_steams_66 rfl (lv_at hl 1 rfl) ?_
          refine lv_iload_n hx hb dX5_steams_67 rfl (lv_at hl 0 rfl) ?_
          refine lv_iconst (v := 5) hx hb dX5_steams_68 (by decide) ?_
          refine wald_n hx hb dX5_steams_69 rfl (lv_at hl 1 rfl) ?_
          refine wg (C := RX5) (T := TX5) (N := 31) (v := wR loc 19) hx hb hts iX5 hown hKn.1 hH (q := 1) (hB.1 1 6 (by decide)) (by decide) rfl rfl 9 (by decide) k23 rfl dX5_steams_70 ?_
          refine lv_iload_n hx hb dX5_steams_73 rfl (lv_at hl 0 rfl) ?_
          refine wia hx hb hKn.1 hH (hB.1 19 7 (by decide)) (hB.2.1 19 _ (by decide)) g11 dX5_steams_74 ?_
          obtain ⟨r15, h16, hf⟩ := wBd_e hf
          refine wci (va_runS (As := [.int (iv13 19 r1.toNatClampNeg)]) (rest := [.int 5, .int r1, wR loc 1]) ⟨hx, hb, hml, hown, hts⟩ (mtX5_steam l D K loc sh ln iv13 rv _ (iv13 19 r1.toNatClampNeg) h16) (va_cwS 1 hts gX5_steams_X5_steam rfl rfl rfl (by decide +kernel) ⟨Nat.le_of_ble_eq_true rfl, Nat.le_of_ble_eq_true rfl⟩) (wPreS hKn hH) rfl rfl hl.1 rfl (lv_room (Nat.le_of_ble_eq_true rfl)) dX5_steams_75 ⟨Nat.zero_le _, Nat.zero_le _⟩) hS hO hA (fun H locs hH hS => ?_)
          obtain ⟨iv17, h18, hf⟩ := wBd_e hf
          refine wcv (va_runV (As := [.int r1, .int 5, .int r15]) (rest := []) ⟨hx, hb, hml, hown, hts⟩ (mtX5_begins l D K loc sh ln iv13 rv _ r1 5 r15 hB h18) (cwV 3 hts gX5_steams_X5_begins rfl rfl rfl (by decide +kernel) ⟨Nat.le_of_ble_eq_true rfl, Nat.le_of_ble_eq_true rfl⟩) (wPreV hKn hH (hB.1 1 6 (by decide)) (by decide) rfl rfl) rfl rfl hl.1 rfl (lv_room (Nat.le_of_ble_eq_true rfl)) dX5_steams_78 ⟨Nat.zero_le _, Nat.zero_le _⟩) hS hO hA (fun H locs hH hS => ?_)
          cases hf
          exact W.vret hx hb hr (fun t ht hW => ⟨⟨(), rfl, trivial, by show wH _ _ _ _ _ _ _ t.heap; rw [ht]; exact hH⟩, hS.F ht⟩) hS.2.2 dX5_steams_81
        · have hf := wIf c12 hf
          cases hf
          exact W.vret hx hb hr (fun t ht hW => ⟨⟨(), rfl, trivial, by show wH _ _ _ _ _ _ _ t.heap; rw [ht]; exact hH⟩, hS.F ht⟩) hS.2.2 dX5_steams_46
noncomputable def fX5_cleans_22  : Nat → wI → Int32 → Int32 → Option (wI)
  | 0, _, _, _ => none
  | n + 1, iv, x1, x2 => if (iv 1 0) ≤ x2 then some iv else wBd (fX5_isFree iv x2) (fun (r10 : Int32) => if r10 = 0 then fX5_cleans_22 n iv x1 (x2 + 1) else wGd (vp_in x2 3) (if 10 ≤ (iv 31 x2.toNatClampNeg) then wBd (fX5_mayTake iv 2) (fun (r15 : Int32) => if r15 = 0 then fX5_cleans_22 n iv x1 (x2 + 1) else wGd (vp_in 1 3) (if 20 ≤ (iv 17 (1 : Int32).toNatClampNeg) then wLt (wU iv 17 (1 : Int32).toNatClampNeg ((iv 17 (1 : Int32).toNatClampNeg) - 20)) (fun (iv20 : wI) => wLt (wU iv20 30 x2.toNatClampNeg 6) (fun (iv22 : wI) => fX5_cleans_22 n iv22 x1 (x2 + 1))) else fX5_cleans_22 n iv x1 (x2 + 1))) else if (iv 31 x2.toNatClampNeg) < 5 then fX5_cleans_22 n iv x1 (x2 + 1) else if x1 = 0 then fX5_cleans_22 n iv x1 (x2 + 1) else wBd (fX5_mayTake iv 2) (fun (r26 : Int32) => if r26 = 0 then fX5_cleans_22 n iv x1 (x2 + 1) else wGd (vp_in 1 3) (if 20 ≤ (iv 17 (1 : Int32).toNatClampNeg) then wLt (wU iv 17 (1 : Int32).toNatClampNeg ((iv 17 (1 : Int32).toNatClampNeg) - 20)) (fun (iv31 : wI) => wLt (wU iv31 30 x2.toNatClampNeg 6) (fun (iv33 : wI) => fX5_cleans_22 n iv33 x1 (x2 + 1))) else fX5_cleans_22 n iv x1 (x2 + 1)))))
noncomputable def fX5_cleans  (iv : wI) : Option (wI) := wBd (fX5_countOf iv 0) (fun (r1 : Int32) => wBd (fX5_countOf iv 2) (fun (r3 : Int32) => wBd (if (r1 + r3) = 0 then some (1 : Int32) else some (0 : Int32)) (fun (z6 : Int32) => wBd (fX5_cleans_22 wN iv z6 0) (fun (iv15 : wI) => some iv15))))
set_option maxHeartbeats 4000000 in
set_option maxRecDepth 100000 in
theorem mtX5_cleans (l : Launch) (D : va_G) (K : Nat → ClassId) (loc sh ln : Nat → Nat) (iv : wI) (rv : wJ) (sz : Nat) {iv' : wI} (hB : wBm sh ln) (hf : fX5_cleans iv = some iv') : Met l yX5_cleans wsX5_cleans ({ frames := 3, cells := 0, slots := 0, locals := 66 }) (wPc D K loc sh ln iv rv sz [wR loc 1]) (wQv D K loc sh ln iv' rv sz) 0 0 (wA loc sh sz) := by
  refine Met.ofW (cc := cX5_cleans) (maxL := 3) (ret := none) (by decide) rfl ?_
  intro p e s m args below meth c s₁ B hml hv
  obtain ⟨rfl, hsz, hH, hKn⟩ := hv
  have hx := B.exec
  have hb := B.bytes
  have hr := B.returns
  have hts := atoms_spec (ws := wsX5_cleans) B.pre
  have hown : s.vm.findClass RX5 = some m.cls := findClass_of_methodNamed B.named
  have hlocks := B.notSynchronized
  subst hsz
  have hA : ∀ q : Nat, s.heap.size ≤ q → wA loc sh s.heap.size q := fun q h => Or.inr h
  have hO : ∀ a, sh a ≠ 0 → wA loc sh s.heap.size (loc a) := fun a h => Or.inl ⟨a, h, rfl⟩
  have hS : va_S (wA loc sh s.heap.size) s.heap s.heap [] := va_S.rf
  obtain ⟨ls, hen, hl⟩ := wEntry m [wR loc 1] 3 (List.forall_mem_cons.mpr ⟨wR_cat _ _, fun _ h => absurd h List.not_mem_nil⟩) (Nat.le_of_ble_eq_true rfl)
  rw [hen]
  clear hen
  have hl : lv_has ls 3 [(0, wR loc 1)] := hl
  have k80 := hts (.fieldLink RX5 80 "CupByCupModel" "groups" "I") (List.mem_of_getElem? (i := 1) rfl)
  have iX5 : ∀ w ∈ wsX50, w ∈ wsX5_cleans := fun w h => List.mem_cons_of_mem _ (List.mem_append_right _ h)
  have k59 := hts (.fieldLink RX5 59 "CupByCupModel" "due" "[I") (List.mem_of_getElem? (i := 2) rfl)
  have k20 := hts (.fieldLink RX5 20 "CupByCupModel" "stores" "[I") (List.mem_of_getElem? (i := 3) rfl)
  have k56 := hts (.fieldLink RX5 56 "CupByCupModel" "rinses" "[I") (List.mem_of_getElem? (i := 4) rfl)
  unfold fX5_cleans at hf
  refine wald_n hx hb dX5_cleans_0 rfl (lv_at hl 0 rfl) ?_
  refine lv_iconst (v := 0) hx hb dX5_cleans_1 (by decide) ?_
  obtain ⟨r1, h2, hf⟩ := wBd_e hf
  refine wci (va_runV (As := [.int 0]) (rest := []) ⟨hx, hb, hml, hown, hts⟩ (mtX5_countOf l D K loc sh ln iv rv _ 0 hB h2) (cwV 1 hts gX5_cleans_X5_countOf rfl rfl rfl (by decide +kernel) ⟨Nat.le_of_ble_eq_true rfl, Nat.le_of_ble_eq_true rfl⟩) (wPreV hKn hH (hB.1 1 6 (by decide)) (by decide) rfl rfl) rfl rfl hl.1 rfl (lv_room (Nat.le_of_ble_eq_true rfl)) dX5_cleans_2 ⟨Nat.zero_le _, Nat.zero_le _⟩) hS hO hA (fun H locs hH hS => ?_)
  refine wald_n hx hb dX5_cleans_5 rfl (lv_at hl 0 rfl) ?_
  refine lv_iconst (v := 2) hx hb dX5_cleans_6 (by decide) ?_
  obtain ⟨r3, h4, hf⟩ := wBd_e hf
  refine wci (va_runV (As := [.int 2]) (rest := [.int r1]) ⟨hx, hb, hml, hown, hts⟩ (mtX5_countOf l D K loc sh ln iv rv _ 2 hB h4) (cwV 1 hts gX5_cleans_X5_countOf rfl rfl rfl (by decide +kernel) ⟨Nat.le_of_ble_eq_true rfl, Nat.le_of_ble_eq_true rfl⟩) (wPreV hKn hH (hB.1 1 6 (by decide)) (by decide) rfl rfl) rfl rfl hl.1 rfl (lv_room (Nat.le_of_ble_eq_true rfl)) dX5_cleans_7 ⟨Nat.zero_le _, Nat.zero_le _⟩) hS hO hA (fun H locs hH hS => ?_)
  refine lv_iadd hx hb dX5_cleans_10 ?_
  obtain ⟨z6, hv7, hf⟩ := wBd_e hf
  have hj8 : ∀ (H : Heap) (locs : List Loc) (ls : Array Slot), wH D K loc sh ln iv rv H → va_S (wA loc sh s.heap.size) s.heap H locs → lv_has ls 3 [(0, wR loc 1)] → W p l e (headSpec wsX5_cleans ({ frames := 3, cells := 0, slots := 0, locals := 66 })).room s m ([wR loc 1] : List Value).toArray below meth c H locs 0 0 (MQ below (wQv D K loc sh ln iv' rv s.heap.size) ([wR loc 1] : List Value).toArray s 0 0 (wA loc sh s.heap.size)) (F0 m 19 ls [.int z6]) := by
    intro H locs ls hH hS hl
    refine lv_istore_n (lv' := [(1, .int z6), (0, wR loc 1)]) hx hb dX5_cleans_19 rfl hl (by decide) rfl (fun ls hl => ?_)
    refine lv_iconst (v := 0) hx hb dX5_cleans_20 (by decide) ?_
    refine lv_istore_n (lv' := [(2, .int 0), (1, .int z6), (0, wR loc 1)]) hx hb dX5_cleans_21 rfl hl (by decide) rfl (fun ls hl => ?_)
    obtain ⟨iv15, hL12, hf⟩ := wBd_e hf
    have hk13 : ∀ (H : Heap) (locs : List Loc) (ls : Array Slot), wH D K loc sh ln iv15 rv H → va_S (wA loc sh s.heap.size) s.heap H locs → lv_has ls 3 [] → W p l e (headSpec wsX5_cleans ({ frames := 3, cells := 0, slots := 0, locals := 66 })).room s m ([wR loc 1] : List Value).toArray below meth c H locs 0 0 (MQ below (wQv D K loc sh ln iv' rv s.heap.size) ([wR loc 1] : List Value).toArray s 0 0 (wA loc sh s.heap.size)) (F0 m 110 ls []) := by
      clear hL12 hl hS hH
      intro H locs ls hH hS hl
      cases hf
      exact W.vret hx hb hr (fun t ht hW => ⟨⟨(), rfl, trivial, by show wH _ _ _ _ _ _ _ t.heap; rw [ht]; exact hH⟩, hS.F ht⟩) hS.2.2 dX5_cleans_110
    have lp14 : ∀ (n9 : Nat) (iv10 : wI) (x11 : Int32) (H : Heap) (locs : List Loc) (ls : Array Slot), fX5_cleans_22 n9 iv10 z6 x11 = some iv15 → wH D K loc sh ln iv10 rv H → va_S (wA loc sh s.heap.size) s.heap H locs → lv_has ls 3 [(0, wR loc 1), (1, .int z6), (2, .int x11)] → W p l e (headSpec wsX5_cleans ({ frames := 3, cells := 0, slots := 0, locals := 66 })).room s m ([wR loc 1] : List Value).toArray below meth c H locs 0 0 (MQ below (wQv D K loc sh ln iv' rv s.heap.size) ([wR loc 1] : List Value).toArray s 0 0 (wA loc sh s.heap.size)) (F0 m 22 ls []) := by
      clear hf hl hS hH hL12
      intro n9
      induction n9 with
      | zero => intro iv10 x11 H locs ls hf; cases hf
      | succ n9 ih =>
        intro iv10 x11 H locs ls hf hH hS hl
        rw [fX5_cleans_22.eq_2] at hf
        refine lv_iload_n hx hb dX5_cleans_22 rfl (lv_at hl 2 rfl) ?_
        refine wald_n hx hb dX5_cleans_23 rfl (lv_at hl 0 rfl) ?_
        refine wg (C := RX5) (T := TX5) (N := 31) (v := .int (iv10 1 0)) hx hb hts iX5 hown hKn.1 hH (q := 1) (hB.1 1 6 (by decide)) (by decide) rfl rfl 0 (by decide) k80 rfl dX5_cleans_24 ?_
        refine lv_icmp_ge (tgt := 110) hx hb dX5_cleans_27 (by decide) (fun c16 => ?_) (fun c16 => ?_)
        · have hf := wIt c16 hf
          cases hf
          exact hk13 _ _ _ hH hS (lv_sub hl [] rfl)
        · have hf := wIf c16 hf
          refine wald_n hx hb dX5_cleans_30 rfl (lv_at hl 0 rfl) ?_
          refine lv_iload_n hx hb dX5_cleans_31 rfl (lv_at hl 2 rfl) ?_
          obtain ⟨r17, h18, hf⟩ := wBd_e hf
          refine wci (va_runV (As := [.int x11]) (rest := []) ⟨hx, hb, hml, hown, hts⟩ (mtX5_isFree l D K loc sh ln iv10 rv _ x11 hB h18) (cwV 1 hts gX5_cleans_X5_isFree rfl rfl rfl (by decide +kernel) ⟨Nat.le_of_ble_eq_true rfl, Nat.le_of_ble_eq_true rfl⟩) (wPreV hKn hH (hB.1 1 6 (by decide)) (by decide) rfl rfl) rfl rfl hl.1 rfl (lv_room (Nat.le_of_ble_eq_true rfl)) dX5_cleans_32 ⟨Nat.zero_le _, Nat.zero_le _⟩) hS hO hA (fun H locs hH hS => ?_)
          refine lv_if_eq (tgt := 104) hx hb dX5_cleans_35 (by decide) (fun c19 => ?_) (fun c19 => ?_)
          · have hf := wIt c19 hf
            refine lv_iinc (v := (x11 + 1)) (lv' := [(2, .int (x11 + 1)), (0, wR loc 1), (1, .int z6)]) hx hb dX5_cleans_104 hl (k := 2) rfl rfl (by decide) rfl (fun ls hl => ?_)
            refine lv_goto (tgt := 22) hx hb dX5_cleans_107 (by decide) ?_
            exact ih _ _ _ _ _ hf hH hS (lv_sub hl [1, 2, 0] rfl)
          · have hf := wIf c19 hf
            refine wald_n hx hb dX5_cleans_38 rfl (lv_at hl 0 rfl) ?_
            refine wg (C := RX5) (T := TX5) (N := 31) (v := wR loc 31) hx hb hts iX5 hown hKn.1 hH (q := 1) (hB.1 1 6 (by decide)) (by decide) rfl rfl 21 (by decide) k59 rfl dX5_cleans_39 ?_
            refine lv_iload_n hx hb dX5_cleans_42 rfl (lv_at hl 2 rfl) ?_
            obtain ⟨g20, hf⟩ := wGd_e hf
            refine wia hx hb hKn.1 hH (hB.1 31 7 (by decide)) (hB.2.1 31 _ (by decide)) g20 dX5_cleans_43 ?_
            refine lv_bipush (v := 10) hx hb dX5_cleans_44 (by decide) ?_
            refine lv_icmp_ge (tgt := 63) hx hb dX5_cleans_46 (by decide) (fun c21 => ?_) (fun c21 => ?_)
            · have hf := wIt c21 hf
              refine wald_n hx hb dX5_cleans_63 rfl (lv_at hl 0 rfl) ?_
              refine lv_iconst (v := 2) hx hb dX5_cleans_64 (by decide) ?_
              obtain ⟨r22, h23, hf⟩ := wBd_e hf
              refine wci (va_runV (As := [.int 2]) (rest := []) ⟨hx, hb, hml, hown, hts⟩ (mtX5_mayTake l D K loc sh ln iv10 rv _ 2 hB h23) (cwV 1 hts gX5_cleans_X5_mayTake rfl rfl rfl (by decide +kernel) ⟨Nat.le_of_ble_eq_true rfl, Nat.le_of_ble_eq_true rfl⟩) (wPreV hKn hH (hB.1 1 6 (by decide)) (by decide) rfl rfl) rfl rfl hl.1 rfl (lv_room (Nat.le_of_ble_eq_true rfl)) dX5_cleans_65 ⟨Nat.zero_le _, Nat.zero_le _⟩) hS hO hA (fun H locs hH hS => ?_)
              refine lv_if_eq (tgt := 104) hx hb dX5_cleans_68 (by decide) (fun c24 => ?_) (fun c24 => ?_)
              · have hf := wIt c24 hf
                refine lv_iinc (v := (x11 + 1)) (lv' := [(2, .int (x11 + 1)), (0, wR loc 1), (1, .int z6)]) hx hb dX5_cleans_104 hl (k := 2) rfl rfl (by decide) rfl (fun ls hl => ?_)
                refine lv_goto (tgt := 22) hx hb dX5_cleans_107 (by decide) ?_
                exact ih _ _ _ _ _ hf hH hS (lv_sub hl [1, 2, 0] rfl)
              · have hf := wIf c24 hf
                refine wald_n hx hb dX5_cleans_71 rfl (lv_at hl 0 rfl) ?_
                refine wg (C := RX5) (T := TX5) (N := 31) (v := wR loc 17) hx hb hts iX5 hown hKn.1 hH (q := 1) (hB.1 1 6 (by decide)) (by decide) rfl rfl 7 (by decide) k20 rfl dX5_cleans_72 ?_
                refine lv_iconst (v := 1) hx hb dX5_cleans_75 (by decide) ?_
                obtain ⟨g25, hf⟩ := wGd_e hf
                refine wia hx hb hKn.1 hH (hB.1 17 7 (by decide)) (hB.2.1 17 _ (by decide)) g25 dX5_cleans_76 ?_
                refine lv_bipush (v := 20) hx hb dX5_cleans_77 (by decide) ?_
                refine lv_icmp_ge (tgt := 85) hx hb dX5_cleans_79 (by decide) (fun c26 => ?_) (fun c26 => ?_)
                · have hf := wIt c26 hf
                  refine wald_n hx hb dX5_cleans_85 rfl (lv_at hl 0 rfl) ?_
                  refine wg (C := RX5) (T := TX5) (N := 31) (v := wR loc 17) hx hb hts iX5 hown hKn.1 hH (q := 1) (hB.1 1 6 (by decide)) (by decide) rfl rfl 7 (by decide) k20 rfl dX5_cleans_86 ?_
                  refine lv_iconst (v := 1) hx hb dX5_cleans_89 (by decide) ?_
                  refine lv_dup2_11 hx hb dX5_cleans_90 rfl (wR_cat _ _) ?_
                  refine wia hx hb hKn.1 hH (hB.1 17 7 (by decide)) (hB.2.1 17 _ (by decide)) g25 dX5_cleans_91 ?_
                  refine lv_bipush (v := 20) hx hb dX5_cleans_92 (by decide) ?_
                  refine lv_isub hx hb dX5_cleans_94 ?_
                  obtain ⟨iv27, e28, hf⟩ := wLt_e hf
                  refine wis hx hb hKn.1 hH hO hS (hB.1 17 7 (by decide)) (hB.2.1 17 _ (by decide)) g25 dX5_cleans_95 (fun H locs hH hS => ?_)
                  rw [← e28] at hH
                  refine wald_n hx hb dX5_cleans_96 rfl (lv_at hl 0 rfl) ?_
                  refine wg (C := RX5) (T := TX5) (N := 31) (v := wR loc 30) hx hb hts iX5 hown hKn.1 hH (q := 1) (hB.1 1 6 (by decide)) (by decide) rfl rfl 20 (by decide) k56 rfl dX5_cleans_97 ?_
                  refine lv_iload_n hx hb dX5_cleans_100 rfl (lv_at hl 2 rfl) ?_
                  refine lv_bipush (v := 6) hx hb dX5_cleans_101 (by decide) ?_
                  obtain ⟨iv29, e30, hf⟩ := wLt_e hf
                  refine wis hx hb hKn.1 hH hO hS (hB.1 30 7 (by decide)) (hB.2.1 30 _ (by decide)) g20 dX5_cleans_103 (fun H locs hH hS => ?_)
                  rw [← e30] at hH
                  refine lv_iinc (v := (x11 + 1)) (lv' := [(2, .int (x11 + 1)), (0, wR loc 1), (1, .int z6)]) hx hb dX5_cleans_104 hl (k := 2) rfl rfl (by decide) rfl (fun ls hl => ?_)
                  refine lv_goto (tgt := 22) hx hb dX5_cleans_107 (by decide) ?_
                  exact ih _ _ _ _ _ hf hH hS (lv_sub hl [1, 2, 0] rfl)
                · have hf := wIf c26 hf
                  refine lv_goto (tgt := 104) hx hb dX5_cleans_82 (by decide) ?_
                  refine lv_iinc (v := (x11 + 1)) (lv' := [(2, .int (x11 + 1)), (0, wR loc 1), (1, .int z6)]) hx hb dX5_cleans_104 hl (k := 2) rfl rfl (by decide) rfl (fun ls hl => ?_)
                  refine lv_goto (tgt := 22) hx hb dX5_cleans_107 (by decide) ?_
                  exact ih _ _ _ _ _ hf hH hS (lv_sub hl [1, 2, 0] rfl)
            · have hf := wIf c21 hf
              refine wald_n hx hb dX5_cleans_49 rfl (lv_at hl 0 rfl) ?_
              refine wg (C := RX5) (T := TX5) (N := 31) (v := wR loc 31) hx hb hts iX5 hown hKn.1 hH (q := 1) (hB.1 1 6 (by decide)) (by decide) rfl rfl 21 (by decide) k59 rfl dX5_cleans_50 ?_
              refine lv_iload_n hx hb dX5_cleans_53 rfl (lv_at hl 2 rfl) ?_
              refine wia hx hb hKn.1 hH (hB.1 31 7 (by decide)) (hB.2.1 31 _ (by decide)) g20 dX5_cleans_54 ?_
              refine lv_iconst (v := 5) hx hb dX5_cleans_55 (by decide) ?_
              refine lv_icmp_lt (tgt := 104) hx hb dX5_cleans_56 (by decide) (fun c31 => ?_) (fun c31 => ?_)
              · have hf := wIt c31 hf
                refine lv_iinc (v := (x11 + 1)) (lv' := [(2, .int (x11 + 1)), (0, wR loc 1), (1, .int z6)]) hx hb dX5_cleans_104 hl (k := 2) rfl rfl (by decide) rfl (fun ls hl => ?_)
                refine lv_goto (tgt := 22) hx hb dX5_cleans_107 (by decide) ?_
                exact ih _ _ _ _ _ hf hH hS (lv_sub hl [1, 2, 0] rfl)
              · have hf := wIf c31 hf
                refine lv_iload_n hx hb dX5_cleans_59 rfl (lv_at hl 1 rfl) ?_
                refine lv_if_eq (tgt := 104) hx hb dX5_cleans_60 (by decide) (fun c32 => ?_) (fun c32 => ?_)
                · have hf := wIt c32 hf
                  refine lv_iinc (v := (x11 + 1)) (lv' := [(2, .int (x11 + 1)), (0, wR loc 1), (1, .int z6)]) hx hb dX5_cleans_104 hl (k := 2) rfl rfl (by decide) rfl (fun ls hl => ?_)
                  refine lv_goto (tgt := 22) hx hb dX5_cleans_107 (by decide) ?_
                  exact ih _ _ _ _ _ hf hH hS (lv_sub hl [1, 2, 0] rfl)
                · have hf := wIf c32 hf
                  refine wald_n hx hb dX5_cleans_63 rfl (lv_at hl 0 rfl) ?_
                  refine lv_iconst (v := 2) hx hb dX5_cleans_64 (by decide) ?_
                  obtain ⟨r33, h34, hf⟩ := wBd_e hf
                  refine wci (va_runV (As := [.int 2]) (rest := []) ⟨hx, hb, hml, hown, hts⟩ (mtX5_mayTake l D K loc sh ln iv10 rv _ 2 hB h34) (cwV 1 hts gX5_cleans_X5_mayTake rfl rfl rfl (by decide +kernel) ⟨Nat.le_of_ble_eq_true rfl, Nat.le_of_ble_eq_true rfl⟩) (wPreV hKn hH (hB.1 1 6 (by decide)) (by decide) rfl rfl) rfl rfl hl.1 rfl (lv_room (Nat.le_of_ble_eq_true rfl)) dX5_cleans_65 ⟨Nat.zero_le _, Nat.zero_le _⟩) hS hO hA (fun H locs hH hS => ?_)
                  refine lv_if_eq (tgt := 104) hx hb dX5_cleans_68 (by decide) (fun c35 => ?_) (fun c35 => ?_)
                  · have hf := wIt c35 hf
                    refine lv_iinc (v := (x11 + 1)) (lv' := [(2, .int (x11 + 1)), (0, wR loc 1), (1, .int z6)]) hx hb dX5_cleans_104 hl (k := 2) rfl rfl (by decide) rfl (fun ls hl => ?_)
                    refine lv_goto (tgt := 22) hx hb dX5_cleans_107 (by decide) ?_
                    exact ih _ _ _ _ _ hf hH hS (lv_sub hl [1, 2, 0] rfl)
                  · have hf := wIf c35 hf
                    refine wald_n hx hb dX5_cleans_71 rfl (lv_at hl 0 rfl) ?_
                    refine wg (C := RX5) (T := TX5) (N := 31) (v := wR loc 17) hx hb hts iX5 hown hKn.1 hH (q := 1) (hB.1 1 6 (by decide)) (by decide) rfl rfl 7 (by decide) k20 rfl dX5_cleans_72 ?_
                    refine lv_iconst (v := 1) hx hb dX5_cleans_75 (by decide) ?_
                    obtain ⟨g36, hf⟩ := wGd_e hf
                    refine wia hx hb hKn.1 hH (hB.1 17 7 (by decide)) (hB.2.1 17 _ (by decide)) g36 dX5_cleans_76 ?_
                    refine lv_bipush (v := 20) hx hb dX5_cleans_77 (by decide) ?_
                    refine lv_icmp_ge (tgt := 85) hx hb dX5_cleans_79 (by decide) (fun c37 => ?_) (fun c37 => ?_)
                    · have hf := wIt c37 hf
                      refine wald_n hx hb dX5_cleans_85 rfl (lv_at hl 0 rfl) ?_
                      refine wg (C := RX5) (T := TX5) (N := 31) (v := wR loc 17) hx hb hts iX5 hown hKn.1 hH (q := 1) (hB.1 1 6 (by decide)) (by decide) rfl rfl 7 (by decide) k20 rfl dX5_cleans_86 ?_
                      refine lv_iconst (v := 1) hx hb dX5_cleans_89 (by decide) ?_
                      refine lv_dup2_11 hx hb dX5_cleans_90 rfl (wR_cat _ _) ?_
                      refine wia hx hb hKn.1 hH (hB.1 17 7 (by decide)) (hB.2.1 17 _ (by decide)) g36 dX5_cleans_91 ?_
                      refine lv_bipush (v := 20) hx hb dX5_cleans_92 (by decide) ?_
                      refine lv_isub hx hb dX5_cleans_94 ?_
                      obtain ⟨iv38, e39, hf⟩ := wLt_e hf
                      refine wis hx hb hKn.1 hH hO hS (hB.1 17 7 (by decide)) (hB.2.1 17 _ (by decide)) g36 dX5_cleans_95 (fun H locs hH hS => ?_)
                      rw [← e39] at hH
                      refine wald_n hx hb dX5_cleans_96 rfl (lv_at hl 0 rfl) ?_
                      refine wg (C := RX5) (T := TX5) (N := 31) (v := wR loc 30) hx hb hts iX5 hown hKn.1 hH (q := 1) (hB.1 1 6 (by decide)) (by decide) rfl rfl 20 (by decide) k56 rfl dX5_cleans_97 ?_
                      refine lv_iload_n hx hb dX5_cleans_100 rfl (lv_at hl 2 rfl) ?_
                      refine lv_bipush (v := 6) hx hb dX5_cleans_101 (by decide) ?_
                      obtain ⟨iv40, e41, hf⟩ := wLt_e hf
                      refine wis hx hb hKn.1 hH hO hS (hB.1 30 7 (by decide)) (hB.2.1 30 _ (by decide)) g20 dX5_cleans_103 (fun H locs hH hS => ?_)
                      rw [← e41] at hH
                      refine lv_iinc (v := (x11 + 1)) (lv' := [(2, .int (x11 + 1)), (0, wR loc 1), (1, .int z6)]) hx hb dX5_cleans_104 hl (k := 2) rfl rfl (by decide) rfl (fun ls hl => ?_)
                      refine lv_goto (tgt := 22) hx hb dX5_cleans_107 (by decide) ?_
                      exact ih _ _ _ _ _ hf hH hS (lv_sub hl [1, 2, 0] rfl)
                    · have hf := wIf c37 hf
                      refine lv_goto (tgt := 104) hx hb dX5_cleans_82 (by decide) ?_
                      refine lv_iinc (v := (x11 + 1)) (lv' := [(2, .int (x11 + 1)), (0, wR loc 1), (1, .int z6)]) hx hb dX5_cleans_104 hl (k := 2) rfl rfl (by decide) rfl (fun ls hl => ?_)
                      refine lv_goto (tgt := 22) hx hb dX5_cleans_107 (by decide) ?_
                      exact ih _ _ _ _ _ hf hH hS (lv_sub hl [1, 2, 0] rfl)
    exact lp14 wN _ _ _ _ _ hL12 hH hS (lv_sub hl [2, 1, 0] rfl)
  clear hf
  have hf := hv7
  clear hv7
  refine lv_if_ne (tgt := 18) hx hb dX5_cleans_11 (by decide) (fun c5 => ?_) (fun c5 => ?_)
  · have hf := wIf c5 hf
    refine lv_iconst (v := 0) hx hb dX5_cleans_18 (by decide) ?_
    cases hf
    exact hj8 _ _ _ hH hS (lv_sub hl [0] rfl)
  · have hf := wIt c5 hf
    refine lv_iconst (v := 1) hx hb dX5_cleans_14 (by decide) ?_
    refine lv_goto (tgt := 19) hx hb dX5_cleans_15 (by decide) ?_
    cases hf
    exact hj8 _ _ _ hH hS (lv_sub hl [0] rfl)
noncomputable def fX5_brews_2  : Nat → wI → Int32 → Option (wI)
  | 0, _, _ => none
  | n + 1, iv, x1 => if (iv 1 0) ≤ x1 then some iv else if (iv 1 3) < 880 then some iv else wBd (fX5_isFree iv x1) (fun (r3 : Int32) => if r3 = 0 then fX5_brews_2 n iv (x1 + 1) else wGd (vp_in x1 3) (if (iv 31 x1.toNatClampNeg) < 10 then wBd (fX5_firstOf iv 2) (fun (r8 : Int32) => if r8 = (-1) then some iv else wBd (fX5_mayTake iv 2) (fun (r11 : Int32) => if r11 = 0 then some iv else wGd (vp_in 1 3) (wGd (vp_in r8 100) (if ((iv 20 r8.toNatClampNeg) / 1000) ≤ (iv 17 (1 : Int32).toNatClampNeg) then wLt (wU iv 17 (1 : Int32).toNatClampNeg ((iv 17 (1 : Int32).toNatClampNeg) - ((iv 20 r8.toNatClampNeg) / 1000))) (fun (iv17 : wI) => wLt (wU iv17 31 x1.toNatClampNeg ((iv17 31 x1.toNatClampNeg) + 1)) (fun (iv19 : wI) => wLt (wU iv19 26 r8.toNatClampNeg x1) (fun (iv21 : wI) => wBd (fX5_brew (iv21 19 r8.toNatClampNeg)) (fun (r23 : Int32) => wBd (fX5_begins iv21 r8 3 r23) (fun (iv25 : wI) => fX5_brews_2 n iv25 (x1 + 1)))))) else some iv)))) else fX5_brews_2 n iv (x1 + 1)))
noncomputable def fX5_brews  (iv : wI) : Option (wI) := fX5_brews_2 wN iv 0
set_option maxHeartbeats 4000000 in
set_option maxRecDepth 100000 in
theorem mtX5_brews (l : Launch) (D : va_G) (K : Nat → ClassId) (loc sh ln : Nat → Nat) (iv : wI) (rv : wJ) (sz : Nat) {iv' : wI} (hB : wBm sh ln) (hf : fX5_brews iv = some iv') : Met l yX5_brews wsX5_brews ({ frames := 3, cells := 0, slots := 0, locals := 66 }) (wPc D K loc sh ln iv rv sz [wR loc 1]) (wQv D K loc sh ln iv' rv sz) 0 0 (wA loc sh sz) := by
  refine Met.ofW (cc := cX5_brews) (maxL := 3) (ret := none) (by decide) rfl ?_
  intro p e s m args below meth c s₁ B hml hv
  obtain ⟨rfl, hsz, hH, hKn⟩ := hv
  have hx := B.exec
  have hb := B.bytes
  have hr := B.returns
  have hts := atoms_spec (ws := wsX5_brews) B.pre
  have hown : s.vm.findClass RX5 = some m.cls := findClass_of_methodNamed B.named
  have hlocks := B.notSynchronized
  subst hsz
  have hA : ∀ q : Nat, s.heap.size ≤ q → wA loc sh s.heap.size q := fun q h => Or.inr h
  have hO : ∀ a, sh a ≠ 0 → wA loc sh s.heap.size (loc a) := fun a h => Or.inl ⟨a, h, rfl⟩
  have hS : va_S (wA loc sh s.heap.size) s.heap s.heap [] := va_S.rf
  obtain ⟨ls, hen, hl⟩ := wEntry m [wR loc 1] 3 (List.forall_mem_cons.mpr ⟨wR_cat _ _, fun _ h => absurd h List.not_mem_nil⟩) (Nat.le_of_ble_eq_true rfl)
  rw [hen]
  clear hen
  have hl : lv_has ls 3 [(0, wR loc 1)] := hl
  have k80 := hts (.fieldLink RX5 80 "CupByCupModel" "groups" "I") (List.mem_of_getElem? (i := 1) rfl)
  have iX5 : ∀ w ∈ wsX50, w ∈ wsX5_brews := fun w h => List.mem_cons_of_mem _ (List.mem_append_right _ h)
  have k7 := hts (.fieldLink RX5 7 "CupByCupModel" "heat" "I") (List.mem_of_getElem? (i := 2) rfl)
  have k59 := hts (.fieldLink RX5 59 "CupByCupModel" "due" "[I") (List.mem_of_getElem? (i := 3) rfl)
  have k20 := hts (.fieldLink RX5 20 "CupByCupModel" "stores" "[I") (List.mem_of_getElem? (i := 4) rfl)
  have k26 := hts (.fieldLink RX5 26 "CupByCupModel" "wet" "[I") (List.mem_of_getElem? (i := 5) rfl)
  have k44 := hts (.fieldLink RX5 44 "CupByCupModel" "at" "[I") (List.mem_of_getElem? (i := 6) rfl)
  have k23 := hts (.fieldLink RX5 23 "CupByCupModel" "what" "[I") (List.mem_of_getElem? (i := 7) rfl)
  unfold fX5_brews at hf
  refine lv_iconst (v := 0) hx hb dX5_brews_0 (by decide) ?_
  refine lv_istore_n (lv' := [(1, .int 0), (0, wR loc 1)]) hx hb dX5_brews_1 rfl hl (by decide) rfl (fun ls hl => ?_)
  have lp6 : ∀ (n1 : Nat) (iv2 : wI) (x3 : Int32) (H : Heap) (locs : List Loc) (ls : Array Slot), fX5_brews_2 n1 iv2 x3 = some iv' → wH D K loc sh ln iv2 rv H → va_S (wA loc sh s.heap.size) s.heap H locs → lv_has ls 3 [(0, wR loc 1), (1, .int x3)] → W p l e (headSpec wsX5_brews ({ frames := 3, cells := 0, slots := 0, locals := 66 })).room s m ([wR loc 1] : List Value).toArray below meth c H locs 0 0 (MQ below (wQv D K loc sh ln iv' rv s.heap.size) ([wR loc 1] : List Value).toArray s 0 0 (wA loc sh s.heap.size)) (F0 m 2 ls []) := by
    clear hf hl hS hH
    intro n1
    induction n1 with
    | zero => intro iv2 x3 H locs ls hf; cases hf
    | succ n1 ih =>
      intro iv2 x3 H locs ls hf hH hS hl
      rw [fX5_brews_2.eq_2] at hf
      refine lv_iload_n hx hb dX5_brews_2 rfl (lv_at hl 1 rfl) ?_
      refine wald_n hx hb dX5_brews_3 rfl (lv_at hl 0 rfl) ?_
      refine wg (C := RX5) (T := TX5) (N := 31) (v := .int (iv2 1 0)) hx hb hts iX5 hown hKn.1 hH (q := 1) (hB.1 1 6 (by decide)) (by decide) rfl rfl 0 (by decide) k80 rfl dX5_brews_4 ?_
      refine lv_icmp_ge (tgt := 138) hx hb dX5_brews_7 (by decide) (fun c7 => ?_) (fun c7 => ?_)
      · have hf := wIt c7 hf
        cases hf
        exact W.vret hx hb hr (fun t ht hW => ⟨⟨(), rfl, trivial, by show wH _ _ _ _ _ _ _ t.heap; rw [ht]; exact hH⟩, hS.F ht⟩) hS.2.2 dX5_brews_138
      · have hf := wIf c7 hf
        refine wald_n hx hb dX5_brews_10 rfl (lv_at hl 0 rfl) ?_
        refine wg (C := RX5) (T := TX5) (N := 31) (v := .int (iv2 1 3)) hx hb hts iX5 hown hKn.1 hH (q := 1) (hB.1 1 6 (by decide)) (by decide) rfl rfl 3 (by decide) k7 rfl dX5_brews_11 ?_
        refine lv_sipush (v := 880) hx hb dX5_brews_14 (by decide) ?_
        refine lv_icmp_lt (tgt := 138) hx hb dX5_brews_17 (by decide) (fun c8 => ?_) (fun c8 => ?_)
        · have hf := wIt c8 hf
          cases hf
          exact W.vret hx hb hr (fun t ht hW => ⟨⟨(), rfl, trivial, by show wH _ _ _ _ _ _ _ t.heap; rw [ht]; exact hH⟩, hS.F ht⟩) hS.2.2 dX5_brews_138
        · have hf := wIf c8 hf
          refine wald_n hx hb dX5_brews_20 rfl (lv_at hl 0 rfl) ?_
          refine lv_iload_n hx hb dX5_brews_21 rfl (lv_at hl 1 rfl) ?_
          obtain ⟨r9, h10, hf⟩ := wBd_e hf
          refine wci (va_runV (As := [.int x3]) (rest := []) ⟨hx, hb, hml, hown, hts⟩ (mtX5_isFree l D K loc sh ln iv2 rv _ x3 hB h10) (cwV 1 hts gX5_brews_X5_isFree rfl rfl rfl (by decide +kernel) ⟨Nat.le_of_ble_eq_true rfl, Nat.le_of_ble_eq_true rfl⟩) (wPreV hKn hH (hB.1 1 6 (by decide)) (by decide) rfl rfl) rfl rfl hl.1 rfl (lv_room (Nat.le_of_ble_eq_true rfl)) dX5_brews_22 ⟨Nat.zero_le _, Nat.zero_le _⟩) hS hO hA (fun H locs hH hS => ?_)
          refine lv_if_eq (tgt := 132) hx hb dX5_brews_25 (by decide) (fun c11 => ?_) (fun c11 => ?_)
          · have hf := wIt c11 hf
            refine lv_iinc (v := (x3 + 1)) (lv' := [(1, .int (x3 + 1)), (0, wR loc 1)]) hx hb dX5_brews_132 hl (k := 1) rfl rfl (by decide) rfl (fun ls hl => ?_)
            refine lv_goto (tgt := 2) hx hb dX5_brews_135 (by decide) ?_
            exact ih _ _ _ _ _ hf hH hS (lv_sub hl [1, 0] rfl)
          · have hf := wIf c11 hf
            refine wald_n hx hb dX5_brews_28 rfl (lv_at hl 0 rfl) ?_
            refine wg (C := RX5) (T := TX5) (N := 31) (v := wR loc 31) hx hb hts iX5 hown hKn.1 hH (q := 1) (hB.1 1 6 (by decide)) (by decide) rfl rfl 21 (by decide) k59 rfl dX5_brews_29 ?_
            refine lv_iload_n hx hb dX5_brews_32 rfl (lv_at hl 1 rfl) ?_
            obtain ⟨g12, hf⟩ := wGd_e hf
            refine wia hx hb hKn.1 hH (hB.1 31 7 (by decide)) (hB.2.1 31 _ (by decide)) g12 dX5_brews_33 ?_
            refine lv_bipush (v := 10) hx hb dX5_brews_34 (by decide) ?_
            refine lv_icmp_lt (tgt := 42) hx hb dX5_brews_36 (by decide) (fun c13 => ?_) (fun c13 => ?_)
            · have hf := wIt c13 hf
              refine wald_n hx hb dX5_brews_42 rfl (lv_at hl 0 rfl) ?_
              refine lv_iconst (v := 2) hx hb dX5_brews_43 (by decide) ?_
              obtain ⟨r14, h15, hf⟩ := wBd_e hf
              refine wci (va_runV (As := [.int 2]) (rest := []) ⟨hx, hb, hml, hown, hts⟩ (mtX5_firstOf l D K loc sh ln iv2 rv _ 2 hB h15) (cwV 1 hts gX5_brews_X5_firstOf rfl rfl rfl (by decide +kernel) ⟨Nat.le_of_ble_eq_true rfl, Nat.le_of_ble_eq_true rfl⟩) (wPreV hKn hH (hB.1 1 6 (by decide)) (by decide) rfl rfl) rfl rfl hl.1 rfl (lv_room (Nat.le_of_ble_eq_true rfl)) dX5_brews_44 ⟨Nat.zero_le _, Nat.zero_le _⟩) hS hO hA (fun H locs hH hS => ?_)
              refine lv_istore_n (lv' := [(2, .int r14), (0, wR loc 1), (1, .int x3)]) hx hb dX5_brews_47 rfl hl (by decide) rfl (fun ls hl => ?_)
              refine lv_iload_n hx hb dX5_brews_48 rfl (lv_at hl 0 rfl) ?_
              refine lv_iconst (v := (-1)) hx hb dX5_brews_49 (by decide) ?_
              refine lv_icmp_eq (tgt := 80) hx hb dX5_brews_50 (by decide) (fun c16 => ?_) (fun c16 => ?_)
              · have hf := wIt c16 hf
                cases hf
                exact W.vret hx hb hr (fun t ht hW => ⟨⟨(), rfl, trivial, by show wH _ _ _ _ _ _ _ t.heap; rw [ht]; exact hH⟩, hS.F ht⟩) hS.2.2 dX5_brews_80
              · have hf := wIf c16 hf
                refine wald_n hx hb dX5_brews_53 rfl (lv_at hl 1 rfl) ?_
                refine lv_iconst (v := 2) hx hb dX5_brews_54 (by decide) ?_
                obtain ⟨r17, h18, hf⟩ := wBd_e hf
                refine wci (va_runV (As := [.int 2]) (rest := []) ⟨hx, hb, hml, hown, hts⟩ (mtX5_mayTake l D K loc sh ln iv2 rv _ 2 hB h18) (cwV 1 hts gX5_brews_X5_mayTake rfl rfl rfl (by decide +kernel) ⟨Nat.le_of_ble_eq_true rfl, Nat.le_of_ble_eq_true rfl⟩) (wPreV hKn hH (hB.1 1 6 (by decide)) (by decide) rfl rfl) rfl rfl hl.1 rfl (lv_room (Nat.le_of_ble_eq_true rfl)) dX5_brews_55 ⟨Nat.zero_le _, Nat.zero_le _⟩) hS hO hA (fun H locs hH hS => ?_)
                refine lv_if_eq (tgt := 80) hx hb dX5_brews_58 (by decide) (fun c19 => ?_) (fun c19 => ?_)
                · have hf := wIt c19 hf
                  cases hf
                  exact W.vret hx hb hr (fun t ht hW => ⟨⟨(), rfl, trivial, by show wH _ _ _ _ _ _ _ t.heap; rw [ht]; exact hH⟩, hS.F ht⟩) hS.2.2 dX5_brews_80
                · have hf := wIf c19 hf
                  refine wald_n hx hb dX5_brews_61 rfl (lv_at hl 1 rfl) ?_
                  refine wg (C := RX5) (T := TX5) (N := 31) (v := wR loc 17) hx hb hts iX5 hown hKn.1 hH (q := 1) (hB.1 1 6 (by decide)) (by decide) rfl rfl 7 (by decide) k20 rfl dX5_brews_62 ?_
                  refine lv_iconst (v := 1) hx hb dX5_brews_65 (by decide) ?_
                  obtain ⟨g20, hf⟩ := wGd_e hf
                  refine wia hx hb hKn.1 hH (hB.1 17 7 (by decide)) (hB.2.1 17 _ (by decide)) g20 dX5_brews_66 ?_
                  refine wald_n hx hb dX5_brews_67 rfl (lv_at hl 1 rfl) ?_
                  refine wg (C := RX5) (T := TX5) (N := 31) (v := wR loc 20) hx hb hts iX5 hown hKn.1 hH (q := 1) (hB.1 1 6 (by decide)) (by decide) rfl rfl 10 (by decide) k26 rfl dX5_brews_68 ?_
                  refine lv_iload_n hx hb dX5_brews_71 rfl (lv_at hl 0 rfl) ?_
                  obtain ⟨g21, hf⟩ := wGd_e hf
                  refine wia hx hb hKn.1 hH (hB.1 20 7 (by decide)) (hB.2.1 20 _ (by decide)) g21 dX5_brews_72 ?_
                  refine lv_sipush (v := 1000) hx hb dX5_brews_73 (by decide) ?_
                  refine lv_idiv hx hb dX5_brews_76 (by decide) ?_
                  refine lv_icmp_ge (tgt := 81) hx hb dX5_brews_77 (by decide) (fun c22 => ?_) (fun c22 => ?_)
                  · have hf := wIt c22 hf
                    refine wald_n hx hb dX5_brews_81 rfl (lv_at hl 1 rfl) ?_
                    refine wg (C := RX5) (T := TX5) (N := 31) (v := wR loc 17) hx hb hts iX5 hown hKn.1 hH (q := 1) (hB.1 1 6 (by decide)) (by decide) rfl rfl 7 (by decide) k20 rfl dX5_brews_82 ?_
                    refine lv_iconst (v := 1) hx hb dX5_brews_85 (by decide) ?_
                    refine lv_dup2_11 hx hb dX5_brews_86 rfl (wR_cat _ _) ?_
                    refine wia hx hb hKn.1 hH (hB.1 17 7 (by decide)) (hB.2.1 17 _ (by decide)) g20 dX5_brews_87 ?_
                    refine wald_n hx hb dX5_brews_88 rfl (lv_at hl 1 rfl) ?_
                    refine wg (C := RX5) (T := TX5) (N := 31) (v := wR loc 20) hx hb hts iX5 hown hKn.1 hH (q := 1) (hB.1 1 6 (by decide)) (by decide) rfl rfl 10 (by decide) k26 rfl dX5_brews_89 ?_
                    refine lv_iload_n hx hb dX5_brews_92 rfl (lv_at hl 0 rfl) ?_
                    refine wia hx hb hKn.1 hH (hB.1 20 7 (by decide)) (hB.2.1 20 _ (by decide)) g21 dX5_brews_93 ?_
                    refine lv_sipush (v := 1000) hx hb dX5_brews_94 (by decide) ?_
                    refine lv_idiv hx hb dX5_brews_97 (by decide) ?_
                    refine lv_isub hx hb dX5_brews_98 ?_
                    obtain ⟨iv23, e24, hf⟩ := wLt_e hf
                    refine wis hx hb hKn.1 hH hO hS (hB.1 17 7 (by decide)) (hB.2.1 17 _ (by decide)) g20 dX5_brews_99 (fun H locs hH hS => ?_)
                    rw [← e24] at hH
                    refine wald_n hx hb dX5_brews_100 rfl (lv_at hl 1 rfl) ?_
                    refine wg (C := RX5) (T := TX5) (N := 31) (v := wR loc 31) hx hb hts iX5 hown hKn.1 hH (q := 1) (hB.1 1 6 (by decide)) (by decide) rfl rfl 21 (by decide) k59 rfl dX5_brews_101 ?_
                    refine lv_iload_n hx hb dX5_brews_104 rfl (lv_at hl 2 rfl) ?_
                    refine lv_dup2_11 hx hb dX5_brews_105 rfl (wR_cat _ _) ?_
                    refine wia hx hb hKn.1 hH (hB.1 31 7 (by decide)) (hB.2.1 31 _ (by decide)) g12 dX5_brews_106 ?_
                    refine lv_iconst (v := 1) hx hb dX5_brews_107 (by decide) ?_
                    refine lv_iadd hx hb dX5_brews_108 ?_
                    obtain ⟨iv25, e26, hf⟩ := wLt_e hf
                    refine wis hx hb hKn.1 hH hO hS (hB.1 31 7 (by decide)) (hB.2.1 31 _ (by decide)) g12 dX5_brews_109 (fun H locs hH hS => ?_)
                    rw [← e26] at hH
                    refine wald_n hx hb dX5_brews_110 rfl (lv_at hl 1 rfl) ?_
                    refine wg (C := RX5) (T := TX5) (N := 31) (v := wR loc 26) hx hb hts iX5 hown hKn.1 hH (q := 1) (hB.1 1 6 (by decide)) (by decide) rfl rfl 16 (by decide) k44 rfl dX5_brews_111 ?_
                    refine lv_iload_n hx hb dX5_brews_114 rfl (lv_at hl 0 rfl) ?_
                    refine lv_iload_n hx hb dX5_brews_115 rfl (lv_at hl 2 rfl) ?_
                    obtain ⟨iv27, e28, hf⟩ := wLt_e hf
                    refine wis hx hb hKn.1 hH hO hS (hB.1 26 7 (by decide)) (hB.2.1 26 _ (by decide)) g21 dX5_brews_116 (fun H locs hH hS => ?_)
                    rw [← e28] at hH
                    refine wald_n hx hb dX5_brews_117 rfl (lv_at hl 1 rfl) ?_
                    refine lv_iload_n hx hb dX5_brews_118 rfl (lv_at hl 0 rfl) ?_
                    refine lv_iconst (v := 3) hx hb dX5_brews_119 (by decide) ?_
                    refine wald_n hx hb dX5_brews_120 rfl (lv_at hl 1 rfl) ?_
                    refine wg (C := RX5) (T := TX5) (N := 31) (v := wR loc 19) hx hb hts iX5 hown hKn.1 hH (q := 1) (hB.1 1 6 (by decide)) (by decide) rfl rfl 9 (by decide) k23 rfl dX5_brews_121 ?_
                    refine lv_iload_n hx hb dX5_brews_124 rfl (lv_at hl 0 rfl) ?_
                    refine wia hx hb hKn.1 hH (hB.1 19 7 (by decide)) (hB.2.1 19 _ (by decide)) g21 dX5_brews_125 ?_
                    obtain ⟨r29, h30, hf⟩ := wBd_e hf
                    refine wci (va_runS (As := [.int (iv27 19 r14.toNatClampNeg)]) (rest := [.int 3, .int r14, wR loc 1]) ⟨hx, hb, hml, hown, hts⟩ (mtX5_brew l D K loc sh ln iv27 rv _ (iv27 19 r14.toNatClampNeg) h30) (va_cwS 1 hts gX5_brews_X5_brew rfl rfl rfl (by decide +kernel) ⟨Nat.le_of_ble_eq_true rfl, Nat.le_of_ble_eq_true rfl⟩) (wPreS hKn hH) rfl rfl hl.1 rfl (lv_room (Nat.le_of_ble_eq_true rfl)) dX5_brews_126 ⟨Nat.zero_le _, Nat.zero_le _⟩) hS hO hA (fun H locs hH hS => ?_)
                    obtain ⟨iv31, h32, hf⟩ := wBd_e hf
                    refine wcv (va_runV (As := [.int r14, .int 3, .int r29]) (rest := []) ⟨hx, hb, hml, hown, hts⟩ (mtX5_begins l D K loc sh ln iv27 rv _ r14 3 r29 hB h32) (cwV 3 hts gX5_brews_X5_begins rfl rfl rfl (by decide +kernel) ⟨Nat.le_of_ble_eq_true rfl, Nat.le_of_ble_eq_true rfl⟩) (wPreV hKn hH (hB.1 1 6 (by decide)) (by decide) rfl rfl) rfl rfl hl.1 rfl (lv_room (Nat.le_of_ble_eq_true rfl)) dX5_brews_129 ⟨Nat.zero_le _, Nat.zero_le _⟩) hS hO hA (fun H locs hH hS => ?_)
                    refine lv_iinc (v := (x3 + 1)) (lv' := [(1, .int (x3 + 1)), (2, .int r14), (0, wR loc 1)]) hx hb dX5_brews_132 hl (k := 2) rfl rfl (by decide) rfl (fun ls hl => ?_)
                    refine lv_goto (tgt := 2) hx hb dX5_brews_135 (by decide) ?_
                    exact ih _ _ _ _ _ hf hH hS (lv_sub hl [2, 0] rfl)
                  · have hf := wIf c22 hf
                    cases hf
                    exact W.vret hx hb hr (fun t ht hW => ⟨⟨(), rfl, trivial, by show wH _ _ _ _ _ _ _ t.heap; rw [ht]; exact hH⟩, hS.F ht⟩) hS.2.2 dX5_brews_80
            · have hf := wIf c13 hf
              refine lv_goto (tgt := 132) hx hb dX5_brews_39 (by decide) ?_
              refine lv_iinc (v := (x3 + 1)) (lv' := [(1, .int (x3 + 1)), (0, wR loc 1)]) hx hb dX5_brews_132 hl (k := 1) rfl rfl (by decide) rfl (fun ls hl => ?_)
              refine lv_goto (tgt := 2) hx hb dX5_brews_135 (by decide) ?_
              exact ih _ _ _ _ _ hf hH hS (lv_sub hl [1, 0] rfl)
  exact lp6 wN _ _ _ _ _ hf hH hS (lv_sub hl [1, 0] rfl)
noncomputable def fX5_grinds_33  : Nat → wI → Int32 → Int32 → Option (Int32)
  | 0, _, _, _ => none
  | n + 1, iv, x1, x2 => if (iv 1 8) ≤ x2 then some x1 else wGd (vp_in x2 100) (if (iv 24 x2.toNatClampNeg) = 0 then if x1 = (-1) then fX5_grinds_33 n iv x2 (x2 + 1) else wGd (vp_in x1 100) (if (iv 22 x1.toNatClampNeg) ≤ (iv 22 x2.toNatClampNeg) then fX5_grinds_33 n iv x1 (x2 + 1) else fX5_grinds_33 n iv x2 (x2 + 1)) else fX5_grinds_33 n iv x1 (x2 + 1))
noncomputable def fX5_grinds  (iv : wI) : Option (wI) := wBd (fX5_countOf iv 1) (fun (r1 : Int32) => if 0 < r1 then some iv else wBd (fX5_countOf iv 2) (fun (r4 : Int32) => if (iv 1 0) ≤ r4 then some iv else wBd (fX5_mayTake iv 4) (fun (r7 : Int32) => if r7 = 0 then some iv else wBd (fX5_grinds_33 wN iv (-1) 0) (fun (z16 : Int32) => if z16 = (-1) then some iv else wGd (vp_in 0 3) (wGd (vp_in z16 100) (wBd (fX5_beans (iv 19 z16.toNatClampNeg)) (fun (r26 : Int32) => if r26 ≤ (iv 17 (0 : Int32).toNatClampNeg) then wBd (fX5_beans (iv 19 z16.toNatClampNeg)) (fun (r29 : Int32) => wLt (wU iv 17 (0 : Int32).toNatClampNeg ((iv 17 (0 : Int32).toNatClampNeg) - r29)) (fun (iv31 : wI) => wBd (fX5_grind (iv31 19 z16.toNatClampNeg)) (fun (r33 : Int32) => wBd (fX5_begins iv31 z16 1 r33) (fun (iv35 : wI) => some iv35)))) else some iv)))))))
set_option maxHeartbeats 4000000 in
set_option maxRecDepth 100000 in
theorem mtX5_grinds (l : Launch) (D : va_G) (K : Nat → ClassId) (loc sh ln : Nat → Nat) (iv : wI) (rv : wJ) (sz : Nat) {iv' : wI} (hB : wBm sh ln) (hf : fX5_grinds iv = some iv') : Met l yX5_grinds wsX5_grinds ({ frames := 3, cells := 0, slots := 0, locals := 66 }) (wPc D K loc sh ln iv rv sz [wR loc 1]) (wQv D K loc sh ln iv' rv sz) 0 0 (wA loc sh sz) := by
  refine Met.ofW (cc := cX5_grinds) (maxL := 3) (ret := none) (by decide) rfl ?_
  intro p e s m args below meth c s₁ B hml hv
  obtain ⟨rfl, hsz, hH, hKn⟩ := hv
  have hx := B.exec
  have hb := B.bytes
  have hr := B.returns
  have hts := atoms_spec (ws := wsX5_grinds) B.pre
  have hown : s.vm.findClass RX5 = some m.cls := findClass_of_methodNamed B.named
  have hlocks := B.notSynchronized
  subst hsz
  have hA : ∀ q : Nat, s.heap.size ≤ q → wA loc sh s.heap.size q := fun q h => Or.inr h
  have hO : ∀ a, sh a ≠ 0 → wA loc sh s.heap.size (loc a) := fun a h => Or.inl ⟨a, h, rfl⟩
  have hS : va_S (wA loc sh s.heap.size) s.heap s.heap [] := va_S.rf
  obtain ⟨ls, hen, hl⟩ := wEntry m [wR loc 1] 3 (List.forall_mem_cons.mpr ⟨wR_cat _ _, fun _ h => absurd h List.not_mem_nil⟩) (Nat.le_of_ble_eq_true rfl)
  rw [hen]
  clear hen
  have hl : lv_has ls 3 [(0, wR loc 1)] := hl
  have k80 := hts (.fieldLink RX5 80 "CupByCupModel" "groups" "I") (List.mem_of_getElem? (i := 1) rfl)
  have iX5 : ∀ w ∈ wsX50, w ∈ wsX5_grinds := fun w h => List.mem_cons_of_mem _ (List.mem_append_right _ h)
  have k112 := hts (.fieldLink RX5 112 "CupByCupModel" "cups" "I") (List.mem_of_getElem? (i := 2) rfl)
  have k38 := hts (.fieldLink RX5 38 "CupByCupModel" "state" "[I") (List.mem_of_getElem? (i := 3) rfl)
  have k32 := hts (.fieldLink RX5 32 "CupByCupModel" "lane" "[I") (List.mem_of_getElem? (i := 4) rfl)
  have k20 := hts (.fieldLink RX5 20 "CupByCupModel" "stores" "[I") (List.mem_of_getElem? (i := 5) rfl)
  have k23 := hts (.fieldLink RX5 23 "CupByCupModel" "what" "[I") (List.mem_of_getElem? (i := 6) rfl)
  unfold fX5_grinds at hf
  refine wald_n hx hb dX5_grinds_0 rfl (lv_at hl 0 rfl) ?_
  refine lv_iconst (v := 1) hx hb dX5_grinds_1 (by decide) ?_
  obtain ⟨r1, h2, hf⟩ := wBd_e hf
  refine wci (va_runV (As := [.int 1]) (rest := []) ⟨hx, hb, hml, hown, hts⟩ (mtX5_countOf l D K loc sh ln iv rv _ 1 hB h2) (cwV 1 hts gX5_grinds_X5_countOf rfl rfl rfl (by decide +kernel) ⟨Nat.le_of_ble_eq_true rfl, Nat.le_of_ble_eq_true rfl⟩) (wPreV hKn hH (hB.1 1 6 (by decide)) (by decide) rfl rfl) rfl rfl hl.1 rfl (lv_room (Nat.le_of_ble_eq_true rfl)) dX5_grinds_2 ⟨Nat.zero_le _, Nat.zero_le _⟩) hS hO hA (fun H locs hH hS => ?_)
  refine lv_if_gt (tgt := 28) hx hb dX5_grinds_5 (by decide) (fun c3 => ?_) (fun c3 => ?_)
  · have hf := wIt c3 hf
    cases hf
    exact W.vret hx hb hr (fun t ht hW => ⟨⟨(), rfl, trivial, by show wH _ _ _ _ _ _ _ t.heap; rw [ht]; exact hH⟩, hS.F ht⟩) hS.2.2 dX5_grinds_28
  · have hf := wIf c3 hf
    refine wald_n hx hb dX5_grinds_8 rfl (lv_at hl 0 rfl) ?_
    refine lv_iconst (v := 2) hx hb dX5_grinds_9 (by decide) ?_
    obtain ⟨r4, h5, hf⟩ := wBd_e hf
    refine wci (va_runV (As := [.int 2]) (rest := []) ⟨hx, hb, hml, hown, hts⟩ (mtX5_countOf l D K loc sh ln iv rv _ 2 hB h5) (cwV 1 hts gX5_grinds_X5_countOf rfl rfl rfl (by decide +kernel) ⟨Nat.le_of_ble_eq_true rfl, Nat.le_of_ble_eq_true rfl⟩) (wPreV hKn hH (hB.1 1 6 (by decide)) (by decide) rfl rfl) rfl rfl hl.1 rfl (lv_room (Nat.le_of_ble_eq_true rfl)) dX5_grinds_10 ⟨Nat.zero_le _, Nat.zero_le _⟩) hS hO hA (fun H locs hH hS => ?_)
    refine wald_n hx hb dX5_grinds_13 rfl (lv_at hl 0 rfl) ?_
    refine wg (C := RX5) (T := TX5) (N := 31) (v := .int (iv 1 0)) hx hb hts iX5 hown hKn.1 hH (q := 1) (hB.1 1 6 (by decide)) (by decide) rfl rfl 0 (by decide) k80 rfl dX5_grinds_14 ?_
    refine lv_icmp_ge (tgt := 28) hx hb dX5_grinds_17 (by decide) (fun c6 => ?_) (fun c6 => ?_)
    · have hf := wIt c6 hf
      cases hf
      exact W.vret hx hb hr (fun t ht hW => ⟨⟨(), rfl, trivial, by show wH _ _ _ _ _ _ _ t.heap; rw [ht]; exact hH⟩, hS.F ht⟩) hS.2.2 dX5_grinds_28
    · have hf := wIf c6 hf
      refine wald_n hx hb dX5_grinds_20 rfl (lv_at hl 0 rfl) ?_
      refine lv_iconst (v := 4) hx hb dX5_grinds_21 (by decide) ?_
      obtain ⟨r7, h8, hf⟩ := wBd_e hf
      refine wci (va_runV (As := [.int 4]) (rest := []) ⟨hx, hb, hml, hown, hts⟩ (mtX5_mayTake l D K loc sh ln iv rv _ 4 hB h8) (cwV 1 hts gX5_grinds_X5_mayTake rfl rfl rfl (by decide +kernel) ⟨Nat.le_of_ble_eq_true rfl, Nat.le_of_ble_eq_true rfl⟩) (wPreV hKn hH (hB.1 1 6 (by decide)) (by decide) rfl rfl) rfl rfl hl.1 rfl (lv_room (Nat.le_of_ble_eq_true rfl)) dX5_grinds_22 ⟨Nat.zero_le _, Nat.zero_le _⟩) hS hO hA (fun H locs hH hS => ?_)
      refine lv_if_ne (tgt := 29) hx hb dX5_grinds_25 (by decide) (fun c9 => ?_) (fun c9 => ?_)
      · have hf := wIf c9 hf
        refine lv_iconst (v := (-1)) hx hb dX5_grinds_29 (by decide) ?_
        refine lv_istore_n (lv' := [(1, .int (-1)), (0, wR loc 1)]) hx hb dX5_grinds_30 rfl hl (by decide) rfl (fun ls hl => ?_)
        refine lv_iconst (v := 0) hx hb dX5_grinds_31 (by decide) ?_
        refine lv_istore_n (lv' := [(2, .int 0), (1, .int (-1)), (0, wR loc 1)]) hx hb dX5_grinds_32 rfl hl (by decide) rfl (fun ls hl => ?_)
        obtain ⟨z16, hL13, hf⟩ := wBd_e hf
        have hk14 : ∀ (H : Heap) (locs : List Loc) (ls : Array Slot), wH D K loc sh ln iv rv H → va_S (wA loc sh s.heap.size) s.heap H locs → lv_has ls 3 [(0, wR loc 1), (1, .int z16)] → W p l e (headSpec wsX5_grinds ({ frames := 3, cells := 0, slots := 0, locals := 66 })).room s m ([wR loc 1] : List Value).toArray below meth c H locs 0 0 (MQ below (wQv D K loc sh ln iv' rv s.heap.size) ([wR loc 1] : List Value).toArray s 0 0 (wA loc sh s.heap.size)) (F0 m 78 ls []) := by
          clear hL13 hl hS hH
          intro H locs ls hH hS hl
          refine lv_iload_n hx hb dX5_grinds_78 rfl (lv_at hl 1 rfl) ?_
          refine lv_iconst (v := (-1)) hx hb dX5_grinds_79 (by decide) ?_
          refine lv_icmp_eq (tgt := 101) hx hb dX5_grinds_80 (by decide) (fun c23 => ?_) (fun c23 => ?_)
          · have hf := wIt c23 hf
            cases hf
            exact W.vret hx hb hr (fun t ht hW => ⟨⟨(), rfl, trivial, by show wH _ _ _ _ _ _ _ t.heap; rw [ht]; exact hH⟩, hS.F ht⟩) hS.2.2 dX5_grinds_101
          · have hf := wIf c23 hf
            refine wald_n hx hb dX5_grinds_83 rfl (lv_at hl 0 rfl) ?_
            refine wg (C := RX5) (T := TX5) (N := 31) (v := wR loc 17) hx hb hts iX5 hown hKn.1 hH (q := 1) (hB.1 1 6 (by decide)) (by decide) rfl rfl 7 (by decide) k20 rfl dX5_grinds_84 ?_
            refine lv_iconst (v := 0) hx hb dX5_grinds_87 (by decide) ?_
            obtain ⟨g24, hf⟩ := wGd_e hf
            refine wia hx hb hKn.1 hH (hB.1 17 7 (by decide)) (hB.2.1 17 _ (by decide)) g24 dX5_grinds_88 ?_
            refine wald_n hx hb dX5_grinds_89 rfl (lv_at hl 0 rfl) ?_
            refine wg (C := RX5) (T := TX5) (N := 31) (v := wR loc 19) hx hb hts iX5 hown hKn.1 hH (q := 1) (hB.1 1 6 (by decide)) (by decide) rfl rfl 9 (by decide) k23 rfl dX5_grinds_90 ?_
            refine lv_iload_n hx hb dX5_grinds_93 rfl (lv_at hl 1 rfl) ?_
            obtain ⟨g25, hf⟩ := wGd_e hf
            refine wia hx hb hKn.1 hH (hB.1 19 7 (by decide)) (hB.2.1 19 _ (by decide)) g25 dX5_grinds_94 ?_
            obtain ⟨r26, h27, hf⟩ := wBd_e hf
            refine wci (va_runS (As := [.int (iv 19 z16.toNatClampNeg)]) (rest := [.int (iv 17 (0 : Int32).toNatClampNeg)]) ⟨hx, hb, hml, hown, hts⟩ (mtX5_beans l D K loc sh ln iv rv _ (iv 19 z16.toNatClampNeg) h27) (va_cwS 1 hts gX5_grinds_X5_beans rfl rfl rfl (by decide +kernel) ⟨Nat.le_of_ble_eq_true rfl, Nat.le_of_ble_eq_true rfl⟩) (wPreS hKn hH) rfl rfl hl.1 rfl (lv_room (Nat.le_of_ble_eq_true rfl)) dX5_grinds_95 ⟨Nat.zero_le _, Nat.zero_le _⟩) hS hO hA (fun H locs hH hS => ?_)
            refine lv_icmp_ge (tgt := 102) hx hb dX5_grinds_98 (by decide) (fun c28 => ?_) (fun c28 => ?_)
            · have hf := wIt c28 hf
              refine wald_n hx hb dX5_grinds_102 rfl (lv_at hl 0 rfl) ?_
              refine wg (C := RX5) (T := TX5) (N := 31) (v := wR loc 17) hx hb hts iX5 hown hKn.1 hH (q := 1) (hB.1 1 6 (by decide)) (by decide) rfl rfl 7 (by decide) k20 rfl dX5_grinds_103 ?_
              refine lv_iconst (v := 0) hx hb dX5_grinds_106 (by decide) ?_
              refine lv_dup2_11 hx hb dX5_grinds_107 rfl (wR_cat _ _) ?_
              refine wia hx hb hKn.1 hH (hB.1 17 7 (by decide)) (hB.2.1 17 _ (by decide)) g24 dX5_grinds_108 ?_
              refine wald_n hx hb dX5_grinds_109 rfl (lv_at hl 0 rfl) ?_
              refine wg (C := RX5) (T := TX5) (N := 31) (v := wR loc 19) hx hb hts iX5 hown hKn.1 hH (q := 1) (hB.1 1 6 (by decide)) (by decide) rfl rfl 9 (by decide) k23 rfl dX5_grinds_110 ?_
              refine lv_iload_n hx hb dX5_grinds_113 rfl (lv_at hl 1 rfl) ?_
              refine wia hx hb hKn.1 hH (hB.1 19 7 (by decide)) (hB.2.1 19 _ (by decide)) g25 dX5_grinds_114 ?_
              obtain ⟨r29, h30, hf⟩ := wBd_e hf
              refine wci (va_runS (As := [.int (iv 19 z16.toNatClampNeg)]) (rest := [.int (iv 17 (0 : Int32).toNatClampNeg), .int 0, wR loc 17]) ⟨hx, hb, hml, hown, hts⟩ (mtX5_beans l D K loc sh ln iv rv _ (iv 19 z16.toNatClampNeg) h30) (va_cwS 1 hts gX5_grinds_X5_beans rfl rfl rfl (by decide +kernel) ⟨Nat.le_of_ble_eq_true rfl, Nat.le_of_ble_eq_true rfl⟩) (wPreS hKn hH) rfl rfl hl.1 rfl (lv_room (Nat.le_of_ble_eq_true rfl)) dX5_grinds_115 ⟨Nat.zero_le _, Nat.zero_le _⟩) hS hO hA (fun H locs hH hS => ?_)
              refine lv_isub hx hb dX5_grinds_118 ?_
              obtain ⟨iv31, e32, hf⟩ := wLt_e hf
              refine wis hx hb hKn.1 hH hO hS (hB.1 17 7 (by decide)) (hB.2.1 17 _ (by decide)) g24 dX5_grinds_119 (fun H locs hH hS => ?_)
              rw [← e32] at hH
              refine wald_n hx hb dX5_grinds_120 rfl (lv_at hl 0 rfl) ?_
              refine lv_iload_n hx hb dX5_grinds_121 rfl (lv_at hl 1 rfl) ?_
              refine lv_iconst (v := 1) hx hb dX5_grinds_122 (by decide) ?_
              refine wald_n hx hb dX5_grinds_123 rfl (lv_at hl 0 rfl) ?_
              refine wg (C := RX5) (T := TX5) (N := 31) (v := wR loc 19) hx hb hts iX5 hown hKn.1 hH (q := 1) (hB.1 1 6 (by decide)) (by decide) rfl rfl 9 (by decide) k23 rfl dX5_grinds_124 ?_
              refine lv_iload_n hx hb dX5_grinds_127 rfl (lv_at hl 1 rfl) ?_
              refine wia hx hb hKn.1 hH (hB.1 19 7 (by decide)) (hB.2.1 19 _ (by decide)) g25 dX5_grinds_128 ?_
              obtain ⟨r33, h34, hf⟩ := wBd_e hf
              refine wci (va_runS (As := [.int (iv31 19 z16.toNatClampNeg)]) (rest := [.int 1, .int z16, wR loc 1]) ⟨hx, hb, hml, hown, hts⟩ (mtX5_grind l D K loc sh ln iv31 rv _ (iv31 19 z16.toNatClampNeg) h34) (va_cwS 1 hts gX5_grinds_X5_grind rfl rfl rfl (by decide +kernel) ⟨Nat.le_of_ble_eq_true rfl, Nat.le_of_ble_eq_true rfl⟩) (wPreS hKn hH) rfl rfl hl.1 rfl (lv_room (Nat.le_of_ble_eq_true rfl)) dX5_grinds_129 ⟨Nat.zero_le _, Nat.zero_le _⟩) hS hO hA (fun H locs hH hS => ?_)
              obtain ⟨iv35, h36, hf⟩ := wBd_e hf
              refine wcv (va_runV (As := [.int z16, .int 1, .int r33]) (rest := []) ⟨hx, hb, hml, hown, hts⟩ (mtX5_begins l D K loc sh ln iv31 rv _ z16 1 r33 hB h36) (cwV 3 hts gX5_grinds_X5_begins rfl rfl rfl (by decide +kernel) ⟨Nat.le_of_ble_eq_true rfl, Nat.le_of_ble_eq_true rfl⟩) (wPreV hKn hH (hB.1 1 6 (by decide)) (by decide) rfl rfl) rfl rfl hl.1 rfl (lv_room (Nat.le_of_ble_eq_true rfl)) dX5_grinds_132 ⟨Nat.zero_le _, Nat.zero_le _⟩) hS hO hA (fun H locs hH hS => ?_)
              cases hf
              exact W.vret hx hb hr (fun t ht hW => ⟨⟨(), rfl, trivial, by show wH _ _ _ _ _ _ _ t.heap; rw [ht]; exact hH⟩, hS.F ht⟩) hS.2.2 dX5_grinds_135
            · have hf := wIf c28 hf
              cases hf
              exact W.vret hx hb hr (fun t ht hW => ⟨⟨(), rfl, trivial, by show wH _ _ _ _ _ _ _ t.heap; rw [ht]; exact hH⟩, hS.F ht⟩) hS.2.2 dX5_grinds_101
        have lp15 : ∀ (n10 : Nat) (x11 : Int32) (x12 : Int32) (H : Heap) (locs : List Loc) (ls : Array Slot), fX5_grinds_33 n10 iv x11 x12 = some z16 → wH D K loc sh ln iv rv H → va_S (wA loc sh s.heap.size) s.heap H locs → lv_has ls 3 [(0, wR loc 1), (1, .int x11), (2, .int x12)] → W p l e (headSpec wsX5_grinds ({ frames := 3, cells := 0, slots := 0, locals := 66 })).room s m ([wR loc 1] : List Value).toArray below meth c H locs 0 0 (MQ below (wQv D K loc sh ln iv' rv s.heap.size) ([wR loc 1] : List Value).toArray s 0 0 (wA loc sh s.heap.size)) (F0 m 33 ls []) := by
          clear hf hl hS hH hL13
          intro n10
          induction n10 with
          | zero => intro x11 x12 H locs ls hf; cases hf
          | succ n10 ih =>
            intro x11 x12 H locs ls hf hH hS hl
            rw [fX5_grinds_33.eq_2] at hf
            refine lv_iload_n hx hb dX5_grinds_33 rfl (lv_at hl 2 rfl) ?_
            refine wald_n hx hb dX5_grinds_34 rfl (lv_at hl 0 rfl) ?_
            refine wg (C := RX5) (T := TX5) (N := 31) (v := .int (iv 1 8)) hx hb hts iX5 hown hKn.1 hH (q := 1) (hB.1 1 6 (by decide)) (by decide) rfl rfl 8 (by decide) k112 rfl dX5_grinds_35 ?_
            refine lv_icmp_ge (tgt := 78) hx hb dX5_grinds_38 (by decide) (fun c17 => ?_) (fun c17 => ?_)
            · have hf := wIt c17 hf
              cases hf
              exact hk14 _ _ _ hH hS (lv_sub hl [0, 1] rfl)
            · have hf := wIf c17 hf
              refine wald_n hx hb dX5_grinds_41 rfl (lv_at hl 0 rfl) ?_
              refine wg (C := RX5) (T := TX5) (N := 31) (v := wR loc 24) hx hb hts iX5 hown hKn.1 hH (q := 1) (hB.1 1 6 (by decide)) (by decide) rfl rfl 14 (by decide) k38 rfl dX5_grinds_42 ?_
              refine lv_iload_n hx hb dX5_grinds_45 rfl (lv_at hl 2 rfl) ?_
              obtain ⟨g18, hf⟩ := wGd_e hf
              refine wia hx hb hKn.1 hH (hB.1 24 7 (by decide)) (hB.2.1 24 _ (by decide)) g18 dX5_grinds_46 ?_
              refine lv_if_ne (tgt := 72) hx hb dX5_grinds_47 (by decide) (fun c19 => ?_) (fun c19 => ?_)
              · have hf := wIf c19 hf
                refine lv_iinc (v := (x12 + 1)) (lv' := [(2, .int (x12 + 1)), (0, wR loc 1), (1, .int x11)]) hx hb dX5_grinds_72 hl (k := 2) rfl rfl (by decide) rfl (fun ls hl => ?_)
                refine lv_goto (tgt := 33) hx hb dX5_grinds_75 (by decide) ?_
                exact ih _ _ _ _ _ hf hH hS (lv_sub hl [1, 2, 0] rfl)
              · have hf := wIt c19 hf
                refine lv_iload_n hx hb dX5_grinds_50 rfl (lv_at hl 1 rfl) ?_
                refine lv_iconst (v := (-1)) hx hb dX5_grinds_51 (by decide) ?_
                refine lv_icmp_eq (tgt := 70) hx hb dX5_grinds_52 (by decide) (fun c20 => ?_) (fun c20 => ?_)
                · have hf := wIt c20 hf
                  refine lv_iload_n hx hb dX5_grinds_70 rfl (lv_at hl 2 rfl) ?_
                  refine lv_istore_n (lv' := [(1, .int x12), (0, wR loc 1), (2, .int x12)]) hx hb dX5_grinds_71 rfl hl (by decide) rfl (fun ls hl => ?_)
                  refine lv_iinc (v := (x12 + 1)) (lv' := [(2, .int (x12 + 1)), (1, .int x12), (0, wR loc 1)]) hx hb dX5_grinds_72 hl (k := 2) rfl rfl (by decide) rfl (fun ls hl => ?_)
                  refine lv_goto (tgt := 33) hx hb dX5_grinds_75 (by decide) ?_
                  exact ih _ _ _ _ _ hf hH hS (lv_sub hl [2, 1, 0] rfl)
                · have hf := wIf c20 hf
                  refine wald_n hx hb dX5_grinds_55 rfl (lv_at hl 0 rfl) ?_
                  refine wg (C := RX5) (T := TX5) (N := 31) (v := wR loc 22) hx hb hts iX5 hown hKn.1 hH (q := 1) (hB.1 1 6 (by decide)) (by decide) rfl rfl 12 (by decide) k32 rfl dX5_grinds_56 ?_
                  refine lv_iload_n hx hb dX5_grinds_59 rfl (lv_at hl 2 rfl) ?_
                  refine wia hx hb hKn.1 hH (hB.1 22 7 (by decide)) (hB.2.1 22 _ (by decide)) g18 dX5_grinds_60 ?_
                  refine wald_n hx hb dX5_grinds_61 rfl (lv_at hl 0 rfl) ?_
                  refine wg (C := RX5) (T := TX5) (N := 31) (v := wR loc 22) hx hb hts iX5 hown hKn.1 hH (q := 1) (hB.1 1 6 (by decide)) (by decide) rfl rfl 12 (by decide) k32 rfl dX5_grinds_62 ?_
                  refine lv_iload_n hx hb dX5_grinds_65 rfl (lv_at hl 1 rfl) ?_
                  obtain ⟨g21, hf⟩ := wGd_e hf
                  refine wia hx hb hKn.1 hH (hB.1 22 7 (by decide)) (hB.2.1 22 _ (by decide)) g21 dX5_grinds_66 ?_
                  refine lv_icmp_ge (tgt := 72) hx hb dX5_grinds_67 (by decide) (fun c22 => ?_) (fun c22 => ?_)
                  · have hf := wIt c22 hf
                    refine lv_iinc (v := (x12 + 1)) (lv' := [(2, .int (x12 + 1)), (0, wR loc 1), (1, .int x11)]) hx hb dX5_grinds_72 hl (k := 2) rfl rfl (by decide) rfl (fun ls hl => ?_)
                    refine lv_goto (tgt := 33) hx hb dX5_grinds_75 (by decide) ?_
                    exact ih _ _ _ _ _ hf hH hS (lv_sub hl [1, 2, 0] rfl)
                  · have hf := wIf c22 hf
                    refine lv_iload_n hx hb dX5_grinds_70 rfl (lv_at hl 2 rfl) ?_
                    refine lv_istore_n (lv' := [(1, .int x12), (0, wR loc 1), (2, .int x12)]) hx hb dX5_grinds_71 rfl hl (by decide) rfl (fun ls hl => ?_)
                    refine lv_iinc (v := (x12 + 1)) (lv' := [(2, .int (x12 + 1)), (1, .int x12), (0, wR loc 1)]) hx hb dX5_grinds_72 hl (k := 2) rfl rfl (by decide) rfl (fun ls hl => ?_)
                    refine lv_goto (tgt := 33) hx hb dX5_grinds_75 (by decide) ?_
                    exact ih _ _ _ _ _ hf hH hS (lv_sub hl [2, 1, 0] rfl)
        exact lp15 wN _ _ _ _ _ hL13 hH hS (lv_sub hl [2, 1, 0] rfl)
      · have hf := wIt c9 hf
        cases hf
        exact W.vret hx hb hr (fun t ht hW => ⟨⟨(), rfl, trivial, by show wH _ _ _ _ _ _ _ t.heap; rw [ht]; exact hH⟩, hS.F ht⟩) hS.2.2 dX5_grinds_28
noncomputable def fX5_go_15  : Nat → wI → Int32 → Int32 → Option (wI)
  | 0, _, _, _ => none
  | n + 1, iv, x1, x2 => if x1 ≤ x2 then some iv else if 20000 ≤ (iv 1 2) then some iv else wBd (fX5_goesOn iv) (fun (iv6 : wI) => wBd (fX5_steams iv6) (fun (iv8 : wI) => wBd (fX5_cleans iv8) (fun (iv10 : wI) => wBd (fX5_brews iv10) (fun (iv12 : wI) => wBd (fX5_grinds iv12) (fun (iv14 : wI) => wBd (fX5_countOf iv14 3) (fun (r16 : Int32) => wBd (fX5_countOf iv14 5) (fun (r18 : Int32) => wLt (wU iv14 1 3 ((iv14 1 3) - ((1 + (5 * r16)) + (8 * r18)))) (fun (iv20 : wI) => if 950 ≤ (iv20 1 3) then wLt (wU iv20 1 2 ((iv20 1 2) + 1)) (fun (iv23 : wI) => fX5_go_15 n iv23 x1 (x2 + 1)) else wBd (fX5_power iv20) (fun (r25 : Int32) => if ((iv20 1 1) - r25) < 6 then wLt (wU iv20 1 2 ((iv20 1 2) + 1)) (fun (iv28 : wI) => fX5_go_15 n iv28 x1 (x2 + 1)) else wLt (wU iv20 1 3 ((iv20 1 3) + 14)) (fun (iv30 : wI) => wLt (wU iv30 1 2 ((iv30 1 2) + 1)) (fun (iv32 : wI) => fX5_go_15 n iv32 x1 (x2 + 1))))))))))))
noncomputable def fX5_go  (iv : wI) (a1 : Int32) : Option (wI × Int32) := wBd (fX5_in a1 0 500) (fun (r1 : Int32) => if r1 = 0 then some (iv, ((-1) : Int32)) else wBd (fX5_go_15 wN iv a1 0) (fun (iv10 : wI) => some (iv10, (iv10 1 2))))
set_option maxHeartbeats 4000000 in
set_option maxRecDepth 100000 in
theorem mtX5_go (l : Launch) (D : va_G) (K : Nat → ClassId) (loc sh ln : Nat → Nat) (iv : wI) (rv : wJ) (sz : Nat) (a1 : Int32) {iv' : wI} {r' : Int32} (hB : wBm sh ln) (hf : fX5_go iv a1 = some (iv', r')) : Met l yX5_go wsX5_go ({ frames := 4, cells := 0, slots := 0, locals := 88 }) (wPc D K loc sh ln iv rv sz [wR loc 1, .int a1]) (wQi D K loc sh ln iv' rv sz r') 0 0 (wA loc sh sz) := by
  refine Met.ofW (cc := cX5_go) (maxL := 3) (ret := (some .int)) (by decide) rfl ?_
  intro p e s m args below meth c s₁ B hml hv
  obtain ⟨rfl, hsz, hH, hKn⟩ := hv
  have hx := B.exec
  have hb := B.bytes
  have hr := B.returns
  have hts := atoms_spec (ws := wsX5_go) B.pre
  have hown : s.vm.findClass RX5 = some m.cls := findClass_of_methodNamed B.named
  have hlocks := B.notSynchronized
  subst hsz
  have hA : ∀ q : Nat, s.heap.size ≤ q → wA loc sh s.heap.size q := fun q h => Or.inr h
  have hO : ∀ a, sh a ≠ 0 → wA loc sh s.heap.size (loc a) := fun a h => Or.inl ⟨a, h, rfl⟩
  have hS : va_S (wA loc sh s.heap.size) s.heap s.heap [] := va_S.rf
  obtain ⟨ls, hen, hl⟩ := wEntry m [wR loc 1, .int a1] 3 (List.forall_mem_cons.mpr ⟨wR_cat _ _, List.forall_mem_cons.mpr ⟨rfl, fun _ h => absurd h List.not_mem_nil⟩⟩) (Nat.le_of_ble_eq_true rfl)
  rw [hen]
  clear hen
  have hl : lv_has ls 3 [(0, wR loc 1), (1, .int a1)] := hl
  have k115 := hts (.fieldLink RX5 115 "CupByCupModel" "now" "I") (List.mem_of_getElem? (i := 1) rfl)
  have iX5 : ∀ w ∈ wsX50, w ∈ wsX5_go := fun w h => List.mem_cons_of_mem _ (List.mem_append_right _ h)
  have k7 := hts (.fieldLink RX5 7 "CupByCupModel" "heat" "I") (List.mem_of_getElem? (i := 2) rfl)
  have k83 := hts (.fieldLink RX5 83 "CupByCupModel" "limit" "I") (List.mem_of_getElem? (i := 3) rfl)
  unfold fX5_go at hf
  refine lv_iload_n hx hb dX5_go_0 rfl (lv_at hl 1 rfl) ?_
  refine lv_iconst (v := 0) hx hb dX5_go_1 (by decide) ?_
  refine lv_sipush (v := 500) hx hb dX5_go_2 (by decide) ?_
  obtain ⟨r1, h2, hf⟩ := wBd_e hf
  refine wci (va_runS (As := [.int a1, .int 0, .int 500]) (rest := []) ⟨hx, hb, hml, hown, hts⟩ (mtX5_in l D K loc sh ln iv rv _ a1 0 500 h2) (va_cwS 3 hts gX5_go_X5_in rfl rfl rfl (by decide +kernel) ⟨Nat.le_of_ble_eq_true rfl, Nat.le_of_ble_eq_true rfl⟩) (wPreS hKn hH) rfl rfl hl.1 rfl (lv_room (Nat.le_of_ble_eq_true rfl)) dX5_go_5 ⟨Nat.zero_le _, Nat.zero_le _⟩) hS hO hA (fun H locs hH hS => ?_)
  refine lv_if_ne (tgt := 13) hx hb dX5_go_8 (by decide) (fun c3 => ?_) (fun c3 => ?_)
  · have hf := wIf c3 hf
    refine lv_iconst (v := 0) hx hb dX5_go_13 (by decide) ?_
    refine lv_istore_n (lv' := [(2, .int 0), (0, wR loc 1), (1, .int a1)]) hx hb dX5_go_14 rfl hl (by decide) rfl (fun ls hl => ?_)
    obtain ⟨iv10, hL7, hf⟩ := wBd_e hf
    have hk8 : ∀ (H : Heap) (locs : List Loc) (ls : Array Slot), wH D K loc sh ln iv10 rv H → va_S (wA loc sh s.heap.size) s.heap H locs → lv_has ls 3 [(0, wR loc 1)] → W p l e (headSpec wsX5_go ({ frames := 4, cells := 0, slots := 0, locals := 88 })).room s m ([wR loc 1, .int a1] : List Value).toArray below meth c H locs 0 0 (MQ below (wQi D K loc sh ln iv' rv s.heap.size r') ([wR loc 1, .int a1] : List Value).toArray s 0 0 (wA loc sh s.heap.size)) (F0 m 128 ls []) := by
      clear hL7 hl hS hH
      intro H locs ls hH hS hl
      refine wald_n hx hb dX5_go_128 rfl (lv_at hl 0 rfl) ?_
      refine wg (C := RX5) (T := TX5) (N := 31) (v := .int (iv10 1 2)) hx hb hts iX5 hown hKn.1 hH (q := 1) (hB.1 1 6 (by decide)) (by decide) rfl rfl 2 (by decide) k115 rfl dX5_go_129 ?_
      cases hf
      exact W.iret hx hb hr (fun t ht hW => ⟨⟨_, (), rfl, rfl, by show wH _ _ _ _ _ _ _ t.heap; rw [ht]; exact hH⟩, hS.F ht⟩) hS.2.2 dX5_go_132
    have lp9 : ∀ (n4 : Nat) (iv5 : wI) (x6 : Int32) (H : Heap) (locs : List Loc) (ls : Array Slot), fX5_go_15 n4 iv5 a1 x6 = some iv10 → wH D K loc sh ln iv5 rv H → va_S (wA loc sh s.heap.size) s.heap H locs → lv_has ls 3 [(0, wR loc 1), (1, .int a1), (2, .int x6)] → W p l e (headSpec wsX5_go ({ frames := 4, cells := 0, slots := 0, locals := 88 })).room s m ([wR loc 1, .int a1] : List Value).toArray below meth c H locs 0 0 (MQ below (wQi D K loc sh ln iv' rv s.heap.size r') ([wR loc 1, .int a1] : List Value).toArray s 0 0 (wA loc sh s.heap.size)) (F0 m 15 ls []) := by
      clear hf hl hS hH hL7
      intro n4
      induction n4 with
      | zero => intro iv5 x6 H locs ls hf; cases hf
      | succ n4 ih =>
        intro iv5 x6 H locs ls hf hH hS hl
        rw [fX5_go_15.eq_2] at hf
        refine lv_iload_n hx hb dX5_go_15 rfl (lv_at hl 2 rfl) ?_
        refine lv_iload_n hx hb dX5_go_16 rfl (lv_at hl 1 rfl) ?_
        refine lv_icmp_ge (tgt := 128) hx hb dX5_go_17 (by decide) (fun c11 => ?_) (fun c11 => ?_)
        · have hf := wIt c11 hf
          cases hf
          exact hk8 _ _ _ hH hS (lv_sub hl [0] rfl)
        · have hf := wIf c11 hf
          refine wald_n hx hb dX5_go_20 rfl (lv_at hl 0 rfl) ?_
          refine wg (C := RX5) (T := TX5) (N := 31) (v := .int (iv5 1 2)) hx hb hts iX5 hown hKn.1 hH (q := 1) (hB.1 1 6 (by decide)) (by decide) rfl rfl 2 (by decide) k115 rfl dX5_go_21 ?_
          refine lv_sipush (v := 20000) hx hb dX5_go_24 (by decide) ?_
          refine lv_icmp_ge (tgt := 128) hx hb dX5_go_27 (by decide) (fun c12 => ?_) (fun c12 => ?_)
          · have hf := wIt c12 hf
            cases hf
            exact hk8 _ _ _ hH hS (lv_sub hl [0] rfl)
          · have hf := wIf c12 hf
            refine wald_n hx hb dX5_go_30 rfl (lv_at hl 0 rfl) ?_
            obtain ⟨iv13, h14, hf⟩ := wBd_e hf
            refine wcv (va_runV (As := []) (rest := []) ⟨hx, hb, hml, hown, hts⟩ (mtX5_goesOn l D K loc sh ln iv5 rv _ hB h14) (cwV 0 hts gX5_go_X5_goesOn rfl rfl rfl (by decide +kernel) ⟨Nat.le_of_ble_eq_true rfl, Nat.le_of_ble_eq_true rfl⟩) (wPreV hKn hH (hB.1 1 6 (by decide)) (by decide) rfl rfl) rfl rfl hl.1 rfl (lv_room (Nat.le_of_ble_eq_true rfl)) dX5_go_31 ⟨Nat.zero_le _, Nat.zero_le _⟩) hS hO hA (fun H locs hH hS => ?_)
            refine wald_n hx hb dX5_go_34 rfl (lv_at hl 0 rfl) ?_
            obtain ⟨iv15, h16, hf⟩ := wBd_e hf
            refine wcv (va_runV (As := []) (rest := []) ⟨hx, hb, hml, hown, hts⟩ (mtX5_steams l D K loc sh ln iv13 rv _ hB h16) (cwV 0 hts gX5_go_X5_steams rfl rfl rfl (by decide +kernel) ⟨Nat.le_of_ble_eq_true rfl, Nat.le_of_ble_eq_true rfl⟩) (wPreV hKn hH (hB.1 1 6 (by decide)) (by decide) rfl rfl) rfl rfl hl.1 rfl (lv_room (Nat.le_of_ble_eq_true rfl)) dX5_go_35 ⟨Nat.zero_le _, Nat.zero_le _⟩) hS hO hA (fun H locs hH hS => ?_)
            refine wald_n hx hb dX5_go_38 rfl (lv_at hl 0 rfl) ?_
            obtain ⟨iv17, h18, hf⟩ := wBd_e hf
            refine wcv (va_runV (As := []) (rest := []) ⟨hx, hb, hml, hown, hts⟩ (mtX5_cleans l D K loc sh ln iv15 rv _ hB h18) (cwV 0 hts gX5_go_X5_cleans rfl rfl rfl (by decide +kernel) ⟨Nat.le_of_ble_eq_true rfl, Nat.le_of_ble_eq_true rfl⟩) (wPreV hKn hH (hB.1 1 6 (by decide)) (by decide) rfl rfl) rfl rfl hl.1 rfl (lv_room (Nat.le_of_ble_eq_true rfl)) dX5_go_39 ⟨Nat.zero_le _, Nat.zero_le _⟩) hS hO hA (fun H locs hH hS => ?_)
            refine wald_n hx hb dX5_go_42 rfl (lv_at hl 0 rfl) ?_
            obtain ⟨iv19, h20, hf⟩ := wBd_e hf
            refine wcv (va_runV (As := []) (rest := []) ⟨hx, hb, hml, hown, hts⟩ (mtX5_brews l D K loc sh ln iv17 rv _ hB h20) (cwV 0 hts gX5_go_X5_brews rfl rfl rfl (by decide +kernel) ⟨Nat.le_of_ble_eq_true rfl, Nat.le_of_ble_eq_true rfl⟩) (wPreV hKn hH (hB.1 1 6 (by decide)) (by decide) rfl rfl) rfl rfl hl.1 rfl (lv_room (Nat.le_of_ble_eq_true rfl)) dX5_go_43 ⟨Nat.zero_le _, Nat.zero_le _⟩) hS hO hA (fun H locs hH hS => ?_)
            refine wald_n hx hb dX5_go_46 rfl (lv_at hl 0 rfl) ?_
            obtain ⟨iv21, h22, hf⟩ := wBd_e hf
            refine wcv (va_runV (As := []) (rest := []) ⟨hx, hb, hml, hown, hts⟩ (mtX5_grinds l D K loc sh ln iv19 rv _ hB h22) (cwV 0 hts gX5_go_X5_grinds rfl rfl rfl (by decide +kernel) ⟨Nat.le_of_ble_eq_true rfl, Nat.le_of_ble_eq_true rfl⟩) (wPreV hKn hH (hB.1 1 6 (by decide)) (by decide) rfl rfl) rfl rfl hl.1 rfl (lv_room (Nat.le_of_ble_eq_true rfl)) dX5_go_47 ⟨Nat.zero_le _, Nat.zero_le _⟩) hS hO hA (fun H locs hH hS => ?_)
            refine wald_n hx hb dX5_go_50 rfl (lv_at hl 0 rfl) ?_
            refine lv_dup hx hb dX5_go_51 (wR_cat _ _) ?_
            refine wg (C := RX5) (T := TX5) (N := 31) (v := .int (iv21 1 3)) hx hb hts iX5 hown hKn.1 hH (q := 1) (hB.1 1 6 (by decide)) (by decide) rfl rfl 3 (by decide) k7 rfl dX5_go_52 ?_
            refine lv_iconst (v := 1) hx hb dX5_go_55 (by decide) ?_
            refine lv_iconst (v := 5) hx hb dX5_go_56 (by decide) ?_
            refine wald_n hx hb dX5_go_57 rfl (lv_at hl 0 rfl) ?_
            refine lv_iconst (v := 3) hx hb dX5_go_58 (by decide) ?_
            obtain ⟨r23, h24, hf⟩ := wBd_e hf
            refine wci (va_runV (As := [.int 3]) (rest := [.int 5, .int 1, .int (iv21 1 3), wR loc 1]) ⟨hx, hb, hml, hown, hts⟩ (mtX5_countOf l D K loc sh ln iv21 rv _ 3 hB h24) (cwV 1 hts gX5_go_X5_countOf rfl rfl rfl (by decide +kernel) ⟨Nat.le_of_ble_eq_true rfl, Nat.le_of_ble_eq_true rfl⟩) (wPreV hKn hH (hB.1 1 6 (by decide)) (by decide) rfl rfl) rfl rfl hl.1 rfl (lv_room (Nat.le_of_ble_eq_true rfl)) dX5_go_59 ⟨Nat.zero_le _, Nat.zero_le _⟩) hS hO hA (fun H locs hH hS => ?_)
            refine lv_imul hx hb dX5_go_62 ?_
            refine lv_iadd hx hb dX5_go_63 ?_
            refine lv_bipush (v := 8) hx hb dX5_go_64 (by decide) ?_
            refine wald_n hx hb dX5_go_66 rfl (lv_at hl 0 rfl) ?_
            refine lv_iconst (v := 5) hx hb dX5_go_67 (by decide) ?_
            obtain ⟨r25, h26, hf⟩ := wBd_e hf
            refine wci (va_runV (As := [.int 5]) (rest := [.int 8, .int (1 + (5 * r23)), .int (iv21 1 3), wR loc 1]) ⟨hx, hb, hml, hown, hts⟩ (mtX5_countOf l D K loc sh ln iv21 rv _ 5 hB h26) (cwV 1 hts gX5_go_X5_countOf rfl rfl rfl (by decide +kernel) ⟨Nat.le_of_ble_eq_true rfl, Nat.le_of_ble_eq_true rfl⟩) (wPreV hKn hH (hB.1 1 6 (by decide)) (by decide) rfl rfl) rfl rfl hl.1 rfl (lv_room (Nat.le_of_ble_eq_true rfl)) dX5_go_68 ⟨Nat.zero_le _, Nat.zero_le _⟩) hS hO hA (fun H locs hH hS => ?_)
            refine lv_imul hx hb dX5_go_71 ?_
            refine lv_iadd hx hb dX5_go_72 ?_
            refine lv_isub hx hb dX5_go_73 ?_
            obtain ⟨iv27, e28, hf⟩ := wLt_e hf
            refine wp (C := RX5) (T := TX5) (N := 31) (v := .int ((iv21 1 3) - ((1 + (5 * r23)) + (8 * r25)))) (ty := tyX5 3) (iv' := iv27) (rv' := rv) hx hb hts iX5 tyX5 tyX5_ok nmX5 hown hKn.1 hH hO hS (q := 1) (hB.1 1 6 (by decide)) (by decide) rfl rfl 3 (by decide) k7 rfl (tyX5_ok 3 (by decide)) rfl rfl (Nat.le_of_ble_eq_true rfl) (by rw [e28, wU_self]; rfl) (fun a ha => by rw [e28]; exact wU_ne a ha) (fun _ _ => rfl) dX5_go_74 (fun H locs hH hS => ?_)
            refine wald_n hx hb dX5_go_77 rfl (lv_at hl 0 rfl) ?_
            refine wg (C := RX5) (T := TX5) (N := 31) (v := .int (iv27 1 3)) hx hb hts iX5 hown hKn.1 hH (q := 1) (hB.1 1 6 (by decide)) (by decide) rfl rfl 3 (by decide) k7 rfl dX5_go_78 ?_
            refine lv_sipush (v := 950) hx hb dX5_go_81 (by decide) ?_
            refine lv_icmp_ge (tgt := 112) hx hb dX5_go_84 (by decide) (fun c29 => ?_) (fun c29 => ?_)
            · have hf := wIt c29 hf
              refine wald_n hx hb dX5_go_112 rfl (lv_at hl 0 rfl) ?_
              refine lv_dup hx hb dX5_go_113 (wR_cat _ _) ?_
              refine wg (C := RX5) (T := TX5) (N := 31) (v := .int (iv27 1 2)) hx hb hts iX5 hown hKn.1 hH (q := 1) (hB.1 1 6 (by decide)) (by decide) rfl rfl 2 (by decide) k115 rfl dX5_go_114 ?_
              refine lv_iconst (v := 1) hx hb dX5_go_117 (by decide) ?_
              refine lv_iadd hx hb dX5_go_118 ?_
              obtain ⟨iv30, e31, hf⟩ := wLt_e hf
              refine wp (C := RX5) (T := TX5) (N := 31) (v := .int ((iv27 1 2) + 1)) (ty := tyX5 2) (iv' := iv30) (rv' := rv) hx hb hts iX5 tyX5 tyX5_ok nmX5 hown hKn.1 hH hO hS (q := 1) (hB.1 1 6 (by decide)) (by decide) rfl rfl 2 (by decide) k115 rfl (tyX5_ok 2 (by decide)) rfl rfl (Nat.le_of_ble_eq_true rfl) (by rw [e31, wU_self]; rfl) (fun a ha => by rw [e31]; exact wU_ne a ha) (fun _ _ => rfl) dX5_go_119 (fun H locs hH hS => ?_)
              refine lv_iinc (v := (x6 + 1)) (lv' := [(2, .int (x6 + 1)), (0, wR loc 1), (1, .int a1)]) hx hb dX5_go_122 hl (k := 2) rfl rfl (by decide) rfl (fun ls hl => ?_)
              refine lv_goto (tgt := 15) hx hb dX5_go_125 (by decide) ?_
              exact ih _ _ _ _ _ hf hH hS (lv_sub hl [1, 2, 0] rfl)
            · have hf := wIf c29 hf
              refine wald_n hx hb dX5_go_87 rfl (lv_at hl 0 rfl) ?_
              refine wg (C := RX5) (T := TX5) (N := 31) (v := .int (iv27 1 1)) hx hb hts iX5 hown hKn.1 hH (q := 1) (hB.1 1 6 (by decide)) (by decide) rfl rfl 1 (by decide) k83 rfl dX5_go_88 ?_
              refine wald_n hx hb dX5_go_91 rfl (lv_at hl 0 rfl) ?_
              obtain ⟨r32, h33, hf⟩ := wBd_e hf
              refine wci (va_runV (As := []) (rest := [.int (iv27 1 1)]) ⟨hx, hb, hml, hown, hts⟩ (mtX5_power l D K loc sh ln iv27 rv _ hB h33) (cwV 0 hts gX5_go_X5_power rfl rfl rfl (by decide +kernel) ⟨Nat.le_of_ble_eq_true rfl, Nat.le_of_ble_eq_true rfl⟩) (wPreV hKn hH (hB.1 1 6 (by decide)) (by decide) rfl rfl) rfl rfl hl.1 rfl (lv_room (Nat.le_of_ble_eq_true rfl)) dX5_go_92 ⟨Nat.zero_le _, Nat.zero_le _⟩) hS hO hA (fun H locs hH hS => ?_)
              refine lv_isub hx hb dX5_go_95 ?_
              refine lv_bipush (v := 6) hx hb dX5_go_96 (by decide) ?_
              refine lv_icmp_lt (tgt := 112) hx hb dX5_go_98 (by decide) (fun c34 => ?_) (fun c34 => ?_)
              · have hf := wIt c34 hf
                refine wald_n hx hb dX5_go_112 rfl (lv_at hl 0 rfl) ?_
                refine lv_dup hx hb dX5_go_113 (wR_cat _ _) ?_
                refine wg (C := RX5) (T := TX5) (N := 31) (v := .int (iv27 1 2)) hx hb hts iX5 hown hKn.1 hH (q := 1) (hB.1 1 6 (by decide)) (by decide) rfl rfl 2 (by decide) k115 rfl dX5_go_114 ?_
                refine lv_iconst (v := 1) hx hb dX5_go_117 (by decide) ?_
                refine lv_iadd hx hb dX5_go_118 ?_
                obtain ⟨iv35, e36, hf⟩ := wLt_e hf
                refine wp (C := RX5) (T := TX5) (N := 31) (v := .int ((iv27 1 2) + 1)) (ty := tyX5 2) (iv' := iv35) (rv' := rv) hx hb hts iX5 tyX5 tyX5_ok nmX5 hown hKn.1 hH hO hS (q := 1) (hB.1 1 6 (by decide)) (by decide) rfl rfl 2 (by decide) k115 rfl (tyX5_ok 2 (by decide)) rfl rfl (Nat.le_of_ble_eq_true rfl) (by rw [e36, wU_self]; rfl) (fun a ha => by rw [e36]; exact wU_ne a ha) (fun _ _ => rfl) dX5_go_119 (fun H locs hH hS => ?_)
                refine lv_iinc (v := (x6 + 1)) (lv' := [(2, .int (x6 + 1)), (0, wR loc 1), (1, .int a1)]) hx hb dX5_go_122 hl (k := 2) rfl rfl (by decide) rfl (fun ls hl => ?_)
                refine lv_goto (tgt := 15) hx hb dX5_go_125 (by decide) ?_
                exact ih _ _ _ _ _ hf hH hS (lv_sub hl [1, 2, 0] rfl)
              · have hf := wIf c34 hf
                refine wald_n hx hb dX5_go_101 rfl (lv_at hl 0 rfl) ?_
                refine lv_dup hx hb dX5_go_102 (wR_cat _ _) ?_
                refine wg (C := RX5) (T := TX5) (N := 31) (v := .int (iv27 1 3)) hx hb hts iX5 hown hKn.1 hH (q := 1) (hB.1 1 6 (by decide)) (by decide) rfl rfl 3 (by decide) k7 rfl dX5_go_103 ?_
                refine lv_bipush (v := 14) hx hb dX5_go_106 (by decide) ?_
                refine lv_iadd hx hb dX5_go_108 ?_
                obtain ⟨iv37, e38, hf⟩ := wLt_e hf
                refine wp (C := RX5) (T := TX5) (N := 31) (v := .int ((iv27 1 3) + 14)) (ty := tyX5 3) (iv' := iv37) (rv' := rv) hx hb hts iX5 tyX5 tyX5_ok nmX5 hown hKn.1 hH hO hS (q := 1) (hB.1 1 6 (by decide)) (by decide) rfl rfl 3 (by decide) k7 rfl (tyX5_ok 3 (by decide)) rfl rfl (Nat.le_of_ble_eq_true rfl) (by rw [e38, wU_self]; rfl) (fun a ha => by rw [e38]; exact wU_ne a ha) (fun _ _ => rfl) dX5_go_109 (fun H locs hH hS => ?_)
                refine wald_n hx hb dX5_go_112 rfl (lv_at hl 0 rfl) ?_
                refine lv_dup hx hb dX5_go_113 (wR_cat _ _) ?_
                refine wg (C := RX5) (T := TX5) (N := 31) (v := .int (iv37 1 2)) hx hb hts iX5 hown hKn.1 hH (q := 1) (hB.1 1 6 (by decide)) (by decide) rfl rfl 2 (by decide) k115 rfl dX5_go_114 ?_
                refine lv_iconst (v := 1) hx hb dX5_go_117 (by decide) ?_
                refine lv_iadd hx hb dX5_go_118 ?_
                obtain ⟨iv39, e40, hf⟩ := wLt_e hf
                refine wp (C := RX5) (T := TX5) (N := 31) (v := .int ((iv37 1 2) + 1)) (ty := tyX5 2) (iv' := iv39) (rv' := rv) hx hb hts iX5 tyX5 tyX5_ok nmX5 hown hKn.1 hH hO hS (q := 1) (hB.1 1 6 (by decide)) (by decide) rfl rfl 2 (by decide) k115 rfl (tyX5_ok 2 (by decide)) rfl rfl (Nat.le_of_ble_eq_true rfl) (by rw [e40, wU_self]; rfl) (fun a ha => by rw [e40]; exact wU_ne a ha) (fun _ _ => rfl) dX5_go_119 (fun H locs hH hS => ?_)
                refine lv_iinc (v := (x6 + 1)) (lv' := [(2, .int (x6 + 1)), (0, wR loc 1), (1, .int a1)]) hx hb dX5_go_122 hl (k := 2) rfl rfl (by decide) rfl (fun ls hl => ?_)
                refine lv_goto (tgt := 15) hx hb dX5_go_125 (by decide) ?_
                exact ih _ _ _ _ _ hf hH hS (lv_sub hl [1, 2, 0] rfl)
    exact lp9 wN _ _ _ _ _ hL7 hH hS (lv_sub hl [1, 2, 0] rfl)
  · have hf := wIt c3 hf
    refine lv_iconst (v := (-1)) hx hb dX5_go_11 (by decide) ?_
    cases hf
    exact W.iret hx hb hr (fun t ht hW => ⟨⟨_, (), rfl, rfl, by show wH _ _ _ _ _ _ _ t.heap; rw [ht]; exact hH⟩, hS.F ht⟩) hS.2.2 dX5_go_12
noncomputable def fX5_fault_29  : Nat → wI → Int32 → Int32 → Int32 → Option (wI)
  | 0, _, _, _, _ => none
  | n + 1, iv, x1, x2, x3 => if (iv 1 8) ≤ x3 then some iv else wGd (vp_in x3 100) (if (iv 24 x3.toNatClampNeg) = 3 then if (iv 26 x3.toNatClampNeg) = x1 then wBd (fX5_spoils iv x3) (fun (iv11 : wI) => fX5_fault_29 n iv11 x1 x2 (x3 + 1)) else fX5_fault_29 n iv x1 x2 (x3 + 1) else fX5_fault_29 n iv x1 x2 (x3 + 1))
noncomputable def fX5_fault  (iv : wI) (a1 : Int32) (a2 : Int32) : Option (wI × Int32) := wBd (fX5_in a1 0 ((iv 1 0) - 1)) (fun (r1 : Int32) => if r1 = 0 then some (iv, (0 : Int32)) else wBd (fX5_in a2 1 200) (fun (r4 : Int32) => if r4 = 0 then some (iv, (0 : Int32)) else wBd (fX5_fault_29 wN iv a1 a2 0) (fun (iv13 : wI) => wGd (vp_in a1 3) (wLt (wU iv13 30 a1.toNatClampNeg 0) (fun (iv21 : wI) => wLt (wU iv21 32 a1.toNatClampNeg a2) (fun (iv23 : wI) => some (iv23, (1 : Int32))))))))
set_option maxHeartbeats 4000000 in
set_option maxRecDepth 100000 in
theorem mtX5_fault (l : Launch) (D : va_G) (K : Nat → ClassId) (loc sh ln : Nat → Nat) (iv : wI) (rv : wJ) (sz : Nat) (a1 : Int32) (a2 : Int32) {iv' : wI} {r' : Int32} (hB : wBm sh ln) (hf : fX5_fault iv a1 a2 = some (iv', r')) : Met l yX5_fault wsX5_fault ({ frames := 2, cells := 0, slots := 0, locals := 41 }) (wPc D K loc sh ln iv rv sz [wR loc 1, .int a1, .int a2]) (wQi D K loc sh ln iv' rv sz r') 0 0 (wA loc sh sz) := by
  refine Met.ofW (cc := cX5_fault) (maxL := 4) (ret := (some .boolean)) (by decide) rfl ?_
  intro p e s m args below meth c s₁ B hml hv
  obtain ⟨rfl, hsz, hH, hKn⟩ := hv
  have hx := B.exec
  have hb := B.bytes
  have hr := B.returns
  have hts := atoms_spec (ws := wsX5_fault) B.pre
  have hown : s.vm.findClass RX5 = some m.cls := findClass_of_methodNamed B.named
  have hlocks := B.notSynchronized
  subst hsz
  have hA : ∀ q : Nat, s.heap.size ≤ q → wA loc sh s.heap.size q := fun q h => Or.inr h
  have hO : ∀ a, sh a ≠ 0 → wA loc sh s.heap.size (loc a) := fun a h => Or.inl ⟨a, h, rfl⟩
  have hS : va_S (wA loc sh s.heap.size) s.heap s.heap [] := va_S.rf
  obtain ⟨ls, hen, hl⟩ := wEntry m [wR loc 1, .int a1, .int a2] 4 (List.forall_mem_cons.mpr ⟨wR_cat _ _, List.forall_mem_cons.mpr ⟨rfl, List.forall_mem_cons.mpr ⟨rfl, fun _ h => absurd h List.not_mem_nil⟩⟩⟩) (Nat.le_of_ble_eq_true rfl)
  rw [hen]
  clear hen
  have hl : lv_has ls 4 [(0, wR loc 1), (1, .int a1), (2, .int a2)] := hl
  have k80 := hts (.fieldLink RX5 80 "CupByCupModel" "groups" "I") (List.mem_of_getElem? (i := 1) rfl)
  have iX5 : ∀ w ∈ wsX50, w ∈ wsX5_fault := fun w h => List.mem_cons_of_mem _ (List.mem_append_right _ h)
  have k112 := hts (.fieldLink RX5 112 "CupByCupModel" "cups" "I") (List.mem_of_getElem? (i := 2) rfl)
  have k38 := hts (.fieldLink RX5 38 "CupByCupModel" "state" "[I") (List.mem_of_getElem? (i := 3) rfl)
  have k44 := hts (.fieldLink RX5 44 "CupByCupModel" "at" "[I") (List.mem_of_getElem? (i := 4) rfl)
  have k56 := hts (.fieldLink RX5 56 "CupByCupModel" "rinses" "[I") (List.mem_of_getElem? (i := 5) rfl)
  have k62 := hts (.fieldLink RX5 62 "CupByCupModel" "faults" "[I") (List.mem_of_getElem? (i := 6) rfl)
  unfold fX5_fault at hf
  refine lv_iload_n hx hb dX5_fault_0 rfl (lv_at hl 1 rfl) ?_
  refine lv_iconst (v := 0) hx hb dX5_fault_1 (by decide) ?_
  refine wald_n hx hb dX5_fault_2 rfl (lv_at hl 0 rfl) ?_
  refine wg (C := RX5) (T := TX5) (N := 31) (v := .int (iv 1 0)) hx hb hts iX5 hown hKn.1 hH (q := 1) (hB.1 1 6 (by decide)) (by decide) rfl rfl 0 (by decide) k80 rfl dX5_fault_3 ?_
  refine lv_iconst (v := 1) hx hb dX5_fault_6 (by decide) ?_
  refine lv_isub hx hb dX5_fault_7 ?_
  obtain ⟨r1, h2, hf⟩ := wBd_e hf
  refine wci (va_runS (As := [.int a1, .int 0, .int ((iv 1 0) - 1)]) (rest := []) ⟨hx, hb, hml, hown, hts⟩ (mtX5_in l D K loc sh ln iv rv _ a1 0 ((iv 1 0) - 1) h2) (va_cwS 3 hts gX5_fault_X5_in rfl rfl rfl (by decide +kernel) ⟨Nat.le_of_ble_eq_true rfl, Nat.le_of_ble_eq_true rfl⟩) (wPreS hKn hH) rfl rfl hl.1 rfl (lv_room (Nat.le_of_ble_eq_true rfl)) dX5_fault_8 ⟨Nat.zero_le _, Nat.zero_le _⟩) hS hO hA (fun H locs hH hS => ?_)
  refine lv_if_eq (tgt := 25) hx hb dX5_fault_11 (by decide) (fun c3 => ?_) (fun c3 => ?_)
  · have hf := wIt c3 hf
    refine lv_iconst (v := 0) hx hb dX5_fault_25 (by decide) ?_
    cases hf
    exact W.zret hx hb hr rfl (fun t ht hW => ⟨⟨_, (), rfl, rfl, by show wH _ _ _ _ _ _ _ t.heap; rw [ht]; exact hH⟩, hS.F ht⟩) hS.2.2 dX5_fault_26
  · have hf := wIf c3 hf
    refine lv_iload_n hx hb dX5_fault_14 rfl (lv_at hl 2 rfl) ?_
    refine lv_iconst (v := 1) hx hb dX5_fault_15 (by decide) ?_
    refine lv_sipush (v := 200) hx hb dX5_fault_16 (by decide) ?_
    obtain ⟨r4, h5, hf⟩ := wBd_e hf
    refine wci (va_runS (As := [.int a2, .int 1, .int 200]) (rest := []) ⟨hx, hb, hml, hown, hts⟩ (mtX5_in l D K loc sh ln iv rv _ a2 1 200 h5) (va_cwS 3 hts gX5_fault_X5_in rfl rfl rfl (by decide +kernel) ⟨Nat.le_of_ble_eq_true rfl, Nat.le_of_ble_eq_true rfl⟩) (wPreS hKn hH) rfl rfl hl.1 rfl (lv_room (Nat.le_of_ble_eq_true rfl)) dX5_fault_19 ⟨Nat.zero_le _, Nat.zero_le _⟩) hS hO hA (fun H locs hH hS => ?_)
    refine lv_if_ne (tgt := 27) hx hb dX5_fault_22 (by decide) (fun c6 => ?_) (fun c6 => ?_)
    · have hf := wIf c6 hf
      refine lv_iconst (v := 0) hx hb dX5_fault_27 (by decide) ?_
      refine lv_istore_n (lv' := [(3, .int 0), (0, wR loc 1), (1, .int a1), (2, .int a2)]) hx hb dX5_fault_28 rfl hl (by decide) rfl (fun ls hl => ?_)
      obtain ⟨iv13, hL10, hf⟩ := wBd_e hf
      have hk11 : ∀ (H : Heap) (locs : List Loc) (ls : Array Slot), wH D K loc sh ln iv13 rv H → va_S (wA loc sh s.heap.size) s.heap H locs → lv_has ls 4 [(0, wR loc 1), (1, .int a1), (2, .int a2)] → W p l e (headSpec wsX5_fault ({ frames := 2, cells := 0, slots := 0, locals := 41 })).room s m ([wR loc 1, .int a1, .int a2] : List Value).toArray below meth c H locs 0 0 (MQ below (wQi D K loc sh ln iv' rv s.heap.size r') ([wR loc 1, .int a1, .int a2] : List Value).toArray s 0 0 (wA loc sh s.heap.size)) (F0 m 68 ls []) := by
        clear hL10 hl hS hH
        intro H locs ls hH hS hl
        refine wald_n hx hb dX5_fault_68 rfl (lv_at hl 0 rfl) ?_
        refine wg (C := RX5) (T := TX5) (N := 31) (v := wR loc 30) hx hb hts iX5 hown hKn.1 hH (q := 1) (hB.1 1 6 (by decide)) (by decide) rfl rfl 20 (by decide) k56 rfl dX5_fault_69 ?_
        refine lv_iload_n hx hb dX5_fault_72 rfl (lv_at hl 1 rfl) ?_
        refine lv_iconst (v := 0) hx hb dX5_fault_73 (by decide) ?_
        obtain ⟨g20, hf⟩ := wGd_e hf
        obtain ⟨iv21, e22, hf⟩ := wLt_e hf
        refine wis hx hb hKn.1 hH hO hS (hB.1 30 7 (by decide)) (hB.2.1 30 _ (by decide)) g20 dX5_fault_74 (fun H locs hH hS => ?_)
        rw [← e22] at hH
        refine wald_n hx hb dX5_fault_75 rfl (lv_at hl 0 rfl) ?_
        refine wg (C := RX5) (T := TX5) (N := 31) (v := wR loc 32) hx hb hts iX5 hown hKn.1 hH (q := 1) (hB.1 1 6 (by decide)) (by decide) rfl rfl 22 (by decide) k62 rfl dX5_fault_76 ?_
        refine lv_iload_n hx hb dX5_fault_79 rfl (lv_at hl 1 rfl) ?_
        refine lv_iload_n hx hb dX5_fault_80 rfl (lv_at hl 2 rfl) ?_
        obtain ⟨iv23, e24, hf⟩ := wLt_e hf
        refine wis hx hb hKn.1 hH hO hS (hB.1 32 7 (by decide)) (hB.2.1 32 _ (by decide)) g20 dX5_fault_81 (fun H locs hH hS => ?_)
        rw [← e24] at hH
        refine lv_iconst (v := 1) hx hb dX5_fault_82 (by decide) ?_
        cases hf
        exact W.zret hx hb hr rfl (fun t ht hW => ⟨⟨_, (), rfl, rfl, by show wH _ _ _ _ _ _ _ t.heap; rw [ht]; exact hH⟩, hS.F ht⟩) hS.2.2 dX5_fault_83
      have lp12 : ∀ (n7 : Nat) (iv8 : wI) (x9 : Int32) (H : Heap) (locs : List Loc) (ls : Array Slot), fX5_fault_29 n7 iv8 a1 a2 x9 = some iv13 → wH D K loc sh ln iv8 rv H → va_S (wA loc sh s.heap.size) s.heap H locs → lv_has ls 4 [(0, wR loc 1), (1, .int a1), (2, .int a2), (3, .int x9)] → W p l e (headSpec wsX5_fault ({ frames := 2, cells := 0, slots := 0, locals := 41 })).room s m ([wR loc 1, .int a1, .int a2] : List Value).toArray below meth c H locs 0 0 (MQ below (wQi D K loc sh ln iv' rv s.heap.size r') ([wR loc 1, .int a1, .int a2] : List Value).toArray s 0 0 (wA loc sh s.heap.size)) (F0 m 29 ls []) := by
        clear hf hl hS hH hL10
        intro n7
        induction n7 with
        | zero => intro iv8 x9 H locs ls hf; cases hf
        | succ n7 ih =>
          intro iv8 x9 H locs ls hf hH hS hl
          rw [fX5_fault_29.eq_2] at hf
          refine lv_iload_n hx hb dX5_fault_29 rfl (lv_at hl 3 rfl) ?_
          refine wald_n hx hb dX5_fault_30 rfl (lv_at hl 0 rfl) ?_
          refine wg (C := RX5) (T := TX5) (N := 31) (v := .int (iv8 1 8)) hx hb hts iX5 hown hKn.1 hH (q := 1) (hB.1 1 6 (by decide)) (by decide) rfl rfl 8 (by decide) k112 rfl dX5_fault_31 ?_
          refine lv_icmp_ge (tgt := 68) hx hb dX5_fault_34 (by decide) (fun c14 => ?_) (fun c14 => ?_)
          · have hf := wIt c14 hf
            cases hf
            exact hk11 _ _ _ hH hS (lv_sub hl [0, 1, 2] rfl)
          · have hf := wIf c14 hf
            refine wald_n hx hb dX5_fault_37 rfl (lv_at hl 0 rfl) ?_
            refine wg (C := RX5) (T := TX5) (N := 31) (v := wR loc 24) hx hb hts iX5 hown hKn.1 hH (q := 1) (hB.1 1 6 (by decide)) (by decide) rfl rfl 14 (by decide) k38 rfl dX5_fault_38 ?_
            refine lv_iload_n hx hb dX5_fault_41 rfl (lv_at hl 3 rfl) ?_
            obtain ⟨g15, hf⟩ := wGd_e hf
            refine wia hx hb hKn.1 hH (hB.1 24 7 (by decide)) (hB.2.1 24 _ (by decide)) g15 dX5_fault_42 ?_
            refine lv_iconst (v := 3) hx hb dX5_fault_43 (by decide) ?_
            refine lv_icmp_ne (tgt := 62) hx hb dX5_fault_44 (by decide) (fun c16 => ?_) (fun c16 => ?_)
            · have hf := wIf c16 hf
              refine lv_iinc (v := (x9 + 1)) (lv' := [(3, .int (x9 + 1)), (0, wR loc 1), (1, .int a1), (2, .int a2)]) hx hb dX5_fault_62 hl (k := 3) rfl rfl (by decide) rfl (fun ls hl => ?_)
              refine lv_goto (tgt := 29) hx hb dX5_fault_65 (by decide) ?_
              exact ih _ _ _ _ _ hf hH hS (lv_sub hl [1, 2, 3, 0] rfl)
            · have hf := wIt c16 hf
              refine wald_n hx hb dX5_fault_47 rfl (lv_at hl 0 rfl) ?_
              refine wg (C := RX5) (T := TX5) (N := 31) (v := wR loc 26) hx hb hts iX5 hown hKn.1 hH (q := 1) (hB.1 1 6 (by decide)) (by decide) rfl rfl 16 (by decide) k44 rfl dX5_fault_48 ?_
              refine lv_iload_n hx hb dX5_fault_51 rfl (lv_at hl 3 rfl) ?_
              refine wia hx hb hKn.1 hH (hB.1 26 7 (by decide)) (hB.2.1 26 _ (by decide)) g15 dX5_fault_52 ?_
              refine lv_iload_n hx hb dX5_fault_53 rfl (lv_at hl 1 rfl) ?_
              refine lv_icmp_ne (tgt := 62) hx hb dX5_fault_54 (by decide) (fun c17 => ?_) (fun c17 => ?_)
              · have hf := wIf c17 hf
                refine lv_iinc (v := (x9 + 1)) (lv' := [(3, .int (x9 + 1)), (0, wR loc 1), (1, .int a1), (2, .int a2)]) hx hb dX5_fault_62 hl (k := 3) rfl rfl (by decide) rfl (fun ls hl => ?_)
                refine lv_goto (tgt := 29) hx hb dX5_fault_65 (by decide) ?_
                exact ih _ _ _ _ _ hf hH hS (lv_sub hl [1, 2, 3, 0] rfl)
              · have hf := wIt c17 hf
                refine wald_n hx hb dX5_fault_57 rfl (lv_at hl 0 rfl) ?_
                refine lv_iload_n hx hb dX5_fault_58 rfl (lv_at hl 3 rfl) ?_
                obtain ⟨iv18, h19, hf⟩ := wBd_e hf
                refine wcv (va_runV (As := [.int x9]) (rest := []) ⟨hx, hb, hml, hown, hts⟩ (mtX5_spoils l D K loc sh ln iv8 rv _ x9 hB h19) (cwV 1 hts gX5_fault_X5_spoils rfl rfl rfl (by decide +kernel) ⟨Nat.le_of_ble_eq_true rfl, Nat.le_of_ble_eq_true rfl⟩) (wPreV hKn hH (hB.1 1 6 (by decide)) (by decide) rfl rfl) rfl rfl hl.1 rfl (lv_room (Nat.le_of_ble_eq_true rfl)) dX5_fault_59 ⟨Nat.zero_le _, Nat.zero_le _⟩) hS hO hA (fun H locs hH hS => ?_)
                refine lv_iinc (v := (x9 + 1)) (lv' := [(3, .int (x9 + 1)), (0, wR loc 1), (1, .int a1), (2, .int a2)]) hx hb dX5_fault_62 hl (k := 3) rfl rfl (by decide) rfl (fun ls hl => ?_)
                refine lv_goto (tgt := 29) hx hb dX5_fault_65 (by decide) ?_
                exact ih _ _ _ _ _ hf hH hS (lv_sub hl [1, 2, 3, 0] rfl)
      exact lp12 wN _ _ _ _ _ hL10 hH hS (lv_sub hl [1, 2, 3, 0] rfl)
    · have hf := wIt c6 hf
      refine lv_iconst (v := 0) hx hb dX5_fault_25 (by decide) ?_
      cases hf
      exact W.zret hx hb hr rfl (fun t ht hW => ⟨⟨_, (), rfl, rfl, by show wH _ _ _ _ _ _ _ t.heap; rw [ht]; exact hH⟩, hS.F ht⟩) hS.2.2 dX5_fault_26
noncomputable def fX5_limit  (iv : wI) (a1 : Int32) : Option (wI × Int32) := wBd (fX5_in a1 6 30) (fun (r1 : Int32) => if r1 = 0 then some (iv, (0 : Int32)) else wLt (wU iv 1 1 a1) (fun (iv4 : wI) => some (iv4, (1 : Int32))))
set_option maxHeartbeats 4000000 in
set_option maxRecDepth 100000 in
theorem mtX5_limit (l : Launch) (D : va_G) (K : Nat → ClassId) (loc sh ln : Nat → Nat) (iv : wI) (rv : wJ) (sz : Nat) (a1 : Int32) {iv' : wI} {r' : Int32} (hB : wBm sh ln) (hf : fX5_limit iv a1 = some (iv', r')) : Met l yX5_limit wsX5_limit ({ frames := 1, cells := 0, slots := 0, locals := 22 }) (wPc D K loc sh ln iv rv sz [wR loc 1, .int a1]) (wQi D K loc sh ln iv' rv sz r') 0 0 (wA loc sh sz) := by
  refine Met.ofW (cc := cX5_limit) (maxL := 2) (ret := (some .boolean)) (by decide) rfl ?_
  intro p e s m args below meth c s₁ B hml hv
  obtain ⟨rfl, hsz, hH, hKn⟩ := hv
  have hx := B.exec
  have hb := B.bytes
  have hr := B.returns
  have hts := atoms_spec (ws := wsX5_limit) B.pre
  have hown : s.vm.findClass RX5 = some m.cls := findClass_of_methodNamed B.named
  have hlocks := B.notSynchronized
  subst hsz
  have hA : ∀ q : Nat, s.heap.size ≤ q → wA loc sh s.heap.size q := fun q h => Or.inr h
  have hO : ∀ a, sh a ≠ 0 → wA loc sh s.heap.size (loc a) := fun a h => Or.inl ⟨a, h, rfl⟩
  have hS : va_S (wA loc sh s.heap.size) s.heap s.heap [] := va_S.rf
  obtain ⟨ls, hen, hl⟩ := wEntry m [wR loc 1, .int a1] 2 (List.forall_mem_cons.mpr ⟨wR_cat _ _, List.forall_mem_cons.mpr ⟨rfl, fun _ h => absurd h List.not_mem_nil⟩⟩) (Nat.le_of_ble_eq_true rfl)
  rw [hen]
  clear hen
  have hl : lv_has ls 2 [(0, wR loc 1), (1, .int a1)] := hl
  have k83 := hts (.fieldLink RX5 83 "CupByCupModel" "limit" "I") (List.mem_of_getElem? (i := 1) rfl)
  have iX5 : ∀ w ∈ wsX50, w ∈ wsX5_limit := fun w h => List.mem_cons_of_mem _ (List.mem_append_right _ h)
  unfold fX5_limit at hf
  refine lv_iload_n hx hb dX5_limit_0 rfl (lv_at hl 1 rfl) ?_
  refine lv_bipush (v := 6) hx hb dX5_limit_1 (by decide) ?_
  refine lv_bipush (v := 30) hx hb dX5_limit_3 (by decide) ?_
  obtain ⟨r1, h2, hf⟩ := wBd_e hf
  refine wci (va_runS (As := [.int a1, .int 6, .int 30]) (rest := []) ⟨hx, hb, hml, hown, hts⟩ (mtX5_in l D K loc sh ln iv rv _ a1 6 30 h2) (va_cwS 3 hts gX5_limit_X5_in rfl rfl rfl (by decide +kernel) ⟨Nat.le_of_ble_eq_true rfl, Nat.le_of_ble_eq_true rfl⟩) (wPreS hKn hH) rfl rfl hl.1 rfl (lv_room (Nat.le_of_ble_eq_true rfl)) dX5_limit_5 ⟨Nat.zero_le _, Nat.zero_le _⟩) hS hO hA (fun H locs hH hS => ?_)
  refine lv_if_ne (tgt := 13) hx hb dX5_limit_8 (by decide) (fun c3 => ?_) (fun c3 => ?_)
  · have hf := wIf c3 hf
    refine wald_n hx hb dX5_limit_13 rfl (lv_at hl 0 rfl) ?_
    refine lv_iload_n hx hb dX5_limit_14 rfl (lv_at hl 1 rfl) ?_
    obtain ⟨iv4, e5, hf⟩ := wLt_e hf
    refine wp (C := RX5) (T := TX5) (N := 31) (v := .int a1) (ty := tyX5 1) (iv' := iv4) (rv' := rv) hx hb hts iX5 tyX5 tyX5_ok nmX5 hown hKn.1 hH hO hS (q := 1) (hB.1 1 6 (by decide)) (by decide) rfl rfl 1 (by decide) k83 rfl (tyX5_ok 1 (by decide)) rfl rfl (Nat.le_of_ble_eq_true rfl) (by rw [e5, wU_self]; rfl) (fun a ha => by rw [e5]; exact wU_ne a ha) (fun _ _ => rfl) dX5_limit_15 (fun H locs hH hS => ?_)
    refine lv_iconst (v := 1) hx hb dX5_limit_18 (by decide) ?_
    cases hf
    exact W.zret hx hb hr rfl (fun t ht hW => ⟨⟨_, (), rfl, rfl, by show wH _ _ _ _ _ _ _ t.heap; rw [ht]; exact hH⟩, hS.F ht⟩) hS.2.2 dX5_limit_19
  · have hf := wIt c3 hf
    refine lv_iconst (v := 0) hx hb dX5_limit_11 (by decide) ?_
    cases hf
    exact W.zret hx hb hr rfl (fun t ht hW => ⟨⟨_, (), rfl, rfl, by show wH _ _ _ _ _ _ _ t.heap; rw [ht]; exact hH⟩, hS.F ht⟩) hS.2.2 dX5_limit_12
noncomputable def fX5_tell  (iv : wI) (a1 : Int32) (a2 : Int32) : Option (wI × Int32) := wBd (fX5_in a1 0 1000) (fun (r1 : Int32) => if r1 = 0 then some (iv, ((-1) : Int32)) else wBd (fX5_in a2 0 1000) (fun (r4 : Int32) => if r4 = 0 then some (iv, ((-1) : Int32)) else wBd (if ((a1 - a2) / 4) ≤ 6 then some ((a1 - a2) / 4) else some (6 : Int32)) (fun (z8 : Int32) => wBd (if (-6) ≤ z8 then some z8 else some ((-6) : Int32)) (fun (z12 : Int32) => wLt (wU iv 1 25 ((iv 1 25) + z12)) (fun (iv15 : wI) => if 0 ≤ (iv15 1 25) then if (iv15 1 25) ≤ 100 then some (iv15, (iv15 1 25)) else wLt (wU iv15 1 25 100) (fun (iv19 : wI) => some (iv19, (iv19 1 25))) else wLt (wU iv15 1 25 0) (fun (iv21 : wI) => if (iv21 1 25) ≤ 100 then some (iv21, (iv21 1 25)) else wLt (wU iv21 1 25 100) (fun (iv24 : wI) => some (iv24, (iv24 1 25)))))))))
set_option maxHeartbeats 4000000 in
set_option maxRecDepth 100000 in
theorem mtX5_tell (l : Launch) (D : va_G) (K : Nat → ClassId) (loc sh ln : Nat → Nat) (iv : wI) (rv : wJ) (sz : Nat) (a1 : Int32) (a2 : Int32) {iv' : wI} {r' : Int32} (hB : wBm sh ln) (hf : fX5_tell iv a1 a2 = some (iv', r')) : Met l yX5_tell wsX5_tell ({ frames := 1, cells := 0, slots := 0, locals := 22 }) (wPc D K loc sh ln iv rv sz [wR loc 1, .int a1, .int a2]) (wQi D K loc sh ln iv' rv sz r') 0 0 (wA loc sh sz) := by
  refine Met.ofW (cc := cX5_tell) (maxL := 4) (ret := (some .int)) (by decide) rfl ?_
  intro p e s m args below meth c s₁ B hml hv
  obtain ⟨rfl, hsz, hH, hKn⟩ := hv
  have hx := B.exec
  have hb := B.bytes
  have hr := B.returns
  have hts := atoms_spec (ws := wsX5_tell) B.pre
  have hown : s.vm.findClass RX5 = some m.cls := findClass_of_methodNamed B.named
  have hlocks := B.notSynchronized
  subst hsz
  have hA : ∀ q : Nat, s.heap.size ≤ q → wA loc sh s.heap.size q := fun q h => Or.inr h
  have hO : ∀ a, sh a ≠ 0 → wA loc sh s.heap.size (loc a) := fun a h => Or.inl ⟨a, h, rfl⟩
  have hS : va_S (wA loc sh s.heap.size) s.heap s.heap [] := va_S.rf
  obtain ⟨ls, hen, hl⟩ := wEntry m [wR loc 1, .int a1, .int a2] 4 (List.forall_mem_cons.mpr ⟨wR_cat _ _, List.forall_mem_cons.mpr ⟨rfl, List.forall_mem_cons.mpr ⟨rfl, fun _ h => absurd h List.not_mem_nil⟩⟩⟩) (Nat.le_of_ble_eq_true rfl)
  rw [hen]
  clear hen
  have hl : lv_has ls 4 [(0, wR loc 1), (1, .int a1), (2, .int a2)] := hl
  have k65 := hts (.fieldLink RX5 65 "CupByCupModel" "setting" "I") (List.mem_of_getElem? (i := 1) rfl)
  have iX5 : ∀ w ∈ wsX50, w ∈ wsX5_tell := fun w h => List.mem_cons_of_mem _ (List.mem_append_right _ h)
  unfold fX5_tell at hf
  refine lv_iload_n hx hb dX5_tell_0 rfl (lv_at hl 1 rfl) ?_
  refine lv_iconst (v := 0) hx hb dX5_tell_1 (by decide) ?_
  refine lv_sipush (v := 1000) hx hb dX5_tell_2 (by decide) ?_
  obtain ⟨r1, h2, hf⟩ := wBd_e hf
  refine wci (va_runS (As := [.int a1, .int 0, .int 1000]) (rest := []) ⟨hx, hb, hml, hown, hts⟩ (mtX5_in l D K loc sh ln iv rv _ a1 0 1000 h2) (va_cwS 3 hts gX5_tell_X5_in rfl rfl rfl (by decide +kernel) ⟨Nat.le_of_ble_eq_true rfl, Nat.le_of_ble_eq_true rfl⟩) (wPreS hKn hH) rfl rfl hl.1 rfl (lv_room (Nat.le_of_ble_eq_true rfl)) dX5_tell_5 ⟨Nat.zero_le _, Nat.zero_le _⟩) hS hO hA (fun H locs hH hS => ?_)
  refine lv_if_eq (tgt := 22) hx hb dX5_tell_8 (by decide) (fun c3 => ?_) (fun c3 => ?_)
  · have hf := wIt c3 hf
    refine lv_iconst (v := (-1)) hx hb dX5_tell_22 (by decide) ?_
    cases hf
    exact W.iret hx hb hr (fun t ht hW => ⟨⟨_, (), rfl, rfl, by show wH _ _ _ _ _ _ _ t.heap; rw [ht]; exact hH⟩, hS.F ht⟩) hS.2.2 dX5_tell_23
  · have hf := wIf c3 hf
    refine lv_iload_n hx hb dX5_tell_11 rfl (lv_at hl 2 rfl) ?_
    refine lv_iconst (v := 0) hx hb dX5_tell_12 (by decide) ?_
    refine lv_sipush (v := 1000) hx hb dX5_tell_13 (by decide) ?_
    obtain ⟨r4, h5, hf⟩ := wBd_e hf
    refine wci (va_runS (As := [.int a2, .int 0, .int 1000]) (rest := []) ⟨hx, hb, hml, hown, hts⟩ (mtX5_in l D K loc sh ln iv rv _ a2 0 1000 h5) (va_cwS 3 hts gX5_tell_X5_in rfl rfl rfl (by decide +kernel) ⟨Nat.le_of_ble_eq_true rfl, Nat.le_of_ble_eq_true rfl⟩) (wPreS hKn hH) rfl rfl hl.1 rfl (lv_room (Nat.le_of_ble_eq_true rfl)) dX5_tell_16 ⟨Nat.zero_le _, Nat.zero_le _⟩) hS hO hA (fun H locs hH hS => ?_)
    refine lv_if_ne (tgt := 24) hx hb dX5_tell_19 (by decide) (fun c6 => ?_) (fun c6 => ?_)
    · have hf := wIf c6 hf
      refine lv_iload_n hx hb dX5_tell_24 rfl (lv_at hl 1 rfl) ?_
      refine lv_iload_n hx hb dX5_tell_25 rfl (lv_at hl 2 rfl) ?_
      refine lv_isub hx hb dX5_tell_26 ?_
      refine lv_iconst (v := 4) hx hb dX5_tell_27 (by decide) ?_
      refine lv_idiv hx hb dX5_tell_28 (by decide) ?_
      refine lv_istore_n (lv' := [(3, .int ((a1 - a2) / 4)), (0, wR loc 1), (1, .int a1), (2, .int a2)]) hx hb dX5_tell_29 rfl hl (by decide) rfl (fun ls hl => ?_)
      refine lv_iload_n hx hb dX5_tell_30 rfl (lv_at hl 0 rfl) ?_
      refine lv_bipush (v := 6) hx hb dX5_tell_31 (by decide) ?_
      obtain ⟨z8, hv9, hf⟩ := wBd_e hf
      have hj10 : ∀ (H : Heap) (locs : List Loc) (ls : Array Slot), wH D K loc sh ln iv rv H → va_S (wA loc sh s.heap.size) s.heap H locs → lv_has ls 4 [(0, wR loc 1), (3, .int z8)] → W p l e (headSpec wsX5_tell ({ frames := 1, cells := 0, slots := 0, locals := 22 })).room s m ([wR loc 1, .int a1, .int a2] : List Value).toArray below meth c H locs 0 0 (MQ below (wQi D K loc sh ln iv' rv s.heap.size r') ([wR loc 1, .int a1, .int a2] : List Value).toArray s 0 0 (wA loc sh s.heap.size)) (F0 m 39 ls []) := by
        intro H locs ls hH hS hl
        refine lv_iload_n hx hb dX5_tell_39 rfl (lv_at hl 1 rfl) ?_
        refine lv_bipush (v := (-6)) hx hb dX5_tell_40 (by decide) ?_
        obtain ⟨z12, hv13, hf⟩ := wBd_e hf
        have hj14 : ∀ (H : Heap) (locs : List Loc) (ls : Array Slot), wH D K loc sh ln iv rv H → va_S (wA loc sh s.heap.size) s.heap H locs → lv_has ls 4 [(0, wR loc 1), (3, .int z12)] → W p l e (headSpec wsX5_tell ({ frames := 1, cells := 0, slots := 0, locals := 22 })).room s m ([wR loc 1, .int a1, .int a2] : List Value).toArray below meth c H locs 0 0 (MQ below (wQi D K loc sh ln iv' rv s.heap.size r') ([wR loc 1, .int a1, .int a2] : List Value).toArray s 0 0 (wA loc sh s.heap.size)) (F0 m 48 ls []) := by
          intro H locs ls hH hS hl
          refine wald_n hx hb dX5_tell_48 rfl (lv_at hl 0 rfl) ?_
          refine lv_dup hx hb dX5_tell_49 (wR_cat _ _) ?_
          refine wg (C := RX5) (T := TX5) (N := 31) (v := .int (iv 1 25)) hx hb hts iX5 hown hKn.1 hH (q := 1) (hB.1 1 6 (by decide)) (by decide) rfl rfl 25 (by decide) k65 rfl dX5_tell_50 ?_
          refine lv_iload_n hx hb dX5_tell_53 rfl (lv_at hl 1 rfl) ?_
          refine lv_iadd hx hb dX5_tell_54 ?_
          obtain ⟨iv15, e16, hf⟩ := wLt_e hf
          refine wp (C := RX5) (T := TX5) (N := 31) (v := .int ((iv 1 25) + z12)) (ty := tyX5 25) (iv' := iv15) (rv' := rv) hx hb hts iX5 tyX5 tyX5_ok nmX5 hown hKn.1 hH hO hS (q := 1) (hB.1 1 6 (by decide)) (by decide) rfl rfl 25 (by decide) k65 rfl (tyX5_ok 25 (by decide)) rfl rfl (Nat.le_of_ble_eq_true rfl) (by rw [e16, wU_self]; rfl) (fun a ha => by rw [e16]; exact wU_ne a ha) (fun _ _ => rfl) dX5_tell_55 (fun H locs hH hS => ?_)
          refine wald_n hx hb dX5_tell_58 rfl (lv_at hl 0 rfl) ?_
          refine wg (C := RX5) (T := TX5) (N := 31) (v := .int (iv15 1 25)) hx hb hts iX5 hown hKn.1 hH (q := 1) (hB.1 1 6 (by decide)) (by decide) rfl rfl 25 (by decide) k65 rfl dX5_tell_59 ?_
          refine lv_if_ge (tgt := 70) hx hb dX5_tell_62 (by decide) (fun c17 => ?_) (fun c17 => ?_)
          · have hf := wIt c17 hf
            refine wald_n hx hb dX5_tell_70 rfl (lv_at hl 0 rfl) ?_
            refine wg (C := RX5) (T := TX5) (N := 31) (v := .int (iv15 1 25)) hx hb hts iX5 hown hKn.1 hH (q := 1) (hB.1 1 6 (by decide)) (by decide) rfl rfl 25 (by decide) k65 rfl dX5_tell_71 ?_
            refine lv_bipush (v := 100) hx hb dX5_tell_74 (by decide) ?_
            refine lv_icmp_le (tgt := 85) hx hb dX5_tell_76 (by decide) (fun c18 => ?_) (fun c18 => ?_)
            · have hf := wIt c18 hf
              refine wald_n hx hb dX5_tell_85 rfl (lv_at hl 0 rfl) ?_
              refine wg (C := RX5) (T := TX5) (N := 31) (v := .int (iv15 1 25)) hx hb hts iX5 hown hKn.1 hH (q := 1) (hB.1 1 6 (by decide)) (by decide) rfl rfl 25 (by decide) k65 rfl dX5_tell_86 ?_
              cases hf
              exact W.iret hx hb hr (fun t ht hW => ⟨⟨_, (), rfl, rfl, by show wH _ _ _ _ _ _ _ t.heap; rw [ht]; exact hH⟩, hS.F ht⟩) hS.2.2 dX5_tell_89
            · have hf := wIf c18 hf
              refine wald_n hx hb dX5_tell_79 rfl (lv_at hl 0 rfl) ?_
              refine lv_bipush (v := 100) hx hb dX5_tell_80 (by decide) ?_
              obtain ⟨iv19, e20, hf⟩ := wLt_e hf
              refine wp (C := RX5) (T := TX5) (N := 31) (v := .int 100) (ty := tyX5 25) (iv' := iv19) (rv' := rv) hx hb hts iX5 tyX5 tyX5_ok nmX5 hown hKn.1 hH hO hS (q := 1) (hB.1 1 6 (by decide)) (by decide) rfl rfl 25 (by decide) k65 rfl (tyX5_ok 25 (by decide)) rfl rfl (Nat.le_of_ble_eq_true rfl) (by rw [e20, wU_self]; rfl) (fun a ha => by rw [e20]; exact wU_ne a ha) (fun _ _ => rfl) dX5_tell_82 (fun H locs hH hS => ?_)
              refine wald_n hx hb dX5_tell_85 rfl (lv_at hl 0 rfl) ?_
              refine wg (C := RX5) (T := TX5) (N := 31) (v := .int (iv19 1 25)) hx hb hts iX5 hown hKn.1 hH (q := 1) (hB.1 1 6 (by decide)) (by decide) rfl rfl 25 (by decide) k65 rfl dX5_tell_86 ?_
              cases hf
              exact W.iret hx hb hr (fun t ht hW => ⟨⟨_, (), rfl, rfl, by show wH _ _ _ _ _ _ _ t.heap; rw [ht]; exact hH⟩, hS.F ht⟩) hS.2.2 dX5_tell_89
          · have hf := wIf c17 hf
            refine wald_n hx hb dX5_tell_65 rfl (lv_at hl 0 rfl) ?_
            refine lv_iconst (v := 0) hx hb dX5_tell_66 (by decide) ?_
            obtain ⟨iv21, e22, hf⟩ := wLt_e hf
            refine wp (C := RX5) (T := TX5) (N := 31) (v := .int 0) (ty := tyX5 25) (iv' := iv21) (rv' := rv) hx hb hts iX5 tyX5 tyX5_ok nmX5 hown hKn.1 hH hO hS (q := 1) (hB.1 1 6 (by decide)) (by decide) rfl rfl 25 (by decide) k65 rfl (tyX5_ok 25 (by decide)) rfl rfl (Nat.le_of_ble_eq_true rfl) (by rw [e22, wU_self]; rfl) (fun a ha => by rw [e22]; exact wU_ne a ha) (fun _ _ => rfl) dX5_tell_67 (fun H locs hH hS => ?_)
            refine wald_n hx hb dX5_tell_70 rfl (lv_at hl 0 rfl) ?_
            refine wg (C := RX5) (T := TX5) (N := 31) (v := .int (iv21 1 25)) hx hb hts iX5 hown hKn.1 hH (q := 1) (hB.1 1 6 (by decide)) (by decide) rfl rfl 25 (by decide) k65 rfl dX5_tell_71 ?_
            refine lv_bipush (v := 100) hx hb dX5_tell_74 (by decide) ?_
            refine lv_icmp_le (tgt := 85) hx hb dX5_tell_76 (by decide) (fun c23 => ?_) (fun c23 => ?_)
            · have hf := wIt c23 hf
              refine wald_n hx hb dX5_tell_85 rfl (lv_at hl 0 rfl) ?_
              refine wg (C := RX5) (T := TX5) (N := 31) (v := .int (iv21 1 25)) hx hb hts iX5 hown hKn.1 hH (q := 1) (hB.1 1 6 (by decide)) (by decide) rfl rfl 25 (by decide) k65 rfl dX5_tell_86 ?_
              cases hf
              exact W.iret hx hb hr (fun t ht hW => ⟨⟨_, (), rfl, rfl, by show wH _ _ _ _ _ _ _ t.heap; rw [ht]; exact hH⟩, hS.F ht⟩) hS.2.2 dX5_tell_89
            · have hf := wIf c23 hf
              refine wald_n hx hb dX5_tell_79 rfl (lv_at hl 0 rfl) ?_
              refine lv_bipush (v := 100) hx hb dX5_tell_80 (by decide) ?_
              obtain ⟨iv24, e25, hf⟩ := wLt_e hf
              refine wp (C := RX5) (T := TX5) (N := 31) (v := .int 100) (ty := tyX5 25) (iv' := iv24) (rv' := rv) hx hb hts iX5 tyX5 tyX5_ok nmX5 hown hKn.1 hH hO hS (q := 1) (hB.1 1 6 (by decide)) (by decide) rfl rfl 25 (by decide) k65 rfl (tyX5_ok 25 (by decide)) rfl rfl (Nat.le_of_ble_eq_true rfl) (by rw [e25, wU_self]; rfl) (fun a ha => by rw [e25]; exact wU_ne a ha) (fun _ _ => rfl) dX5_tell_82 (fun H locs hH hS => ?_)
              refine wald_n hx hb dX5_tell_85 rfl (lv_at hl 0 rfl) ?_
              refine wg (C := RX5) (T := TX5) (N := 31) (v := .int (iv24 1 25)) hx hb hts iX5 hown hKn.1 hH (q := 1) (hB.1 1 6 (by decide)) (by decide) rfl rfl 25 (by decide) k65 rfl dX5_tell_86 ?_
              cases hf
              exact W.iret hx hb hr (fun t ht hW => ⟨⟨_, (), rfl, rfl, by show wH _ _ _ _ _ _ _ t.heap; rw [ht]; exact hH⟩, hS.F ht⟩) hS.2.2 dX5_tell_89
        clear hf
        have hf := hv13
        clear hv13
        refine lv_icmp_ge (tgt := 48) hx hb dX5_tell_42 (by decide) (fun c11 => ?_) (fun c11 => ?_)
        · have hf := wIt c11 hf
          cases hf
          exact hj14 _ _ _ hH hS (lv_sub hl [0, 1] rfl)
        · have hf := wIf c11 hf
          refine lv_bipush (v := (-6)) hx hb dX5_tell_45 (by decide) ?_
          refine lv_istore_n (lv' := [(3, .int (-6)), (0, wR loc 1)]) hx hb dX5_tell_47 rfl hl (by decide) rfl (fun ls hl => ?_)
          cases hf
          exact hj14 _ _ _ hH hS (lv_sub hl [1, 0] rfl)
      clear hf
      have hf := hv9
      clear hv9
      refine lv_icmp_le (tgt := 39) hx hb dX5_tell_33 (by decide) (fun c7 => ?_) (fun c7 => ?_)
      · have hf := wIt c7 hf
        cases hf
        exact hj10 _ _ _ hH hS (lv_sub hl [1, 0] rfl)
      · have hf := wIf c7 hf
        refine lv_bipush (v := 6) hx hb dX5_tell_36 (by decide) ?_
        refine lv_istore_n (lv' := [(3, .int 6), (0, wR loc 1), (1, .int a1), (2, .int a2)]) hx hb dX5_tell_38 rfl hl (by decide) rfl (fun ls hl => ?_)
        cases hf
        exact hj10 _ _ _ hH hS (lv_sub hl [1, 0] rfl)
    · have hf := wIt c6 hf
      refine lv_iconst (v := (-1)) hx hb dX5_tell_22 (by decide) ?_
      cases hf
      exact W.iret hx hb hr (fun t ht hW => ⟨⟨_, (), rfl, rfl, by show wH _ _ _ _ _ _ _ t.heap; rw [ht]; exact hH⟩, hS.F ht⟩) hS.2.2 dX5_tell_23
noncomputable def fX5_cup  (iv : wI) (a1 : Int32) (a2 : Int32) : Option (Int32) := wBd (fX5_in a1 0 ((iv 1 8) - 1)) (fun (r1 : Int32) => if r1 = 0 then some ((-1) : Int32) else wGd (vp_in a1 100) (if a2 = 0 then some (iv 24 a1.toNatClampNeg) else if a2 = 1 then some (iv 21 a1.toNatClampNeg) else if a2 = 2 then some (iv 22 a1.toNatClampNeg) else if a2 = 3 then some (iv 23 a1.toNatClampNeg) else if a2 = 4 then some (iv 28 a1.toNatClampNeg) else if a2 = 5 then if (iv 24 a1.toNatClampNeg) = 3 then some (iv 26 a1.toNatClampNeg) else some ((-1) : Int32) else if a2 = 6 then if (iv 24 a1.toNatClampNeg) = 1 then some (iv 25 a1.toNatClampNeg) else if (iv 24 a1.toNatClampNeg) = 3 then some (iv 25 a1.toNatClampNeg) else if (iv 24 a1.toNatClampNeg) = 5 then some (iv 25 a1.toNatClampNeg) else some ((-1) : Int32) else if a2 = 7 then some (iv 29 a1.toNatClampNeg) else some ((-1) : Int32)))
set_option maxHeartbeats 4000000 in
set_option maxRecDepth 100000 in
theorem mtX5_cup (l : Launch) (D : va_G) (K : Nat → ClassId) (loc sh ln : Nat → Nat) (iv : wI) (rv : wJ) (sz : Nat) (a1 : Int32) (a2 : Int32) {r' : Int32} (hB : wBm sh ln) (hf : fX5_cup iv a1 a2 = some r') : Met l yX5_cup wsX5_cup ({ frames := 1, cells := 0, slots := 0, locals := 22 }) (wPc D K loc sh ln iv rv sz [wR loc 1, .int a1, .int a2]) (wQi D K loc sh ln iv rv sz r') 0 0 (wA loc sh sz) := by
  refine Met.ofW (cc := cX5_cup) (maxL := 4) (ret := (some .int)) (by decide) rfl ?_
  intro p e s m args below meth c s₁ B hml hv
  obtain ⟨rfl, hsz, hH, hKn⟩ := hv
  have hx := B.exec
  have hb := B.bytes
  have hr := B.returns
  have hts := atoms_spec (ws := wsX5_cup) B.pre
  have hown : s.vm.findClass RX5 = some m.cls := findClass_of_methodNamed B.named
  have hlocks := B.notSynchronized
  subst hsz
  have hA : ∀ q : Nat, s.heap.size ≤ q → wA loc sh s.heap.size q := fun q h => Or.inr h
  have hO : ∀ a, sh a ≠ 0 → wA loc sh s.heap.size (loc a) := fun a h => Or.inl ⟨a, h, rfl⟩
  have hS : va_S (wA loc sh s.heap.size) s.heap s.heap [] := va_S.rf
  obtain ⟨ls, hen, hl⟩ := wEntry m [wR loc 1, .int a1, .int a2] 4 (List.forall_mem_cons.mpr ⟨wR_cat _ _, List.forall_mem_cons.mpr ⟨rfl, List.forall_mem_cons.mpr ⟨rfl, fun _ h => absurd h List.not_mem_nil⟩⟩⟩) (Nat.le_of_ble_eq_true rfl)
  rw [hen]
  clear hen
  have hl : lv_has ls 4 [(0, wR loc 1), (1, .int a1), (2, .int a2)] := hl
  have k112 := hts (.fieldLink RX5 112 "CupByCupModel" "cups" "I") (List.mem_of_getElem? (i := 1) rfl)
  have iX5 : ∀ w ∈ wsX50, w ∈ wsX5_cup := fun w h => List.mem_cons_of_mem _ (List.mem_append_right _ h)
  have k38 := hts (.fieldLink RX5 38 "CupByCupModel" "state" "[I") (List.mem_of_getElem? (i := 2) rfl)
  have k29 := hts (.fieldLink RX5 29 "CupByCupModel" "orderOf" "[I") (List.mem_of_getElem? (i := 3) rfl)
  have k32 := hts (.fieldLink RX5 32 "CupByCupModel" "lane" "[I") (List.mem_of_getElem? (i := 4) rfl)
  have k35 := hts (.fieldLink RX5 35 "CupByCupModel" "came" "[I") (List.mem_of_getElem? (i := 5) rfl)
  have k50 := hts (.fieldLink RX5 50 "CupByCupModel" "doneIn" "[I") (List.mem_of_getElem? (i := 6) rfl)
  have k44 := hts (.fieldLink RX5 44 "CupByCupModel" "at" "[I") (List.mem_of_getElem? (i := 7) rfl)
  have k41 := hts (.fieldLink RX5 41 "CupByCupModel" "left" "[I") (List.mem_of_getElem? (i := 8) rfl)
  have k53 := hts (.fieldLink RX5 53 "CupByCupModel" "anew" "[I") (List.mem_of_getElem? (i := 9) rfl)
  unfold fX5_cup at hf
  refine lv_iload_n hx hb dX5_cup_0 rfl (lv_at hl 1 rfl) ?_
  refine lv_iconst (v := 0) hx hb dX5_cup_1 (by decide) ?_
  refine wald_n hx hb dX5_cup_2 rfl (lv_at hl 0 rfl) ?_
  refine wg (C := RX5) (T := TX5) (N := 31) (v := .int (iv 1 8)) hx hb hts iX5 hown hKn.1 hH (q := 1) (hB.1 1 6 (by decide)) (by decide) rfl rfl 8 (by decide) k112 rfl dX5_cup_3 ?_
  refine lv_iconst (v := 1) hx hb dX5_cup_6 (by decide) ?_
  refine lv_isub hx hb dX5_cup_7 ?_
  obtain ⟨r1, h2, hf⟩ := wBd_e hf
  refine wci (va_runS (As := [.int a1, .int 0, .int ((iv 1 8) - 1)]) (rest := []) ⟨hx, hb, hml, hown, hts⟩ (mtX5_in l D K loc sh ln iv rv _ a1 0 ((iv 1 8) - 1) h2) (va_cwS 3 hts gX5_cup_X5_in rfl rfl rfl (by decide +kernel) ⟨Nat.le_of_ble_eq_true rfl, Nat.le_of_ble_eq_true rfl⟩) (wPreS hKn hH) rfl rfl hl.1 rfl (lv_room (Nat.le_of_ble_eq_true rfl)) dX5_cup_8 ⟨Nat.zero_le _, Nat.zero_le _⟩) hS hO hA (fun H locs hH hS => ?_)
  refine lv_if_ne (tgt := 16) hx hb dX5_cup_11 (by decide) (fun c3 => ?_) (fun c3 => ?_)
  · have hf := wIf c3 hf
    refine wald_n hx hb dX5_cup_16 rfl (lv_at hl 0 rfl) ?_
    refine wg (C := RX5) (T := TX5) (N := 31) (v := wR loc 24) hx hb hts iX5 hown hKn.1 hH (q := 1) (hB.1 1 6 (by decide)) (by decide) rfl rfl 14 (by decide) k38 rfl dX5_cup_17 ?_
    refine lv_iload_n hx hb dX5_cup_20 rfl (lv_at hl 1 rfl) ?_
    obtain ⟨g4, hf⟩ := wGd_e hf
    refine wia hx hb hKn.1 hH (hB.1 24 7 (by decide)) (hB.2.1 24 _ (by decide)) g4 dX5_cup_21 ?_
    refine lv_istore_n (lv' := [(3, .int (iv 24 a1.toNatClampNeg)), (0, wR loc 1), (1, .int a1), (2, .int a2)]) hx hb dX5_cup_22 rfl hl (by decide) rfl (fun ls hl => ?_)
    refine lv_iload_n hx hb dX5_cup_23 rfl (lv_at hl 3 rfl) ?_
    by_cases c5 : a2 = 0
    · have hf := wIt c5 hf
      refine lv_tableIn (off := 48) (tgt := 72) hx hb dX5_cup_24 (by rw [c5]; decide) (by rw [c5]; decide) (by rw [c5]; decide) (by decide) ?_
      refine lv_iload_n hx hb dX5_cup_72 rfl (lv_at hl 0 rfl) ?_
      cases hf
      exact W.iret hx hb hr (fun t ht hW => ⟨⟨_, (), rfl, rfl, by show wH _ _ _ _ _ _ _ t.heap; rw [ht]; exact hH⟩, hS.F ht⟩) hS.2.2 dX5_cup_73
    · have hf := wIf c5 hf
      by_cases c6 : a2 = 1
      · have hf := wIt c6 hf
        refine lv_tableIn (off := 50) (tgt := 74) hx hb dX5_cup_24 (by rw [c6]; decide) (by rw [c6]; decide) (by rw [c6]; decide) (by decide) ?_
        refine wald_n hx hb dX5_cup_74 rfl (lv_at hl 1 rfl) ?_
        refine wg (C := RX5) (T := TX5) (N := 31) (v := wR loc 21) hx hb hts iX5 hown hKn.1 hH (q := 1) (hB.1 1 6 (by decide)) (by decide) rfl rfl 11 (by decide) k29 rfl dX5_cup_75 ?_
        refine lv_iload_n hx hb dX5_cup_78 rfl (lv_at hl 2 rfl) ?_
        refine wia hx hb hKn.1 hH (hB.1 21 7 (by decide)) (hB.2.1 21 _ (by decide)) g4 dX5_cup_79 ?_
        cases hf
        exact W.iret hx hb hr (fun t ht hW => ⟨⟨_, (), rfl, rfl, by show wH _ _ _ _ _ _ _ t.heap; rw [ht]; exact hH⟩, hS.F ht⟩) hS.2.2 dX5_cup_80
      · have hf := wIf c6 hf
        by_cases c7 : a2 = 2
        · have hf := wIt c7 hf
          refine lv_tableIn (off := 57) (tgt := 81) hx hb dX5_cup_24 (by rw [c7]; decide) (by rw [c7]; decide) (by rw [c7]; decide) (by decide) ?_
          refine wald_n hx hb dX5_cup_81 rfl (lv_at hl 1 rfl) ?_
          refine wg (C := RX5) (T := TX5) (N := 31) (v := wR loc 22) hx hb hts iX5 hown hKn.1 hH (q := 1) (hB.1 1 6 (by decide)) (by decide) rfl rfl 12 (by decide) k32 rfl dX5_cup_82 ?_
          refine lv_iload_n hx hb dX5_cup_85 rfl (lv_at hl 2 rfl) ?_
          refine wia hx hb hKn.1 hH (hB.1 22 7 (by decide)) (hB.2.1 22 _ (by decide)) g4 dX5_cup_86 ?_
          cases hf
          exact W.iret hx hb hr (fun t ht hW => ⟨⟨_, (), rfl, rfl, by show wH _ _ _ _ _ _ _ t.heap; rw [ht]; exact hH⟩, hS.F ht⟩) hS.2.2 dX5_cup_87
        · have hf := wIf c7 hf
          by_cases c8 : a2 = 3
          · have hf := wIt c8 hf
            refine lv_tableIn (off := 64) (tgt := 88) hx hb dX5_cup_24 (by rw [c8]; decide) (by rw [c8]; decide) (by rw [c8]; decide) (by decide) ?_
            refine wald_n hx hb dX5_cup_88 rfl (lv_at hl 1 rfl) ?_
            refine wg (C := RX5) (T := TX5) (N := 31) (v := wR loc 23) hx hb hts iX5 hown hKn.1 hH (q := 1) (hB.1 1 6 (by decide)) (by decide) rfl rfl 13 (by decide) k35 rfl dX5_cup_89 ?_
            refine lv_iload_n hx hb dX5_cup_92 rfl (lv_at hl 2 rfl) ?_
            refine wia hx hb hKn.1 hH (hB.1 23 7 (by decide)) (hB.2.1 23 _ (by decide)) g4 dX5_cup_93 ?_
            cases hf
            exact W.iret hx hb hr (fun t ht hW => ⟨⟨_, (), rfl, rfl, by show wH _ _ _ _ _ _ _ t.heap; rw [ht]; exact hH⟩, hS.F ht⟩) hS.2.2 dX5_cup_94
          · have hf := wIf c8 hf
            by_cases c9 : a2 = 4
            · have hf := wIt c9 hf
              refine lv_tableIn (off := 71) (tgt := 95) hx hb dX5_cup_24 (by rw [c9]; decide) (by rw [c9]; decide) (by rw [c9]; decide) (by decide) ?_
              refine wald_n hx hb dX5_cup_95 rfl (lv_at hl 1 rfl) ?_
              refine wg (C := RX5) (T := TX5) (N := 31) (v := wR loc 28) hx hb hts iX5 hown hKn.1 hH (q := 1) (hB.1 1 6 (by decide)) (by decide) rfl rfl 18 (by decide) k50 rfl dX5_cup_96 ?_
              refine lv_iload_n hx hb dX5_cup_99 rfl (lv_at hl 2 rfl) ?_
              refine wia hx hb hKn.1 hH (hB.1 28 7 (by decide)) (hB.2.1 28 _ (by decide)) g4 dX5_cup_100 ?_
              cases hf
              exact W.iret hx hb hr (fun t ht hW => ⟨⟨_, (), rfl, rfl, by show wH _ _ _ _ _ _ _ t.heap; rw [ht]; exact hH⟩, hS.F ht⟩) hS.2.2 dX5_cup_101
            · have hf := wIf c9 hf
              by_cases c10 : a2 = 5
              · have hf := wIt c10 hf
                refine lv_tableIn (off := 78) (tgt := 102) hx hb dX5_cup_24 (by rw [c10]; decide) (by rw [c10]; decide) (by rw [c10]; decide) (by decide) ?_
                refine lv_iload_n hx hb dX5_cup_102 rfl (lv_at hl 0 rfl) ?_
                refine lv_iconst (v := 3) hx hb dX5_cup_103 (by decide) ?_
                refine lv_icmp_ne (tgt := 116) hx hb dX5_cup_104 (by decide) (fun c11 => ?_) (fun c11 => ?_)
                · have hf := wIf c11 hf
                  refine lv_iconst (v := (-1)) hx hb dX5_cup_116 (by decide) ?_
                  cases hf
                  exact W.iret hx hb hr (fun t ht hW => ⟨⟨_, (), rfl, rfl, by show wH _ _ _ _ _ _ _ t.heap; rw [ht]; exact hH⟩, hS.F ht⟩) hS.2.2 dX5_cup_117
                · have hf := wIt c11 hf
                  refine wald_n hx hb dX5_cup_107 rfl (lv_at hl 1 rfl) ?_
                  refine wg (C := RX5) (T := TX5) (N := 31) (v := wR loc 26) hx hb hts iX5 hown hKn.1 hH (q := 1) (hB.1 1 6 (by decide)) (by decide) rfl rfl 16 (by decide) k44 rfl dX5_cup_108 ?_
                  refine lv_iload_n hx hb dX5_cup_111 rfl (lv_at hl 2 rfl) ?_
                  refine wia hx hb hKn.1 hH (hB.1 26 7 (by decide)) (hB.2.1 26 _ (by decide)) g4 dX5_cup_112 ?_
                  refine lv_goto (tgt := 117) hx hb dX5_cup_113 (by decide) ?_
                  cases hf
                  exact W.iret hx hb hr (fun t ht hW => ⟨⟨_, (), rfl, rfl, by show wH _ _ _ _ _ _ _ t.heap; rw [ht]; exact hH⟩, hS.F ht⟩) hS.2.2 dX5_cup_117
              · have hf := wIf c10 hf
                by_cases c12 : a2 = 6
                · have hf := wIt c12 hf
                  refine lv_tableIn (off := 94) (tgt := 118) hx hb dX5_cup_24 (by rw [c12]; decide) (by rw [c12]; decide) (by rw [c12]; decide) (by decide) ?_
                  refine lv_iload_n hx hb dX5_cup_118 rfl (lv_at hl 0 rfl) ?_
                  refine lv_iconst (v := 1) hx hb dX5_cup_119 (by decide) ?_
                  refine lv_icmp_eq (tgt := 133) hx hb dX5_cup_120 (by decide) (fun c13 => ?_) (fun c13 => ?_)
                  · have hf := wIt c13 hf
                    refine wald_n hx hb dX5_cup_133 rfl (lv_at hl 1 rfl) ?_
                    refine wg (C := RX5) (T := TX5) (N := 31) (v := wR loc 25) hx hb hts iX5 hown hKn.1 hH (q := 1) (hB.1 1 6 (by decide)) (by decide) rfl rfl 15 (by decide) k41 rfl dX5_cup_134 ?_
                    refine lv_iload_n hx hb dX5_cup_137 rfl (lv_at hl 2 rfl) ?_
                    refine wia hx hb hKn.1 hH (hB.1 25 7 (by decide)) (hB.2.1 25 _ (by decide)) g4 dX5_cup_138 ?_
                    refine lv_goto (tgt := 143) hx hb dX5_cup_139 (by decide) ?_
                    cases hf
                    exact W.iret hx hb hr (fun t ht hW => ⟨⟨_, (), rfl, rfl, by show wH _ _ _ _ _ _ _ t.heap; rw [ht]; exact hH⟩, hS.F ht⟩) hS.2.2 dX5_cup_143
                  · have hf := wIf c13 hf
                    refine lv_iload_n hx hb dX5_cup_123 rfl (lv_at hl 0 rfl) ?_
                    refine lv_iconst (v := 3) hx hb dX5_cup_124 (by decide) ?_
                    refine lv_icmp_eq (tgt := 133) hx hb dX5_cup_125 (by decide) (fun c14 => ?_) (fun c14 => ?_)
                    · have hf := wIt c14 hf
                      refine wald_n hx hb dX5_cup_133 rfl (lv_at hl 1 rfl) ?_
                      refine wg (C := RX5) (T := TX5) (N := 31) (v := wR loc 25) hx hb hts iX5 hown hKn.1 hH (q := 1) (hB.1 1 6 (by decide)) (by decide) rfl rfl 15 (by decide) k41 rfl dX5_cup_134 ?_
                      refine lv_iload_n hx hb dX5_cup_137 rfl (lv_at hl 2 rfl) ?_
                      refine wia hx hb hKn.1 hH (hB.1 25 7 (by decide)) (hB.2.1 25 _ (by decide)) g4 dX5_cup_138 ?_
                      refine lv_goto (tgt := 143) hx hb dX5_cup_139 (by decide) ?_
                      cases hf
                      exact W.iret hx hb hr (fun t ht hW => ⟨⟨_, (), rfl, rfl, by show wH _ _ _ _ _ _ _ t.heap; rw [ht]; exact hH⟩, hS.F ht⟩) hS.2.2 dX5_cup_143
                    · have hf := wIf c14 hf
                      refine lv_iload_n hx hb dX5_cup_128 rfl (lv_at hl 0 rfl) ?_
                      refine lv_iconst (v := 5) hx hb dX5_cup_129 (by decide) ?_
                      refine lv_icmp_ne (tgt := 142) hx hb dX5_cup_130 (by decide) (fun c15 => ?_) (fun c15 => ?_)
                      · have hf := wIf c15 hf
                        refine lv_iconst (v := (-1)) hx hb dX5_cup_142 (by decide) ?_
                        cases hf
                        exact W.iret hx hb hr (fun t ht hW => ⟨⟨_, (), rfl, rfl, by show wH _ _ _ _ _ _ _ t.heap; rw [ht]; exact hH⟩, hS.F ht⟩) hS.2.2 dX5_cup_143
                      · have hf := wIt c15 hf
                        refine wald_n hx hb dX5_cup_133 rfl (lv_at hl 1 rfl) ?_
                        refine wg (C := RX5) (T := TX5) (N := 31) (v := wR loc 25) hx hb hts iX5 hown hKn.1 hH (q := 1) (hB.1 1 6 (by decide)) (by decide) rfl rfl 15 (by decide) k41 rfl dX5_cup_134 ?_
                        refine lv_iload_n hx hb dX5_cup_137 rfl (lv_at hl 2 rfl) ?_
                        refine wia hx hb hKn.1 hH (hB.1 25 7 (by decide)) (hB.2.1 25 _ (by decide)) g4 dX5_cup_138 ?_
                        refine lv_goto (tgt := 143) hx hb dX5_cup_139 (by decide) ?_
                        cases hf
                        exact W.iret hx hb hr (fun t ht hW => ⟨⟨_, (), rfl, rfl, by show wH _ _ _ _ _ _ _ t.heap; rw [ht]; exact hH⟩, hS.F ht⟩) hS.2.2 dX5_cup_143
                · have hf := wIf c12 hf
                  by_cases c16 : a2 = 7
                  · have hf := wIt c16 hf
                    refine lv_tableIn (off := 120) (tgt := 144) hx hb dX5_cup_24 (by rw [c16]; decide) (by rw [c16]; decide) (by rw [c16]; decide) (by decide) ?_
                    refine wald_n hx hb dX5_cup_144 rfl (lv_at hl 1 rfl) ?_
                    refine wg (C := RX5) (T := TX5) (N := 31) (v := wR loc 29) hx hb hts iX5 hown hKn.1 hH (q := 1) (hB.1 1 6 (by decide)) (by decide) rfl rfl 19 (by decide) k53 rfl dX5_cup_145 ?_
                    refine lv_iload_n hx hb dX5_cup_148 rfl (lv_at hl 2 rfl) ?_
                    refine wia hx hb hKn.1 hH (hB.1 29 7 (by decide)) (hB.2.1 29 _ (by decide)) g4 dX5_cup_149 ?_
                    cases hf
                    exact W.iret hx hb hr (fun t ht hW => ⟨⟨_, (), rfl, rfl, by show wH _ _ _ _ _ _ _ t.heap; rw [ht]; exact hH⟩, hS.F ht⟩) hS.2.2 dX5_cup_150
                  · have hf := wIf c16 hf
                    refine lv_tableOut (tgt := 151) hx hb dX5_cup_24 (by have q0 := lv_neT (a := 0) c5 (by decide); have q1 := lv_neT (a := 1) c6 (by decide); have q2 := lv_neT (a := 2) c7 (by decide); have q3 := lv_neT (a := 3) c8 (by decide); have q4 := lv_neT (a := 4) c9 (by decide); have q5 := lv_neT (a := 5) c10 (by decide); have q6 := lv_neT (a := 6) c12 (by decide); have q7 := lv_neT (a := 7) c16 (by decide); omega) (by decide) ?_
                    refine lv_iconst (v := (-1)) hx hb dX5_cup_151 (by decide) ?_
                    cases hf
                    exact W.iret hx hb hr (fun t ht hW => ⟨⟨_, (), rfl, rfl, by show wH _ _ _ _ _ _ _ t.heap; rw [ht]; exact hH⟩, hS.F ht⟩) hS.2.2 dX5_cup_152
  · have hf := wIt c3 hf
    refine lv_iconst (v := (-1)) hx hb dX5_cup_14 (by decide) ?_
    cases hf
    exact W.iret hx hb hr (fun t ht hW => ⟨⟨_, (), rfl, rfl, by show wH _ _ _ _ _ _ _ t.heap; rw [ht]; exact hH⟩, hS.F ht⟩) hS.2.2 dX5_cup_15
noncomputable def fX5_brewing_2  : Nat → wI → Int32 → Int32 → Option (Int32)
  | 0, _, _, _ => none
  | n + 1, iv, x1, x2 => if (iv 1 8) ≤ x2 then some ((-1) : Int32) else wGd (vp_in x2 100) (if (iv 24 x2.toNatClampNeg) = 3 then if (iv 26 x2.toNatClampNeg) = x1 then some x2 else fX5_brewing_2 n iv x1 (x2 + 1) else fX5_brewing_2 n iv x1 (x2 + 1))
noncomputable def fX5_brewing  (iv : wI) (a1 : Int32) : Option (Int32) := fX5_brewing_2 wN iv a1 0
set_option maxHeartbeats 4000000 in
set_option maxRecDepth 100000 in
theorem mtX5_brewing (l : Launch) (D : va_G) (K : Nat → ClassId) (loc sh ln : Nat → Nat) (iv : wI) (rv : wJ) (sz : Nat) (a1 : Int32) {r' : Int32} (hB : wBm sh ln) (hf : fX5_brewing iv a1 = some r') : Met l yX5_brewing wsX5_brewing ({ frames := 0, cells := 0, slots := 0, locals := 0 }) (wPc D K loc sh ln iv rv sz [wR loc 1, .int a1]) (wQi D K loc sh ln iv rv sz r') 0 0 (wA loc sh sz) := by
  refine Met.ofW (cc := cX5_brewing) (maxL := 3) (ret := (some .int)) (by decide) rfl ?_
  intro p e s m args below meth c s₁ B hml hv
  obtain ⟨rfl, hsz, hH, hKn⟩ := hv
  have hx := B.exec
  have hb := B.bytes
  have hr := B.returns
  have hts := atoms_spec (ws := wsX5_brewing) B.pre
  have hown : s.vm.findClass RX5 = some m.cls := findClass_of_methodNamed B.named
  have hlocks := B.notSynchronized
  subst hsz
  have hA : ∀ q : Nat, s.heap.size ≤ q → wA loc sh s.heap.size q := fun q h => Or.inr h
  have hO : ∀ a, sh a ≠ 0 → wA loc sh s.heap.size (loc a) := fun a h => Or.inl ⟨a, h, rfl⟩
  have hS : va_S (wA loc sh s.heap.size) s.heap s.heap [] := va_S.rf
  obtain ⟨ls, hen, hl⟩ := wEntry m [wR loc 1, .int a1] 3 (List.forall_mem_cons.mpr ⟨wR_cat _ _, List.forall_mem_cons.mpr ⟨rfl, fun _ h => absurd h List.not_mem_nil⟩⟩) (Nat.le_of_ble_eq_true rfl)
  rw [hen]
  clear hen
  have hl : lv_has ls 3 [(0, wR loc 1), (1, .int a1)] := hl
  have k112 := hts (.fieldLink RX5 112 "CupByCupModel" "cups" "I") (List.mem_of_getElem? (i := 1) rfl)
  have iX5 : ∀ w ∈ wsX50, w ∈ wsX5_brewing := fun w h => List.mem_cons_of_mem _ (List.mem_append_right _ h)
  have k38 := hts (.fieldLink RX5 38 "CupByCupModel" "state" "[I") (List.mem_of_getElem? (i := 2) rfl)
  have k44 := hts (.fieldLink RX5 44 "CupByCupModel" "at" "[I") (List.mem_of_getElem? (i := 3) rfl)
  unfold fX5_brewing at hf
  refine lv_iconst (v := 0) hx hb dX5_brewing_0 (by decide) ?_
  refine lv_istore_n (lv' := [(2, .int 0), (0, wR loc 1), (1, .int a1)]) hx hb dX5_brewing_1 rfl hl (by decide) rfl (fun ls hl => ?_)
  have lp5 : ∀ (n1 : Nat) (x2 : Int32) (H : Heap) (locs : List Loc) (ls : Array Slot), fX5_brewing_2 n1 iv a1 x2 = some r' → wH D K loc sh ln iv rv H → va_S (wA loc sh s.heap.size) s.heap H locs → lv_has ls 3 [(0, wR loc 1), (1, .int a1), (2, .int x2)] → W p l e (headSpec wsX5_brewing ({ frames := 0, cells := 0, slots := 0, locals := 0 })).room s m ([wR loc 1, .int a1] : List Value).toArray below meth c H locs 0 0 (MQ below (wQi D K loc sh ln iv rv s.heap.size r') ([wR loc 1, .int a1] : List Value).toArray s 0 0 (wA loc sh s.heap.size)) (F0 m 2 ls []) := by
    clear hf hl hS hH
    intro n1
    induction n1 with
    | zero => intro x2 H locs ls hf; cases hf
    | succ n1 ih =>
      intro x2 H locs ls hf hH hS hl
      rw [fX5_brewing_2.eq_2] at hf
      refine lv_iload_n hx hb dX5_brewing_2 rfl (lv_at hl 2 rfl) ?_
      refine wald_n hx hb dX5_brewing_3 rfl (lv_at hl 0 rfl) ?_
      refine wg (C := RX5) (T := TX5) (N := 31) (v := .int (iv 1 8)) hx hb hts iX5 hown hKn.1 hH (q := 1) (hB.1 1 6 (by decide)) (by decide) rfl rfl 8 (by decide) k112 rfl dX5_brewing_4 ?_
      refine lv_icmp_ge (tgt := 38) hx hb dX5_brewing_7 (by decide) (fun c6 => ?_) (fun c6 => ?_)
      · have hf := wIt c6 hf
        refine lv_iconst (v := (-1)) hx hb dX5_brewing_38 (by decide) ?_
        cases hf
        exact W.iret hx hb hr (fun t ht hW => ⟨⟨_, (), rfl, rfl, by show wH _ _ _ _ _ _ _ t.heap; rw [ht]; exact hH⟩, hS.F ht⟩) hS.2.2 dX5_brewing_39
      · have hf := wIf c6 hf
        refine wald_n hx hb dX5_brewing_10 rfl (lv_at hl 0 rfl) ?_
        refine wg (C := RX5) (T := TX5) (N := 31) (v := wR loc 24) hx hb hts iX5 hown hKn.1 hH (q := 1) (hB.1 1 6 (by decide)) (by decide) rfl rfl 14 (by decide) k38 rfl dX5_brewing_11 ?_
        refine lv_iload_n hx hb dX5_brewing_14 rfl (lv_at hl 2 rfl) ?_
        obtain ⟨g7, hf⟩ := wGd_e hf
        refine wia hx hb hKn.1 hH (hB.1 24 7 (by decide)) (hB.2.1 24 _ (by decide)) g7 dX5_brewing_15 ?_
        refine lv_iconst (v := 3) hx hb dX5_brewing_16 (by decide) ?_
        refine lv_icmp_ne (tgt := 32) hx hb dX5_brewing_17 (by decide) (fun c8 => ?_) (fun c8 => ?_)
        · have hf := wIf c8 hf
          refine lv_iinc (v := (x2 + 1)) (lv' := [(2, .int (x2 + 1)), (0, wR loc 1), (1, .int a1)]) hx hb dX5_brewing_32 hl (k := 2) rfl rfl (by decide) rfl (fun ls hl => ?_)
          refine lv_goto (tgt := 2) hx hb dX5_brewing_35 (by decide) ?_
          exact ih _ _ _ _ hf hH hS (lv_sub hl [1, 2, 0] rfl)
        · have hf := wIt c8 hf
          refine wald_n hx hb dX5_brewing_20 rfl (lv_at hl 0 rfl) ?_
          refine wg (C := RX5) (T := TX5) (N := 31) (v := wR loc 26) hx hb hts iX5 hown hKn.1 hH (q := 1) (hB.1 1 6 (by decide)) (by decide) rfl rfl 16 (by decide) k44 rfl dX5_brewing_21 ?_
          refine lv_iload_n hx hb dX5_brewing_24 rfl (lv_at hl 2 rfl) ?_
          refine wia hx hb hKn.1 hH (hB.1 26 7 (by decide)) (hB.2.1 26 _ (by decide)) g7 dX5_brewing_25 ?_
          refine lv_iload_n hx hb dX5_brewing_26 rfl (lv_at hl 1 rfl) ?_
          refine lv_icmp_ne (tgt := 32) hx hb dX5_brewing_27 (by decide) (fun c9 => ?_) (fun c9 => ?_)
          · have hf := wIf c9 hf
            refine lv_iinc (v := (x2 + 1)) (lv' := [(2, .int (x2 + 1)), (0, wR loc 1), (1, .int a1)]) hx hb dX5_brewing_32 hl (k := 2) rfl rfl (by decide) rfl (fun ls hl => ?_)
            refine lv_goto (tgt := 2) hx hb dX5_brewing_35 (by decide) ?_
            exact ih _ _ _ _ hf hH hS (lv_sub hl [1, 2, 0] rfl)
          · have hf := wIt c9 hf
            refine lv_iload_n hx hb dX5_brewing_30 rfl (lv_at hl 2 rfl) ?_
            cases hf
            exact W.iret hx hb hr (fun t ht hW => ⟨⟨_, (), rfl, rfl, by show wH _ _ _ _ _ _ _ t.heap; rw [ht]; exact hH⟩, hS.F ht⟩) hS.2.2 dX5_brewing_31
  exact lp5 wN _ _ _ _ hf hH hS (lv_sub hl [1, 2, 0] rfl)
noncomputable def fX5_group  (iv : wI) (a1 : Int32) (a2 : Int32) : Option (Int32) := wBd (fX5_in a1 0 ((iv 1 0) - 1)) (fun (r1 : Int32) => if r1 = 0 then some ((-1) : Int32) else wBd (fX5_brewing iv a1) (fun (r4 : Int32) => if a2 = 0 then if r4 = (-1) then wGd (vp_in a1 3) (if (iv 30 a1.toNatClampNeg) ≤ 0 then some (0 : Int32) else some (2 : Int32)) else some (1 : Int32) else if a2 = 1 then if r4 = (-1) then wGd (vp_in a1 3) (some (iv 30 a1.toNatClampNeg)) else wGd (vp_in r4 100) (some (iv 25 r4.toNatClampNeg)) else if a2 = 2 then wGd (vp_in a1 3) (some (iv 31 a1.toNatClampNeg)) else if a2 = 3 then wGd (vp_in a1 3) (some (iv 32 a1.toNatClampNeg)) else some ((-1) : Int32)))
set_option maxHeartbeats 4000000 in
set_option maxRecDepth 100000 in
theorem mtX5_group (l : Launch) (D : va_G) (K : Nat → ClassId) (loc sh ln : Nat → Nat) (iv : wI) (rv : wJ) (sz : Nat) (a1 : Int32) (a2 : Int32) {r' : Int32} (hB : wBm sh ln) (hf : fX5_group iv a1 a2 = some r') : Met l yX5_group wsX5_group ({ frames := 1, cells := 0, slots := 0, locals := 22 }) (wPc D K loc sh ln iv rv sz [wR loc 1, .int a1, .int a2]) (wQi D K loc sh ln iv rv sz r') 0 0 (wA loc sh sz) := by
  refine Met.ofW (cc := cX5_group) (maxL := 4) (ret := (some .int)) (by decide) rfl ?_
  intro p e s m args below meth c s₁ B hml hv
  obtain ⟨rfl, hsz, hH, hKn⟩ := hv
  have hx := B.exec
  have hb := B.bytes
  have hr := B.returns
  have hts := atoms_spec (ws := wsX5_group) B.pre
  have hown : s.vm.findClass RX5 = some m.cls := findClass_of_methodNamed B.named
  have hlocks := B.notSynchronized
  subst hsz
  have hA : ∀ q : Nat, s.heap.size ≤ q → wA loc sh s.heap.size q := fun q h => Or.inr h
  have hO : ∀ a, sh a ≠ 0 → wA loc sh s.heap.size (loc a) := fun a h => Or.inl ⟨a, h, rfl⟩
  have hS : va_S (wA loc sh s.heap.size) s.heap s.heap [] := va_S.rf
  obtain ⟨ls, hen, hl⟩ := wEntry m [wR loc 1, .int a1, .int a2] 4 (List.forall_mem_cons.mpr ⟨wR_cat _ _, List.forall_mem_cons.mpr ⟨rfl, List.forall_mem_cons.mpr ⟨rfl, fun _ h => absurd h List.not_mem_nil⟩⟩⟩) (Nat.le_of_ble_eq_true rfl)
  rw [hen]
  clear hen
  have hl : lv_has ls 4 [(0, wR loc 1), (1, .int a1), (2, .int a2)] := hl
  have k80 := hts (.fieldLink RX5 80 "CupByCupModel" "groups" "I") (List.mem_of_getElem? (i := 1) rfl)
  have iX5 : ∀ w ∈ wsX50, w ∈ wsX5_group := fun w h => List.mem_cons_of_mem _ (List.mem_append_right _ h)
  have k56 := hts (.fieldLink RX5 56 "CupByCupModel" "rinses" "[I") (List.mem_of_getElem? (i := 2) rfl)
  have k41 := hts (.fieldLink RX5 41 "CupByCupModel" "left" "[I") (List.mem_of_getElem? (i := 3) rfl)
  have k59 := hts (.fieldLink RX5 59 "CupByCupModel" "due" "[I") (List.mem_of_getElem? (i := 4) rfl)
  have k62 := hts (.fieldLink RX5 62 "CupByCupModel" "faults" "[I") (List.mem_of_getElem? (i := 5) rfl)
  unfold fX5_group at hf
  refine lv_iload_n hx hb dX5_group_0 rfl (lv_at hl 1 rfl) ?_
  refine lv_iconst (v := 0) hx hb dX5_group_1 (by decide) ?_
  refine wald_n hx hb dX5_group_2 rfl (lv_at hl 0 rfl) ?_
  refine wg (C := RX5) (T := TX5) (N := 31) (v := .int (iv 1 0)) hx hb hts iX5 hown hKn.1 hH (q := 1) (hB.1 1 6 (by decide)) (by decide) rfl rfl 0 (by decide) k80 rfl dX5_group_3 ?_
  refine lv_iconst (v := 1) hx hb dX5_group_6 (by decide) ?_
  refine lv_isub hx hb dX5_group_7 ?_
  obtain ⟨r1, h2, hf⟩ := wBd_e hf
  refine wci (va_runS (As := [.int a1, .int 0, .int ((iv 1 0) - 1)]) (rest := []) ⟨hx, hb, hml, hown, hts⟩ (mtX5_in l D K loc sh ln iv rv _ a1 0 ((iv 1 0) - 1) h2) (va_cwS 3 hts gX5_group_X5_in rfl rfl rfl (by decide +kernel) ⟨Nat.le_of_ble_eq_true rfl, Nat.le_of_ble_eq_true rfl⟩) (wPreS hKn hH) rfl rfl hl.1 rfl (lv_room (Nat.le_of_ble_eq_true rfl)) dX5_group_8 ⟨Nat.zero_le _, Nat.zero_le _⟩) hS hO hA (fun H locs hH hS => ?_)
  refine lv_if_ne (tgt := 16) hx hb dX5_group_11 (by decide) (fun c3 => ?_) (fun c3 => ?_)
  · have hf := wIf c3 hf
    refine wald_n hx hb dX5_group_16 rfl (lv_at hl 0 rfl) ?_
    refine lv_iload_n hx hb dX5_group_17 rfl (lv_at hl 1 rfl) ?_
    obtain ⟨r4, h5, hf⟩ := wBd_e hf
    refine wci (va_runV (As := [.int a1]) (rest := []) ⟨hx, hb, hml, hown, hts⟩ (mtX5_brewing l D K loc sh ln iv rv _ a1 hB h5) (cwV 1 hts gX5_group_X5_brewing rfl rfl rfl (by decide +kernel) ⟨Nat.le_of_ble_eq_true rfl, Nat.le_of_ble_eq_true rfl⟩) (wPreV hKn hH (hB.1 1 6 (by decide)) (by decide) rfl rfl) rfl rfl hl.1 rfl (lv_room (Nat.le_of_ble_eq_true rfl)) dX5_group_18 ⟨Nat.zero_le _, Nat.zero_le _⟩) hS hO hA (fun H locs hH hS => ?_)
    refine lv_istore_n (lv' := [(3, .int r4), (0, wR loc 1), (1, .int a1), (2, .int a2)]) hx hb dX5_group_21 rfl hl (by decide) rfl (fun ls hl => ?_)
    refine lv_iload_n hx hb dX5_group_22 rfl (lv_at hl 3 rfl) ?_
    by_cases c6 : a2 = 0
    · have hf := wIt c6 hf
      refine lv_tableIn (off := 29) (tgt := 52) hx hb dX5_group_23 (by rw [c6]; decide) (by rw [c6]; decide) (by rw [c6]; decide) (by decide) ?_
      refine lv_iload_n hx hb dX5_group_52 rfl (lv_at hl 0 rfl) ?_
      refine lv_iconst (v := (-1)) hx hb dX5_group_53 (by decide) ?_
      refine lv_icmp_eq (tgt := 61) hx hb dX5_group_54 (by decide) (fun c7 => ?_) (fun c7 => ?_)
      · have hf := wIt c7 hf
        refine wald_n hx hb dX5_group_61 rfl (lv_at hl 1 rfl) ?_
        refine wg (C := RX5) (T := TX5) (N := 31) (v := wR loc 30) hx hb hts iX5 hown hKn.1 hH (q := 1) (hB.1 1 6 (by decide)) (by decide) rfl rfl 20 (by decide) k56 rfl dX5_group_62 ?_
        refine lv_iload_n hx hb dX5_group_65 rfl (lv_at hl 2 rfl) ?_
        obtain ⟨g8, hf⟩ := wGd_e hf
        refine wia hx hb hKn.1 hH (hB.1 30 7 (by decide)) (hB.2.1 30 _ (by decide)) g8 dX5_group_66 ?_
        refine lv_if_le (tgt := 74) hx hb dX5_group_67 (by decide) (fun c9 => ?_) (fun c9 => ?_)
        · have hf := wIt c9 hf
          refine lv_iconst (v := 0) hx hb dX5_group_74 (by decide) ?_
          cases hf
          exact W.iret hx hb hr (fun t ht hW => ⟨⟨_, (), rfl, rfl, by show wH _ _ _ _ _ _ _ t.heap; rw [ht]; exact hH⟩, hS.F ht⟩) hS.2.2 dX5_group_75
        · have hf := wIf c9 hf
          refine lv_iconst (v := 2) hx hb dX5_group_70 (by decide) ?_
          refine lv_goto (tgt := 75) hx hb dX5_group_71 (by decide) ?_
          cases hf
          exact W.iret hx hb hr (fun t ht hW => ⟨⟨_, (), rfl, rfl, by show wH _ _ _ _ _ _ _ t.heap; rw [ht]; exact hH⟩, hS.F ht⟩) hS.2.2 dX5_group_75
      · have hf := wIf c7 hf
        refine lv_iconst (v := 1) hx hb dX5_group_57 (by decide) ?_
        refine lv_goto (tgt := 75) hx hb dX5_group_58 (by decide) ?_
        cases hf
        exact W.iret hx hb hr (fun t ht hW => ⟨⟨_, (), rfl, rfl, by show wH _ _ _ _ _ _ _ t.heap; rw [ht]; exact hH⟩, hS.F ht⟩) hS.2.2 dX5_group_75
    · have hf := wIf c6 hf
      by_cases c10 : a2 = 1
      · have hf := wIt c10 hf
        refine lv_tableIn (off := 53) (tgt := 76) hx hb dX5_group_23 (by rw [c10]; decide) (by rw [c10]; decide) (by rw [c10]; decide) (by decide) ?_
        refine lv_iload_n hx hb dX5_group_76 rfl (lv_at hl 0 rfl) ?_
        refine lv_iconst (v := (-1)) hx hb dX5_group_77 (by decide) ?_
        refine lv_icmp_eq (tgt := 90) hx hb dX5_group_78 (by decide) (fun c11 => ?_) (fun c11 => ?_)
        · have hf := wIt c11 hf
          refine wald_n hx hb dX5_group_90 rfl (lv_at hl 1 rfl) ?_
          refine wg (C := RX5) (T := TX5) (N := 31) (v := wR loc 30) hx hb hts iX5 hown hKn.1 hH (q := 1) (hB.1 1 6 (by decide)) (by decide) rfl rfl 20 (by decide) k56 rfl dX5_group_91 ?_
          refine lv_iload_n hx hb dX5_group_94 rfl (lv_at hl 2 rfl) ?_
          obtain ⟨g12, hf⟩ := wGd_e hf
          refine wia hx hb hKn.1 hH (hB.1 30 7 (by decide)) (hB.2.1 30 _ (by decide)) g12 dX5_group_95 ?_
          cases hf
          exact W.iret hx hb hr (fun t ht hW => ⟨⟨_, (), rfl, rfl, by show wH _ _ _ _ _ _ _ t.heap; rw [ht]; exact hH⟩, hS.F ht⟩) hS.2.2 dX5_group_96
        · have hf := wIf c11 hf
          refine wald_n hx hb dX5_group_81 rfl (lv_at hl 1 rfl) ?_
          refine wg (C := RX5) (T := TX5) (N := 31) (v := wR loc 25) hx hb hts iX5 hown hKn.1 hH (q := 1) (hB.1 1 6 (by decide)) (by decide) rfl rfl 15 (by decide) k41 rfl dX5_group_82 ?_
          refine lv_iload_n hx hb dX5_group_85 rfl (lv_at hl 0 rfl) ?_
          obtain ⟨g13, hf⟩ := wGd_e hf
          refine wia hx hb hKn.1 hH (hB.1 25 7 (by decide)) (hB.2.1 25 _ (by decide)) g13 dX5_group_86 ?_
          refine lv_goto (tgt := 96) hx hb dX5_group_87 (by decide) ?_
          cases hf
          exact W.iret hx hb hr (fun t ht hW => ⟨⟨_, (), rfl, rfl, by show wH _ _ _ _ _ _ _ t.heap; rw [ht]; exact hH⟩, hS.F ht⟩) hS.2.2 dX5_group_96
      · have hf := wIf c10 hf
        by_cases c14 : a2 = 2
        · have hf := wIt c14 hf
          refine lv_tableIn (off := 74) (tgt := 97) hx hb dX5_group_23 (by rw [c14]; decide) (by rw [c14]; decide) (by rw [c14]; decide) (by decide) ?_
          refine wald_n hx hb dX5_group_97 rfl (lv_at hl 1 rfl) ?_
          refine wg (C := RX5) (T := TX5) (N := 31) (v := wR loc 31) hx hb hts iX5 hown hKn.1 hH (q := 1) (hB.1 1 6 (by decide)) (by decide) rfl rfl 21 (by decide) k59 rfl dX5_group_98 ?_
          refine lv_iload_n hx hb dX5_group_101 rfl (lv_at hl 2 rfl) ?_
          obtain ⟨g15, hf⟩ := wGd_e hf
          refine wia hx hb hKn.1 hH (hB.1 31 7 (by decide)) (hB.2.1 31 _ (by decide)) g15 dX5_group_102 ?_
          cases hf
          exact W.iret hx hb hr (fun t ht hW => ⟨⟨_, (), rfl, rfl, by show wH _ _ _ _ _ _ _ t.heap; rw [ht]; exact hH⟩, hS.F ht⟩) hS.2.2 dX5_group_103
        · have hf := wIf c14 hf
          by_cases c16 : a2 = 3
          · have hf := wIt c16 hf
            refine lv_tableIn (off := 81) (tgt := 104) hx hb dX5_group_23 (by rw [c16]; decide) (by rw [c16]; decide) (by rw [c16]; decide) (by decide) ?_
            refine wald_n hx hb dX5_group_104 rfl (lv_at hl 1 rfl) ?_
            refine wg (C := RX5) (T := TX5) (N := 31) (v := wR loc 32) hx hb hts iX5 hown hKn.1 hH (q := 1) (hB.1 1 6 (by decide)) (by decide) rfl rfl 22 (by decide) k62 rfl dX5_group_105 ?_
            refine lv_iload_n hx hb dX5_group_108 rfl (lv_at hl 2 rfl) ?_
            obtain ⟨g17, hf⟩ := wGd_e hf
            refine wia hx hb hKn.1 hH (hB.1 32 7 (by decide)) (hB.2.1 32 _ (by decide)) g17 dX5_group_109 ?_
            cases hf
            exact W.iret hx hb hr (fun t ht hW => ⟨⟨_, (), rfl, rfl, by show wH _ _ _ _ _ _ _ t.heap; rw [ht]; exact hH⟩, hS.F ht⟩) hS.2.2 dX5_group_110
          · have hf := wIf c16 hf
            refine lv_tableOut (tgt := 111) hx hb dX5_group_23 (by have q0 := lv_neT (a := 0) c6 (by decide); have q1 := lv_neT (a := 1) c10 (by decide); have q2 := lv_neT (a := 2) c14 (by decide); have q3 := lv_neT (a := 3) c16 (by decide); omega) (by decide) ?_
            refine lv_iconst (v := (-1)) hx hb dX5_group_111 (by decide) ?_
            cases hf
            exact W.iret hx hb hr (fun t ht hW => ⟨⟨_, (), rfl, rfl, by show wH _ _ _ _ _ _ _ t.heap; rw [ht]; exact hH⟩, hS.F ht⟩) hS.2.2 dX5_group_112
  · have hf := wIt c3 hf
    refine lv_iconst (v := (-1)) hx hb dX5_group_14 (by decide) ?_
    cases hf
    exact W.iret hx hb hr (fun t ht hW => ⟨⟨_, (), rfl, rfl, by show wH _ _ _ _ _ _ _ t.heap; rw [ht]; exact hH⟩, hS.F ht⟩) hS.2.2 dX5_group_15
noncomputable def fX5_orders_20  : Nat → wI → Int32 → Int32 → Int32 → Int32 → Int32 → Int32 → Option (Int32)
  | 0, _, _, _, _, _, _, _ => none
  | n + 1, iv, x2, x3, x4, x5, x6, x7 => if (x2 - x5) ≤ x7 then some x6 else fX5_orders_20 n iv x2 x3 x4 x5 (x6 * x7) (x7 + 1)
noncomputable def fX5_orders_56  : Nat → wI → Int32 → Int32 → Int32 → Int32 → Int32 → Int32 → Option (Int32)
  | 0, _, _, _, _, _, _, _ => none
  | n + 1, iv, x2, x3, x4, x5, x7, x8 => if ((x4 >>> (x8 &&& 31)) &&& 1) = 1 then fX5_orders_56 n iv x2 x3 x4 x5 x7 (x8 + 1) else some x8
noncomputable def fX5_orders_81  : Nat → wI → Int32 → Int32 → Int32 → Int32 → Int32 → Int32 → Option (Int32)
  | 0, _, _, _, _, _, _, _ => none
  | n + 1, iv, x2, x3, x4, x5, x7, x8 => if ((x4 >>> (x8 &&& 31)) &&& 1) = 1 then fX5_orders_81 n iv x2 x3 x4 x5 x7 (x8 + 1) else some x8
noncomputable def fX5_orders_73  : Nat → wI → Int32 → Int32 → Int32 → Int32 → Int32 → Int32 → Option (Int32)
  | 0, _, _, _, _, _, _, _ => none
  | n + 1, iv, x2, x3, x4, x5, x7, x8 => if x7 ≤ 0 then some x8 else wBd (fX5_orders_81 wN iv x2 x3 x4 x5 x7 (x8 + 1)) (fun (z24 : Int32) => fX5_orders_73 n iv x2 x3 x4 x5 (x7 + (-1)) z24)
noncomputable def fX5_orders_8  : Nat → wI → Int32 → Int32 → Int32 → Int32 → Option (wI)
  | 0, _, _, _, _, _ => none
  | n + 1, iv, x2, x3, x4, x5 => if x2 ≤ x5 then some iv else wBd (fX5_orders_20 wN iv x2 x3 x4 x5 1 2) (fun (z8 : Int32) => wGd (¬ z8 = (0 : Int32)) (wBd (fX5_orders_56 wN iv x2 (x3 - x3 / z8 * z8) x4 x5 (x3 / z8) 0) (fun (z16 : Int32) => wBd (fX5_orders_73 wN iv x2 (x3 - x3 / z8 * z8) x4 x5 (x3 / z8) z16) (fun (z24 : Int32) => wGd (vp_in z24 5) (wGd (vp_in x5 5) (wLt (wU iv 37 x5.toNatClampNeg (iv 36 z24.toNatClampNeg)) (fun (iv35 : wI) => fX5_orders_8 n iv35 x2 (x3 - x3 / z8 * z8) (x4 ||| (1 <<< (z24 &&& 31))) (x5 + 1))))))))
noncomputable def fX5_orders  (iv : wI) (a1 : Int32) (a2 : Int32) : Option (wI) := wBd (fX5_orders_8 wN iv a2 a1 0 0) (fun (iv9 : wI) => some iv9)
set_option maxHeartbeats 4000000 in
set_option maxRecDepth 100000 in
theorem mtX5_orders (l : Launch) (D : va_G) (K : Nat → ClassId) (loc sh ln : Nat → Nat) (iv : wI) (rv : wJ) (sz : Nat) (a1 : Int32) (a2 : Int32) {iv' : wI} (hB : wBm sh ln) (hf : fX5_orders iv a1 a2 = some iv') : Met l yX5_orders wsX5_orders ({ frames := 0, cells := 0, slots := 0, locals := 0 }) (wPc D K loc sh ln iv rv sz [wR loc 1, .int a1, .int a2]) (wQv D K loc sh ln iv' rv sz) 0 0 (wA loc sh sz) := by
  refine Met.ofW (cc := cX5_orders) (maxL := 9) (ret := none) (by decide) rfl ?_
  intro p e s m args below meth c s₁ B hml hv
  obtain ⟨rfl, hsz, hH, hKn⟩ := hv
  have hx := B.exec
  have hb := B.bytes
  have hr := B.returns
  have hts := atoms_spec (ws := wsX5_orders) B.pre
  have hown : s.vm.findClass RX5 = some m.cls := findClass_of_methodNamed B.named
  have hlocks := B.notSynchronized
  subst hsz
  have hA : ∀ q : Nat, s.heap.size ≤ q → wA loc sh s.heap.size q := fun q h => Or.inr h
  have hO : ∀ a, sh a ≠ 0 → wA loc sh s.heap.size (loc a) := fun a h => Or.inl ⟨a, h, rfl⟩
  have hS : va_S (wA loc sh s.heap.size) s.heap s.heap [] := va_S.rf
  obtain ⟨ls, hen, hl⟩ := wEntry m [wR loc 1, .int a1, .int a2] 9 (List.forall_mem_cons.mpr ⟨wR_cat _ _, List.forall_mem_cons.mpr ⟨rfl, List.forall_mem_cons.mpr ⟨rfl, fun _ h => absurd h List.not_mem_nil⟩⟩⟩) (Nat.le_of_ble_eq_true rfl)
  rw [hen]
  clear hen
  have hl : lv_has ls 9 [(0, wR loc 1), (1, .int a1), (2, .int a2)] := hl
  have k71 := hts (.fieldLink RX5 71 "CupByCupModel" "row" "[I") (List.mem_of_getElem? (i := 1) rfl)
  have iX5 : ∀ w ∈ wsX50, w ∈ wsX5_orders := fun w h => List.mem_cons_of_mem _ (List.mem_append_right _ h)
  have k68 := hts (.fieldLink RX5 68 "CupByCupModel" "waiting" "[I") (List.mem_of_getElem? (i := 2) rfl)
  unfold fX5_orders at hf
  refine lv_iload_n hx hb dX5_orders_0 rfl (lv_at hl 1 rfl) ?_
  refine lv_istore_n (lv' := [(3, .int a1), (0, wR loc 1), (1, .int a1), (2, .int a2)]) hx hb dX5_orders_1 rfl hl (by decide) rfl (fun ls hl => ?_)
  refine lv_iconst (v := 0) hx hb dX5_orders_2 (by decide) ?_
  refine lv_istore (lv' := [(4, .int 0), (3, .int a1), (0, wR loc 1), (1, .int a1), (2, .int a2)]) hx hb dX5_orders_3 hl (by decide) rfl (fun ls hl => ?_)
  refine lv_iconst (v := 0) hx hb dX5_orders_5 (by decide) ?_
  refine lv_istore (lv' := [(5, .int 0), (4, .int 0), (3, .int a1), (0, wR loc 1), (1, .int a1), (2, .int a2)]) hx hb dX5_orders_6 hl (by decide) rfl (fun ls hl => ?_)
  obtain ⟨iv9, hL6, hf⟩ := wBd_e hf
  have hk7 : ∀ (H : Heap) (locs : List Loc) (ls : Array Slot), wH D K loc sh ln iv9 rv H → va_S (wA loc sh s.heap.size) s.heap H locs → lv_has ls 9 [] → W p l e (headSpec wsX5_orders ({ frames := 0, cells := 0, slots := 0, locals := 0 })).room s m ([wR loc 1, .int a1, .int a2] : List Value).toArray below meth c H locs 0 0 (MQ below (wQv D K loc sh ln iv' rv s.heap.size) ([wR loc 1, .int a1, .int a2] : List Value).toArray s 0 0 (wA loc sh s.heap.size)) (F0 m 133 ls []) := by
    clear hL6 hl hS hH
    intro H locs ls hH hS hl
    cases hf
    exact W.vret hx hb hr (fun t ht hW => ⟨⟨(), rfl, trivial, by show wH _ _ _ _ _ _ _ t.heap; rw [ht]; exact hH⟩, hS.F ht⟩) hS.2.2 dX5_orders_133
  have lp8 : ∀ (n1 : Nat) (iv2 : wI) (x3 : Int32) (x4 : Int32) (x5 : Int32) (H : Heap) (locs : List Loc) (ls : Array Slot), fX5_orders_8 n1 iv2 a2 x3 x4 x5 = some iv9 → wH D K loc sh ln iv2 rv H → va_S (wA loc sh s.heap.size) s.heap H locs → lv_has ls 9 [(0, wR loc 1), (2, .int a2), (3, .int x3), (4, .int x4), (5, .int x5)] → W p l e (headSpec wsX5_orders ({ frames := 0, cells := 0, slots := 0, locals := 0 })).room s m ([wR loc 1, .int a1, .int a2] : List Value).toArray below meth c H locs 0 0 (MQ below (wQv D K loc sh ln iv' rv s.heap.size) ([wR loc 1, .int a1, .int a2] : List Value).toArray s 0 0 (wA loc sh s.heap.size)) (F0 m 8 ls []) := by
    clear hf hl hS hH hL6
    intro n1
    induction n1 with
    | zero => intro iv2 x3 x4 x5 H locs ls hf; cases hf
    | succ n1 ih =>
      intro iv2 x3 x4 x5 H locs ls hf hH hS hl
      rw [fX5_orders_8.eq_2] at hf
      refine lv_iload hx hb dX5_orders_8 (lv_at hl 4 rfl) ?_
      refine lv_iload_n hx hb dX5_orders_10 rfl (lv_at hl 1 rfl) ?_
      refine lv_icmp_ge (tgt := 133) hx hb dX5_orders_11 (by decide) (fun c10 => ?_) (fun c10 => ?_)
      · have hf := wIt c10 hf
        cases hf
        exact hk7 _ _ _ hH hS (lv_sub hl [] rfl)
      · have hf := wIf c10 hf
        refine lv_iconst (v := 1) hx hb dX5_orders_14 (by decide) ?_
        refine lv_istore (lv' := [(6, .int 1), (0, wR loc 1), (2, .int a2), (3, .int x3), (4, .int x4), (5, .int x5)]) hx hb dX5_orders_15 hl (by decide) rfl (fun ls hl => ?_)
        refine lv_iconst (v := 2) hx hb dX5_orders_17 (by decide) ?_
        refine lv_istore (lv' := [(7, .int 2), (6, .int 1), (0, wR loc 1), (2, .int a2), (3, .int x3), (4, .int x4), (5, .int x5)]) hx hb dX5_orders_18 hl (by decide) rfl (fun ls hl => ?_)
        obtain ⟨z17, hL14, hf⟩ := wBd_e hf
        have hk15 : ∀ (H : Heap) (locs : List Loc) (ls : Array Slot), wH D K loc sh ln iv2 rv H → va_S (wA loc sh s.heap.size) s.heap H locs → lv_has ls 9 [(0, wR loc 1), (2, .int a2), (3, .int x3), (4, .int x4), (5, .int x5), (6, .int z17)] → W p l e (headSpec wsX5_orders ({ frames := 0, cells := 0, slots := 0, locals := 0 })).room s m ([wR loc 1, .int a1, .int a2] : List Value).toArray below meth c H locs 0 0 (MQ below (wQv D K loc sh ln iv' rv s.heap.size) ([wR loc 1, .int a1, .int a2] : List Value).toArray s 0 0 (wA loc sh s.heap.size)) (F0 m 42 ls []) := by
          clear hL14 hl hS hH
          intro H locs ls hH hS hl
          refine lv_iload_n hx hb dX5_orders_42 rfl (lv_at hl 2 rfl) ?_
          refine lv_iload hx hb dX5_orders_43 (lv_at hl 5 rfl) ?_
          obtain ⟨g19, hf⟩ := wGd_e hf
          refine lv_idiv hx hb dX5_orders_45 g19 ?_
          refine lv_istore (lv' := [(7, .int (x3 / z17)), (0, wR loc 1), (2, .int a2), (3, .int x3), (4, .int x4), (5, .int x5), (6, .int z17)]) hx hb dX5_orders_46 hl (by decide) rfl (fun ls hl => ?_)
          refine lv_iload_n hx hb dX5_orders_48 rfl (lv_at hl 3 rfl) ?_
          refine lv_iload hx hb dX5_orders_49 (lv_at hl 6 rfl) ?_
          refine lv_irem hx hb dX5_orders_51 g19 ?_
          refine lv_istore_n (lv' := [(3, .int (x3 - x3 / z17 * z17)), (7, .int (x3 / z17)), (0, wR loc 1), (2, .int a2), (4, .int x4), (5, .int x5), (6, .int z17)]) hx hb dX5_orders_52 rfl hl (by decide) rfl (fun ls hl => ?_)
          refine lv_iconst (v := 0) hx hb dX5_orders_53 (by decide) ?_
          refine lv_istore (lv' := [(8, .int 0), (3, .int (x3 - x3 / z17 * z17)), (7, .int (x3 / z17)), (0, wR loc 1), (2, .int a2), (4, .int x4), (5, .int x5), (6, .int z17)]) hx hb dX5_orders_54 hl (by decide) rfl (fun ls hl => ?_)
          obtain ⟨z25, hL22, hf⟩ := wBd_e hf
          have hk23 : ∀ (H : Heap) (locs : List Loc) (ls : Array Slot), wH D K loc sh ln iv2 rv H → va_S (wA loc sh s.heap.size) s.heap H locs → lv_has ls 9 [(0, wR loc 1), (2, .int a2), (3, .int (x3 - x3 / z17 * z17)), (4, .int x4), (5, .int x5), (7, .int (x3 / z17)), (8, .int z25)] → W p l e (headSpec wsX5_orders ({ frames := 0, cells := 0, slots := 0, locals := 0 })).room s m ([wR loc 1, .int a1, .int a2] : List Value).toArray below meth c H locs 0 0 (MQ below (wQv D K loc sh ln iv' rv s.heap.size) ([wR loc 1, .int a1, .int a2] : List Value).toArray s 0 0 (wA loc sh s.heap.size)) (F0 m 73 ls []) := by
            clear hL22 hl hS hH
            intro H locs ls hH hS hl
            obtain ⟨z33, hL30, hf⟩ := wBd_e hf
            have hk31 : ∀ (H : Heap) (locs : List Loc) (ls : Array Slot), wH D K loc sh ln iv2 rv H → va_S (wA loc sh s.heap.size) s.heap H locs → lv_has ls 9 [(0, wR loc 1), (2, .int a2), (3, .int (x3 - x3 / z17 * z17)), (4, .int x4), (5, .int x5), (8, .int z33)] → W p l e (headSpec wsX5_orders ({ frames := 0, cells := 0, slots := 0, locals := 0 })).room s m ([wR loc 1, .int a1, .int a2] : List Value).toArray below meth c H locs 0 0 (MQ below (wQv D K loc sh ln iv' rv s.heap.size) ([wR loc 1, .int a1, .int a2] : List Value).toArray s 0 0 (wA loc sh s.heap.size)) (F0 m 104 ls []) := by
              clear hL30 hl hS hH
              intro H locs ls hH hS hl
              refine wald_n hx hb dX5_orders_104 rfl (lv_at hl 0 rfl) ?_
              refine wg (C := RX5) (T := TX5) (N := 31) (v := wR loc 37) hx hb hts iX5 hown hKn.1 hH (q := 1) (hB.1 1 6 (by decide)) (by decide) rfl rfl 27 (by decide) k71 rfl dX5_orders_105 ?_
              refine lv_iload hx hb dX5_orders_108 (lv_at hl 4 rfl) ?_
              refine wald_n hx hb dX5_orders_110 rfl (lv_at hl 0 rfl) ?_
              refine wg (C := RX5) (T := TX5) (N := 31) (v := wR loc 36) hx hb hts iX5 hown hKn.1 hH (q := 1) (hB.1 1 6 (by decide)) (by decide) rfl rfl 26 (by decide) k68 rfl dX5_orders_111 ?_
              refine lv_iload hx hb dX5_orders_114 (lv_at hl 5 rfl) ?_
              obtain ⟨g42, hf⟩ := wGd_e hf
              refine wia hx hb hKn.1 hH (hB.1 36 7 (by decide)) (hB.2.1 36 _ (by decide)) g42 dX5_orders_116 ?_
              obtain ⟨g43, hf⟩ := wGd_e hf
              obtain ⟨iv44, e45, hf⟩ := wLt_e hf
              refine wis hx hb hKn.1 hH hO hS (hB.1 37 7 (by decide)) (hB.2.1 37 _ (by decide)) g43 dX5_orders_117 (fun H locs hH hS => ?_)
              rw [← e45] at hH
              refine lv_iload hx hb dX5_orders_118 (lv_at hl 3 rfl) ?_
              refine lv_iconst (v := 1) hx hb dX5_orders_120 (by decide) ?_
              refine lv_iload hx hb dX5_orders_121 (lv_at hl 5 rfl) ?_
              refine lv_ishl hx hb dX5_orders_123 ?_
              refine lv_ior hx hb dX5_orders_124 ?_
              refine lv_istore (lv' := [(4, .int (x4 ||| (1 <<< (z33 &&& 31)))), (0, wR loc 1), (2, .int a2), (3, .int (x3 - x3 / z17 * z17)), (5, .int x5), (8, .int z33)]) hx hb dX5_orders_125 hl (by decide) rfl (fun ls hl => ?_)
              refine lv_iinc (v := (x5 + 1)) (lv' := [(5, .int (x5 + 1)), (4, .int (x4 ||| (1 <<< (z33 &&& 31)))), (0, wR loc 1), (2, .int a2), (3, .int (x3 - x3 / z17 * z17)), (8, .int z33)]) hx hb dX5_orders_127 hl (k := 4) rfl rfl (by decide) rfl (fun ls hl => ?_)
              refine lv_goto (tgt := 8) hx hb dX5_orders_130 (by decide) ?_
              exact ih _ _ _ _ _ _ _ hf hH hS (lv_sub hl [2, 3, 4, 1, 0] rfl)
            have lp32 : ∀ (n27 : Nat) (x28 : Int32) (x29 : Int32) (H : Heap) (locs : List Loc) (ls : Array Slot), fX5_orders_73 n27 iv2 a2 (x3 - x3 / z17 * z17) x4 x5 x28 x29 = some z33 → wH D K loc sh ln iv2 rv H → va_S (wA loc sh s.heap.size) s.heap H locs → lv_has ls 9 [(0, wR loc 1), (2, .int a2), (3, .int (x3 - x3 / z17 * z17)), (4, .int x4), (5, .int x5), (7, .int x28), (8, .int x29)] → W p l e (headSpec wsX5_orders ({ frames := 0, cells := 0, slots := 0, locals := 0 })).room s m ([wR loc 1, .int a1, .int a2] : List Value).toArray below meth c H locs 0 0 (MQ below (wQv D K loc sh ln iv' rv s.heap.size) ([wR loc 1, .int a1, .int a2] : List Value).toArray s 0 0 (wA loc sh s.heap.size)) (F0 m 73 ls []) := by
              clear hf hl hS hH hL30
              intro n27
              induction n27 with
              | zero => intro x28 x29 H locs ls hf; cases hf
              | succ n27 ih =>
                intro x28 x29 H locs ls hf hH hS hl
                rw [fX5_orders_73.eq_2] at hf
                refine lv_iload hx hb dX5_orders_73 (lv_at hl 5 rfl) ?_
                refine lv_if_le (tgt := 104) hx hb dX5_orders_75 (by decide) (fun c34 => ?_) (fun c34 => ?_)
                · have hf := wIt c34 hf
                  cases hf
                  exact hk31 _ _ _ hH hS (lv_sub hl [0, 1, 2, 3, 4, 6] rfl)
                · have hf := wIf c34 hf
                  refine lv_iinc (v := (x29 + 1)) (lv' := [(8, .int (x29 + 1)), (0, wR loc 1), (2, .int a2), (3, .int (x3 - x3 / z17 * z17)), (4, .int x4), (5, .int x5), (7, .int x28)]) hx hb dX5_orders_78 hl (k := 6) rfl rfl (by decide) rfl (fun ls hl => ?_)
                  obtain ⟨z40, hL37, hf⟩ := wBd_e hf
                  have hk38 : ∀ (H : Heap) (locs : List Loc) (ls : Array Slot), wH D K loc sh ln iv2 rv H → va_S (wA loc sh s.heap.size) s.heap H locs → lv_has ls 9 [(0, wR loc 1), (2, .int a2), (3, .int (x3 - x3 / z17 * z17)), (4, .int x4), (5, .int x5), (7, .int x28), (8, .int z40)] → W p l e (headSpec wsX5_orders ({ frames := 0, cells := 0, slots := 0, locals := 0 })).room s m ([wR loc 1, .int a1, .int a2] : List Value).toArray below meth c H locs 0 0 (MQ below (wQv D K loc sh ln iv' rv s.heap.size) ([wR loc 1, .int a1, .int a2] : List Value).toArray s 0 0 (wA loc sh s.heap.size)) (F0 m 98 ls []) := by
                    clear hL37 hl hS hH
                    intro H locs ls hH hS hl
                    refine lv_iinc (v := (x28 + (-1))) (lv' := [(7, .int (x28 + (-1))), (0, wR loc 1), (2, .int a2), (3, .int (x3 - x3 / z17 * z17)), (4, .int x4), (5, .int x5), (8, .int z40)]) hx hb dX5_orders_98 hl (k := 5) rfl rfl (by decide) rfl (fun ls hl => ?_)
                    refine lv_goto (tgt := 73) hx hb dX5_orders_101 (by decide) ?_
                    exact ih _ _ _ _ _ hf hH hS (lv_sub hl [1, 2, 3, 4, 5, 0, 6] rfl)
                  have lp39 : ∀ (n35 : Nat) (x36 : Int32) (H : Heap) (locs : List Loc) (ls : Array Slot), fX5_orders_81 n35 iv2 a2 (x3 - x3 / z17 * z17) x4 x5 x28 x36 = some z40 → wH D K loc sh ln iv2 rv H → va_S (wA loc sh s.heap.size) s.heap H locs → lv_has ls 9 [(0, wR loc 1), (2, .int a2), (3, .int (x3 - x3 / z17 * z17)), (4, .int x4), (5, .int x5), (7, .int x28), (8, .int x36)] → W p l e (headSpec wsX5_orders ({ frames := 0, cells := 0, slots := 0, locals := 0 })).room s m ([wR loc 1, .int a1, .int a2] : List Value).toArray below meth c H locs 0 0 (MQ below (wQv D K loc sh ln iv' rv s.heap.size) ([wR loc 1, .int a1, .int a2] : List Value).toArray s 0 0 (wA loc sh s.heap.size)) (F0 m 81 ls []) := by
                    clear hf hl hS hH hL37
                    intro n35
                    induction n35 with
                    | zero => intro x36 H locs ls hf; cases hf
                    | succ n35 ih =>
                      intro x36 H locs ls hf hH hS hl
                      rw [fX5_orders_81.eq_2] at hf
                      refine lv_iload hx hb dX5_orders_81 (lv_at hl 3 rfl) ?_
                      refine lv_iload hx hb dX5_orders_83 (lv_at hl 6 rfl) ?_
                      refine lv_ishr hx hb dX5_orders_85 ?_
                      refine lv_iconst (v := 1) hx hb dX5_orders_86 (by decide) ?_
                      refine lv_iand hx hb dX5_orders_87 ?_
                      refine lv_iconst (v := 1) hx hb dX5_orders_88 (by decide) ?_
                      refine lv_icmp_ne (tgt := 98) hx hb dX5_orders_89 (by decide) (fun c41 => ?_) (fun c41 => ?_)
                      · have hf := wIf c41 hf
                        cases hf
                        exact hk38 _ _ _ hH hS (lv_sub hl [0, 1, 2, 3, 4, 5, 6] rfl)
                      · have hf := wIt c41 hf
                        refine lv_iinc (v := (x36 + 1)) (lv' := [(8, .int (x36 + 1)), (0, wR loc 1), (2, .int a2), (3, .int (x3 - x3 / z17 * z17)), (4, .int x4), (5, .int x5), (7, .int x28)]) hx hb dX5_orders_92 hl (k := 6) rfl rfl (by decide) rfl (fun ls hl => ?_)
                        refine lv_goto (tgt := 81) hx hb dX5_orders_95 (by decide) ?_
                        exact ih _ _ _ _ hf hH hS (lv_sub hl [1, 2, 3, 4, 5, 6, 0] rfl)
                  exact lp39 wN _ _ _ _ hL37 hH hS (lv_sub hl [1, 2, 3, 4, 5, 6, 0] rfl)
            exact lp32 wN _ _ _ _ _ hL30 hH hS (lv_sub hl [0, 1, 2, 3, 4, 5, 6] rfl)
          have lp24 : ∀ (n20 : Nat) (x21 : Int32) (H : Heap) (locs : List Loc) (ls : Array Slot), fX5_orders_56 n20 iv2 a2 (x3 - x3 / z17 * z17) x4 x5 (x3 / z17) x21 = some z25 → wH D K loc sh ln iv2 rv H → va_S (wA loc sh s.heap.size) s.heap H locs → lv_has ls 9 [(0, wR loc 1), (2, .int a2), (3, .int (x3 - x3 / z17 * z17)), (4, .int x4), (5, .int x5), (7, .int (x3 / z17)), (8, .int x21)] → W p l e (headSpec wsX5_orders ({ frames := 0, cells := 0, slots := 0, locals := 0 })).room s m ([wR loc 1, .int a1, .int a2] : List Value).toArray below meth c H locs 0 0 (MQ below (wQv D K loc sh ln iv' rv s.heap.size) ([wR loc 1, .int a1, .int a2] : List Value).toArray s 0 0 (wA loc sh s.heap.size)) (F0 m 56 ls []) := by
            clear hf hl hS hH hL22
            intro n20
            induction n20 with
            | zero => intro x21 H locs ls hf; cases hf
            | succ n20 ih =>
              intro x21 H locs ls hf hH hS hl
              rw [fX5_orders_56.eq_2] at hf
              refine lv_iload hx hb dX5_orders_56 (lv_at hl 3 rfl) ?_
              refine lv_iload hx hb dX5_orders_58 (lv_at hl 6 rfl) ?_
              refine lv_ishr hx hb dX5_orders_60 ?_
              refine lv_iconst (v := 1) hx hb dX5_orders_61 (by decide) ?_
              refine lv_iand hx hb dX5_orders_62 ?_
              refine lv_iconst (v := 1) hx hb dX5_orders_63 (by decide) ?_
              refine lv_icmp_ne (tgt := 73) hx hb dX5_orders_64 (by decide) (fun c26 => ?_) (fun c26 => ?_)
              · have hf := wIf c26 hf
                cases hf
                exact hk23 _ _ _ hH hS (lv_sub hl [0, 1, 2, 3, 4, 5, 6] rfl)
              · have hf := wIt c26 hf
                refine lv_iinc (v := (x21 + 1)) (lv' := [(8, .int (x21 + 1)), (0, wR loc 1), (2, .int a2), (3, .int (x3 - x3 / z17 * z17)), (4, .int x4), (5, .int x5), (7, .int (x3 / z17))]) hx hb dX5_orders_67 hl (k := 6) rfl rfl (by decide) rfl (fun ls hl => ?_)
                refine lv_goto (tgt := 56) hx hb dX5_orders_70 (by decide) ?_
                exact ih _ _ _ _ hf hH hS (lv_sub hl [1, 2, 3, 4, 5, 6, 0] rfl)
          exact lp24 wN _ _ _ _ hL22 hH hS (lv_sub hl [3, 4, 1, 5, 6, 2, 0] rfl)
        have lp16 : ∀ (n11 : Nat) (x12 : Int32) (x13 : Int32) (H : Heap) (locs : List Loc) (ls : Array Slot), fX5_orders_20 n11 iv2 a2 x3 x4 x5 x12 x13 = some z17 → wH D K loc sh ln iv2 rv H → va_S (wA loc sh s.heap.size) s.heap H locs → lv_has ls 9 [(0, wR loc 1), (2, .int a2), (3, .int x3), (4, .int x4), (5, .int x5), (6, .int x12), (7, .int x13)] → W p l e (headSpec wsX5_orders ({ frames := 0, cells := 0, slots := 0, locals := 0 })).room s m ([wR loc 1, .int a1, .int a2] : List Value).toArray below meth c H locs 0 0 (MQ below (wQv D K loc sh ln iv' rv s.heap.size) ([wR loc 1, .int a1, .int a2] : List Value).toArray s 0 0 (wA loc sh s.heap.size)) (F0 m 20 ls []) := by
          clear hf hl hS hH hL14
          intro n11
          induction n11 with
          | zero => intro x12 x13 H locs ls hf; cases hf
          | succ n11 ih =>
            intro x12 x13 H locs ls hf hH hS hl
            rw [fX5_orders_20.eq_2] at hf
            refine lv_iload hx hb dX5_orders_20 (lv_at hl 6 rfl) ?_
            refine lv_iload_n hx hb dX5_orders_22 rfl (lv_at hl 1 rfl) ?_
            refine lv_iload hx hb dX5_orders_23 (lv_at hl 4 rfl) ?_
            refine lv_isub hx hb dX5_orders_25 ?_
            refine lv_icmp_ge (tgt := 42) hx hb dX5_orders_26 (by decide) (fun c18 => ?_) (fun c18 => ?_)
            · have hf := wIt c18 hf
              cases hf
              exact hk15 _ _ _ hH hS (lv_sub hl [0, 1, 2, 3, 4, 5] rfl)
            · have hf := wIf c18 hf
              refine lv_iload hx hb dX5_orders_29 (lv_at hl 5 rfl) ?_
              refine lv_iload hx hb dX5_orders_31 (lv_at hl 6 rfl) ?_
              refine lv_imul hx hb dX5_orders_33 ?_
              refine lv_istore (lv' := [(6, .int (x12 * x13)), (0, wR loc 1), (2, .int a2), (3, .int x3), (4, .int x4), (5, .int x5), (7, .int x13)]) hx hb dX5_orders_34 hl (by decide) rfl (fun ls hl => ?_)
              refine lv_iinc (v := (x13 + 1)) (lv' := [(7, .int (x13 + 1)), (6, .int (x12 * x13)), (0, wR loc 1), (2, .int a2), (3, .int x3), (4, .int x4), (5, .int x5)]) hx hb dX5_orders_36 hl (k := 6) rfl rfl (by decide) rfl (fun ls hl => ?_)
              refine lv_goto (tgt := 20) hx hb dX5_orders_39 (by decide) ?_
              exact ih _ _ _ _ _ hf hH hS (lv_sub hl [2, 3, 4, 5, 6, 1, 0] rfl)
        exact lp16 wN _ _ _ _ _ hL14 hH hS (lv_sub hl [2, 3, 4, 5, 6, 1, 0] rfl)
  exact lp8 wN _ _ _ _ _ _ _ hL6 hH hS (lv_sub hl [3, 5, 2, 1, 0] rfl)
noncomputable def fX5_sumOf_39  : Nat → wI → Int32 → Int32 → Int32 → Int32 → Int32 → Int32 → Option (wI)
  | 0, _, _, _, _, _, _, _ => none
  | n + 1, iv, x1, x2, x3, x4, x5, x6 => if x1 ≤ x6 then some iv else wGd (vp_in x6 5) (wGd (vp_in (iv 37 x6.toNatClampNeg) 100) (wBd (fX5_grind (iv 19 (iv 37 x6.toNatClampNeg).toNatClampNeg)) (fun (r12 : Int32) => wBd (if x3 < x2 then if x4 < x3 then some x4 else some x3 else if x4 < x2 then if x4 < x3 then some x4 else some x3 else some x2) (fun (z15 : Int32) => wBd (if z15 ≤ (x5 + r12) then some (x5 + r12) else some z15) (fun (z22 : Int32) => wBd (fX5_brew (iv 19 (iv 37 x6.toNatClampNeg).toNatClampNeg)) (fun (r25 : Int32) => wLt (wU iv 38 x6.toNatClampNeg (z22 + r25)) (fun (iv27 : wI) => if z15 = x2 then fX5_sumOf_39 n iv27 x1 (z22 + r25) x3 x4 (x5 + r12) (x6 + 1) else if z15 = x3 then fX5_sumOf_39 n iv27 x1 x2 (z22 + r25) x4 (x5 + r12) (x6 + 1) else fX5_sumOf_39 n iv27 x1 x2 x3 (z22 + r25) (x5 + r12) (x6 + 1))))))))
noncomputable def fX5_sumOf_194  : Nat → wI → Int32 → Int32 → Int32 → Int32 → Int32 → Int32 → Option (Int32)
  | 0, _, _, _, _, _, _, _ => none
  | n + 1, iv, x1, x6, x7, x8, x9, x10 => if x1 ≤ x10 then some x9 else if ((x8 >>> (x10 &&& 31)) &&& 1) = 0 then if x9 = (-1) then fX5_sumOf_194 n iv x1 x6 x7 x8 x10 (x10 + 1) else wGd (vp_in x10 5) (wGd (vp_in x9 5) (if (iv 38 x9.toNatClampNeg) ≤ (iv 38 x10.toNatClampNeg) then fX5_sumOf_194 n iv x1 x6 x7 x8 x9 (x10 + 1) else fX5_sumOf_194 n iv x1 x6 x7 x8 x10 (x10 + 1))) else fX5_sumOf_194 n iv x1 x6 x7 x8 x9 (x10 + 1)
noncomputable def fX5_sumOf_178  : Nat → wI → Int32 → Int32 → Int32 → Int32 → Option (Int32)
  | 0, _, _, _, _, _ => none
  | n + 1, iv, x1, x6, x7, x8 => if ((1 <<< (x1 &&& 31)) - 1) ≤ x8 then some x6 else wBd (fX5_sumOf_194 wN iv x1 x6 x7 x8 (-1) 0) (fun (z49 : Int32) => wGd (vp_in z49 5) (wGd (vp_in (iv 37 z49.toNatClampNeg) 100) (wBd (fX5_steam (iv 19 (iv 37 z49.toNatClampNeg).toNatClampNeg)) (fun (r58 : Int32) => if r58 = 0 then wLt ((x6 + (iv 38 z49.toNatClampNeg))) (fun (y64 : Int32) => fX5_sumOf_178 n iv x1 y64 x7 (x8 ||| (1 <<< (z49 &&& 31)))) else if x7 ≤ (iv 38 z49.toNatClampNeg) then wLt (((iv 38 z49.toNatClampNeg) + r58)) (fun (y62 : Int32) => fX5_sumOf_178 n iv x1 (x6 + y62) y62 (x8 ||| (1 <<< (z49 &&& 31)))) else fX5_sumOf_178 n iv x1 (x6 + (x7 + r58)) (x7 + r58) (x8 ||| (1 <<< (z49 &&& 31)))))))
noncomputable def fX5_sumOf  (iv : wI) (a1 : Int32) : Option (wI × Int32) := wBd (if (iv 1 0) ≤ 1 then some (1000000 : Int32) else some (0 : Int32)) (fun (z2 : Int32) => wBd (if (iv 1 0) ≤ 2 then some (1000000 : Int32) else some (0 : Int32)) (fun (z6 : Int32) => wBd (fX5_sumOf_39 wN iv a1 0 z2 z6 0 0) (fun (iv19 : wI) => wBd (fX5_sumOf_178 wN iv19 a1 0 0 0) (fun (z49 : Int32) => some (iv19, z49)))))
set_option maxHeartbeats 4000000 in
set_option maxRecDepth 100000 in
theorem mtX5_sumOf (l : Launch) (D : va_G) (K : Nat → ClassId) (loc sh ln : Nat → Nat) (iv : wI) (rv : wJ) (sz : Nat) (a1 : Int32) {iv' : wI} {r' : Int32} (hB : wBm sh ln) (hf : fX5_sumOf iv a1 = some (iv', r')) : Met l yX5_sumOf wsX5_sumOf ({ frames := 1, cells := 0, slots := 0, locals := 20 }) (wPc D K loc sh ln iv rv sz [wR loc 1, .int a1]) (wQi D K loc sh ln iv' rv sz r') 0 0 (wA loc sh sz) := by
  refine Met.ofW (cc := cX5_sumOf) (maxL := 11) (ret := (some .int)) (by decide) rfl ?_
  intro p e s m args below meth c s₁ B hml hv
  obtain ⟨rfl, hsz, hH, hKn⟩ := hv
  have hx := B.exec
  have hb := B.bytes
  have hr := B.returns
  have hts := atoms_spec (ws := wsX5_sumOf) B.pre
  have hown : s.vm.findClass RX5 = some m.cls := findClass_of_methodNamed B.named
  have hlocks := B.notSynchronized
  subst hsz
  have hA : ∀ q : Nat, s.heap.size ≤ q → wA loc sh s.heap.size q := fun q h => Or.inr h
  have hO : ∀ a, sh a ≠ 0 → wA loc sh s.heap.size (loc a) := fun a h => Or.inl ⟨a, h, rfl⟩
  have hS : va_S (wA loc sh s.heap.size) s.heap s.heap [] := va_S.rf
  obtain ⟨ls, hen, hl⟩ := wEntry m [wR loc 1, .int a1] 11 (List.forall_mem_cons.mpr ⟨wR_cat _ _, List.forall_mem_cons.mpr ⟨rfl, fun _ h => absurd h List.not_mem_nil⟩⟩) (Nat.le_of_ble_eq_true rfl)
  rw [hen]
  clear hen
  have hl : lv_has ls 11 [(0, wR loc 1), (1, .int a1)] := hl
  have k80 := hts (.fieldLink RX5 80 "CupByCupModel" "groups" "I") (List.mem_of_getElem? (i := 1) rfl)
  have iX5 : ∀ w ∈ wsX50, w ∈ wsX5_sumOf := fun w h => List.mem_cons_of_mem _ (List.mem_append_right _ h)
  have k23 := hts (.fieldLink RX5 23 "CupByCupModel" "what" "[I") (List.mem_of_getElem? (i := 3) rfl)
  have k71 := hts (.fieldLink RX5 71 "CupByCupModel" "row" "[I") (List.mem_of_getElem? (i := 4) rfl)
  have k74 := hts (.fieldLink RX5 74 "CupByCupModel" "brewedAt" "[I") (List.mem_of_getElem? (i := 5) rfl)
  unfold fX5_sumOf at hf
  refine lv_iconst (v := 0) hx hb dX5_sumOf_0 (by decide) ?_
  refine lv_istore_n (lv' := [(2, .int 0), (0, wR loc 1), (1, .int a1)]) hx hb dX5_sumOf_1 rfl hl (by decide) rfl (fun ls hl => ?_)
  refine wald_n hx hb dX5_sumOf_2 rfl (lv_at hl 1 rfl) ?_
  refine wg (C := RX5) (T := TX5) (N := 31) (v := .int (iv 1 0)) hx hb hts iX5 hown hKn.1 hH (q := 1) (hB.1 1 6 (by decide)) (by decide) rfl rfl 0 (by decide) k80 rfl dX5_sumOf_3 ?_
  refine lv_iconst (v := 1) hx hb dX5_sumOf_6 (by decide) ?_
  obtain ⟨z2, hv3, hf⟩ := wBd_e hf
  have hj4 : ∀ (H : Heap) (locs : List Loc) (ls : Array Slot), wH D K loc sh ln iv rv H → va_S (wA loc sh s.heap.size) s.heap H locs → lv_has ls 11 [(0, wR loc 1), (1, .int a1), (2, .int 0)] → W p l e (headSpec wsX5_sumOf ({ frames := 1, cells := 0, slots := 0, locals := 20 })).room s m ([wR loc 1, .int a1] : List Value).toArray below meth c H locs 0 0 (MQ below (wQi D K loc sh ln iv' rv s.heap.size r') ([wR loc 1, .int a1] : List Value).toArray s 0 0 (wA loc sh s.heap.size)) (F0 m 16 ls [.int z2]) := by
    intro H locs ls hH hS hl
    refine lv_istore_n (lv' := [(3, .int z2), (0, wR loc 1), (1, .int a1), (2, .int 0)]) hx hb dX5_sumOf_16 rfl hl (by decide) rfl (fun ls hl => ?_)
    refine wald_n hx hb dX5_sumOf_17 rfl (lv_at hl 1 rfl) ?_
    refine wg (C := RX5) (T := TX5) (N := 31) (v := .int (iv 1 0)) hx hb hts iX5 hown hKn.1 hH (q := 1) (hB.1 1 6 (by decide)) (by decide) rfl rfl 0 (by decide) k80 rfl dX5_sumOf_18 ?_
    refine lv_iconst (v := 2) hx hb dX5_sumOf_21 (by decide) ?_
    obtain ⟨z6, hv7, hf⟩ := wBd_e hf
    have hj8 : ∀ (H : Heap) (locs : List Loc) (ls : Array Slot), wH D K loc sh ln iv rv H → va_S (wA loc sh s.heap.size) s.heap H locs → lv_has ls 11 [(0, wR loc 1), (1, .int a1), (2, .int 0), (3, .int z2)] → W p l e (headSpec wsX5_sumOf ({ frames := 1, cells := 0, slots := 0, locals := 20 })).room s m ([wR loc 1, .int a1] : List Value).toArray below meth c H locs 0 0 (MQ below (wQi D K loc sh ln iv' rv s.heap.size r') ([wR loc 1, .int a1] : List Value).toArray s 0 0 (wA loc sh s.heap.size)) (F0 m 31 ls [.int z6]) := by
      intro H locs ls hH hS hl
      refine lv_istore (lv' := [(4, .int z6), (0, wR loc 1), (1, .int a1), (2, .int 0), (3, .int z2)]) hx hb dX5_sumOf_31 hl (by decide) rfl (fun ls hl => ?_)
      refine lv_iconst (v := 0) hx hb dX5_sumOf_33 (by decide) ?_
      refine lv_istore (lv' := [(5, .int 0), (4, .int z6), (0, wR loc 1), (1, .int a1), (2, .int 0), (3, .int z2)]) hx hb dX5_sumOf_34 hl (by decide) rfl (fun ls hl => ?_)
      refine lv_iconst (v := 0) hx hb dX5_sumOf_36 (by decide) ?_
      refine lv_istore (lv' := [(6, .int 0), (5, .int 0), (4, .int z6), (0, wR loc 1), (1, .int a1), (2, .int 0), (3, .int z2)]) hx hb dX5_sumOf_37 hl (by decide) rfl (fun ls hl => ?_)
      obtain ⟨iv19, hL16, hf⟩ := wBd_e hf
      have hk17 : ∀ (H : Heap) (locs : List Loc) (ls : Array Slot), wH D K loc sh ln iv19 rv H → va_S (wA loc sh s.heap.size) s.heap H locs → lv_has ls 11 [(0, wR loc 1), (1, .int a1)] → W p l e (headSpec wsX5_sumOf ({ frames := 1, cells := 0, slots := 0, locals := 20 })).room s m ([wR loc 1, .int a1] : List Value).toArray below meth c H locs 0 0 (MQ below (wQi D K loc sh ln iv' rv s.heap.size r') ([wR loc 1, .int a1] : List Value).toArray s 0 0 (wA loc sh s.heap.size)) (F0 m 169 ls []) := by
        clear hL16 hl hS hH
        intro H locs ls hH hS hl
        refine lv_iconst (v := 0) hx hb dX5_sumOf_169 (by decide) ?_
        refine lv_istore (lv' := [(6, .int 0), (0, wR loc 1), (1, .int a1)]) hx hb dX5_sumOf_170 hl (by decide) rfl (fun ls hl => ?_)
        refine lv_iconst (v := 0) hx hb dX5_sumOf_172 (by decide) ?_
        refine lv_istore (lv' := [(7, .int 0), (6, .int 0), (0, wR loc 1), (1, .int a1)]) hx hb dX5_sumOf_173 hl (by decide) rfl (fun ls hl => ?_)
        refine lv_iconst (v := 0) hx hb dX5_sumOf_175 (by decide) ?_
        refine lv_istore (lv' := [(8, .int 0), (7, .int 0), (6, .int 0), (0, wR loc 1), (1, .int a1)]) hx hb dX5_sumOf_176 hl (by decide) rfl (fun ls hl => ?_)
        obtain ⟨z49, hL46, hf⟩ := wBd_e hf
        have hk47 : ∀ (H : Heap) (locs : List Loc) (ls : Array Slot), wH D K loc sh ln iv19 rv H → va_S (wA loc sh s.heap.size) s.heap H locs → lv_has ls 11 [(6, .int z49)] → W p l e (headSpec wsX5_sumOf ({ frames := 1, cells := 0, slots := 0, locals := 20 })).room s m ([wR loc 1, .int a1] : List Value).toArray below meth c H locs 0 0 (MQ below (wQi D K loc sh ln iv' rv s.heap.size r') ([wR loc 1, .int a1] : List Value).toArray s 0 0 (wA loc sh s.heap.size)) (F0 m 328 ls []) := by
          clear hL46 hl hS hH
          intro H locs ls hH hS hl
          refine lv_iload hx hb dX5_sumOf_328 (lv_at hl 0 rfl) ?_
          cases hf
          exact W.iret hx hb hr (fun t ht hW => ⟨⟨_, (), rfl, rfl, by show wH _ _ _ _ _ _ _ t.heap; rw [ht]; exact hH⟩, hS.F ht⟩) hS.2.2 dX5_sumOf_330
        have lp48 : ∀ (n42 : Nat) (x43 : Int32) (x44 : Int32) (x45 : Int32) (H : Heap) (locs : List Loc) (ls : Array Slot), fX5_sumOf_178 n42 iv19 a1 x43 x44 x45 = some z49 → wH D K loc sh ln iv19 rv H → va_S (wA loc sh s.heap.size) s.heap H locs → lv_has ls 11 [(0, wR loc 1), (1, .int a1), (6, .int x43), (7, .int x44), (8, .int x45)] → W p l e (headSpec wsX5_sumOf ({ frames := 1, cells := 0, slots := 0, locals := 20 })).room s m ([wR loc 1, .int a1] : List Value).toArray below meth c H locs 0 0 (MQ below (wQi D K loc sh ln iv' rv s.heap.size r') ([wR loc 1, .int a1] : List Value).toArray s 0 0 (wA loc sh s.heap.size)) (F0 m 178 ls []) := by
          clear hf hl hS hH hL46
          intro n42
          induction n42 with
          | zero => intro x43 x44 x45 H locs ls hf; cases hf
          | succ n42 ih =>
            intro x43 x44 x45 H locs ls hf hH hS hl
            rw [fX5_sumOf_178.eq_2] at hf
            refine lv_iload hx hb dX5_sumOf_178 (lv_at hl 4 rfl) ?_
            refine lv_iconst (v := 1) hx hb dX5_sumOf_180 (by decide) ?_
            refine lv_iload_n hx hb dX5_sumOf_181 rfl (lv_at hl 1 rfl) ?_
            refine lv_ishl hx hb dX5_sumOf_182 ?_
            refine lv_iconst (v := 1) hx hb dX5_sumOf_183 (by decide) ?_
            refine lv_isub hx hb dX5_sumOf_184 ?_
            refine lv_icmp_ge (tgt := 328) hx hb dX5_sumOf_185 (by decide) (fun c50 => ?_) (fun c50 => ?_)
            · have hf := wIt c50 hf
              cases hf
              exact hk47 _ _ _ hH hS (lv_sub hl [2] rfl)
            · have hf := wIf c50 hf
              refine lv_iconst (v := (-1)) hx hb dX5_sumOf_188 (by decide) ?_
              refine lv_istore (lv' := [(9, .int (-1)), (0, wR loc 1), (1, .int a1), (6, .int x43), (7, .int x44), (8, .int x45)]) hx hb dX5_sumOf_189 hl (by decide) rfl (fun ls hl => ?_)
              refine lv_iconst (v := 0) hx hb dX5_sumOf_191 (by decide) ?_
              refine lv_istore (lv' := [(10, .int 0), (9, .int (-1)), (0, wR loc 1), (1, .int a1), (6, .int x43), (7, .int x44), (8, .int x45)]) hx hb dX5_sumOf_192 hl (by decide) rfl (fun ls hl => ?_)
              obtain ⟨z57, hL54, hf⟩ := wBd_e hf
              have hk55 : ∀ (H : Heap) (locs : List Loc) (ls : Array Slot), wH D K loc sh ln iv19 rv H → va_S (wA loc sh s.heap.size) s.heap H locs → lv_has ls 11 [(0, wR loc 1), (1, .int a1), (6, .int x43), (7, .int x44), (8, .int x45), (9, .int z57)] → W p l e (headSpec wsX5_sumOf ({ frames := 1, cells := 0, slots := 0, locals := 20 })).room s m ([wR loc 1, .int a1] : List Value).toArray below meth c H locs 0 0 (MQ below (wQi D K loc sh ln iv' rv s.heap.size r') ([wR loc 1, .int a1] : List Value).toArray s 0 0 (wA loc sh s.heap.size)) (F0 m 243 ls []) := by
                clear hL54 hl hS hH
                intro H locs ls hH hS hl
                refine lv_iload hx hb dX5_sumOf_243 (lv_at hl 4 rfl) ?_
                refine lv_iconst (v := 1) hx hb dX5_sumOf_245 (by decide) ?_
                refine lv_iload hx hb dX5_sumOf_246 (lv_at hl 5 rfl) ?_
                refine lv_ishl hx hb dX5_sumOf_248 ?_
                refine lv_ior hx hb dX5_sumOf_249 ?_
                refine lv_istore (lv' := [(8, .int (x45 ||| (1 <<< (z57 &&& 31)))), (0, wR loc 1), (1, .int a1), (6, .int x43), (7, .int x44), (9, .int z57)]) hx hb dX5_sumOf_250 hl (by decide) rfl (fun ls hl => ?_)
                refine wald_n hx hb dX5_sumOf_252 rfl (lv_at hl 1 rfl) ?_
                refine wg (C := RX5) (T := TX5) (N := 31) (v := wR loc 19) hx hb hts iX5 hown hKn.1 hH (q := 1) (hB.1 1 6 (by decide)) (by decide) rfl rfl 9 (by decide) k23 rfl dX5_sumOf_253 ?_
                refine wald_n hx hb dX5_sumOf_256 rfl (lv_at hl 1 rfl) ?_
                refine wg (C := RX5) (T := TX5) (N := 31) (v := wR loc 37) hx hb hts iX5 hown hKn.1 hH (q := 1) (hB.1 1 6 (by decide)) (by decide) rfl rfl 27 (by decide) k71 rfl dX5_sumOf_257 ?_
                refine lv_iload hx hb dX5_sumOf_260 (lv_at hl 5 rfl) ?_
                obtain ⟨g64, hf⟩ := wGd_e hf
                refine wia hx hb hKn.1 hH (hB.1 37 7 (by decide)) (hB.2.1 37 _ (by decide)) g64 dX5_sumOf_262 ?_
                obtain ⟨g65, hf⟩ := wGd_e hf
                refine wia hx hb hKn.1 hH (hB.1 19 7 (by decide)) (hB.2.1 19 _ (by decide)) g65 dX5_sumOf_263 ?_
                obtain ⟨r66, h67, hf⟩ := wBd_e hf
                refine wci (va_runS (As := [.int (iv19 19 (iv19 37 z57.toNatClampNeg).toNatClampNeg)]) (rest := []) ⟨hx, hb, hml, hown, hts⟩ (mtX5_steam l D K loc sh ln iv19 rv _ (iv19 19 (iv19 37 z57.toNatClampNeg).toNatClampNeg) h67) (va_cwS 1 hts gX5_sumOf_X5_steam rfl rfl rfl (by decide +kernel) ⟨Nat.le_of_ble_eq_true rfl, Nat.le_of_ble_eq_true rfl⟩) (wPreS hKn hH) rfl rfl hl.1 rfl (lv_room (Nat.le_of_ble_eq_true rfl)) dX5_sumOf_264 ⟨Nat.zero_le _, Nat.zero_le _⟩) hS hO hA (fun H locs hH hS => ?_)
                refine lv_istore (lv' := [(10, .int r66), (8, .int (x45 ||| (1 <<< (z57 &&& 31)))), (0, wR loc 1), (1, .int a1), (6, .int x43), (7, .int x44), (9, .int z57)]) hx hb dX5_sumOf_267 hl (by decide) rfl (fun ls hl => ?_)
                refine lv_iload hx hb dX5_sumOf_269 (lv_at hl 0 rfl) ?_
                refine lv_if_ne (tgt := 289) hx hb dX5_sumOf_271 (by decide) (fun c68 => ?_) (fun c68 => ?_)
                · have hf := wIf c68 hf
                  refine lv_iload hx hb dX5_sumOf_289 (lv_at hl 5 rfl) ?_
                  refine wald_n hx hb dX5_sumOf_291 rfl (lv_at hl 2 rfl) ?_
                  refine wg (C := RX5) (T := TX5) (N := 31) (v := wR loc 38) hx hb hts iX5 hown hKn.1 hH (q := 1) (hB.1 1 6 (by decide)) (by decide) rfl rfl 28 (by decide) k74 rfl dX5_sumOf_292 ?_
                  refine lv_iload hx hb dX5_sumOf_295 (lv_at hl 6 rfl) ?_
                  refine wia hx hb hKn.1 hH (hB.1 38 7 (by decide)) (hB.2.1 38 _ (by decide)) g64 dX5_sumOf_297 ?_
                  refine lv_icmp_le (tgt := 306) hx hb dX5_sumOf_298 (by decide) (fun c69 => ?_) (fun c69 => ?_)
                  · have hf := wIt c69 hf
                    refine wald_n hx hb dX5_sumOf_306 rfl (lv_at hl 2 rfl) ?_
                    refine wg (C := RX5) (T := TX5) (N := 31) (v := wR loc 38) hx hb hts iX5 hown hKn.1 hH (q := 1) (hB.1 1 6 (by decide)) (by decide) rfl rfl 28 (by decide) k74 rfl dX5_sumOf_307 ?_
                    refine lv_iload hx hb dX5_sumOf_310 (lv_at hl 6 rfl) ?_
                    refine wia hx hb hKn.1 hH (hB.1 38 7 (by decide)) (hB.2.1 38 _ (by decide)) g64 dX5_sumOf_312 ?_
                    refine lv_iload hx hb dX5_sumOf_313 (lv_at hl 0 rfl) ?_
                    refine lv_iadd hx hb dX5_sumOf_315 ?_
                    obtain ⟨y70, e71, hf⟩ := wLt_e hf
                    refine wInt e71 ?_
                    refine lv_istore (lv' := [(7, .int y70), (10, .int r66), (8, .int (x45 ||| (1 <<< (z57 &&& 31)))), (0, wR loc 1), (1, .int a1), (6, .int x43), (9, .int z57)]) hx hb dX5_sumOf_316 hl (by decide) rfl (fun ls hl => ?_)
                    refine lv_iload hx hb dX5_sumOf_318 (lv_at hl 5 rfl) ?_
                    refine lv_iload hx hb dX5_sumOf_320 (lv_at hl 0 rfl) ?_
                    refine lv_iadd hx hb dX5_sumOf_322 ?_
                    refine lv_istore (lv' := [(6, .int (x43 + y70)), (7, .int y70), (10, .int r66), (8, .int (x45 ||| (1 <<< (z57 &&& 31)))), (0, wR loc 1), (1, .int a1), (9, .int z57)]) hx hb dX5_sumOf_323 hl (by decide) rfl (fun ls hl => ?_)
                    refine lv_goto (tgt := 178) hx hb dX5_sumOf_325 (by decide) ?_
                    exact ih _ _ _ _ _ _ hf hH hS (lv_sub hl [4, 5, 0, 1, 3] rfl)
                  · have hf := wIf c69 hf
                    refine lv_iload hx hb dX5_sumOf_301 (lv_at hl 5 rfl) ?_
                    refine lv_goto (tgt := 313) hx hb dX5_sumOf_303 (by decide) ?_
                    refine lv_iload hx hb dX5_sumOf_313 (lv_at hl 0 rfl) ?_
                    refine lv_iadd hx hb dX5_sumOf_315 ?_
                    refine lv_istore (lv' := [(7, .int (x44 + r66)), (10, .int r66), (8, .int (x45 ||| (1 <<< (z57 &&& 31)))), (0, wR loc 1), (1, .int a1), (6, .int x43), (9, .int z57)]) hx hb dX5_sumOf_316 hl (by decide) rfl (fun ls hl => ?_)
                    refine lv_iload hx hb dX5_sumOf_318 (lv_at hl 5 rfl) ?_
                    refine lv_iload hx hb dX5_sumOf_320 (lv_at hl 0 rfl) ?_
                    refine lv_iadd hx hb dX5_sumOf_322 ?_
                    refine lv_istore (lv' := [(6, .int (x43 + (x44 + r66))), (7, .int (x44 + r66)), (10, .int r66), (8, .int (x45 ||| (1 <<< (z57 &&& 31)))), (0, wR loc 1), (1, .int a1), (9, .int z57)]) hx hb dX5_sumOf_323 hl (by decide) rfl (fun ls hl => ?_)
                    refine lv_goto (tgt := 178) hx hb dX5_sumOf_325 (by decide) ?_
                    exact ih _ _ _ _ _ _ hf hH hS (lv_sub hl [4, 5, 0, 1, 3] rfl)
                · have hf := wIt c68 hf
                  refine lv_iload hx hb dX5_sumOf_274 (lv_at hl 4 rfl) ?_
                  refine wald_n hx hb dX5_sumOf_276 rfl (lv_at hl 2 rfl) ?_
                  refine wg (C := RX5) (T := TX5) (N := 31) (v := wR loc 38) hx hb hts iX5 hown hKn.1 hH (q := 1) (hB.1 1 6 (by decide)) (by decide) rfl rfl 28 (by decide) k74 rfl dX5_sumOf_277 ?_
                  refine lv_iload hx hb dX5_sumOf_280 (lv_at hl 6 rfl) ?_
                  refine wia hx hb hKn.1 hH (hB.1 38 7 (by decide)) (hB.2.1 38 _ (by decide)) g64 dX5_sumOf_282 ?_
                  refine lv_iadd hx hb dX5_sumOf_283 ?_
                  obtain ⟨y72, e73, hf⟩ := wLt_e hf
                  refine wInt e73 ?_
                  refine lv_istore (lv' := [(6, .int y72), (10, .int r66), (8, .int (x45 ||| (1 <<< (z57 &&& 31)))), (0, wR loc 1), (1, .int a1), (7, .int x44), (9, .int z57)]) hx hb dX5_sumOf_284 hl (by decide) rfl (fun ls hl => ?_)
                  refine lv_goto (tgt := 178) hx hb dX5_sumOf_286 (by decide) ?_
                  exact ih _ _ _ _ _ _ hf hH hS (lv_sub hl [3, 4, 0, 5, 2] rfl)
              have lp56 : ∀ (n51 : Nat) (x52 : Int32) (x53 : Int32) (H : Heap) (locs : List Loc) (ls : Array Slot), fX5_sumOf_194 n51 iv19 a1 x43 x44 x45 x52 x53 = some z57 → wH D K loc sh ln iv19 rv H → va_S (wA loc sh s.heap.size) s.heap H locs → lv_has ls 11 [(0, wR loc 1), (1, .int a1), (6, .int x43), (7, .int x44), (8, .int x45), (9, .int x52), (10, .int x53)] → W p l e (headSpec wsX5_sumOf ({ frames := 1, cells := 0, slots := 0, locals := 20 })).room s m ([wR loc 1, .int a1] : List Value).toArray below meth c H locs 0 0 (MQ below (wQi D K loc sh ln iv' rv s.heap.size r') ([wR loc 1, .int a1] : List Value).toArray s 0 0 (wA loc sh s.heap.size)) (F0 m 194 ls []) := by
                clear hf hl hS hH hL54
                intro n51
                induction n51 with
                | zero => intro x52 x53 H locs ls hf; cases hf
                | succ n51 ih =>
                  intro x52 x53 H locs ls hf hH hS hl
                  rw [fX5_sumOf_194.eq_2] at hf
                  refine lv_iload hx hb dX5_sumOf_194 (lv_at hl 6 rfl) ?_
                  refine lv_iload_n hx hb dX5_sumOf_196 rfl (lv_at hl 1 rfl) ?_
                  refine lv_icmp_ge (tgt := 243) hx hb dX5_sumOf_197 (by decide) (fun c58 => ?_) (fun c58 => ?_)
                  · have hf := wIt c58 hf
                    cases hf
                    exact hk55 _ _ _ hH hS (lv_sub hl [0, 1, 2, 3, 4, 5] rfl)
                  · have hf := wIf c58 hf
                    refine lv_iload hx hb dX5_sumOf_200 (lv_at hl 4 rfl) ?_
                    refine lv_iload hx hb dX5_sumOf_202 (lv_at hl 6 rfl) ?_
                    refine lv_ishr hx hb dX5_sumOf_204 ?_
                    refine lv_iconst (v := 1) hx hb dX5_sumOf_205 (by decide) ?_
                    refine lv_iand hx hb dX5_sumOf_206 ?_
                    refine lv_if_ne (tgt := 237) hx hb dX5_sumOf_207 (by decide) (fun c59 => ?_) (fun c59 => ?_)
                    · have hf := wIf c59 hf
                      refine lv_iinc (v := (x53 + 1)) (lv' := [(10, .int (x53 + 1)), (0, wR loc 1), (1, .int a1), (6, .int x43), (7, .int x44), (8, .int x45), (9, .int x52)]) hx hb dX5_sumOf_237 hl (k := 6) rfl rfl (by decide) rfl (fun ls hl => ?_)
                      refine lv_goto (tgt := 194) hx hb dX5_sumOf_240 (by decide) ?_
                      exact ih _ _ _ _ _ hf hH hS (lv_sub hl [1, 2, 3, 4, 5, 6, 0] rfl)
                    · have hf := wIt c59 hf
                      refine lv_iload hx hb dX5_sumOf_210 (lv_at hl 5 rfl) ?_
                      refine lv_iconst (v := (-1)) hx hb dX5_sumOf_212 (by decide) ?_
                      refine lv_icmp_eq (tgt := 233) hx hb dX5_sumOf_213 (by decide) (fun c60 => ?_) (fun c60 => ?_)
                      · have hf := wIt c60 hf
                        refine lv_iload hx hb dX5_sumOf_233 (lv_at hl 6 rfl) ?_
                        refine lv_istore (lv' := [(9, .int x53), (0, wR loc 1), (1, .int a1), (6, .int x43), (7, .int x44), (8, .int x45), (10, .int x53)]) hx hb dX5_sumOf_235 hl (by decide) rfl (fun ls hl => ?_)
                        refine lv_iinc (v := (x53 + 1)) (lv' := [(10, .int (x53 + 1)), (9, .int x53), (0, wR loc 1), (1, .int a1), (6, .int x43), (7, .int x44), (8, .int x45)]) hx hb dX5_sumOf_237 hl (k := 6) rfl rfl (by decide) rfl (fun ls hl => ?_)
                        refine lv_goto (tgt := 194) hx hb dX5_sumOf_240 (by decide) ?_
                        exact ih _ _ _ _ _ hf hH hS (lv_sub hl [2, 3, 4, 5, 6, 1, 0] rfl)
                      · have hf := wIf c60 hf
                        refine wald_n hx hb dX5_sumOf_216 rfl (lv_at hl 0 rfl) ?_
                        refine wg (C := RX5) (T := TX5) (N := 31) (v := wR loc 38) hx hb hts iX5 hown hKn.1 hH (q := 1) (hB.1 1 6 (by decide)) (by decide) rfl rfl 28 (by decide) k74 rfl dX5_sumOf_217 ?_
                        refine lv_iload hx hb dX5_sumOf_220 (lv_at hl 6 rfl) ?_
                        obtain ⟨g61, hf⟩ := wGd_e hf
                        refine wia hx hb hKn.1 hH (hB.1 38 7 (by decide)) (hB.2.1 38 _ (by decide)) g61 dX5_sumOf_222 ?_
                        refine wald_n hx hb dX5_sumOf_223 rfl (lv_at hl 0 rfl) ?_
                        refine wg (C := RX5) (T := TX5) (N := 31) (v := wR loc 38) hx hb hts iX5 hown hKn.1 hH (q := 1) (hB.1 1 6 (by decide)) (by decide) rfl rfl 28 (by decide) k74 rfl dX5_sumOf_224 ?_
                        refine lv_iload hx hb dX5_sumOf_227 (lv_at hl 5 rfl) ?_
                        obtain ⟨g62, hf⟩ := wGd_e hf
                        refine wia hx hb hKn.1 hH (hB.1 38 7 (by decide)) (hB.2.1 38 _ (by decide)) g62 dX5_sumOf_229 ?_
                        refine lv_icmp_ge (tgt := 237) hx hb dX5_sumOf_230 (by decide) (fun c63 => ?_) (fun c63 => ?_)
                        · have hf := wIt c63 hf
                          refine lv_iinc (v := (x53 + 1)) (lv' := [(10, .int (x53 + 1)), (0, wR loc 1), (1, .int a1), (6, .int x43), (7, .int x44), (8, .int x45), (9, .int x52)]) hx hb dX5_sumOf_237 hl (k := 6) rfl rfl (by decide) rfl (fun ls hl => ?_)
                          refine lv_goto (tgt := 194) hx hb dX5_sumOf_240 (by decide) ?_
                          exact ih _ _ _ _ _ hf hH hS (lv_sub hl [1, 2, 3, 4, 5, 6, 0] rfl)
                        · have hf := wIf c63 hf
                          refine lv_iload hx hb dX5_sumOf_233 (lv_at hl 6 rfl) ?_
                          refine lv_istore (lv' := [(9, .int x53), (0, wR loc 1), (1, .int a1), (6, .int x43), (7, .int x44), (8, .int x45), (10, .int x53)]) hx hb dX5_sumOf_235 hl (by decide) rfl (fun ls hl => ?_)
                          refine lv_iinc (v := (x53 + 1)) (lv' := [(10, .int (x53 + 1)), (9, .int x53), (0, wR loc 1), (1, .int a1), (6, .int x43), (7, .int x44), (8, .int x45)]) hx hb dX5_sumOf_237 hl (k := 6) rfl rfl (by decide) rfl (fun ls hl => ?_)
                          refine lv_goto (tgt := 194) hx hb dX5_sumOf_240 (by decide) ?_
                          exact ih _ _ _ _ _ hf hH hS (lv_sub hl [2, 3, 4, 5, 6, 1, 0] rfl)
              exact lp56 wN _ _ _ _ _ hL54 hH hS (lv_sub hl [2, 3, 4, 5, 6, 1, 0] rfl)
        exact lp48 wN _ _ _ _ _ _ hL46 hH hS (lv_sub hl [3, 4, 2, 1, 0] rfl)
      have lp18 : ∀ (n9 : Nat) (iv10 : wI) (x11 : Int32) (x12 : Int32) (x13 : Int32) (x14 : Int32) (x15 : Int32) (H : Heap) (locs : List Loc) (ls : Array Slot), fX5_sumOf_39 n9 iv10 a1 x11 x12 x13 x14 x15 = some iv19 → wH D K loc sh ln iv10 rv H → va_S (wA loc sh s.heap.size) s.heap H locs → lv_has ls 11 [(0, wR loc 1), (1, .int a1), (2, .int x11), (3, .int x12), (4, .int x13), (5, .int x14), (6, .int x15)] → W p l e (headSpec wsX5_sumOf ({ frames := 1, cells := 0, slots := 0, locals := 20 })).room s m ([wR loc 1, .int a1] : List Value).toArray below meth c H locs 0 0 (MQ below (wQi D K loc sh ln iv' rv s.heap.size r') ([wR loc 1, .int a1] : List Value).toArray s 0 0 (wA loc sh s.heap.size)) (F0 m 39 ls []) := by
        clear hf hl hS hH hL16
        intro n9
        induction n9 with
        | zero => intro iv10 x11 x12 x13 x14 x15 H locs ls hf; cases hf
        | succ n9 ih =>
          intro iv10 x11 x12 x13 x14 x15 H locs ls hf hH hS hl
          rw [fX5_sumOf_39.eq_2] at hf
          refine lv_iload hx hb dX5_sumOf_39 (lv_at hl 6 rfl) ?_
          refine lv_iload_n hx hb dX5_sumOf_41 rfl (lv_at hl 1 rfl) ?_
          refine lv_icmp_ge (tgt := 169) hx hb dX5_sumOf_42 (by decide) (fun c20 => ?_) (fun c20 => ?_)
          · have hf := wIt c20 hf
            cases hf
            exact hk17 _ _ _ hH hS (lv_sub hl [0, 1] rfl)
          · have hf := wIf c20 hf
            refine lv_iload hx hb dX5_sumOf_45 (lv_at hl 5 rfl) ?_
            refine wald_n hx hb dX5_sumOf_47 rfl (lv_at hl 0 rfl) ?_
            refine wg (C := RX5) (T := TX5) (N := 31) (v := wR loc 19) hx hb hts iX5 hown hKn.1 hH (q := 1) (hB.1 1 6 (by decide)) (by decide) rfl rfl 9 (by decide) k23 rfl dX5_sumOf_48 ?_
            refine wald_n hx hb dX5_sumOf_51 rfl (lv_at hl 0 rfl) ?_
            refine wg (C := RX5) (T := TX5) (N := 31) (v := wR loc 37) hx hb hts iX5 hown hKn.1 hH (q := 1) (hB.1 1 6 (by decide)) (by decide) rfl rfl 27 (by decide) k71 rfl dX5_sumOf_52 ?_
            refine lv_iload hx hb dX5_sumOf_55 (lv_at hl 6 rfl) ?_
            obtain ⟨g21, hf⟩ := wGd_e hf
            refine wia hx hb hKn.1 hH (hB.1 37 7 (by decide)) (hB.2.1 37 _ (by decide)) g21 dX5_sumOf_57 ?_
            obtain ⟨g22, hf⟩ := wGd_e hf
            refine wia hx hb hKn.1 hH (hB.1 19 7 (by decide)) (hB.2.1 19 _ (by decide)) g22 dX5_sumOf_58 ?_
            obtain ⟨r23, h24, hf⟩ := wBd_e hf
            refine wci (va_runS (As := [.int (iv10 19 (iv10 37 x15.toNatClampNeg).toNatClampNeg)]) (rest := [.int x14]) ⟨hx, hb, hml, hown, hts⟩ (mtX5_grind l D K loc sh ln iv10 rv _ (iv10 19 (iv10 37 x15.toNatClampNeg).toNatClampNeg) h24) (va_cwS 1 hts gX5_sumOf_X5_grind rfl rfl rfl (by decide +kernel) ⟨Nat.le_of_ble_eq_true rfl, Nat.le_of_ble_eq_true rfl⟩) (wPreS hKn hH) rfl rfl hl.1 rfl (lv_room (Nat.le_of_ble_eq_true rfl)) dX5_sumOf_59 ⟨Nat.zero_le _, Nat.zero_le _⟩) hS hO hA (fun H locs hH hS => ?_)
            refine lv_iadd hx hb dX5_sumOf_62 ?_
            refine lv_istore (lv' := [(5, .int (x14 + r23)), (0, wR loc 1), (1, .int a1), (2, .int x11), (3, .int x12), (4, .int x13), (6, .int x15)]) hx hb dX5_sumOf_63 hl (by decide) rfl (fun ls hl => ?_)
            refine lv_iload_n hx hb dX5_sumOf_65 rfl (lv_at hl 3 rfl) ?_
            refine lv_iload_n hx hb dX5_sumOf_66 rfl (lv_at hl 4 rfl) ?_
            obtain ⟨z26, hv27, hf⟩ := wBd_e hf
            have hj28 : ∀ (H : Heap) (locs : List Loc) (ls : Array Slot), wH D K loc sh ln iv10 rv H → va_S (wA loc sh s.heap.size) s.heap H locs → lv_has ls 11 [(0, wR loc 1), (1, .int a1), (2, .int x11), (3, .int x12), (4, .int x13), (5, .int (x14 + r23)), (6, .int x15)] → W p l e (headSpec wsX5_sumOf ({ frames := 1, cells := 0, slots := 0, locals := 20 })).room s m ([wR loc 1, .int a1] : List Value).toArray below meth c H locs 0 0 (MQ below (wQi D K loc sh ln iv' rv s.heap.size r') ([wR loc 1, .int a1] : List Value).toArray s 0 0 (wA loc sh s.heap.size)) (F0 m 92 ls [.int z26]) := by
              intro H locs ls hH hS hl
              refine lv_istore (lv' := [(7, .int z26), (0, wR loc 1), (1, .int a1), (2, .int x11), (3, .int x12), (4, .int x13), (5, .int (x14 + r23)), (6, .int x15)]) hx hb dX5_sumOf_92 hl (by decide) rfl (fun ls hl => ?_)
              refine lv_iload hx hb dX5_sumOf_94 (lv_at hl 0 rfl) ?_
              refine lv_iload hx hb dX5_sumOf_96 (lv_at hl 6 rfl) ?_
              obtain ⟨z33, hv34, hf⟩ := wBd_e hf
              have hj35 : ∀ (H : Heap) (locs : List Loc) (ls : Array Slot), wH D K loc sh ln iv10 rv H → va_S (wA loc sh s.heap.size) s.heap H locs → lv_has ls 11 [(0, wR loc 1), (1, .int a1), (2, .int x11), (3, .int x12), (4, .int x13), (5, .int (x14 + r23)), (6, .int x15), (7, .int z26)] → W p l e (headSpec wsX5_sumOf ({ frames := 1, cells := 0, slots := 0, locals := 20 })).room s m ([wR loc 1, .int a1] : List Value).toArray below meth c H locs 0 0 (MQ below (wQi D K loc sh ln iv' rv s.heap.size r') ([wR loc 1, .int a1] : List Value).toArray s 0 0 (wA loc sh s.heap.size)) (F0 m 108 ls [.int z33]) := by
                intro H locs ls hH hS hl
                refine wald_n hx hb dX5_sumOf_108 rfl (lv_at hl 0 rfl) ?_
                refine wg (C := RX5) (T := TX5) (N := 31) (v := wR loc 19) hx hb hts iX5 hown hKn.1 hH (q := 1) (hB.1 1 6 (by decide)) (by decide) rfl rfl 9 (by decide) k23 rfl dX5_sumOf_109 ?_
                refine wald_n hx hb dX5_sumOf_112 rfl (lv_at hl 0 rfl) ?_
                refine wg (C := RX5) (T := TX5) (N := 31) (v := wR loc 37) hx hb hts iX5 hown hKn.1 hH (q := 1) (hB.1 1 6 (by decide)) (by decide) rfl rfl 27 (by decide) k71 rfl dX5_sumOf_113 ?_
                refine lv_iload hx hb dX5_sumOf_116 (lv_at hl 6 rfl) ?_
                refine wia hx hb hKn.1 hH (hB.1 37 7 (by decide)) (hB.2.1 37 _ (by decide)) g21 dX5_sumOf_118 ?_
                refine wia hx hb hKn.1 hH (hB.1 19 7 (by decide)) (hB.2.1 19 _ (by decide)) g22 dX5_sumOf_119 ?_
                obtain ⟨r36, h37, hf⟩ := wBd_e hf
                refine wci (va_runS (As := [.int (iv10 19 (iv10 37 x15.toNatClampNeg).toNatClampNeg)]) (rest := [.int z33]) ⟨hx, hb, hml, hown, hts⟩ (mtX5_brew l D K loc sh ln iv10 rv _ (iv10 19 (iv10 37 x15.toNatClampNeg).toNatClampNeg) h37) (va_cwS 1 hts gX5_sumOf_X5_brew rfl rfl rfl (by decide +kernel) ⟨Nat.le_of_ble_eq_true rfl, Nat.le_of_ble_eq_true rfl⟩) (wPreS hKn hH) rfl rfl hl.1 rfl (lv_room (Nat.le_of_ble_eq_true rfl)) dX5_sumOf_120 ⟨Nat.zero_le _, Nat.zero_le _⟩) hS hO hA (fun H locs hH hS => ?_)
                refine lv_iadd hx hb dX5_sumOf_123 ?_
                refine lv_istore (lv' := [(8, .int (z33 + r36)), (0, wR loc 1), (1, .int a1), (2, .int x11), (3, .int x12), (4, .int x13), (5, .int (x14 + r23)), (6, .int x15), (7, .int z26)]) hx hb dX5_sumOf_124 hl (by decide) rfl (fun ls hl => ?_)
                refine wald_n hx hb dX5_sumOf_126 rfl (lv_at hl 1 rfl) ?_
                refine wg (C := RX5) (T := TX5) (N := 31) (v := wR loc 38) hx hb hts iX5 hown hKn.1 hH (q := 1) (hB.1 1 6 (by decide)) (by decide) rfl rfl 28 (by decide) k74 rfl dX5_sumOf_127 ?_
                refine lv_iload hx hb dX5_sumOf_130 (lv_at hl 7 rfl) ?_
                refine lv_iload hx hb dX5_sumOf_132 (lv_at hl 0 rfl) ?_
                obtain ⟨iv38, e39, hf⟩ := wLt_e hf
                refine wis hx hb hKn.1 hH hO hS (hB.1 38 7 (by decide)) (hB.2.1 38 _ (by decide)) g21 dX5_sumOf_134 (fun H locs hH hS => ?_)
                rw [← e39] at hH
                refine lv_iload hx hb dX5_sumOf_135 (lv_at hl 8 rfl) ?_
                refine lv_iload_n hx hb dX5_sumOf_137 rfl (lv_at hl 3 rfl) ?_
                refine lv_icmp_ne (tgt := 147) hx hb dX5_sumOf_138 (by decide) (fun c40 => ?_) (fun c40 => ?_)
                · have hf := wIf c40 hf
                  refine lv_iload hx hb dX5_sumOf_147 (lv_at hl 8 rfl) ?_
                  refine lv_iload_n hx hb dX5_sumOf_149 rfl (lv_at hl 4 rfl) ?_
                  refine lv_icmp_ne (tgt := 159) hx hb dX5_sumOf_150 (by decide) (fun c41 => ?_) (fun c41 => ?_)
                  · have hf := wIf c41 hf
                    refine lv_iload hx hb dX5_sumOf_159 (lv_at hl 0 rfl) ?_
                    refine lv_istore (lv' := [(4, .int (z33 + r36)), (8, .int (z33 + r36)), (0, wR loc 1), (1, .int a1), (2, .int x11), (3, .int x12), (5, .int (x14 + r23)), (6, .int x15), (7, .int z26)]) hx hb dX5_sumOf_161 hl (by decide) rfl (fun ls hl => ?_)
                    refine lv_iinc (v := (x15 + 1)) (lv' := [(6, .int (x15 + 1)), (4, .int (z33 + r36)), (8, .int (z33 + r36)), (0, wR loc 1), (1, .int a1), (2, .int x11), (3, .int x12), (5, .int (x14 + r23)), (7, .int z26)]) hx hb dX5_sumOf_163 hl (k := 7) rfl rfl (by decide) rfl (fun ls hl => ?_)
                    refine lv_goto (tgt := 39) hx hb dX5_sumOf_166 (by decide) ?_
                    exact ih _ _ _ _ _ _ _ _ _ hf hH hS (lv_sub hl [3, 4, 5, 6, 1, 7, 0] rfl)
                  · have hf := wIt c41 hf
                    refine lv_iload hx hb dX5_sumOf_153 (lv_at hl 0 rfl) ?_
                    refine lv_istore_n (lv' := [(3, .int (z33 + r36)), (8, .int (z33 + r36)), (0, wR loc 1), (1, .int a1), (2, .int x11), (4, .int x13), (5, .int (x14 + r23)), (6, .int x15), (7, .int z26)]) hx hb dX5_sumOf_155 rfl hl (by decide) rfl (fun ls hl => ?_)
                    refine lv_goto (tgt := 163) hx hb dX5_sumOf_156 (by decide) ?_
                    refine lv_iinc (v := (x15 + 1)) (lv' := [(6, .int (x15 + 1)), (3, .int (z33 + r36)), (8, .int (z33 + r36)), (0, wR loc 1), (1, .int a1), (2, .int x11), (4, .int x13), (5, .int (x14 + r23)), (7, .int z26)]) hx hb dX5_sumOf_163 hl (k := 7) rfl rfl (by decide) rfl (fun ls hl => ?_)
                    refine lv_goto (tgt := 39) hx hb dX5_sumOf_166 (by decide) ?_
                    exact ih _ _ _ _ _ _ _ _ _ hf hH hS (lv_sub hl [3, 4, 5, 1, 6, 7, 0] rfl)
                · have hf := wIt c40 hf
                  refine lv_iload hx hb dX5_sumOf_141 (lv_at hl 0 rfl) ?_
                  refine lv_istore_n (lv' := [(2, .int (z33 + r36)), (8, .int (z33 + r36)), (0, wR loc 1), (1, .int a1), (3, .int x12), (4, .int x13), (5, .int (x14 + r23)), (6, .int x15), (7, .int z26)]) hx hb dX5_sumOf_143 rfl hl (by decide) rfl (fun ls hl => ?_)
                  refine lv_goto (tgt := 163) hx hb dX5_sumOf_144 (by decide) ?_
                  refine lv_iinc (v := (x15 + 1)) (lv' := [(6, .int (x15 + 1)), (2, .int (z33 + r36)), (8, .int (z33 + r36)), (0, wR loc 1), (1, .int a1), (3, .int x12), (4, .int x13), (5, .int (x14 + r23)), (7, .int z26)]) hx hb dX5_sumOf_163 hl (k := 7) rfl rfl (by decide) rfl (fun ls hl => ?_)
                  refine lv_goto (tgt := 39) hx hb dX5_sumOf_166 (by decide) ?_
                  exact ih _ _ _ _ _ _ _ _ _ hf hH hS (lv_sub hl [3, 4, 1, 5, 6, 7, 0] rfl)
              clear hf
              have hf := hv34
              clear hv34
              refine lv_icmp_le (tgt := 106) hx hb dX5_sumOf_98 (by decide) (fun c32 => ?_) (fun c32 => ?_)
              · have hf := wIt c32 hf
                refine lv_iload hx hb dX5_sumOf_106 (lv_at hl 6 rfl) ?_
                cases hf
                exact hj35 _ _ _ hH hS (lv_sub hl [1, 2, 3, 4, 5, 6, 7, 0] rfl)
              · have hf := wIf c32 hf
                refine lv_iload hx hb dX5_sumOf_101 (lv_at hl 0 rfl) ?_
                refine lv_goto (tgt := 108) hx hb dX5_sumOf_103 (by decide) ?_
                cases hf
                exact hj35 _ _ _ hH hS (lv_sub hl [1, 2, 3, 4, 5, 6, 7, 0] rfl)
            clear hf
            have hf := hv27
            clear hv27
            refine lv_icmp_gt (tgt := 80) hx hb dX5_sumOf_67 (by decide) (fun c25 => ?_) (fun c25 => ?_)
            · have hf := wIt c25 hf
              refine lv_iload_n hx hb dX5_sumOf_80 rfl (lv_at hl 4 rfl) ?_
              refine lv_iload hx hb dX5_sumOf_81 (lv_at hl 5 rfl) ?_
              refine lv_icmp_gt (tgt := 90) hx hb dX5_sumOf_83 (by decide) (fun c29 => ?_) (fun c29 => ?_)
              · have hf := wIt c29 hf
                refine lv_iload hx hb dX5_sumOf_90 (lv_at hl 5 rfl) ?_
                cases hf
                exact hj28 _ _ _ hH hS (lv_sub hl [1, 2, 3, 4, 5, 0, 6] rfl)
              · have hf := wIf c29 hf
                refine lv_iload_n hx hb dX5_sumOf_86 rfl (lv_at hl 4 rfl) ?_
                refine lv_goto (tgt := 92) hx hb dX5_sumOf_87 (by decide) ?_
                cases hf
                exact hj28 _ _ _ hH hS (lv_sub hl [1, 2, 3, 4, 5, 0, 6] rfl)
            · have hf := wIf c25 hf
              refine lv_iload_n hx hb dX5_sumOf_70 rfl (lv_at hl 3 rfl) ?_
              refine lv_iload hx hb dX5_sumOf_71 (lv_at hl 5 rfl) ?_
              refine lv_icmp_gt (tgt := 80) hx hb dX5_sumOf_73 (by decide) (fun c30 => ?_) (fun c30 => ?_)
              · have hf := wIt c30 hf
                refine lv_iload_n hx hb dX5_sumOf_80 rfl (lv_at hl 4 rfl) ?_
                refine lv_iload hx hb dX5_sumOf_81 (lv_at hl 5 rfl) ?_
                refine lv_icmp_gt (tgt := 90) hx hb dX5_sumOf_83 (by decide) (fun c31 => ?_) (fun c31 => ?_)
                · have hf := wIt c31 hf
                  refine lv_iload hx hb dX5_sumOf_90 (lv_at hl 5 rfl) ?_
                  cases hf
                  exact hj28 _ _ _ hH hS (lv_sub hl [1, 2, 3, 4, 5, 0, 6] rfl)
                · have hf := wIf c31 hf
                  refine lv_iload_n hx hb dX5_sumOf_86 rfl (lv_at hl 4 rfl) ?_
                  refine lv_goto (tgt := 92) hx hb dX5_sumOf_87 (by decide) ?_
                  cases hf
                  exact hj28 _ _ _ hH hS (lv_sub hl [1, 2, 3, 4, 5, 0, 6] rfl)
              · have hf := wIf c30 hf
                refine lv_iload_n hx hb dX5_sumOf_76 rfl (lv_at hl 3 rfl) ?_
                refine lv_goto (tgt := 92) hx hb dX5_sumOf_77 (by decide) ?_
                cases hf
                exact hj28 _ _ _ hH hS (lv_sub hl [1, 2, 3, 4, 5, 0, 6] rfl)
      exact lp18 wN _ _ _ _ _ _ _ _ _ hL16 hH hS (lv_sub hl [3, 4, 5, 6, 2, 1, 0] rfl)
    clear hf
    have hf := hv7
    clear hv7
    refine lv_icmp_le (tgt := 29) hx hb dX5_sumOf_22 (by decide) (fun c5 => ?_) (fun c5 => ?_)
    · have hf := wIt c5 hf
      refine lv_ldc (v := 1000000) hx hb hown (hts (.constant RX5 86 (1000000)) (List.mem_of_getElem? (i := 2) rfl)) dX5_sumOf_29 ?_
      cases hf
      exact hj8 _ _ _ hH hS (lv_sub hl [1, 2, 3, 0] rfl)
    · have hf := wIf c5 hf
      refine lv_iconst (v := 0) hx hb dX5_sumOf_25 (by decide) ?_
      refine lv_goto (tgt := 31) hx hb dX5_sumOf_26 (by decide) ?_
      cases hf
      exact hj8 _ _ _ hH hS (lv_sub hl [1, 2, 3, 0] rfl)
  clear hf
  have hf := hv3
  clear hv3
  refine lv_icmp_le (tgt := 14) hx hb dX5_sumOf_7 (by decide) (fun c1 => ?_) (fun c1 => ?_)
  · have hf := wIt c1 hf
    refine lv_ldc (v := 1000000) hx hb hown (hts (.constant RX5 86 (1000000)) (List.mem_of_getElem? (i := 2) rfl)) dX5_sumOf_14 ?_
    cases hf
    exact hj4 _ _ _ hH hS (lv_sub hl [1, 2, 0] rfl)
  · have hf := wIf c1 hf
    refine lv_iconst (v := 0) hx hb dX5_sumOf_10 (by decide) ?_
    refine lv_goto (tgt := 16) hx hb dX5_sumOf_11 (by decide) ?_
    cases hf
    exact hj4 _ _ _ hH hS (lv_sub hl [1, 2, 0] rfl)
noncomputable def fX5_plans_51  : Nat → wI → Int32 → Int32 → Int32 → Option (Int32)
  | 0, _, _, _, _ => none
  | n + 1, iv, x1, x2, x3 => if x1 < x3 then some x2 else fX5_plans_51 n iv x1 (x2 * x3) (x3 + 1)
noncomputable def fX5_plans_124  : Nat → wI → Int32 → Int32 → Int32 → Int32 → Option (wI)
  | 0, _, _, _, _, _ => none
  | n + 1, iv, x1, x2, x3, x5 => if x1 ≤ x5 then some iv else wGd (vp_in x5 5) (wLt (wU iv 39 x5.toNatClampNeg (iv 37 x5.toNatClampNeg)) (fun (iv24 : wI) => fX5_plans_124 n iv24 x1 x2 x3 (x5 + 1)))
noncomputable def fX5_plans_73  : Nat → wI → Int32 → Int32 → Int32 → Option (wI)
  | 0, _, _, _, _ => none
  | n + 1, iv, x1, x2, x3 => if x2 ≤ x3 then some iv else if x1 ≤ 0 then some iv else wBd (fX5_orders iv x3 x1) (fun (iv14 : wI) => wB2 (fX5_sumOf iv14 x1) (fun (iv16 : wI) (r17 : Int32) => if (iv16 1 30) = (-1) then wLt (wU iv16 1 30 r17) (fun (iv20 : wI) => wBd (fX5_plans_124 wN iv20 x1 x2 x3 0) (fun (iv28 : wI) => fX5_plans_73 n iv28 x1 x2 (x3 + 1))) else if r17 < (iv16 1 30) then wLt (wU iv16 1 30 r17) (fun (iv34 : wI) => wBd (fX5_plans_124 wN iv34 x1 x2 x3 0) (fun (iv42 : wI) => fX5_plans_73 n iv42 x1 x2 (x3 + 1))) else fX5_plans_73 n iv16 x1 x2 (x3 + 1)))
noncomputable def fX5_plans_4  : Nat → wI → Int32 → Int32 → Option (wI × Int32)
  | 0, _, _, _ => none
  | n + 1, iv, x1, x2 => if (iv 1 8) ≤ x2 then wBd (fX5_plans_51 wN iv x1 1 2) (fun (z8 : Int32) => wLt (wU iv 1 30 (-1)) (fun (iv10 : wI) => wBd (fX5_plans_73 wN iv10 x1 z8 0) (fun (iv18 : wI) => if x1 = 0 then some (iv18, ((-1) : Int32)) else some (iv18, x1)))) else wGd (vp_in x2 100) (if (iv 24 x2.toNatClampNeg) = 0 then if x1 = 5 then some (iv, ((-1) : Int32)) else wGd (vp_in x1 5) (wLt (wU iv 36 x1.toNatClampNeg x2) (fun (iv59 : wI) => fX5_plans_4 n iv59 (x1 + 1) (x2 + 1))) else fX5_plans_4 n iv x1 (x2 + 1))
noncomputable def fX5_plans  (iv : wI) : Option (wI × Int32) := fX5_plans_4 wN iv 0 0
set_option maxHeartbeats 4000000 in
set_option maxRecDepth 100000 in
theorem mtX5_plans (l : Launch) (D : va_G) (K : Nat → ClassId) (loc sh ln : Nat → Nat) (iv : wI) (rv : wJ) (sz : Nat) {iv' : wI} {r' : Int32} (hB : wBm sh ln) (hf : fX5_plans iv = some (iv', r')) : Met l yX5_plans wsX5_plans ({ frames := 2, cells := 0, slots := 0, locals := 50 }) (wPc D K loc sh ln iv rv sz [wR loc 1]) (wQi D K loc sh ln iv' rv sz r') 0 0 (wA loc sh sz) := by
  refine Met.ofW (cc := cX5_plans) (maxL := 6) (ret := (some .int)) (by decide) rfl ?_
  intro p e s m args below meth c s₁ B hml hv
  obtain ⟨rfl, hsz, hH, hKn⟩ := hv
  have hx := B.exec
  have hb := B.bytes
  have hr := B.returns
  have hts := atoms_spec (ws := wsX5_plans) B.pre
  have hown : s.vm.findClass RX5 = some m.cls := findClass_of_methodNamed B.named
  have hlocks := B.notSynchronized
  subst hsz
  have hA : ∀ q : Nat, s.heap.size ≤ q → wA loc sh s.heap.size q := fun q h => Or.inr h
  have hO : ∀ a, sh a ≠ 0 → wA loc sh s.heap.size (loc a) := fun a h => Or.inl ⟨a, h, rfl⟩
  have hS : va_S (wA loc sh s.heap.size) s.heap s.heap [] := va_S.rf
  obtain ⟨ls, hen, hl⟩ := wEntry m [wR loc 1] 6 (List.forall_mem_cons.mpr ⟨wR_cat _ _, fun _ h => absurd h List.not_mem_nil⟩) (Nat.le_of_ble_eq_true rfl)
  rw [hen]
  clear hen
  have hl : lv_has ls 6 [(0, wR loc 1)] := hl
  have k112 := hts (.fieldLink RX5 112 "CupByCupModel" "cups" "I") (List.mem_of_getElem? (i := 1) rfl)
  have iX5 : ∀ w ∈ wsX50, w ∈ wsX5_plans := fun w h => List.mem_cons_of_mem _ (List.mem_append_right _ h)
  have k170 := hts (.fieldLink RX5 170 "CupByCupModel" "bestSum" "I") (List.mem_of_getElem? (i := 4) rfl)
  have k77 := hts (.fieldLink RX5 77 "CupByCupModel" "best" "[I") (List.mem_of_getElem? (i := 5) rfl)
  have k71 := hts (.fieldLink RX5 71 "CupByCupModel" "row" "[I") (List.mem_of_getElem? (i := 6) rfl)
  have k38 := hts (.fieldLink RX5 38 "CupByCupModel" "state" "[I") (List.mem_of_getElem? (i := 2) rfl)
  have k68 := hts (.fieldLink RX5 68 "CupByCupModel" "waiting" "[I") (List.mem_of_getElem? (i := 3) rfl)
  unfold fX5_plans at hf
  refine lv_iconst (v := 0) hx hb dX5_plans_0 (by decide) ?_
  refine lv_istore_n (lv' := [(1, .int 0), (0, wR loc 1)]) hx hb dX5_plans_1 rfl hl (by decide) rfl (fun ls hl => ?_)
  refine lv_iconst (v := 0) hx hb dX5_plans_2 (by decide) ?_
  refine lv_istore_n (lv' := [(2, .int 0), (1, .int 0), (0, wR loc 1)]) hx hb dX5_plans_3 rfl hl (by decide) rfl (fun ls hl => ?_)
  have lp7 : ∀ (n1 : Nat) (iv2 : wI) (x3 : Int32) (x4 : Int32) (H : Heap) (locs : List Loc) (ls : Array Slot), fX5_plans_4 n1 iv2 x3 x4 = some (iv', r') → wH D K loc sh ln iv2 rv H → va_S (wA loc sh s.heap.size) s.heap H locs → lv_has ls 6 [(0, wR loc 1), (1, .int x3), (2, .int x4)] → W p l e (headSpec wsX5_plans ({ frames := 2, cells := 0, slots := 0, locals := 50 })).room s m ([wR loc 1] : List Value).toArray below meth c H locs 0 0 (MQ below (wQi D K loc sh ln iv' rv s.heap.size r') ([wR loc 1] : List Value).toArray s 0 0 (wA loc sh s.heap.size)) (F0 m 4 ls []) := by
    clear hf hl hS hH
    intro n1
    induction n1 with
    | zero => intro iv2 x3 x4 H locs ls hf; cases hf
    | succ n1 ih =>
      intro iv2 x3 x4 H locs ls hf hH hS hl
      rw [fX5_plans_4.eq_2] at hf
      refine lv_iload_n hx hb dX5_plans_4 rfl (lv_at hl 2 rfl) ?_
      refine wald_n hx hb dX5_plans_5 rfl (lv_at hl 0 rfl) ?_
      refine wg (C := RX5) (T := TX5) (N := 31) (v := .int (iv2 1 8)) hx hb hts iX5 hown hKn.1 hH (q := 1) (hB.1 1 6 (by decide)) (by decide) rfl rfl 8 (by decide) k112 rfl dX5_plans_6 ?_
      refine lv_icmp_ge (tgt := 47) hx hb dX5_plans_9 (by decide) (fun c8 => ?_) (fun c8 => ?_)
      · have hf := wIt c8 hf
        refine lv_iconst (v := 1) hx hb dX5_plans_47 (by decide) ?_
        refine lv_istore_n (lv' := [(2, .int 1), (0, wR loc 1), (1, .int x3)]) hx hb dX5_plans_48 rfl hl (by decide) rfl (fun ls hl => ?_)
        refine lv_iconst (v := 2) hx hb dX5_plans_49 (by decide) ?_
        refine lv_istore_n (lv' := [(3, .int 2), (2, .int 1), (0, wR loc 1), (1, .int x3)]) hx hb dX5_plans_50 rfl hl (by decide) rfl (fun ls hl => ?_)
        obtain ⟨z15, hL12, hf⟩ := wBd_e hf
        have hk13 : ∀ (H : Heap) (locs : List Loc) (ls : Array Slot), wH D K loc sh ln iv2 rv H → va_S (wA loc sh s.heap.size) s.heap H locs → lv_has ls 6 [(0, wR loc 1), (1, .int x3), (2, .int z15)] → W p l e (headSpec wsX5_plans ({ frames := 2, cells := 0, slots := 0, locals := 50 })).room s m ([wR loc 1] : List Value).toArray below meth c H locs 0 0 (MQ below (wQi D K loc sh ln iv' rv s.heap.size r') ([wR loc 1] : List Value).toArray s 0 0 (wA loc sh s.heap.size)) (F0 m 66 ls []) := by
          clear hL12 hl hS hH
          intro H locs ls hH hS hl
          refine wald_n hx hb dX5_plans_66 rfl (lv_at hl 0 rfl) ?_
          refine lv_iconst (v := (-1)) hx hb dX5_plans_67 (by decide) ?_
          obtain ⟨iv17, e18, hf⟩ := wLt_e hf
          refine wp (C := RX5) (T := TX5) (N := 31) (v := .int (-1)) (ty := tyX5 30) (iv' := iv17) (rv' := rv) hx hb hts iX5 tyX5 tyX5_ok nmX5 hown hKn.1 hH hO hS (q := 1) (hB.1 1 6 (by decide)) (by decide) rfl rfl 30 (by decide) k170 rfl (tyX5_ok 30 (by decide)) rfl rfl (Nat.le_of_ble_eq_true rfl) (by rw [e18, wU_self]; rfl) (fun a ha => by rw [e18]; exact wU_ne a ha) (fun _ _ => rfl) dX5_plans_68 (fun H locs hH hS => ?_)
          refine lv_iconst (v := 0) hx hb dX5_plans_71 (by decide) ?_
          refine lv_istore_n (lv' := [(3, .int 0), (0, wR loc 1), (1, .int x3), (2, .int z15)]) hx hb dX5_plans_72 rfl hl (by decide) rfl (fun ls hl => ?_)
          obtain ⟨iv25, hL22, hf⟩ := wBd_e hf
          have hk23 : ∀ (H : Heap) (locs : List Loc) (ls : Array Slot), wH D K loc sh ln iv25 rv H → va_S (wA loc sh s.heap.size) s.heap H locs → lv_has ls 6 [(1, .int x3)] → W p l e (headSpec wsX5_plans ({ frames := 2, cells := 0, slots := 0, locals := 50 })).room s m ([wR loc 1] : List Value).toArray below meth c H locs 0 0 (MQ below (wQi D K loc sh ln iv' rv s.heap.size r') ([wR loc 1] : List Value).toArray s 0 0 (wA loc sh s.heap.size)) (F0 m 156 ls []) := by
            clear hL22 hl hS hH
            intro H locs ls hH hS hl
            refine lv_iload_n hx hb dX5_plans_156 rfl (lv_at hl 0 rfl) ?_
            refine lv_if_ne (tgt := 164) hx hb dX5_plans_157 (by decide) (fun c61 => ?_) (fun c61 => ?_)
            · have hf := wIf c61 hf
              refine lv_iload_n hx hb dX5_plans_164 rfl (lv_at hl 0 rfl) ?_
              cases hf
              exact W.iret hx hb hr (fun t ht hW => ⟨⟨_, (), rfl, rfl, by show wH _ _ _ _ _ _ _ t.heap; rw [ht]; exact hH⟩, hS.F ht⟩) hS.2.2 dX5_plans_165
            · have hf := wIt c61 hf
              refine lv_iconst (v := (-1)) hx hb dX5_plans_160 (by decide) ?_
              refine lv_goto (tgt := 165) hx hb dX5_plans_161 (by decide) ?_
              cases hf
              exact W.iret hx hb hr (fun t ht hW => ⟨⟨_, (), rfl, rfl, by show wH _ _ _ _ _ _ _ t.heap; rw [ht]; exact hH⟩, hS.F ht⟩) hS.2.2 dX5_plans_165
          have lp24 : ∀ (n19 : Nat) (iv20 : wI) (x21 : Int32) (H : Heap) (locs : List Loc) (ls : Array Slot), fX5_plans_73 n19 iv20 x3 z15 x21 = some iv25 → wH D K loc sh ln iv20 rv H → va_S (wA loc sh s.heap.size) s.heap H locs → lv_has ls 6 [(0, wR loc 1), (1, .int x3), (2, .int z15), (3, .int x21)] → W p l e (headSpec wsX5_plans ({ frames := 2, cells := 0, slots := 0, locals := 50 })).room s m ([wR loc 1] : List Value).toArray below meth c H locs 0 0 (MQ below (wQi D K loc sh ln iv' rv s.heap.size r') ([wR loc 1] : List Value).toArray s 0 0 (wA loc sh s.heap.size)) (F0 m 73 ls []) := by
            clear hf hl hS hH hL22
            intro n19
            induction n19 with
            | zero => intro iv20 x21 H locs ls hf; cases hf
            | succ n19 ih =>
              intro iv20 x21 H locs ls hf hH hS hl
              rw [fX5_plans_73.eq_2] at hf
              refine lv_iload_n hx hb dX5_plans_73 rfl (lv_at hl 3 rfl) ?_
              refine lv_iload_n hx hb dX5_plans_74 rfl (lv_at hl 2 rfl) ?_
              refine lv_icmp_ge (tgt := 156) hx hb dX5_plans_75 (by decide) (fun c26 => ?_) (fun c26 => ?_)
              · have hf := wIt c26 hf
                cases hf
                exact hk23 _ _ _ hH hS (lv_sub hl [1] rfl)
              · have hf := wIf c26 hf
                refine lv_iload_n hx hb dX5_plans_78 rfl (lv_at hl 1 rfl) ?_
                refine lv_if_le (tgt := 156) hx hb dX5_plans_79 (by decide) (fun c27 => ?_) (fun c27 => ?_)
                · have hf := wIt c27 hf
                  cases hf
                  exact hk23 _ _ _ hH hS (lv_sub hl [1] rfl)
                · have hf := wIf c27 hf
                  refine wald_n hx hb dX5_plans_82 rfl (lv_at hl 0 rfl) ?_
                  refine lv_iload_n hx hb dX5_plans_83 rfl (lv_at hl 3 rfl) ?_
                  refine lv_iload_n hx hb dX5_plans_84 rfl (lv_at hl 1 rfl) ?_
                  obtain ⟨iv28, h29, hf⟩ := wBd_e hf
                  refine wcv (va_runV (As := [.int x21, .int x3]) (rest := []) ⟨hx, hb, hml, hown, hts⟩ (mtX5_orders l D K loc sh ln iv20 rv _ x21 x3 hB h29) (cwV 2 hts gX5_plans_X5_orders rfl rfl rfl (by decide +kernel) ⟨Nat.le_of_ble_eq_true rfl, Nat.le_of_ble_eq_true rfl⟩) (wPreV hKn hH (hB.1 1 6 (by decide)) (by decide) rfl rfl) rfl rfl hl.1 rfl (lv_room (Nat.le_of_ble_eq_true rfl)) dX5_plans_85 ⟨Nat.zero_le _, Nat.zero_le _⟩) hS hO hA (fun H locs hH hS => ?_)
                  refine wald_n hx hb dX5_plans_88 rfl (lv_at hl 0 rfl) ?_
                  refine lv_iload_n hx hb dX5_plans_89 rfl (lv_at hl 1 rfl) ?_
                  obtain ⟨iv30, r31, h32, hf⟩ := wB2_e hf
                  refine wci (va_runV (As := [.int x3]) (rest := []) ⟨hx, hb, hml, hown, hts⟩ (mtX5_sumOf l D K loc sh ln iv28 rv _ x3 hB h32) (cwV 1 hts gX5_plans_X5_sumOf rfl rfl rfl (by decide +kernel) ⟨Nat.le_of_ble_eq_true rfl, Nat.le_of_ble_eq_true rfl⟩) (wPreV hKn hH (hB.1 1 6 (by decide)) (by decide) rfl rfl) rfl rfl hl.1 rfl (lv_room (Nat.le_of_ble_eq_true rfl)) dX5_plans_90 ⟨Nat.zero_le _, Nat.zero_le _⟩) hS hO hA (fun H locs hH hS => ?_)
                  refine lv_istore (lv' := [(4, .int r31), (0, wR loc 1), (1, .int x3), (2, .int z15), (3, .int x21)]) hx hb dX5_plans_93 hl (by decide) rfl (fun ls hl => ?_)
                  refine wald_n hx hb dX5_plans_95 rfl (lv_at hl 1 rfl) ?_
                  refine wg (C := RX5) (T := TX5) (N := 31) (v := .int (iv30 1 30)) hx hb hts iX5 hown hKn.1 hH (q := 1) (hB.1 1 6 (by decide)) (by decide) rfl rfl 30 (by decide) k170 rfl dX5_plans_96 ?_
                  refine lv_iconst (v := (-1)) hx hb dX5_plans_99 (by decide) ?_
                  refine lv_icmp_eq (tgt := 115) hx hb dX5_plans_100 (by decide) (fun c33 => ?_) (fun c33 => ?_)
                  · have hf := wIt c33 hf
                    refine wald_n hx hb dX5_plans_115 rfl (lv_at hl 1 rfl) ?_
                    refine lv_iload hx hb dX5_plans_116 (lv_at hl 0 rfl) ?_
                    obtain ⟨iv34, e35, hf⟩ := wLt_e hf
                    refine wp (C := RX5) (T := TX5) (N := 31) (v := .int r31) (ty := tyX5 30) (iv' := iv34) (rv' := rv) hx hb hts iX5 tyX5 tyX5_ok nmX5 hown hKn.1 hH hO hS (q := 1) (hB.1 1 6 (by decide)) (by decide) rfl rfl 30 (by decide) k170 rfl (tyX5_ok 30 (by decide)) rfl rfl (Nat.le_of_ble_eq_true rfl) (by rw [e35, wU_self]; rfl) (fun a ha => by rw [e35]; exact wU_ne a ha) (fun _ _ => rfl) dX5_plans_118 (fun H locs hH hS => ?_)
                    refine lv_iconst (v := 0) hx hb dX5_plans_121 (by decide) ?_
                    refine lv_istore (lv' := [(5, .int 0), (4, .int r31), (0, wR loc 1), (1, .int x3), (2, .int z15), (3, .int x21)]) hx hb dX5_plans_122 hl (by decide) rfl (fun ls hl => ?_)
                    obtain ⟨iv42, hL39, hf⟩ := wBd_e hf
                    have hk40 : ∀ (H : Heap) (locs : List Loc) (ls : Array Slot), wH D K loc sh ln iv42 rv H → va_S (wA loc sh s.heap.size) s.heap H locs → lv_has ls 6 [(0, wR loc 1), (1, .int x3), (2, .int z15), (3, .int x21)] → W p l e (headSpec wsX5_plans ({ frames := 2, cells := 0, slots := 0, locals := 50 })).room s m ([wR loc 1] : List Value).toArray below meth c H locs 0 0 (MQ below (wQi D K loc sh ln iv' rv s.heap.size r') ([wR loc 1] : List Value).toArray s 0 0 (wA loc sh s.heap.size)) (F0 m 150 ls []) := by
                      clear hL39 hl hS hH
                      intro H locs ls hH hS hl
                      refine lv_iinc (v := (x21 + 1)) (lv' := [(3, .int (x21 + 1)), (0, wR loc 1), (1, .int x3), (2, .int z15)]) hx hb dX5_plans_150 hl (k := 3) rfl rfl (by decide) rfl (fun ls hl => ?_)
                      refine lv_goto (tgt := 73) hx hb dX5_plans_153 (by decide) ?_
                      exact ih _ _ _ _ _ hf hH hS (lv_sub hl [1, 2, 3, 0] rfl)
                    have lp41 : ∀ (n36 : Nat) (iv37 : wI) (x38 : Int32) (H : Heap) (locs : List Loc) (ls : Array Slot), fX5_plans_124 n36 iv37 x3 z15 x21 x38 = some iv42 → wH D K loc sh ln iv37 rv H → va_S (wA loc sh s.heap.size) s.heap H locs → lv_has ls 6 [(0, wR loc 1), (1, .int x3), (2, .int z15), (3, .int x21), (5, .int x38)] → W p l e (headSpec wsX5_plans ({ frames := 2, cells := 0, slots := 0, locals := 50 })).room s m ([wR loc 1] : List Value).toArray below meth c H locs 0 0 (MQ below (wQi D K loc sh ln iv' rv s.heap.size r') ([wR loc 1] : List Value).toArray s 0 0 (wA loc sh s.heap.size)) (F0 m 124 ls []) := by
                      clear hf hl hS hH hL39
                      intro n36
                      induction n36 with
                      | zero => intro iv37 x38 H locs ls hf; cases hf
                      | succ n36 ih =>
                        intro iv37 x38 H locs ls hf hH hS hl
                        rw [fX5_plans_124.eq_2] at hf
                        refine lv_iload hx hb dX5_plans_124 (lv_at hl 4 rfl) ?_
                        refine lv_iload_n hx hb dX5_plans_126 rfl (lv_at hl 1 rfl) ?_
                        refine lv_icmp_ge (tgt := 150) hx hb dX5_plans_127 (by decide) (fun c43 => ?_) (fun c43 => ?_)
                        · have hf := wIt c43 hf
                          cases hf
                          exact hk40 _ _ _ hH hS (lv_sub hl [0, 1, 2, 3] rfl)
                        · have hf := wIf c43 hf
                          refine wald_n hx hb dX5_plans_130 rfl (lv_at hl 0 rfl) ?_
                          refine wg (C := RX5) (T := TX5) (N := 31) (v := wR loc 39) hx hb hts iX5 hown hKn.1 hH (q := 1) (hB.1 1 6 (by decide)) (by decide) rfl rfl 29 (by decide) k77 rfl dX5_plans_131 ?_
                          refine lv_iload hx hb dX5_plans_134 (lv_at hl 4 rfl) ?_
                          refine wald_n hx hb dX5_plans_136 rfl (lv_at hl 0 rfl) ?_
                          refine wg (C := RX5) (T := TX5) (N := 31) (v := wR loc 37) hx hb hts iX5 hown hKn.1 hH (q := 1) (hB.1 1 6 (by decide)) (by decide) rfl rfl 27 (by decide) k71 rfl dX5_plans_137 ?_
                          refine lv_iload hx hb dX5_plans_140 (lv_at hl 4 rfl) ?_
                          obtain ⟨g44, hf⟩ := wGd_e hf
                          refine wia hx hb hKn.1 hH (hB.1 37 7 (by decide)) (hB.2.1 37 _ (by decide)) g44 dX5_plans_142 ?_
                          obtain ⟨iv45, e46, hf⟩ := wLt_e hf
                          refine wis hx hb hKn.1 hH hO hS (hB.1 39 7 (by decide)) (hB.2.1 39 _ (by decide)) g44 dX5_plans_143 (fun H locs hH hS => ?_)
                          rw [← e46] at hH
                          refine lv_iinc (v := (x38 + 1)) (lv' := [(5, .int (x38 + 1)), (0, wR loc 1), (1, .int x3), (2, .int z15), (3, .int x21)]) hx hb dX5_plans_144 hl (k := 4) rfl rfl (by decide) rfl (fun ls hl => ?_)
                          refine lv_goto (tgt := 124) hx hb dX5_plans_147 (by decide) ?_
                          exact ih _ _ _ _ _ hf hH hS (lv_sub hl [1, 2, 3, 4, 0] rfl)
                    exact lp41 wN _ _ _ _ _ hL39 hH hS (lv_sub hl [2, 3, 4, 5, 0] rfl)
                  · have hf := wIf c33 hf
                    refine lv_iload hx hb dX5_plans_103 (lv_at hl 0 rfl) ?_
                    refine wald_n hx hb dX5_plans_105 rfl (lv_at hl 1 rfl) ?_
                    refine wg (C := RX5) (T := TX5) (N := 31) (v := .int (iv30 1 30)) hx hb hts iX5 hown hKn.1 hH (q := 1) (hB.1 1 6 (by decide)) (by decide) rfl rfl 30 (by decide) k170 rfl dX5_plans_106 ?_
                    refine lv_icmp_lt (tgt := 115) hx hb dX5_plans_109 (by decide) (fun c47 => ?_) (fun c47 => ?_)
                    · have hf := wIt c47 hf
                      refine wald_n hx hb dX5_plans_115 rfl (lv_at hl 1 rfl) ?_
                      refine lv_iload hx hb dX5_plans_116 (lv_at hl 0 rfl) ?_
                      obtain ⟨iv48, e49, hf⟩ := wLt_e hf
                      refine wp (C := RX5) (T := TX5) (N := 31) (v := .int r31) (ty := tyX5 30) (iv' := iv48) (rv' := rv) hx hb hts iX5 tyX5 tyX5_ok nmX5 hown hKn.1 hH hO hS (q := 1) (hB.1 1 6 (by decide)) (by decide) rfl rfl 30 (by decide) k170 rfl (tyX5_ok 30 (by decide)) rfl rfl (Nat.le_of_ble_eq_true rfl) (by rw [e49, wU_self]; rfl) (fun a ha => by rw [e49]; exact wU_ne a ha) (fun _ _ => rfl) dX5_plans_118 (fun H locs hH hS => ?_)
                      refine lv_iconst (v := 0) hx hb dX5_plans_121 (by decide) ?_
                      refine lv_istore (lv' := [(5, .int 0), (4, .int r31), (0, wR loc 1), (1, .int x3), (2, .int z15), (3, .int x21)]) hx hb dX5_plans_122 hl (by decide) rfl (fun ls hl => ?_)
                      obtain ⟨iv56, hL53, hf⟩ := wBd_e hf
                      have hk54 : ∀ (H : Heap) (locs : List Loc) (ls : Array Slot), wH D K loc sh ln iv56 rv H → va_S (wA loc sh s.heap.size) s.heap H locs → lv_has ls 6 [(0, wR loc 1), (1, .int x3), (2, .int z15), (3, .int x21)] → W p l e (headSpec wsX5_plans ({ frames := 2, cells := 0, slots := 0, locals := 50 })).room s m ([wR loc 1] : List Value).toArray below meth c H locs 0 0 (MQ below (wQi D K loc sh ln iv' rv s.heap.size r') ([wR loc 1] : List Value).toArray s 0 0 (wA loc sh s.heap.size)) (F0 m 150 ls []) := by
                        clear hL53 hl hS hH
                        intro H locs ls hH hS hl
                        refine lv_iinc (v := (x21 + 1)) (lv' := [(3, .int (x21 + 1)), (0, wR loc 1), (1, .int x3), (2, .int z15)]) hx hb dX5_plans_150 hl (k := 3) rfl rfl (by decide) rfl (fun ls hl => ?_)
                        refine lv_goto (tgt := 73) hx hb dX5_plans_153 (by decide) ?_
                        exact ih _ _ _ _ _ hf hH hS (lv_sub hl [1, 2, 3, 0] rfl)
                      have lp55 : ∀ (n50 : Nat) (iv51 : wI) (x52 : Int32) (H : Heap) (locs : List Loc) (ls : Array Slot), fX5_plans_124 n50 iv51 x3 z15 x21 x52 = some iv56 → wH D K loc sh ln iv51 rv H → va_S (wA loc sh s.heap.size) s.heap H locs → lv_has ls 6 [(0, wR loc 1), (1, .int x3), (2, .int z15), (3, .int x21), (5, .int x52)] → W p l e (headSpec wsX5_plans ({ frames := 2, cells := 0, slots := 0, locals := 50 })).room s m ([wR loc 1] : List Value).toArray below meth c H locs 0 0 (MQ below (wQi D K loc sh ln iv' rv s.heap.size r') ([wR loc 1] : List Value).toArray s 0 0 (wA loc sh s.heap.size)) (F0 m 124 ls []) := by
                        clear hf hl hS hH hL53
                        intro n50
                        induction n50 with
                        | zero => intro iv51 x52 H locs ls hf; cases hf
                        | succ n50 ih =>
                          intro iv51 x52 H locs ls hf hH hS hl
                          rw [fX5_plans_124.eq_2] at hf
                          refine lv_iload hx hb dX5_plans_124 (lv_at hl 4 rfl) ?_
                          refine lv_iload_n hx hb dX5_plans_126 rfl (lv_at hl 1 rfl) ?_
                          refine lv_icmp_ge (tgt := 150) hx hb dX5_plans_127 (by decide) (fun c57 => ?_) (fun c57 => ?_)
                          · have hf := wIt c57 hf
                            cases hf
                            exact hk54 _ _ _ hH hS (lv_sub hl [0, 1, 2, 3] rfl)
                          · have hf := wIf c57 hf
                            refine wald_n hx hb dX5_plans_130 rfl (lv_at hl 0 rfl) ?_
                            refine wg (C := RX5) (T := TX5) (N := 31) (v := wR loc 39) hx hb hts iX5 hown hKn.1 hH (q := 1) (hB.1 1 6 (by decide)) (by decide) rfl rfl 29 (by decide) k77 rfl dX5_plans_131 ?_
                            refine lv_iload hx hb dX5_plans_134 (lv_at hl 4 rfl) ?_
                            refine wald_n hx hb dX5_plans_136 rfl (lv_at hl 0 rfl) ?_
                            refine wg (C := RX5) (T := TX5) (N := 31) (v := wR loc 37) hx hb hts iX5 hown hKn.1 hH (q := 1) (hB.1 1 6 (by decide)) (by decide) rfl rfl 27 (by decide) k71 rfl dX5_plans_137 ?_
                            refine lv_iload hx hb dX5_plans_140 (lv_at hl 4 rfl) ?_
                            obtain ⟨g58, hf⟩ := wGd_e hf
                            refine wia hx hb hKn.1 hH (hB.1 37 7 (by decide)) (hB.2.1 37 _ (by decide)) g58 dX5_plans_142 ?_
                            obtain ⟨iv59, e60, hf⟩ := wLt_e hf
                            refine wis hx hb hKn.1 hH hO hS (hB.1 39 7 (by decide)) (hB.2.1 39 _ (by decide)) g58 dX5_plans_143 (fun H locs hH hS => ?_)
                            rw [← e60] at hH
                            refine lv_iinc (v := (x52 + 1)) (lv' := [(5, .int (x52 + 1)), (0, wR loc 1), (1, .int x3), (2, .int z15), (3, .int x21)]) hx hb dX5_plans_144 hl (k := 4) rfl rfl (by decide) rfl (fun ls hl => ?_)
                            refine lv_goto (tgt := 124) hx hb dX5_plans_147 (by decide) ?_
                            exact ih _ _ _ _ _ hf hH hS (lv_sub hl [1, 2, 3, 4, 0] rfl)
                      exact lp55 wN _ _ _ _ _ hL53 hH hS (lv_sub hl [2, 3, 4, 5, 0] rfl)
                    · have hf := wIf c47 hf
                      refine lv_goto (tgt := 150) hx hb dX5_plans_112 (by decide) ?_
                      refine lv_iinc (v := (x21 + 1)) (lv' := [(3, .int (x21 + 1)), (4, .int r31), (0, wR loc 1), (1, .int x3), (2, .int z15)]) hx hb dX5_plans_150 hl (k := 4) rfl rfl (by decide) rfl (fun ls hl => ?_)
                      refine lv_goto (tgt := 73) hx hb dX5_plans_153 (by decide) ?_
                      exact ih _ _ _ _ _ hf hH hS (lv_sub hl [2, 3, 4, 0] rfl)
          exact lp24 wN _ _ _ _ _ hL22 hH hS (lv_sub hl [1, 2, 3, 0] rfl)
        have lp14 : ∀ (n9 : Nat) (x10 : Int32) (x11 : Int32) (H : Heap) (locs : List Loc) (ls : Array Slot), fX5_plans_51 n9 iv2 x3 x10 x11 = some z15 → wH D K loc sh ln iv2 rv H → va_S (wA loc sh s.heap.size) s.heap H locs → lv_has ls 6 [(0, wR loc 1), (1, .int x3), (2, .int x10), (3, .int x11)] → W p l e (headSpec wsX5_plans ({ frames := 2, cells := 0, slots := 0, locals := 50 })).room s m ([wR loc 1] : List Value).toArray below meth c H locs 0 0 (MQ below (wQi D K loc sh ln iv' rv s.heap.size r') ([wR loc 1] : List Value).toArray s 0 0 (wA loc sh s.heap.size)) (F0 m 51 ls []) := by
          clear hf hl hS hH hL12
          intro n9
          induction n9 with
          | zero => intro x10 x11 H locs ls hf; cases hf
          | succ n9 ih =>
            intro x10 x11 H locs ls hf hH hS hl
            rw [fX5_plans_51.eq_2] at hf
            refine lv_iload_n hx hb dX5_plans_51 rfl (lv_at hl 3 rfl) ?_
            refine lv_iload_n hx hb dX5_plans_52 rfl (lv_at hl 1 rfl) ?_
            refine lv_icmp_gt (tgt := 66) hx hb dX5_plans_53 (by decide) (fun c16 => ?_) (fun c16 => ?_)
            · have hf := wIt c16 hf
              cases hf
              exact hk13 _ _ _ hH hS (lv_sub hl [0, 1, 2] rfl)
            · have hf := wIf c16 hf
              refine lv_iload_n hx hb dX5_plans_56 rfl (lv_at hl 2 rfl) ?_
              refine lv_iload_n hx hb dX5_plans_57 rfl (lv_at hl 3 rfl) ?_
              refine lv_imul hx hb dX5_plans_58 ?_
              refine lv_istore_n (lv' := [(2, .int (x10 * x11)), (0, wR loc 1), (1, .int x3), (3, .int x11)]) hx hb dX5_plans_59 rfl hl (by decide) rfl (fun ls hl => ?_)
              refine lv_iinc (v := (x11 + 1)) (lv' := [(3, .int (x11 + 1)), (2, .int (x10 * x11)), (0, wR loc 1), (1, .int x3)]) hx hb dX5_plans_60 hl (k := 3) rfl rfl (by decide) rfl (fun ls hl => ?_)
              refine lv_goto (tgt := 51) hx hb dX5_plans_63 (by decide) ?_
              exact ih _ _ _ _ _ hf hH hS (lv_sub hl [2, 3, 1, 0] rfl)
        exact lp14 wN _ _ _ _ _ hL12 hH hS (lv_sub hl [2, 3, 1, 0] rfl)
      · have hf := wIf c8 hf
        refine wald_n hx hb dX5_plans_12 rfl (lv_at hl 0 rfl) ?_
        refine wg (C := RX5) (T := TX5) (N := 31) (v := wR loc 24) hx hb hts iX5 hown hKn.1 hH (q := 1) (hB.1 1 6 (by decide)) (by decide) rfl rfl 14 (by decide) k38 rfl dX5_plans_13 ?_
        refine lv_iload_n hx hb dX5_plans_16 rfl (lv_at hl 2 rfl) ?_
        obtain ⟨g62, hf⟩ := wGd_e hf
        refine wia hx hb hKn.1 hH (hB.1 24 7 (by decide)) (hB.2.1 24 _ (by decide)) g62 dX5_plans_17 ?_
        refine lv_if_eq (tgt := 24) hx hb dX5_plans_18 (by decide) (fun c63 => ?_) (fun c63 => ?_)
        · have hf := wIt c63 hf
          refine lv_iload_n hx hb dX5_plans_24 rfl (lv_at hl 1 rfl) ?_
          refine lv_iconst (v := 5) hx hb dX5_plans_25 (by decide) ?_
          refine lv_icmp_ne (tgt := 31) hx hb dX5_plans_26 (by decide) (fun c64 => ?_) (fun c64 => ?_)
          · have hf := wIf c64 hf
            refine wald_n hx hb dX5_plans_31 rfl (lv_at hl 0 rfl) ?_
            refine wg (C := RX5) (T := TX5) (N := 31) (v := wR loc 36) hx hb hts iX5 hown hKn.1 hH (q := 1) (hB.1 1 6 (by decide)) (by decide) rfl rfl 26 (by decide) k68 rfl dX5_plans_32 ?_
            refine lv_iload_n hx hb dX5_plans_35 rfl (lv_at hl 1 rfl) ?_
            refine lv_iload_n hx hb dX5_plans_36 rfl (lv_at hl 2 rfl) ?_
            obtain ⟨g65, hf⟩ := wGd_e hf
            obtain ⟨iv66, e67, hf⟩ := wLt_e hf
            refine wis hx hb hKn.1 hH hO hS (hB.1 36 7 (by decide)) (hB.2.1 36 _ (by decide)) g65 dX5_plans_37 (fun H locs hH hS => ?_)
            rw [← e67] at hH
            refine lv_iinc (v := (x3 + 1)) (lv' := [(1, .int (x3 + 1)), (0, wR loc 1), (2, .int x4)]) hx hb dX5_plans_38 hl (k := 1) rfl rfl (by decide) rfl (fun ls hl => ?_)
            refine lv_iinc (v := (x4 + 1)) (lv' := [(2, .int (x4 + 1)), (1, .int (x3 + 1)), (0, wR loc 1)]) hx hb dX5_plans_41 hl (k := 2) rfl rfl (by decide) rfl (fun ls hl => ?_)
            refine lv_goto (tgt := 4) hx hb dX5_plans_44 (by decide) ?_
            exact ih _ _ _ _ _ _ hf hH hS (lv_sub hl [2, 1, 0] rfl)
          · have hf := wIt c64 hf
            refine lv_iconst (v := (-1)) hx hb dX5_plans_29 (by decide) ?_
            cases hf
            exact W.iret hx hb hr (fun t ht hW => ⟨⟨_, (), rfl, rfl, by show wH _ _ _ _ _ _ _ t.heap; rw [ht]; exact hH⟩, hS.F ht⟩) hS.2.2 dX5_plans_30
        · have hf := wIf c63 hf
          refine lv_goto (tgt := 41) hx hb dX5_plans_21 (by decide) ?_
          refine lv_iinc (v := (x4 + 1)) (lv' := [(2, .int (x4 + 1)), (0, wR loc 1), (1, .int x3)]) hx hb dX5_plans_41 hl (k := 2) rfl rfl (by decide) rfl (fun ls hl => ?_)
          refine lv_goto (tgt := 4) hx hb dX5_plans_44 (by decide) ?_
          exact ih _ _ _ _ _ _ hf hH hS (lv_sub hl [1, 2, 0] rfl)
  exact lp7 wN _ _ _ _ _ _ hf hH hS (lv_sub hl [2, 1, 0] rfl)
noncomputable def fX5_best  (iv : wI) (a1 : Int32) : Option (wI × Int32) := wB2 (fX5_plans iv) (fun (iv1 : wI) (r2 : Int32) => wBd (fX5_in a1 0 (r2 - 1)) (fun (r4 : Int32) => if r4 = 0 then some (iv1, ((-1) : Int32)) else wGd (vp_in a1 5) (some (iv1, (iv1 39 a1.toNatClampNeg)))))
set_option maxHeartbeats 4000000 in
set_option maxRecDepth 100000 in
theorem mtX5_best (l : Launch) (D : va_G) (K : Nat → ClassId) (loc sh ln : Nat → Nat) (iv : wI) (rv : wJ) (sz : Nat) (a1 : Int32) {iv' : wI} {r' : Int32} (hB : wBm sh ln) (hf : fX5_best iv a1 = some (iv', r')) : Met l yX5_best wsX5_best ({ frames := 3, cells := 0, slots := 0, locals := 75 }) (wPc D K loc sh ln iv rv sz [wR loc 1, .int a1]) (wQi D K loc sh ln iv' rv sz r') 0 0 (wA loc sh sz) := by
  refine Met.ofW (cc := cX5_best) (maxL := 2) (ret := (some .int)) (by decide) rfl ?_
  intro p e s m args below meth c s₁ B hml hv
  obtain ⟨rfl, hsz, hH, hKn⟩ := hv
  have hx := B.exec
  have hb := B.bytes
  have hr := B.returns
  have hts := atoms_spec (ws := wsX5_best) B.pre
  have hown : s.vm.findClass RX5 = some m.cls := findClass_of_methodNamed B.named
  have hlocks := B.notSynchronized
  subst hsz
  have hA : ∀ q : Nat, s.heap.size ≤ q → wA loc sh s.heap.size q := fun q h => Or.inr h
  have hO : ∀ a, sh a ≠ 0 → wA loc sh s.heap.size (loc a) := fun a h => Or.inl ⟨a, h, rfl⟩
  have hS : va_S (wA loc sh s.heap.size) s.heap s.heap [] := va_S.rf
  obtain ⟨ls, hen, hl⟩ := wEntry m [wR loc 1, .int a1] 2 (List.forall_mem_cons.mpr ⟨wR_cat _ _, List.forall_mem_cons.mpr ⟨rfl, fun _ h => absurd h List.not_mem_nil⟩⟩) (Nat.le_of_ble_eq_true rfl)
  rw [hen]
  clear hen
  have hl : lv_has ls 2 [(0, wR loc 1), (1, .int a1)] := hl
  have k77 := hts (.fieldLink RX5 77 "CupByCupModel" "best" "[I") (List.mem_of_getElem? (i := 1) rfl)
  have iX5 : ∀ w ∈ wsX50, w ∈ wsX5_best := fun w h => List.mem_cons_of_mem _ (List.mem_append_right _ h)
  unfold fX5_best at hf
  refine lv_iload_n hx hb dX5_best_0 rfl (lv_at hl 1 rfl) ?_
  refine lv_iconst (v := 0) hx hb dX5_best_1 (by decide) ?_
  refine wald_n hx hb dX5_best_2 rfl (lv_at hl 0 rfl) ?_
  obtain ⟨iv1, r2, h3, hf⟩ := wB2_e hf
  refine wci (va_runV (As := []) (rest := [.int 0, .int a1]) ⟨hx, hb, hml, hown, hts⟩ (mtX5_plans l D K loc sh ln iv rv _ hB h3) (cwV 0 hts gX5_best_X5_plans rfl rfl rfl (by decide +kernel) ⟨Nat.le_of_ble_eq_true rfl, Nat.le_of_ble_eq_true rfl⟩) (wPreV hKn hH (hB.1 1 6 (by decide)) (by decide) rfl rfl) rfl rfl hl.1 rfl (lv_room (Nat.le_of_ble_eq_true rfl)) dX5_best_3 ⟨Nat.zero_le _, Nat.zero_le _⟩) hS hO hA (fun H locs hH hS => ?_)
  refine lv_iconst (v := 1) hx hb dX5_best_6 (by decide) ?_
  refine lv_isub hx hb dX5_best_7 ?_
  obtain ⟨r4, h5, hf⟩ := wBd_e hf
  refine wci (va_runS (As := [.int a1, .int 0, .int (r2 - 1)]) (rest := []) ⟨hx, hb, hml, hown, hts⟩ (mtX5_in l D K loc sh ln iv1 rv _ a1 0 (r2 - 1) h5) (va_cwS 3 hts gX5_best_X5_in rfl rfl rfl (by decide +kernel) ⟨Nat.le_of_ble_eq_true rfl, Nat.le_of_ble_eq_true rfl⟩) (wPreS hKn hH) rfl rfl hl.1 rfl (lv_room (Nat.le_of_ble_eq_true rfl)) dX5_best_8 ⟨Nat.zero_le _, Nat.zero_le _⟩) hS hO hA (fun H locs hH hS => ?_)
  refine lv_if_eq (tgt := 23) hx hb dX5_best_11 (by decide) (fun c6 => ?_) (fun c6 => ?_)
  · have hf := wIt c6 hf
    refine lv_iconst (v := (-1)) hx hb dX5_best_23 (by decide) ?_
    cases hf
    exact W.iret hx hb hr (fun t ht hW => ⟨⟨_, (), rfl, rfl, by show wH _ _ _ _ _ _ _ t.heap; rw [ht]; exact hH⟩, hS.F ht⟩) hS.2.2 dX5_best_24
  · have hf := wIf c6 hf
    refine wald_n hx hb dX5_best_14 rfl (lv_at hl 0 rfl) ?_
    refine wg (C := RX5) (T := TX5) (N := 31) (v := wR loc 39) hx hb hts iX5 hown hKn.1 hH (q := 1) (hB.1 1 6 (by decide)) (by decide) rfl rfl 29 (by decide) k77 rfl dX5_best_15 ?_
    refine lv_iload_n hx hb dX5_best_18 rfl (lv_at hl 1 rfl) ?_
    obtain ⟨g7, hf⟩ := wGd_e hf
    refine wia hx hb hKn.1 hH (hB.1 39 7 (by decide)) (hB.2.1 39 _ (by decide)) g7 dX5_best_19 ?_
    refine lv_goto (tgt := 24) hx hb dX5_best_20 (by decide) ?_
    cases hf
    exact W.iret hx hb hr (fun t ht hW => ⟨⟨_, (), rfl, rfl, by show wH _ _ _ _ _ _ _ t.heap; rw [ht]; exact hH⟩, hS.F ht⟩) hS.2.2 dX5_best_24
noncomputable def fX5_sum  (iv : wI) : Option (wI × Int32) := wB2 (fX5_plans iv) (fun (iv1 : wI) (r2 : Int32) => if r2 = (-1) then some (iv1, ((-1) : Int32)) else some (iv1, (iv1 1 30)))
set_option maxHeartbeats 4000000 in
set_option maxRecDepth 100000 in
theorem mtX5_sum (l : Launch) (D : va_G) (K : Nat → ClassId) (loc sh ln : Nat → Nat) (iv : wI) (rv : wJ) (sz : Nat) {iv' : wI} {r' : Int32} (hB : wBm sh ln) (hf : fX5_sum iv = some (iv', r')) : Met l yX5_sum wsX5_sum ({ frames := 3, cells := 0, slots := 0, locals := 75 }) (wPc D K loc sh ln iv rv sz [wR loc 1]) (wQi D K loc sh ln iv' rv sz r') 0 0 (wA loc sh sz) := by
  refine Met.ofW (cc := cX5_sum) (maxL := 1) (ret := (some .int)) (by decide) rfl ?_
  intro p e s m args below meth c s₁ B hml hv
  obtain ⟨rfl, hsz, hH, hKn⟩ := hv
  have hx := B.exec
  have hb := B.bytes
  have hr := B.returns
  have hts := atoms_spec (ws := wsX5_sum) B.pre
  have hown : s.vm.findClass RX5 = some m.cls := findClass_of_methodNamed B.named
  have hlocks := B.notSynchronized
  subst hsz
  have hA : ∀ q : Nat, s.heap.size ≤ q → wA loc sh s.heap.size q := fun q h => Or.inr h
  have hO : ∀ a, sh a ≠ 0 → wA loc sh s.heap.size (loc a) := fun a h => Or.inl ⟨a, h, rfl⟩
  have hS : va_S (wA loc sh s.heap.size) s.heap s.heap [] := va_S.rf
  obtain ⟨ls, hen, hl⟩ := wEntry m [wR loc 1] 1 (List.forall_mem_cons.mpr ⟨wR_cat _ _, fun _ h => absurd h List.not_mem_nil⟩) (Nat.le_of_ble_eq_true rfl)
  rw [hen]
  clear hen
  have hl : lv_has ls 1 [(0, wR loc 1)] := hl
  have k170 := hts (.fieldLink RX5 170 "CupByCupModel" "bestSum" "I") (List.mem_of_getElem? (i := 1) rfl)
  have iX5 : ∀ w ∈ wsX50, w ∈ wsX5_sum := fun w h => List.mem_cons_of_mem _ (List.mem_append_right _ h)
  unfold fX5_sum at hf
  refine wald_n hx hb dX5_sum_0 rfl (lv_at hl 0 rfl) ?_
  obtain ⟨iv1, r2, h3, hf⟩ := wB2_e hf
  refine wci (va_runV (As := []) (rest := []) ⟨hx, hb, hml, hown, hts⟩ (mtX5_plans l D K loc sh ln iv rv _ hB h3) (cwV 0 hts gX5_sum_X5_plans rfl rfl rfl (by decide +kernel) ⟨Nat.le_of_ble_eq_true rfl, Nat.le_of_ble_eq_true rfl⟩) (wPreV hKn hH (hB.1 1 6 (by decide)) (by decide) rfl rfl) rfl rfl hl.1 rfl (lv_room (Nat.le_of_ble_eq_true rfl)) dX5_sum_1 ⟨Nat.zero_le _, Nat.zero_le _⟩) hS hO hA (fun H locs hH hS => ?_)
  refine lv_iconst (v := (-1)) hx hb dX5_sum_4 (by decide) ?_
  refine lv_icmp_ne (tgt := 12) hx hb dX5_sum_5 (by decide) (fun c4 => ?_) (fun c4 => ?_)
  · have hf := wIf c4 hf
    refine wald_n hx hb dX5_sum_12 rfl (lv_at hl 0 rfl) ?_
    refine wg (C := RX5) (T := TX5) (N := 31) (v := .int (iv1 1 30)) hx hb hts iX5 hown hKn.1 hH (q := 1) (hB.1 1 6 (by decide)) (by decide) rfl rfl 30 (by decide) k170 rfl dX5_sum_13 ?_
    cases hf
    exact W.iret hx hb hr (fun t ht hW => ⟨⟨_, (), rfl, rfl, by show wH _ _ _ _ _ _ _ t.heap; rw [ht]; exact hH⟩, hS.F ht⟩) hS.2.2 dX5_sum_16
  · have hf := wIt c4 hf
    refine lv_iconst (v := (-1)) hx hb dX5_sum_8 (by decide) ?_
    refine lv_goto (tgt := 16) hx hb dX5_sum_9 (by decide) ?_
    cases hf
    exact W.iret hx hb hr (fun t ht hW => ⟨⟨_, (), rfl, rfl, by show wH _ _ _ _ _ _ _ t.heap; rw [ht]; exact hH⟩, hS.F ht⟩) hS.2.2 dX5_sum_16
noncomputable def fX5_count_139  : Nat → wI → Int32 → Int32 → Option (Int32)
  | 0, _, _, _ => none
  | n + 1, iv, x2, x3 => if (iv 1 8) ≤ x3 then some x2 else wGd (vp_in x3 100) (if (iv 24 x3.toNatClampNeg) = 6 then if ((iv 28 x3.toNatClampNeg) - (iv 23 x3.toNatClampNeg)) ≤ x2 then fX5_count_139 n iv x2 (x3 + 1) else wLt (((iv 28 x3.toNatClampNeg) - (iv 23 x3.toNatClampNeg))) (fun (y27 : Int32) => fX5_count_139 n iv y27 (x3 + 1)) else fX5_count_139 n iv x2 (x3 + 1))
noncomputable def fX5_count  (iv : wI) (a1 : Int32) : Option (Int32) := if a1 = 0 then some (iv 1 2) else if a1 = 1 then some (iv 1 3) else if a1 = 2 then wBd (fX5_power iv) (fun (r4 : Int32) => some r4) else if a1 = 3 then some (iv 1 8) else if a1 = 4 then wBd (fX5_countOf iv 6) (fun (r8 : Int32) => some r8) else if a1 = 5 then wBd (fX5_countOf iv 0) (fun (r11 : Int32) => some r11) else if a1 = 6 then wGd (vp_in 0 3) (some (iv 17 (0 : Int32).toNatClampNeg)) else if a1 = 7 then wGd (vp_in 1 3) (some (iv 17 (1 : Int32).toNatClampNeg)) else if a1 = 8 then wGd (vp_in 2 3) (some (iv 17 (2 : Int32).toNatClampNeg)) else if a1 = 9 then some (iv 1 23) else if a1 = 10 then some (iv 1 24) else if a1 = 11 then some (iv 1 25) else if a1 = 12 then wBd (fX5_count_139 wN iv 0 0) (fun (z29 : Int32) => some z29) else some ((-1) : Int32)
set_option maxHeartbeats 4000000 in
set_option maxRecDepth 100000 in
theorem mtX5_count (l : Launch) (D : va_G) (K : Nat → ClassId) (loc sh ln : Nat → Nat) (iv : wI) (rv : wJ) (sz : Nat) (a1 : Int32) {r' : Int32} (hB : wBm sh ln) (hf : fX5_count iv a1 = some r') : Met l yX5_count wsX5_count ({ frames := 2, cells := 0, slots := 0, locals := 45 }) (wPc D K loc sh ln iv rv sz [wR loc 1, .int a1]) (wQi D K loc sh ln iv rv sz r') 0 0 (wA loc sh sz) := by
  refine Met.ofW (cc := cX5_count) (maxL := 4) (ret := (some .int)) (by decide) rfl ?_
  intro p e s m args below meth c s₁ B hml hv
  obtain ⟨rfl, hsz, hH, hKn⟩ := hv
  have hx := B.exec
  have hb := B.bytes
  have hr := B.returns
  have hts := atoms_spec (ws := wsX5_count) B.pre
  have hown : s.vm.findClass RX5 = some m.cls := findClass_of_methodNamed B.named
  have hlocks := B.notSynchronized
  subst hsz
  have hA : ∀ q : Nat, s.heap.size ≤ q → wA loc sh s.heap.size q := fun q h => Or.inr h
  have hO : ∀ a, sh a ≠ 0 → wA loc sh s.heap.size (loc a) := fun a h => Or.inl ⟨a, h, rfl⟩
  have hS : va_S (wA loc sh s.heap.size) s.heap s.heap [] := va_S.rf
  obtain ⟨ls, hen, hl⟩ := wEntry m [wR loc 1, .int a1] 4 (List.forall_mem_cons.mpr ⟨wR_cat _ _, List.forall_mem_cons.mpr ⟨rfl, fun _ h => absurd h List.not_mem_nil⟩⟩) (Nat.le_of_ble_eq_true rfl)
  rw [hen]
  clear hen
  have hl : lv_has ls 4 [(0, wR loc 1), (1, .int a1)] := hl
  have k115 := hts (.fieldLink RX5 115 "CupByCupModel" "now" "I") (List.mem_of_getElem? (i := 1) rfl)
  have iX5 : ∀ w ∈ wsX50, w ∈ wsX5_count := fun w h => List.mem_cons_of_mem _ (List.mem_append_right _ h)
  have k7 := hts (.fieldLink RX5 7 "CupByCupModel" "heat" "I") (List.mem_of_getElem? (i := 2) rfl)
  have k112 := hts (.fieldLink RX5 112 "CupByCupModel" "cups" "I") (List.mem_of_getElem? (i := 3) rfl)
  have k20 := hts (.fieldLink RX5 20 "CupByCupModel" "stores" "[I") (List.mem_of_getElem? (i := 4) rfl)
  have k118 := hts (.fieldLink RX5 118 "CupByCupModel" "spoilt" "I") (List.mem_of_getElem? (i := 5) rfl)
  have k135 := hts (.fieldLink RX5 135 "CupByCupModel" "rinsed" "I") (List.mem_of_getElem? (i := 6) rfl)
  have k65 := hts (.fieldLink RX5 65 "CupByCupModel" "setting" "I") (List.mem_of_getElem? (i := 7) rfl)
  have k38 := hts (.fieldLink RX5 38 "CupByCupModel" "state" "[I") (List.mem_of_getElem? (i := 8) rfl)
  have k50 := hts (.fieldLink RX5 50 "CupByCupModel" "doneIn" "[I") (List.mem_of_getElem? (i := 9) rfl)
  have k35 := hts (.fieldLink RX5 35 "CupByCupModel" "came" "[I") (List.mem_of_getElem? (i := 10) rfl)
  unfold fX5_count at hf
  refine lv_iconst (v := 0) hx hb dX5_count_0 (by decide) ?_
  refine lv_istore_n (lv' := [(2, .int 0), (0, wR loc 1), (1, .int a1)]) hx hb dX5_count_1 rfl hl (by decide) rfl (fun ls hl => ?_)
  refine lv_iload_n hx hb dX5_count_2 rfl (lv_at hl 2 rfl) ?_
  by_cases c1 : a1 = 0
  · have hf := wIt c1 hf
    refine lv_tableIn (off := 65) (tgt := 68) hx hb dX5_count_3 (by rw [c1]; decide) (by rw [c1]; decide) (by rw [c1]; decide) (by decide) ?_
    refine wald_n hx hb dX5_count_68 rfl (lv_at hl 1 rfl) ?_
    refine wg (C := RX5) (T := TX5) (N := 31) (v := .int (iv 1 2)) hx hb hts iX5 hown hKn.1 hH (q := 1) (hB.1 1 6 (by decide)) (by decide) rfl rfl 2 (by decide) k115 rfl dX5_count_69 ?_
    cases hf
    exact W.iret hx hb hr (fun t ht hW => ⟨⟨_, (), rfl, rfl, by show wH _ _ _ _ _ _ _ t.heap; rw [ht]; exact hH⟩, hS.F ht⟩) hS.2.2 dX5_count_72
  · have hf := wIf c1 hf
    by_cases c2 : a1 = 1
    · have hf := wIt c2 hf
      refine lv_tableIn (off := 70) (tgt := 73) hx hb dX5_count_3 (by rw [c2]; decide) (by rw [c2]; decide) (by rw [c2]; decide) (by decide) ?_
      refine wald_n hx hb dX5_count_73 rfl (lv_at hl 1 rfl) ?_
      refine wg (C := RX5) (T := TX5) (N := 31) (v := .int (iv 1 3)) hx hb hts iX5 hown hKn.1 hH (q := 1) (hB.1 1 6 (by decide)) (by decide) rfl rfl 3 (by decide) k7 rfl dX5_count_74 ?_
      cases hf
      exact W.iret hx hb hr (fun t ht hW => ⟨⟨_, (), rfl, rfl, by show wH _ _ _ _ _ _ _ t.heap; rw [ht]; exact hH⟩, hS.F ht⟩) hS.2.2 dX5_count_77
    · have hf := wIf c2 hf
      by_cases c3 : a1 = 2
      · have hf := wIt c3 hf
        refine lv_tableIn (off := 75) (tgt := 78) hx hb dX5_count_3 (by rw [c3]; decide) (by rw [c3]; decide) (by rw [c3]; decide) (by decide) ?_
        refine wald_n hx hb dX5_count_78 rfl (lv_at hl 1 rfl) ?_
        obtain ⟨r4, h5, hf⟩ := wBd_e hf
        refine wci (va_runV (As := []) (rest := []) ⟨hx, hb, hml, hown, hts⟩ (mtX5_power l D K loc sh ln iv rv _ hB h5) (cwV 0 hts gX5_count_X5_power rfl rfl rfl (by decide +kernel) ⟨Nat.le_of_ble_eq_true rfl, Nat.le_of_ble_eq_true rfl⟩) (wPreV hKn hH (hB.1 1 6 (by decide)) (by decide) rfl rfl) rfl rfl hl.1 rfl (lv_room (Nat.le_of_ble_eq_true rfl)) dX5_count_79 ⟨Nat.zero_le _, Nat.zero_le _⟩) hS hO hA (fun H locs hH hS => ?_)
        cases hf
        exact W.iret hx hb hr (fun t ht hW => ⟨⟨_, (), rfl, rfl, by show wH _ _ _ _ _ _ _ t.heap; rw [ht]; exact hH⟩, hS.F ht⟩) hS.2.2 dX5_count_82
      · have hf := wIf c3 hf
        by_cases c6 : a1 = 3
        · have hf := wIt c6 hf
          refine lv_tableIn (off := 80) (tgt := 83) hx hb dX5_count_3 (by rw [c6]; decide) (by rw [c6]; decide) (by rw [c6]; decide) (by decide) ?_
          refine wald_n hx hb dX5_count_83 rfl (lv_at hl 1 rfl) ?_
          refine wg (C := RX5) (T := TX5) (N := 31) (v := .int (iv 1 8)) hx hb hts iX5 hown hKn.1 hH (q := 1) (hB.1 1 6 (by decide)) (by decide) rfl rfl 8 (by decide) k112 rfl dX5_count_84 ?_
          cases hf
          exact W.iret hx hb hr (fun t ht hW => ⟨⟨_, (), rfl, rfl, by show wH _ _ _ _ _ _ _ t.heap; rw [ht]; exact hH⟩, hS.F ht⟩) hS.2.2 dX5_count_87
        · have hf := wIf c6 hf
          by_cases c7 : a1 = 4
          · have hf := wIt c7 hf
            refine lv_tableIn (off := 85) (tgt := 88) hx hb dX5_count_3 (by rw [c7]; decide) (by rw [c7]; decide) (by rw [c7]; decide) (by decide) ?_
            refine wald_n hx hb dX5_count_88 rfl (lv_at hl 1 rfl) ?_
            refine lv_bipush (v := 6) hx hb dX5_count_89 (by decide) ?_
            obtain ⟨r8, h9, hf⟩ := wBd_e hf
            refine wci (va_runV (As := [.int 6]) (rest := []) ⟨hx, hb, hml, hown, hts⟩ (mtX5_countOf l D K loc sh ln iv rv _ 6 hB h9) (cwV 1 hts gX5_count_X5_countOf rfl rfl rfl (by decide +kernel) ⟨Nat.le_of_ble_eq_true rfl, Nat.le_of_ble_eq_true rfl⟩) (wPreV hKn hH (hB.1 1 6 (by decide)) (by decide) rfl rfl) rfl rfl hl.1 rfl (lv_room (Nat.le_of_ble_eq_true rfl)) dX5_count_91 ⟨Nat.zero_le _, Nat.zero_le _⟩) hS hO hA (fun H locs hH hS => ?_)
            cases hf
            exact W.iret hx hb hr (fun t ht hW => ⟨⟨_, (), rfl, rfl, by show wH _ _ _ _ _ _ _ t.heap; rw [ht]; exact hH⟩, hS.F ht⟩) hS.2.2 dX5_count_94
          · have hf := wIf c7 hf
            by_cases c10 : a1 = 5
            · have hf := wIt c10 hf
              refine lv_tableIn (off := 92) (tgt := 95) hx hb dX5_count_3 (by rw [c10]; decide) (by rw [c10]; decide) (by rw [c10]; decide) (by decide) ?_
              refine wald_n hx hb dX5_count_95 rfl (lv_at hl 1 rfl) ?_
              refine lv_iconst (v := 0) hx hb dX5_count_96 (by decide) ?_
              obtain ⟨r11, h12, hf⟩ := wBd_e hf
              refine wci (va_runV (As := [.int 0]) (rest := []) ⟨hx, hb, hml, hown, hts⟩ (mtX5_countOf l D K loc sh ln iv rv _ 0 hB h12) (cwV 1 hts gX5_count_X5_countOf rfl rfl rfl (by decide +kernel) ⟨Nat.le_of_ble_eq_true rfl, Nat.le_of_ble_eq_true rfl⟩) (wPreV hKn hH (hB.1 1 6 (by decide)) (by decide) rfl rfl) rfl rfl hl.1 rfl (lv_room (Nat.le_of_ble_eq_true rfl)) dX5_count_97 ⟨Nat.zero_le _, Nat.zero_le _⟩) hS hO hA (fun H locs hH hS => ?_)
              cases hf
              exact W.iret hx hb hr (fun t ht hW => ⟨⟨_, (), rfl, rfl, by show wH _ _ _ _ _ _ _ t.heap; rw [ht]; exact hH⟩, hS.F ht⟩) hS.2.2 dX5_count_100
            · have hf := wIf c10 hf
              by_cases c13 : a1 = 6
              · have hf := wIt c13 hf
                refine lv_tableIn (off := 98) (tgt := 101) hx hb dX5_count_3 (by rw [c13]; decide) (by rw [c13]; decide) (by rw [c13]; decide) (by decide) ?_
                refine wald_n hx hb dX5_count_101 rfl (lv_at hl 1 rfl) ?_
                refine wg (C := RX5) (T := TX5) (N := 31) (v := wR loc 17) hx hb hts iX5 hown hKn.1 hH (q := 1) (hB.1 1 6 (by decide)) (by decide) rfl rfl 7 (by decide) k20 rfl dX5_count_102 ?_
                refine lv_iconst (v := 0) hx hb dX5_count_105 (by decide) ?_
                obtain ⟨g14, hf⟩ := wGd_e hf
                refine wia hx hb hKn.1 hH (hB.1 17 7 (by decide)) (hB.2.1 17 _ (by decide)) g14 dX5_count_106 ?_
                cases hf
                exact W.iret hx hb hr (fun t ht hW => ⟨⟨_, (), rfl, rfl, by show wH _ _ _ _ _ _ _ t.heap; rw [ht]; exact hH⟩, hS.F ht⟩) hS.2.2 dX5_count_107
              · have hf := wIf c13 hf
                by_cases c15 : a1 = 7
                · have hf := wIt c15 hf
                  refine lv_tableIn (off := 105) (tgt := 108) hx hb dX5_count_3 (by rw [c15]; decide) (by rw [c15]; decide) (by rw [c15]; decide) (by decide) ?_
                  refine wald_n hx hb dX5_count_108 rfl (lv_at hl 1 rfl) ?_
                  refine wg (C := RX5) (T := TX5) (N := 31) (v := wR loc 17) hx hb hts iX5 hown hKn.1 hH (q := 1) (hB.1 1 6 (by decide)) (by decide) rfl rfl 7 (by decide) k20 rfl dX5_count_109 ?_
                  refine lv_iconst (v := 1) hx hb dX5_count_112 (by decide) ?_
                  obtain ⟨g16, hf⟩ := wGd_e hf
                  refine wia hx hb hKn.1 hH (hB.1 17 7 (by decide)) (hB.2.1 17 _ (by decide)) g16 dX5_count_113 ?_
                  cases hf
                  exact W.iret hx hb hr (fun t ht hW => ⟨⟨_, (), rfl, rfl, by show wH _ _ _ _ _ _ _ t.heap; rw [ht]; exact hH⟩, hS.F ht⟩) hS.2.2 dX5_count_114
                · have hf := wIf c15 hf
                  by_cases c17 : a1 = 8
                  · have hf := wIt c17 hf
                    refine lv_tableIn (off := 112) (tgt := 115) hx hb dX5_count_3 (by rw [c17]; decide) (by rw [c17]; decide) (by rw [c17]; decide) (by decide) ?_
                    refine wald_n hx hb dX5_count_115 rfl (lv_at hl 1 rfl) ?_
                    refine wg (C := RX5) (T := TX5) (N := 31) (v := wR loc 17) hx hb hts iX5 hown hKn.1 hH (q := 1) (hB.1 1 6 (by decide)) (by decide) rfl rfl 7 (by decide) k20 rfl dX5_count_116 ?_
                    refine lv_iconst (v := 2) hx hb dX5_count_119 (by decide) ?_
                    obtain ⟨g18, hf⟩ := wGd_e hf
                    refine wia hx hb hKn.1 hH (hB.1 17 7 (by decide)) (hB.2.1 17 _ (by decide)) g18 dX5_count_120 ?_
                    cases hf
                    exact W.iret hx hb hr (fun t ht hW => ⟨⟨_, (), rfl, rfl, by show wH _ _ _ _ _ _ _ t.heap; rw [ht]; exact hH⟩, hS.F ht⟩) hS.2.2 dX5_count_121
                  · have hf := wIf c17 hf
                    by_cases c19 : a1 = 9
                    · have hf := wIt c19 hf
                      refine lv_tableIn (off := 119) (tgt := 122) hx hb dX5_count_3 (by rw [c19]; decide) (by rw [c19]; decide) (by rw [c19]; decide) (by decide) ?_
                      refine wald_n hx hb dX5_count_122 rfl (lv_at hl 1 rfl) ?_
                      refine wg (C := RX5) (T := TX5) (N := 31) (v := .int (iv 1 23)) hx hb hts iX5 hown hKn.1 hH (q := 1) (hB.1 1 6 (by decide)) (by decide) rfl rfl 23 (by decide) k118 rfl dX5_count_123 ?_
                      cases hf
                      exact W.iret hx hb hr (fun t ht hW => ⟨⟨_, (), rfl, rfl, by show wH _ _ _ _ _ _ _ t.heap; rw [ht]; exact hH⟩, hS.F ht⟩) hS.2.2 dX5_count_126
                    · have hf := wIf c19 hf
                      by_cases c20 : a1 = 10
                      · have hf := wIt c20 hf
                        refine lv_tableIn (off := 124) (tgt := 127) hx hb dX5_count_3 (by rw [c20]; decide) (by rw [c20]; decide) (by rw [c20]; decide) (by decide) ?_
                        refine wald_n hx hb dX5_count_127 rfl (lv_at hl 1 rfl) ?_
                        refine wg (C := RX5) (T := TX5) (N := 31) (v := .int (iv 1 24)) hx hb hts iX5 hown hKn.1 hH (q := 1) (hB.1 1 6 (by decide)) (by decide) rfl rfl 24 (by decide) k135 rfl dX5_count_128 ?_
                        cases hf
                        exact W.iret hx hb hr (fun t ht hW => ⟨⟨_, (), rfl, rfl, by show wH _ _ _ _ _ _ _ t.heap; rw [ht]; exact hH⟩, hS.F ht⟩) hS.2.2 dX5_count_131
                      · have hf := wIf c20 hf
                        by_cases c21 : a1 = 11
                        · have hf := wIt c21 hf
                          refine lv_tableIn (off := 129) (tgt := 132) hx hb dX5_count_3 (by rw [c21]; decide) (by rw [c21]; decide) (by rw [c21]; decide) (by decide) ?_
                          refine wald_n hx hb dX5_count_132 rfl (lv_at hl 1 rfl) ?_
                          refine wg (C := RX5) (T := TX5) (N := 31) (v := .int (iv 1 25)) hx hb hts iX5 hown hKn.1 hH (q := 1) (hB.1 1 6 (by decide)) (by decide) rfl rfl 25 (by decide) k65 rfl dX5_count_133 ?_
                          cases hf
                          exact W.iret hx hb hr (fun t ht hW => ⟨⟨_, (), rfl, rfl, by show wH _ _ _ _ _ _ _ t.heap; rw [ht]; exact hH⟩, hS.F ht⟩) hS.2.2 dX5_count_136
                        · have hf := wIf c21 hf
                          by_cases c22 : a1 = 12
                          · have hf := wIt c22 hf
                            refine lv_tableIn (off := 134) (tgt := 137) hx hb dX5_count_3 (by rw [c22]; decide) (by rw [c22]; decide) (by rw [c22]; decide) (by decide) ?_
                            refine lv_iconst (v := 0) hx hb dX5_count_137 (by decide) ?_
                            refine lv_istore_n (lv' := [(3, .int 0), (2, .int 0), (0, wR loc 1), (1, .int a1)]) hx hb dX5_count_138 rfl hl (by decide) rfl (fun ls hl => ?_)
                            obtain ⟨z29, hL26, hf⟩ := wBd_e hf
                            have hk27 : ∀ (H : Heap) (locs : List Loc) (ls : Array Slot), wH D K loc sh ln iv rv H → va_S (wA loc sh s.heap.size) s.heap H locs → lv_has ls 4 [(2, .int z29)] → W p l e (headSpec wsX5_count ({ frames := 2, cells := 0, slots := 0, locals := 45 })).room s m ([wR loc 1, .int a1] : List Value).toArray below meth c H locs 0 0 (MQ below (wQi D K loc sh ln iv rv s.heap.size r') ([wR loc 1, .int a1] : List Value).toArray s 0 0 (wA loc sh s.heap.size)) (F0 m 195 ls []) := by
                              clear hL26 hl hS hH
                              intro H locs ls hH hS hl
                              refine lv_iload_n hx hb dX5_count_195 rfl (lv_at hl 0 rfl) ?_
                              cases hf
                              exact W.iret hx hb hr (fun t ht hW => ⟨⟨_, (), rfl, rfl, by show wH _ _ _ _ _ _ _ t.heap; rw [ht]; exact hH⟩, hS.F ht⟩) hS.2.2 dX5_count_196
                            have lp28 : ∀ (n23 : Nat) (x24 : Int32) (x25 : Int32) (H : Heap) (locs : List Loc) (ls : Array Slot), fX5_count_139 n23 iv x24 x25 = some z29 → wH D K loc sh ln iv rv H → va_S (wA loc sh s.heap.size) s.heap H locs → lv_has ls 4 [(0, wR loc 1), (2, .int x24), (3, .int x25)] → W p l e (headSpec wsX5_count ({ frames := 2, cells := 0, slots := 0, locals := 45 })).room s m ([wR loc 1, .int a1] : List Value).toArray below meth c H locs 0 0 (MQ below (wQi D K loc sh ln iv rv s.heap.size r') ([wR loc 1, .int a1] : List Value).toArray s 0 0 (wA loc sh s.heap.size)) (F0 m 139 ls []) := by
                              clear hf hl hS hH hL26
                              intro n23
                              induction n23 with
                              | zero => intro x24 x25 H locs ls hf; cases hf
                              | succ n23 ih =>
                                intro x24 x25 H locs ls hf hH hS hl
                                rw [fX5_count_139.eq_2] at hf
                                refine lv_iload_n hx hb dX5_count_139 rfl (lv_at hl 2 rfl) ?_
                                refine wald_n hx hb dX5_count_140 rfl (lv_at hl 0 rfl) ?_
                                refine wg (C := RX5) (T := TX5) (N := 31) (v := .int (iv 1 8)) hx hb hts iX5 hown hKn.1 hH (q := 1) (hB.1 1 6 (by decide)) (by decide) rfl rfl 8 (by decide) k112 rfl dX5_count_141 ?_
                                refine lv_icmp_ge (tgt := 195) hx hb dX5_count_144 (by decide) (fun c30 => ?_) (fun c30 => ?_)
                                · have hf := wIt c30 hf
                                  cases hf
                                  exact hk27 _ _ _ hH hS (lv_sub hl [1] rfl)
                                · have hf := wIf c30 hf
                                  refine wald_n hx hb dX5_count_147 rfl (lv_at hl 0 rfl) ?_
                                  refine wg (C := RX5) (T := TX5) (N := 31) (v := wR loc 24) hx hb hts iX5 hown hKn.1 hH (q := 1) (hB.1 1 6 (by decide)) (by decide) rfl rfl 14 (by decide) k38 rfl dX5_count_148 ?_
                                  refine lv_iload_n hx hb dX5_count_151 rfl (lv_at hl 2 rfl) ?_
                                  obtain ⟨g31, hf⟩ := wGd_e hf
                                  refine wia hx hb hKn.1 hH (hB.1 24 7 (by decide)) (hB.2.1 24 _ (by decide)) g31 dX5_count_152 ?_
                                  refine lv_bipush (v := 6) hx hb dX5_count_153 (by decide) ?_
                                  refine lv_icmp_ne (tgt := 189) hx hb dX5_count_155 (by decide) (fun c32 => ?_) (fun c32 => ?_)
                                  · have hf := wIf c32 hf
                                    refine lv_iinc (v := (x25 + 1)) (lv' := [(3, .int (x25 + 1)), (0, wR loc 1), (2, .int x24)]) hx hb dX5_count_189 hl (k := 2) rfl rfl (by decide) rfl (fun ls hl => ?_)
                                    refine lv_goto (tgt := 139) hx hb dX5_count_192 (by decide) ?_
                                    exact ih _ _ _ _ _ hf hH hS (lv_sub hl [1, 2, 0] rfl)
                                  · have hf := wIt c32 hf
                                    refine wald_n hx hb dX5_count_158 rfl (lv_at hl 0 rfl) ?_
                                    refine wg (C := RX5) (T := TX5) (N := 31) (v := wR loc 28) hx hb hts iX5 hown hKn.1 hH (q := 1) (hB.1 1 6 (by decide)) (by decide) rfl rfl 18 (by decide) k50 rfl dX5_count_159 ?_
                                    refine lv_iload_n hx hb dX5_count_162 rfl (lv_at hl 2 rfl) ?_
                                    refine wia hx hb hKn.1 hH (hB.1 28 7 (by decide)) (hB.2.1 28 _ (by decide)) g31 dX5_count_163 ?_
                                    refine wald_n hx hb dX5_count_164 rfl (lv_at hl 0 rfl) ?_
                                    refine wg (C := RX5) (T := TX5) (N := 31) (v := wR loc 23) hx hb hts iX5 hown hKn.1 hH (q := 1) (hB.1 1 6 (by decide)) (by decide) rfl rfl 13 (by decide) k35 rfl dX5_count_165 ?_
                                    refine lv_iload_n hx hb dX5_count_168 rfl (lv_at hl 2 rfl) ?_
                                    refine wia hx hb hKn.1 hH (hB.1 23 7 (by decide)) (hB.2.1 23 _ (by decide)) g31 dX5_count_169 ?_
                                    refine lv_isub hx hb dX5_count_170 ?_
                                    refine lv_iload_n hx hb dX5_count_171 rfl (lv_at hl 1 rfl) ?_
                                    refine lv_icmp_le (tgt := 189) hx hb dX5_count_172 (by decide) (fun c33 => ?_) (fun c33 => ?_)
                                    · have hf := wIt c33 hf
                                      refine lv_iinc (v := (x25 + 1)) (lv' := [(3, .int (x25 + 1)), (0, wR loc 1), (2, .int x24)]) hx hb dX5_count_189 hl (k := 2) rfl rfl (by decide) rfl (fun ls hl => ?_)
                                      refine lv_goto (tgt := 139) hx hb dX5_count_192 (by decide) ?_
                                      exact ih _ _ _ _ _ hf hH hS (lv_sub hl [1, 2, 0] rfl)
                                    · have hf := wIf c33 hf
                                      refine wald_n hx hb dX5_count_175 rfl (lv_at hl 0 rfl) ?_
                                      refine wg (C := RX5) (T := TX5) (N := 31) (v := wR loc 28) hx hb hts iX5 hown hKn.1 hH (q := 1) (hB.1 1 6 (by decide)) (by decide) rfl rfl 18 (by decide) k50 rfl dX5_count_176 ?_
                                      refine lv_iload_n hx hb dX5_count_179 rfl (lv_at hl 2 rfl) ?_
                                      refine wia hx hb hKn.1 hH (hB.1 28 7 (by decide)) (hB.2.1 28 _ (by decide)) g31 dX5_count_180 ?_
                                      refine wald_n hx hb dX5_count_181 rfl (lv_at hl 0 rfl) ?_
                                      refine wg (C := RX5) (T := TX5) (N := 31) (v := wR loc 23) hx hb hts iX5 hown hKn.1 hH (q := 1) (hB.1 1 6 (by decide)) (by decide) rfl rfl 13 (by decide) k35 rfl dX5_count_182 ?_
                                      refine lv_iload_n hx hb dX5_count_185 rfl (lv_at hl 2 rfl) ?_
                                      refine wia hx hb hKn.1 hH (hB.1 23 7 (by decide)) (hB.2.1 23 _ (by decide)) g31 dX5_count_186 ?_
                                      refine lv_isub hx hb dX5_count_187 ?_
                                      obtain ⟨y34, e35, hf⟩ := wLt_e hf
                                      refine wInt e35 ?_
                                      refine lv_istore_n (lv' := [(2, .int y34), (0, wR loc 1), (3, .int x25)]) hx hb dX5_count_188 rfl hl (by decide) rfl (fun ls hl => ?_)
                                      refine lv_iinc (v := (x25 + 1)) (lv' := [(3, .int (x25 + 1)), (2, .int y34), (0, wR loc 1)]) hx hb dX5_count_189 hl (k := 2) rfl rfl (by decide) rfl (fun ls hl => ?_)
                                      refine lv_goto (tgt := 139) hx hb dX5_count_192 (by decide) ?_
                                      exact ih _ _ _ _ _ hf hH hS (lv_sub hl [2, 1, 0] rfl)
                            exact lp28 wN _ _ _ _ _ hL26 hH hS (lv_sub hl [2, 1, 0] rfl)
                          · have hf := wIf c22 hf
                            refine lv_tableOut (tgt := 197) hx hb dX5_count_3 (by have q0 := lv_neT (a := 0) c1 (by decide); have q1 := lv_neT (a := 1) c2 (by decide); have q2 := lv_neT (a := 2) c3 (by decide); have q3 := lv_neT (a := 3) c6 (by decide); have q4 := lv_neT (a := 4) c7 (by decide); have q5 := lv_neT (a := 5) c10 (by decide); have q6 := lv_neT (a := 6) c13 (by decide); have q7 := lv_neT (a := 7) c15 (by decide); have q8 := lv_neT (a := 8) c17 (by decide); have q9 := lv_neT (a := 9) c19 (by decide); have q10 := lv_neT (a := 10) c20 (by decide); have q11 := lv_neT (a := 11) c21 (by decide); have q12 := lv_neT (a := 12) c22 (by decide); omega) (by decide) ?_
                            refine lv_iconst (v := (-1)) hx hb dX5_count_197 (by decide) ?_
                            cases hf
                            exact W.iret hx hb hr (fun t ht hW => ⟨⟨_, (), rfl, rfl, by show wH _ _ _ _ _ _ _ t.heap; rw [ht]; exact hH⟩, hS.F ht⟩) hS.2.2 dX5_count_198
