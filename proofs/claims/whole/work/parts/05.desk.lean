noncomputable def fX4_store (ng : Nat) (sh : Nat → Nat) (iv : wI) (rv : wJ) (a1 : Int32) (a2 : Int32) : Option (wI × Int32) := wBd (fX4_isAmong a1 3) (fun (r1 : Int32) => if r1 = 0 then some (iv, ((-1) : Int32)) else if a2 < 1 then some (iv, ((-1) : Int32)) else if a2 ≤ 10000 then wGd (vp_in a1 3) (if a2 ≤ (100000 - (iv 6 a1.toNatClampNeg)) then wLt (wU iv 6 a1.toNatClampNeg ((iv 6 a1.toNatClampNeg) + a2)) (fun (iv8 : wI) => some (iv8, (iv8 6 a1.toNatClampNeg))) else some (iv, ((-1) : Int32))) else some (iv, ((-1) : Int32)))
set_option maxHeartbeats 4000000 in
set_option maxRecDepth 100000 in
theorem mtX4_store (l : Launch) (D : va_G) (K : Nat → ClassId) (loc sh ln : Nat → Nat) (iv : wI) (rv : wJ) (sz : Nat) (ng : Nat) (a1 : Int32) (a2 : Int32) {iv' : wI} {r' : Int32} (hB : wBx ng sh ln) (hf : fX4_store ng sh iv rv a1 a2 = some (iv', r')) : Met l yX4_store wsX4_store ({ frames := 1, cells := 0, slots := 0, locals := 21 }) (wPc D K loc sh ln iv rv sz [wR loc 1, .int a1, .int a2]) (wQi D K loc sh ln iv' rv sz r') 0 0 (wA loc sh sz) := by
  refine Met.ofW (cc := cX4_store) (maxL := 3) (ret := (some .int)) (by decide) rfl ?_
  intro p e s m args below meth c s₁ B hml hv
  obtain ⟨rfl, hsz, hH, hKn⟩ := hv
  have hx := B.exec
  have hb := B.bytes
  have hr := B.returns
  have hts := atoms_spec (ws := wsX4_store) B.pre
  have hown : s.vm.findClass RX4 = some m.cls := findClass_of_methodNamed B.named
  have hlocks := B.notSynchronized
  subst hsz
  have hA : ∀ q : Nat, s.heap.size ≤ q → wA loc sh s.heap.size q := fun q h => Or.inr h
  have hO : ∀ a, sh a ≠ 0 → wA loc sh s.heap.size (loc a) := fun a h => Or.inl ⟨a, h, rfl⟩
  have hS : va_S (wA loc sh s.heap.size) s.heap s.heap [] := va_S.rf
  obtain ⟨ls, hen, hl⟩ := wEntry m [wR loc 1, .int a1, .int a2] 3 (List.forall_mem_cons.mpr ⟨wR_cat _ _, List.forall_mem_cons.mpr ⟨rfl, List.forall_mem_cons.mpr ⟨rfl, fun _ h => absurd h List.not_mem_nil⟩⟩⟩) (Nat.le_of_ble_eq_true rfl)
  rw [hen]
  clear hen
  have hl : lv_has ls 3 [(0, wR loc 1), (1, .int a1), (2, .int a2)] := hl
  have k32 := hts (.fieldLink RX4 32 "CupByCup" "stores" "[I") (List.mem_of_getElem? (i := 2) rfl)
  have iX4 : ∀ w ∈ wsX40, w ∈ wsX4_store := fun w h => List.mem_cons_of_mem _ (List.mem_append_right _ h)
  unfold fX4_store at hf
  refine lv_iload_n hx hb dX4_store_0 rfl (lv_at hl 1 rfl) ?_
  refine lv_iconst (v := 3) hx hb dX4_store_1 (by decide) ?_
  obtain ⟨r1, h2, hf⟩ := wBd_e hf
  refine wci (va_runS (As := [.int a1, .int 3]) (rest := []) ⟨hx, hb, hml, hown, hts⟩ (mtX4_isAmong l D K loc sh ln iv rv _ ng a1 3 h2) (va_cwS 2 hts gX4_store_X4_isAmong rfl rfl rfl (by decide +kernel) ⟨Nat.le_of_ble_eq_true rfl, Nat.le_of_ble_eq_true rfl⟩) (wPreS hKn hH) rfl rfl hl.1 rfl (lv_room (Nat.le_of_ble_eq_true rfl)) dX4_store_2 ⟨Nat.zero_le _, Nat.zero_le _⟩) hS hO hA (fun H locs hH hS => ?_)
  refine lv_if_eq (tgt := 20) hx hb dX4_store_5 (by decide) (fun c3 => ?_) (fun c3 => ?_)
  · have hf := wIt c3 hf
    refine lv_iconst (v := (-1)) hx hb dX4_store_20 (by decide) ?_
    cases hf
    exact W.iret hx hb hr (fun t ht hW => ⟨⟨_, (), rfl, rfl, by show wH _ _ _ _ _ _ _ t.heap; rw [ht]; exact hH⟩, hS.F ht⟩) hS.2.2 dX4_store_21
  · have hf := wIf c3 hf
    refine lv_iload_n hx hb dX4_store_8 rfl (lv_at hl 2 rfl) ?_
    refine lv_iconst (v := 1) hx hb dX4_store_9 (by decide) ?_
    refine lv_icmp_lt (tgt := 20) hx hb dX4_store_10 (by decide) (fun c4 => ?_) (fun c4 => ?_)
    · have hf := wIt c4 hf
      refine lv_iconst (v := (-1)) hx hb dX4_store_20 (by decide) ?_
      cases hf
      exact W.iret hx hb hr (fun t ht hW => ⟨⟨_, (), rfl, rfl, by show wH _ _ _ _ _ _ _ t.heap; rw [ht]; exact hH⟩, hS.F ht⟩) hS.2.2 dX4_store_21
    · have hf := wIf c4 hf
      refine lv_iload_n hx hb dX4_store_13 rfl (lv_at hl 2 rfl) ?_
      refine lv_sipush (v := 10000) hx hb dX4_store_14 (by decide) ?_
      refine lv_icmp_le (tgt := 22) hx hb dX4_store_17 (by decide) (fun c5 => ?_) (fun c5 => ?_)
      · have hf := wIt c5 hf
        refine lv_iload_n hx hb dX4_store_22 rfl (lv_at hl 2 rfl) ?_
        refine lv_ldc (v := 100000) hx hb hown (hts (.constant RX4 91 (100000)) (List.mem_of_getElem? (i := 1) rfl)) dX4_store_23 ?_
        refine wald_n hx hb dX4_store_25 rfl (lv_at hl 0 rfl) ?_
        refine wg (C := RX4) (T := TX4) (N := 17) (v := wR loc 6) hx hb hts iX4 hown hKn.1 hH (q := 1) (hB.1 1 5 (by decide)) (by decide) rfl rfl 6 (by decide) k32 rfl dX4_store_26 ?_
        refine lv_iload_n hx hb dX4_store_29 rfl (lv_at hl 1 rfl) ?_
        obtain ⟨g6, hf⟩ := wGd_e hf
        refine wia hx hb hKn.1 hH (hB.1 6 7 (by decide)) (hB.2.1 6 _ (by decide)) g6 dX4_store_30 ?_
        refine lv_isub hx hb dX4_store_31 ?_
        refine lv_icmp_le (tgt := 37) hx hb dX4_store_32 (by decide) (fun c7 => ?_) (fun c7 => ?_)
        · have hf := wIt c7 hf
          refine wald_n hx hb dX4_store_37 rfl (lv_at hl 0 rfl) ?_
          refine wg (C := RX4) (T := TX4) (N := 17) (v := wR loc 6) hx hb hts iX4 hown hKn.1 hH (q := 1) (hB.1 1 5 (by decide)) (by decide) rfl rfl 6 (by decide) k32 rfl dX4_store_38 ?_
          refine lv_iload_n hx hb dX4_store_41 rfl (lv_at hl 1 rfl) ?_
          refine lv_dup2_11 hx hb dX4_store_42 rfl (wR_cat _ _) ?_
          refine wia hx hb hKn.1 hH (hB.1 6 7 (by decide)) (hB.2.1 6 _ (by decide)) g6 dX4_store_43 ?_
          refine lv_iload_n hx hb dX4_store_44 rfl (lv_at hl 2 rfl) ?_
          refine lv_iadd hx hb dX4_store_45 ?_
          obtain ⟨iv8, e9, hf⟩ := wLt_e hf
          refine wis hx hb hKn.1 hH hO hS (hB.1 6 7 (by decide)) (hB.2.1 6 _ (by decide)) g6 dX4_store_46 (fun H locs hH hS => ?_)
          rw [← e9] at hH
          refine wald_n hx hb dX4_store_47 rfl (lv_at hl 0 rfl) ?_
          refine wg (C := RX4) (T := TX4) (N := 17) (v := wR loc 6) hx hb hts iX4 hown hKn.1 hH (q := 1) (hB.1 1 5 (by decide)) (by decide) rfl rfl 6 (by decide) k32 rfl dX4_store_48 ?_
          refine lv_iload_n hx hb dX4_store_51 rfl (lv_at hl 1 rfl) ?_
          refine wia hx hb hKn.1 hH (hB.1 6 7 (by decide)) (hB.2.1 6 _ (by decide)) g6 dX4_store_52 ?_
          cases hf
          exact W.iret hx hb hr (fun t ht hW => ⟨⟨_, (), rfl, rfl, by show wH _ _ _ _ _ _ _ t.heap; rw [ht]; exact hH⟩, hS.F ht⟩) hS.2.2 dX4_store_53
        · have hf := wIf c7 hf
          refine lv_iconst (v := (-1)) hx hb dX4_store_35 (by decide) ?_
          cases hf
          exact W.iret hx hb hr (fun t ht hW => ⟨⟨_, (), rfl, rfl, by show wH _ _ _ _ _ _ _ t.heap; rw [ht]; exact hH⟩, hS.F ht⟩) hS.2.2 dX4_store_36
      · have hf := wIf c5 hf
        refine lv_iconst (v := (-1)) hx hb dX4_store_20 (by decide) ?_
        cases hf
        exact W.iret hx hb hr (fun t ht hW => ⟨⟨_, (), rfl, rfl, by show wH _ _ _ _ _ _ _ t.heap; rw [ht]; exact hH⟩, hS.F ht⟩) hS.2.2 dX4_store_21
noncomputable def fX4_turn (ng : Nat) (sh : Nat → Nat) (iv : wI) (rv : wJ) (b1 : Nat) (a2 : Int32) : Option (wI × wJ) := wGd (sh b1 = 1) (wGd (vp_in (iv b1 5) 8) (wLt (wU iv 5 (iv b1 5).toNatClampNeg ((iv 5 (iv b1 5).toNatClampNeg) - 1)) (fun (iv3 : wI) => wLt (wU iv3 b1 5 a2) (fun (iv5 : wI) => wLt (wV rv b1 10 0) (fun (rv7 : wJ) => wGd (vp_in a2 8) (wLt (wU iv5 5 a2.toNatClampNeg ((iv5 5 a2.toNatClampNeg) + 1)) (fun (iv10 : wI) => some (iv10, rv7))))))))
set_option maxHeartbeats 4000000 in
set_option maxRecDepth 100000 in
theorem mtX4_turn (l : Launch) (D : va_G) (K : Nat → ClassId) (loc sh ln : Nat → Nat) (iv : wI) (rv : wJ) (sz : Nat) (ng : Nat) (b1 : Nat) (a2 : Int32) {iv' : wI} {rv' : wJ} (hB : wBx ng sh ln) (hf : fX4_turn ng sh iv rv b1 a2 = some (iv', rv')) : Met l yX4_turn wsX4_turn ({ frames := 0, cells := 0, slots := 0, locals := 0 }) (wPc D K loc sh ln iv rv sz [wR loc 1, wR loc b1, .int a2]) (wQv D K loc sh ln iv' rv' sz) 0 0 (wA loc sh sz) := by
  refine Met.ofW (cc := cX4_turn) (maxL := 3) (ret := none) (by decide) rfl ?_
  intro p e s m args below meth c s₁ B hml hv
  obtain ⟨rfl, hsz, hH, hKn⟩ := hv
  have hx := B.exec
  have hb := B.bytes
  have hr := B.returns
  have hts := atoms_spec (ws := wsX4_turn) B.pre
  have hown : s.vm.findClass RX4 = some m.cls := findClass_of_methodNamed B.named
  have hlocks := B.notSynchronized
  subst hsz
  have hA : ∀ q : Nat, s.heap.size ≤ q → wA loc sh s.heap.size q := fun q h => Or.inr h
  have hO : ∀ a, sh a ≠ 0 → wA loc sh s.heap.size (loc a) := fun a h => Or.inl ⟨a, h, rfl⟩
  have hS : va_S (wA loc sh s.heap.size) s.heap s.heap [] := va_S.rf
  obtain ⟨ls, hen, hl⟩ := wEntry m [wR loc 1, wR loc b1, .int a2] 3 (List.forall_mem_cons.mpr ⟨wR_cat _ _, List.forall_mem_cons.mpr ⟨wR_cat _ _, List.forall_mem_cons.mpr ⟨rfl, fun _ h => absurd h List.not_mem_nil⟩⟩⟩) (Nat.le_of_ble_eq_true rfl)
  rw [hen]
  clear hen
  have hl : lv_has ls 3 [(0, wR loc 1), (1, wR loc b1), (2, .int a2)] := hl
  have k28 := hts (.fieldLink RX4 28 "CupByCup" "cupsThat" "[I") (List.mem_of_getElem? (i := 1) rfl)
  have iX4 : ∀ w ∈ wsX40, w ∈ wsX4_turn := fun w h => List.mem_cons_of_mem _ (List.mem_append_left _ (List.mem_append_right _ h))
  have k95 := hts (.fieldLink RX4 95 "CupByCup$Cup" "state" "I") (List.mem_of_getElem? (i := 2) rfl)
  have iX0 : ∀ w ∈ wsX00, w ∈ wsX4_turn := fun w h => List.mem_cons_of_mem _ (List.mem_append_right _ h)
  have k137 := hts (.fieldLink RX4 137 "CupByCup$Cup" "brewsIn" "LCupByCup$Group;") (List.mem_of_getElem? (i := 3) rfl)
  unfold fX4_turn at hf
  refine wald_n hx hb dX4_turn_0 rfl (lv_at hl 0 rfl) ?_
  refine wg (C := RX4) (T := TX4) (N := 17) (v := wR loc 5) hx hb hts iX4 hown hKn.1 hH (q := 1) (hB.1 1 5 (by decide)) (by decide) rfl rfl 5 (by decide) k28 rfl dX4_turn_1 ?_
  refine wald_n hx hb dX4_turn_4 rfl (lv_at hl 1 rfl) ?_
  obtain ⟨g1, hf⟩ := wGd_e hf
  refine wg (C := RX0) (T := TX0) (N := 11) (v := .int (iv b1 5)) hx hb hts iX0 hown hKn.1 hH (q := b1) g1 (by decide) rfl rfl 5 (by decide) k95 rfl dX4_turn_5 ?_
  refine lv_dup2_11 hx hb dX4_turn_8 rfl (wR_cat _ _) ?_
  obtain ⟨g2, hf⟩ := wGd_e hf
  refine wia hx hb hKn.1 hH (hB.1 5 7 (by decide)) (hB.2.1 5 _ (by decide)) g2 dX4_turn_9 ?_
  refine lv_iconst (v := 1) hx hb dX4_turn_10 (by decide) ?_
  refine lv_isub hx hb dX4_turn_11 ?_
  obtain ⟨iv3, e4, hf⟩ := wLt_e hf
  refine wis hx hb hKn.1 hH hO hS (hB.1 5 7 (by decide)) (hB.2.1 5 _ (by decide)) g2 dX4_turn_12 (fun H locs hH hS => ?_)
  rw [← e4] at hH
  refine wald_n hx hb dX4_turn_13 rfl (lv_at hl 1 rfl) ?_
  refine lv_iload_n hx hb dX4_turn_14 rfl (lv_at hl 2 rfl) ?_
  obtain ⟨iv5, e6, hf⟩ := wLt_e hf
  refine wp (C := RX0) (T := TX0) (N := 11) (v := .int a2) (ty := tyX0 5) (iv' := iv5) (rv' := rv) hx hb hts iX0 tyX0 tyX0_ok nmX0 hown hKn.1 hH hO hS (q := b1) g1 (by decide) rfl rfl 5 (by decide) k95 rfl (tyX0_ok 5 (by decide)) rfl rfl (Nat.le_of_ble_eq_true rfl) (by rw [e6, wU_self]; rfl) (fun a ha => by rw [e6]; exact wU_ne a ha) (fun _ _ => rfl) dX4_turn_15 (fun H locs hH hS => ?_)
  refine wald_n hx hb dX4_turn_18 rfl (lv_at hl 1 rfl) ?_
  refine wnul hx hb loc dX4_turn_19 ?_
  obtain ⟨rv7, e8, hf⟩ := wLt_e hf
  refine wp (C := RX0) (T := TX0) (N := 11) (v := wR loc 0) (ty := tyX0 10) (iv' := iv5) (rv' := rv7) hx hb hts iX0 tyX0 tyX0_ok nmX0 hown hKn.1 hH hO hS (q := b1) g1 (by decide) rfl rfl 10 (by decide) k137 rfl (tyX0_ok 10 (by decide)) (wR_nar _ _ _) (wR_fit _ _ _) (Nat.le_of_ble_eq_true rfl) (by rw [e8, wV_self]; rfl) (fun _ _ => rfl) (fun a ha => by rw [e8]; exact wV_ne a ha) dX4_turn_20 (fun H locs hH hS => ?_)
  refine wald_n hx hb dX4_turn_23 rfl (lv_at hl 0 rfl) ?_
  refine wg (C := RX4) (T := TX4) (N := 17) (v := wR loc 5) hx hb hts iX4 hown hKn.1 hH (q := 1) (hB.1 1 5 (by decide)) (by decide) rfl rfl 5 (by decide) k28 rfl dX4_turn_24 ?_
  refine lv_iload_n hx hb dX4_turn_27 rfl (lv_at hl 2 rfl) ?_
  refine lv_dup2_11 hx hb dX4_turn_28 rfl (wR_cat _ _) ?_
  obtain ⟨g9, hf⟩ := wGd_e hf
  refine wia hx hb hKn.1 hH (hB.1 5 7 (by decide)) (hB.2.1 5 _ (by decide)) g9 dX4_turn_29 ?_
  refine lv_iconst (v := 1) hx hb dX4_turn_30 (by decide) ?_
  refine lv_iadd hx hb dX4_turn_31 ?_
  obtain ⟨iv10, e11, hf⟩ := wLt_e hf
  refine wis hx hb hKn.1 hH hO hS (hB.1 5 7 (by decide)) (hB.2.1 5 _ (by decide)) g9 dX4_turn_32 (fun H locs hH hS => ?_)
  rw [← e11] at hH
  cases hf
  exact W.vret hx hb hr (fun t ht hW => ⟨⟨(), rfl, trivial, by show wH _ _ _ _ _ _ _ t.heap; rw [ht]; exact hH⟩, hS.F ht⟩) hS.2.2 dX4_turn_33
noncomputable def fX4_take (ng : Nat) (sh : Nat → Nat) (iv : wI) (rv : wJ) (a1 : Int32) : Option (wI × wJ × Int32) := wBd (fX4_isAmong a1 (iv 1 4)) (fun (r1 : Int32) => if r1 = 0 then some (iv, rv, (0 : Int32)) else wGd (vp_in a1 100) (wGd (sh (rv 4 a1.toNatClampNeg) = 1) (if (iv (rv 4 a1.toNatClampNeg) 5) = 0 then if (iv (rv 4 a1.toNatClampNeg) 5) = 2 then wGd (sh (rv (rv 4 a1.toNatClampNeg) 1) = 4) (wLt (wU iv 1 14 ((iv 1 14) + (iv (rv (rv 4 a1.toNatClampNeg) 1) 0))) (fun (iv12 : wI) => wB2 (fX4_turn ng sh iv12 rv (rv 4 a1.toNatClampNeg) 7) (fun (iv14 : wI) (rv15 : wJ) => some (iv14, rv15, (1 : Int32))))) else wB2 (fX4_turn ng sh iv rv (rv 4 a1.toNatClampNeg) 7) (fun (iv8 : wI) (rv9 : wJ) => some (iv8, rv9, (1 : Int32))) else if (iv (rv 4 a1.toNatClampNeg) 5) = 2 then if (iv (rv 4 a1.toNatClampNeg) 5) = 2 then wGd (sh (rv (rv 4 a1.toNatClampNeg) 1) = 4) (wLt (wU iv 1 14 ((iv 1 14) + (iv (rv (rv 4 a1.toNatClampNeg) 1) 0))) (fun (iv23 : wI) => wB2 (fX4_turn ng sh iv23 rv (rv 4 a1.toNatClampNeg) 7) (fun (iv25 : wI) (rv26 : wJ) => some (iv25, rv26, (1 : Int32))))) else wB2 (fX4_turn ng sh iv rv (rv 4 a1.toNatClampNeg) 7) (fun (iv19 : wI) (rv20 : wJ) => some (iv19, rv20, (1 : Int32))) else some (iv, rv, (0 : Int32)))))
set_option maxHeartbeats 4000000 in
set_option maxRecDepth 100000 in
theorem mtX4_take (l : Launch) (D : va_G) (K : Nat → ClassId) (loc sh ln : Nat → Nat) (iv : wI) (rv : wJ) (sz : Nat) (ng : Nat) (a1 : Int32) {iv' : wI} {rv' : wJ} {r' : Int32} (hB : wBx ng sh ln) (hf : fX4_take ng sh iv rv a1 = some (iv', rv', r')) : Met l yX4_take wsX4_take ({ frames := 1, cells := 0, slots := 0, locals := 22 }) (wPc D K loc sh ln iv rv sz [wR loc 1, .int a1]) (wQi D K loc sh ln iv' rv' sz r') 0 0 (wA loc sh sz) := by
  refine Met.ofW (cc := cX4_take) (maxL := 3) (ret := (some .boolean)) (by decide) rfl ?_
  intro p e s m args below meth c s₁ B hml hv
  obtain ⟨rfl, hsz, hH, hKn⟩ := hv
  have hx := B.exec
  have hb := B.bytes
  have hr := B.returns
  have hts := atoms_spec (ws := wsX4_take) B.pre
  have hown : s.vm.findClass RX4 = some m.cls := findClass_of_methodNamed B.named
  have hlocks := B.notSynchronized
  subst hsz
  have hA : ∀ q : Nat, s.heap.size ≤ q → wA loc sh s.heap.size q := fun q h => Or.inr h
  have hO : ∀ a, sh a ≠ 0 → wA loc sh s.heap.size (loc a) := fun a h => Or.inl ⟨a, h, rfl⟩
  have hS : va_S (wA loc sh s.heap.size) s.heap s.heap [] := va_S.rf
  obtain ⟨ls, hen, hl⟩ := wEntry m [wR loc 1, .int a1] 3 (List.forall_mem_cons.mpr ⟨wR_cat _ _, List.forall_mem_cons.mpr ⟨rfl, fun _ h => absurd h List.not_mem_nil⟩⟩) (Nat.le_of_ble_eq_true rfl)
  rw [hen]
  clear hen
  have hl : lv_has ls 3 [(0, wR loc 1), (1, .int a1)] := hl
  have k25 := hts (.fieldLink RX4 25 "CupByCup" "cupCount" "I") (List.mem_of_getElem? (i := 1) rfl)
  have iX4 : ∀ w ∈ wsX40, w ∈ wsX4_take := fun w h => List.mem_cons_of_mem _ (List.mem_append_left _ (List.mem_append_left _ (List.mem_append_right _ h)))
  have k21 := hts (.fieldLink RX4 21 "CupByCup" "cups" "[LCupByCup$Cup;") (List.mem_of_getElem? (i := 2) rfl)
  have k95 := hts (.fieldLink RX4 95 "CupByCup$Cup" "state" "I") (List.mem_of_getElem? (i := 3) rfl)
  have iX0 : ∀ w ∈ wsX00, w ∈ wsX4_take := fun w h => List.mem_cons_of_mem _ (List.mem_append_left _ (List.mem_append_right _ h))
  have k51 := hts (.fieldLink RX4 51 "CupByCup" "beansSpoilt" "I") (List.mem_of_getElem? (i := 4) rfl)
  have k98 := hts (.fieldLink RX4 98 "CupByCup$Cup" "recipe" "LCupByCup$Recipe;") (List.mem_of_getElem? (i := 5) rfl)
  have k102 := hts (.fieldLink RX4 102 "CupByCup$Recipe" "beans" "I") (List.mem_of_getElem? (i := 6) rfl)
  have iX3 : ∀ w ∈ wsX30, w ∈ wsX4_take := fun w h => List.mem_cons_of_mem _ (List.mem_append_right _ h)
  unfold fX4_take at hf
  refine lv_iload_n hx hb dX4_take_0 rfl (lv_at hl 1 rfl) ?_
  refine wald_n hx hb dX4_take_1 rfl (lv_at hl 0 rfl) ?_
  refine wg (C := RX4) (T := TX4) (N := 17) (v := .int (iv 1 4)) hx hb hts iX4 hown hKn.1 hH (q := 1) (hB.1 1 5 (by decide)) (by decide) rfl rfl 4 (by decide) k25 rfl dX4_take_2 ?_
  obtain ⟨r1, h2, hf⟩ := wBd_e hf
  refine wci (va_runS (As := [.int a1, .int (iv 1 4)]) (rest := []) ⟨hx, hb, hml, hown, hts⟩ (mtX4_isAmong l D K loc sh ln iv rv _ ng a1 (iv 1 4) h2) (va_cwS 2 hts gX4_take_X4_isAmong rfl rfl rfl (by decide +kernel) ⟨Nat.le_of_ble_eq_true rfl, Nat.le_of_ble_eq_true rfl⟩) (wPreS hKn hH) rfl rfl hl.1 rfl (lv_room (Nat.le_of_ble_eq_true rfl)) dX4_take_5 ⟨Nat.zero_le _, Nat.zero_le _⟩) hS hO hA (fun H locs hH hS => ?_)
  refine lv_if_ne (tgt := 13) hx hb dX4_take_8 (by decide) (fun c3 => ?_) (fun c3 => ?_)
  · have hf := wIf c3 hf
    refine wald_n hx hb dX4_take_13 rfl (lv_at hl 0 rfl) ?_
    refine wg (C := RX4) (T := TX4) (N := 17) (v := wR loc 4) hx hb hts iX4 hown hKn.1 hH (q := 1) (hB.1 1 5 (by decide)) (by decide) rfl rfl 3 (by decide) k21 rfl dX4_take_14 ?_
    refine lv_iload_n hx hb dX4_take_17 rfl (lv_at hl 1 rfl) ?_
    obtain ⟨g4, hf⟩ := wGd_e hf
    refine waa (kd := 9) (ki := 2) hx hb hKn.1 hH (hB.1 4 9 (by decide)) (by decide) rfl rfl (hB.2.1 4 _ (by decide)) g4 dX4_take_18 ?_
    refine wast_n (lv' := [(2, wR loc (rv 4 a1.toNatClampNeg)), (0, wR loc 1), (1, .int a1)]) hx hb dX4_take_19 rfl hl (by decide) rfl (fun ls hl => ?_)
    refine wald_n hx hb dX4_take_20 rfl (lv_at hl 0 rfl) ?_
    obtain ⟨g5, hf⟩ := wGd_e hf
    refine wg (C := RX0) (T := TX0) (N := 11) (v := .int (iv (rv 4 a1.toNatClampNeg) 5)) hx hb hts iX0 hown hKn.1 hH (q := (rv 4 a1.toNatClampNeg)) g5 (by decide) rfl rfl 5 (by decide) k95 rfl dX4_take_21 ?_
    refine lv_if_eq (tgt := 37) hx hb dX4_take_24 (by decide) (fun c6 => ?_) (fun c6 => ?_)
    · have hf := wIt c6 hf
      refine wald_n hx hb dX4_take_37 rfl (lv_at hl 0 rfl) ?_
      refine wg (C := RX0) (T := TX0) (N := 11) (v := .int (iv (rv 4 a1.toNatClampNeg) 5)) hx hb hts iX0 hown hKn.1 hH (q := (rv 4 a1.toNatClampNeg)) g5 (by decide) rfl rfl 5 (by decide) k95 rfl dX4_take_38 ?_
      refine lv_iconst (v := 2) hx hb dX4_take_41 (by decide) ?_
      refine lv_icmp_ne (tgt := 61) hx hb dX4_take_42 (by decide) (fun c7 => ?_) (fun c7 => ?_)
      · have hf := wIf c7 hf
        refine wald_n hx hb dX4_take_61 rfl (lv_at hl 1 rfl) ?_
        refine wald_n hx hb dX4_take_62 rfl (lv_at hl 0 rfl) ?_
        refine lv_bipush (v := 7) hx hb dX4_take_63 (by decide) ?_
        obtain ⟨iv8, rv9, h10, hf⟩ := wB2_e hf
        refine wcv (va_runV (As := [wR loc (rv 4 a1.toNatClampNeg), .int 7]) (rest := []) ⟨hx, hb, hml, hown, hts⟩ (mtX4_turn l D K loc sh ln iv rv _ ng (rv 4 a1.toNatClampNeg) 7 hB h10) (cwV 2 hts gX4_take_X4_turn rfl rfl rfl (by decide +kernel) ⟨Nat.le_of_ble_eq_true rfl, Nat.le_of_ble_eq_true rfl⟩) (wPreV hKn hH (hB.1 1 5 (by decide)) (by decide) rfl rfl) rfl rfl hl.1 rfl (lv_room (Nat.le_of_ble_eq_true rfl)) dX4_take_65 ⟨Nat.zero_le _, Nat.zero_le _⟩) hS hO hA (fun H locs hH hS => ?_)
        refine lv_iconst (v := 1) hx hb dX4_take_68 (by decide) ?_
        cases hf
        exact W.zret hx hb hr rfl (fun t ht hW => ⟨⟨_, (), rfl, rfl, by show wH _ _ _ _ _ _ _ t.heap; rw [ht]; exact hH⟩, hS.F ht⟩) hS.2.2 dX4_take_69
      · have hf := wIt c7 hf
        refine wald_n hx hb dX4_take_45 rfl (lv_at hl 1 rfl) ?_
        refine lv_dup hx hb dX4_take_46 (wR_cat _ _) ?_
        refine wg (C := RX4) (T := TX4) (N := 17) (v := .int (iv 1 14)) hx hb hts iX4 hown hKn.1 hH (q := 1) (hB.1 1 5 (by decide)) (by decide) rfl rfl 14 (by decide) k51 rfl dX4_take_47 ?_
        refine wald_n hx hb dX4_take_50 rfl (lv_at hl 0 rfl) ?_
        refine wg (C := RX0) (T := TX0) (N := 11) (v := wR loc (rv (rv 4 a1.toNatClampNeg) 1)) hx hb hts iX0 hown hKn.1 hH (q := (rv 4 a1.toNatClampNeg)) g5 (by decide) rfl rfl 1 (by decide) k98 rfl dX4_take_51 ?_
        obtain ⟨g11, hf⟩ := wGd_e hf
        refine wg (C := RX3) (T := TX3) (N := 6) (v := .int (iv (rv (rv 4 a1.toNatClampNeg) 1) 0)) hx hb hts iX3 hown hKn.1 hH (q := (rv (rv 4 a1.toNatClampNeg) 1)) g11 (by decide) rfl rfl 0 (by decide) k102 rfl dX4_take_54 ?_
        refine lv_iadd hx hb dX4_take_57 ?_
        obtain ⟨iv12, e13, hf⟩ := wLt_e hf
        refine wp (C := RX4) (T := TX4) (N := 17) (v := .int ((iv 1 14) + (iv (rv (rv 4 a1.toNatClampNeg) 1) 0))) (ty := tyX4 14) (iv' := iv12) (rv' := rv) hx hb hts iX4 tyX4 tyX4_ok nmX4 hown hKn.1 hH hO hS (q := 1) (hB.1 1 5 (by decide)) (by decide) rfl rfl 14 (by decide) k51 rfl (tyX4_ok 14 (by decide)) rfl rfl (Nat.le_of_ble_eq_true rfl) (by rw [e13, wU_self]; rfl) (fun a ha => by rw [e13]; exact wU_ne a ha) (fun _ _ => rfl) dX4_take_58 (fun H locs hH hS => ?_)
        refine wald_n hx hb dX4_take_61 rfl (lv_at hl 1 rfl) ?_
        refine wald_n hx hb dX4_take_62 rfl (lv_at hl 0 rfl) ?_
        refine lv_bipush (v := 7) hx hb dX4_take_63 (by decide) ?_
        obtain ⟨iv14, rv15, h16, hf⟩ := wB2_e hf
        refine wcv (va_runV (As := [wR loc (rv 4 a1.toNatClampNeg), .int 7]) (rest := []) ⟨hx, hb, hml, hown, hts⟩ (mtX4_turn l D K loc sh ln iv12 rv _ ng (rv 4 a1.toNatClampNeg) 7 hB h16) (cwV 2 hts gX4_take_X4_turn rfl rfl rfl (by decide +kernel) ⟨Nat.le_of_ble_eq_true rfl, Nat.le_of_ble_eq_true rfl⟩) (wPreV hKn hH (hB.1 1 5 (by decide)) (by decide) rfl rfl) rfl rfl hl.1 rfl (lv_room (Nat.le_of_ble_eq_true rfl)) dX4_take_65 ⟨Nat.zero_le _, Nat.zero_le _⟩) hS hO hA (fun H locs hH hS => ?_)
        refine lv_iconst (v := 1) hx hb dX4_take_68 (by decide) ?_
        cases hf
        exact W.zret hx hb hr rfl (fun t ht hW => ⟨⟨_, (), rfl, rfl, by show wH _ _ _ _ _ _ _ t.heap; rw [ht]; exact hH⟩, hS.F ht⟩) hS.2.2 dX4_take_69
    · have hf := wIf c6 hf
      refine wald_n hx hb dX4_take_27 rfl (lv_at hl 0 rfl) ?_
      refine wg (C := RX0) (T := TX0) (N := 11) (v := .int (iv (rv 4 a1.toNatClampNeg) 5)) hx hb hts iX0 hown hKn.1 hH (q := (rv 4 a1.toNatClampNeg)) g5 (by decide) rfl rfl 5 (by decide) k95 rfl dX4_take_28 ?_
      refine lv_iconst (v := 2) hx hb dX4_take_31 (by decide) ?_
      refine lv_icmp_eq (tgt := 37) hx hb dX4_take_32 (by decide) (fun c17 => ?_) (fun c17 => ?_)
      · have hf := wIt c17 hf
        refine wald_n hx hb dX4_take_37 rfl (lv_at hl 0 rfl) ?_
        refine wg (C := RX0) (T := TX0) (N := 11) (v := .int (iv (rv 4 a1.toNatClampNeg) 5)) hx hb hts iX0 hown hKn.1 hH (q := (rv 4 a1.toNatClampNeg)) g5 (by decide) rfl rfl 5 (by decide) k95 rfl dX4_take_38 ?_
        refine lv_iconst (v := 2) hx hb dX4_take_41 (by decide) ?_
        refine lv_icmp_ne (tgt := 61) hx hb dX4_take_42 (by decide) (fun c18 => ?_) (fun c18 => ?_)
        · have hf := wIf c18 hf
          refine wald_n hx hb dX4_take_61 rfl (lv_at hl 1 rfl) ?_
          refine wald_n hx hb dX4_take_62 rfl (lv_at hl 0 rfl) ?_
          refine lv_bipush (v := 7) hx hb dX4_take_63 (by decide) ?_
          obtain ⟨iv19, rv20, h21, hf⟩ := wB2_e hf
          refine wcv (va_runV (As := [wR loc (rv 4 a1.toNatClampNeg), .int 7]) (rest := []) ⟨hx, hb, hml, hown, hts⟩ (mtX4_turn l D K loc sh ln iv rv _ ng (rv 4 a1.toNatClampNeg) 7 hB h21) (cwV 2 hts gX4_take_X4_turn rfl rfl rfl (by decide +kernel) ⟨Nat.le_of_ble_eq_true rfl, Nat.le_of_ble_eq_true rfl⟩) (wPreV hKn hH (hB.1 1 5 (by decide)) (by decide) rfl rfl) rfl rfl hl.1 rfl (lv_room (Nat.le_of_ble_eq_true rfl)) dX4_take_65 ⟨Nat.zero_le _, Nat.zero_le _⟩) hS hO hA (fun H locs hH hS => ?_)
          refine lv_iconst (v := 1) hx hb dX4_take_68 (by decide) ?_
          cases hf
          exact W.zret hx hb hr rfl (fun t ht hW => ⟨⟨_, (), rfl, rfl, by show wH _ _ _ _ _ _ _ t.heap; rw [ht]; exact hH⟩, hS.F ht⟩) hS.2.2 dX4_take_69
        · have hf := wIt c18 hf
          refine wald_n hx hb dX4_take_45 rfl (lv_at hl 1 rfl) ?_
          refine lv_dup hx hb dX4_take_46 (wR_cat _ _) ?_
          refine wg (C := RX4) (T := TX4) (N := 17) (v := .int (iv 1 14)) hx hb hts iX4 hown hKn.1 hH (q := 1) (hB.1 1 5 (by decide)) (by decide) rfl rfl 14 (by decide) k51 rfl dX4_take_47 ?_
          refine wald_n hx hb dX4_take_50 rfl (lv_at hl 0 rfl) ?_
          refine wg (C := RX0) (T := TX0) (N := 11) (v := wR loc (rv (rv 4 a1.toNatClampNeg) 1)) hx hb hts iX0 hown hKn.1 hH (q := (rv 4 a1.toNatClampNeg)) g5 (by decide) rfl rfl 1 (by decide) k98 rfl dX4_take_51 ?_
          obtain ⟨g22, hf⟩ := wGd_e hf
          refine wg (C := RX3) (T := TX3) (N := 6) (v := .int (iv (rv (rv 4 a1.toNatClampNeg) 1) 0)) hx hb hts iX3 hown hKn.1 hH (q := (rv (rv 4 a1.toNatClampNeg) 1)) g22 (by decide) rfl rfl 0 (by decide) k102 rfl dX4_take_54 ?_
          refine lv_iadd hx hb dX4_take_57 ?_
          obtain ⟨iv23, e24, hf⟩ := wLt_e hf
          refine wp (C := RX4) (T := TX4) (N := 17) (v := .int ((iv 1 14) + (iv (rv (rv 4 a1.toNatClampNeg) 1) 0))) (ty := tyX4 14) (iv' := iv23) (rv' := rv) hx hb hts iX4 tyX4 tyX4_ok nmX4 hown hKn.1 hH hO hS (q := 1) (hB.1 1 5 (by decide)) (by decide) rfl rfl 14 (by decide) k51 rfl (tyX4_ok 14 (by decide)) rfl rfl (Nat.le_of_ble_eq_true rfl) (by rw [e24, wU_self]; rfl) (fun a ha => by rw [e24]; exact wU_ne a ha) (fun _ _ => rfl) dX4_take_58 (fun H locs hH hS => ?_)
          refine wald_n hx hb dX4_take_61 rfl (lv_at hl 1 rfl) ?_
          refine wald_n hx hb dX4_take_62 rfl (lv_at hl 0 rfl) ?_
          refine lv_bipush (v := 7) hx hb dX4_take_63 (by decide) ?_
          obtain ⟨iv25, rv26, h27, hf⟩ := wB2_e hf
          refine wcv (va_runV (As := [wR loc (rv 4 a1.toNatClampNeg), .int 7]) (rest := []) ⟨hx, hb, hml, hown, hts⟩ (mtX4_turn l D K loc sh ln iv23 rv _ ng (rv 4 a1.toNatClampNeg) 7 hB h27) (cwV 2 hts gX4_take_X4_turn rfl rfl rfl (by decide +kernel) ⟨Nat.le_of_ble_eq_true rfl, Nat.le_of_ble_eq_true rfl⟩) (wPreV hKn hH (hB.1 1 5 (by decide)) (by decide) rfl rfl) rfl rfl hl.1 rfl (lv_room (Nat.le_of_ble_eq_true rfl)) dX4_take_65 ⟨Nat.zero_le _, Nat.zero_le _⟩) hS hO hA (fun H locs hH hS => ?_)
          refine lv_iconst (v := 1) hx hb dX4_take_68 (by decide) ?_
          cases hf
          exact W.zret hx hb hr rfl (fun t ht hW => ⟨⟨_, (), rfl, rfl, by show wH _ _ _ _ _ _ _ t.heap; rw [ht]; exact hH⟩, hS.F ht⟩) hS.2.2 dX4_take_69
      · have hf := wIf c17 hf
        refine lv_iconst (v := 0) hx hb dX4_take_35 (by decide) ?_
        cases hf
        exact W.zret hx hb hr rfl (fun t ht hW => ⟨⟨_, (), rfl, rfl, by show wH _ _ _ _ _ _ _ t.heap; rw [ht]; exact hH⟩, hS.F ht⟩) hS.2.2 dX4_take_36
  · have hf := wIt c3 hf
    refine lv_iconst (v := 0) hx hb dX4_take_11 (by decide) ?_
    cases hf
    exact W.zret hx hb hr rfl (fun t ht hW => ⟨⟨_, (), rfl, rfl, by show wH _ _ _ _ _ _ _ t.heap; rw [ht]; exact hH⟩, hS.F ht⟩) hS.2.2 dX4_take_12
noncomputable def fX4_endGrinding (ng : Nat) (sh : Nat → Nat) (iv : wI) (rv : wJ) : Option (wI × wJ) := if (rv 1 8) = 0 then some (iv, rv) else wGd (sh (rv 1 8) = 1) (wLt (wU iv (rv 1 8) 7 ((iv (rv 1 8) 7) - 1)) (fun (iv3 : wI) => if 0 < (iv3 (rv 1 8) 7) then some (iv3, rv) else wLt (wV rv 1 8 0) (fun (rv6 : wJ) => wLt (wU iv3 (rv 1 8) 8 (iv3 1 12)) (fun (iv8 : wI) => wB2 (fX4_turn ng sh iv8 rv6 (rv 1 8) 2) (fun (iv10 : wI) (rv11 : wJ) => some (iv10, rv11))))))
set_option maxHeartbeats 4000000 in
set_option maxRecDepth 100000 in
theorem mtX4_endGrinding (l : Launch) (D : va_G) (K : Nat → ClassId) (loc sh ln : Nat → Nat) (iv : wI) (rv : wJ) (sz : Nat) (ng : Nat) {iv' : wI} {rv' : wJ} (hB : wBx ng sh ln) (hf : fX4_endGrinding ng sh iv rv = some (iv', rv')) : Met l yX4_endGrinding wsX4_endGrinding ({ frames := 1, cells := 0, slots := 0, locals := 22 }) (wPc D K loc sh ln iv rv sz [wR loc 1]) (wQv D K loc sh ln iv' rv' sz) 0 0 (wA loc sh sz) := by
  refine Met.ofW (cc := cX4_endGrinding) (maxL := 2) (ret := none) (by decide) rfl ?_
  intro p e s m args below meth c s₁ B hml hv
  obtain ⟨rfl, hsz, hH, hKn⟩ := hv
  have hx := B.exec
  have hb := B.bytes
  have hr := B.returns
  have hts := atoms_spec (ws := wsX4_endGrinding) B.pre
  have hown : s.vm.findClass RX4 = some m.cls := findClass_of_methodNamed B.named
  have hlocks := B.notSynchronized
  subst hsz
  have hA : ∀ q : Nat, s.heap.size ≤ q → wA loc sh s.heap.size q := fun q h => Or.inr h
  have hO : ∀ a, sh a ≠ 0 → wA loc sh s.heap.size (loc a) := fun a h => Or.inl ⟨a, h, rfl⟩
  have hS : va_S (wA loc sh s.heap.size) s.heap s.heap [] := va_S.rf
  obtain ⟨ls, hen, hl⟩ := wEntry m [wR loc 1] 2 (List.forall_mem_cons.mpr ⟨wR_cat _ _, fun _ h => absurd h List.not_mem_nil⟩) (Nat.le_of_ble_eq_true rfl)
  rw [hen]
  clear hen
  have hl : lv_has ls 2 [(0, wR loc 1)] := hl
  have k35 := hts (.fieldLink RX4 35 "CupByCup" "inGrinder" "LCupByCup$Cup;") (List.mem_of_getElem? (i := 1) rfl)
  have iX4 : ∀ w ∈ wsX40, w ∈ wsX4_endGrinding := fun w h => List.mem_cons_of_mem _ (List.mem_append_left _ (List.mem_append_right _ h))
  have k217 := hts (.fieldLink RX4 217 "CupByCup$Cup" "toGo" "I") (List.mem_of_getElem? (i := 2) rfl)
  have iX0 : ∀ w ∈ wsX00, w ∈ wsX4_endGrinding := fun w h => List.mem_cons_of_mem _ (List.mem_append_right _ h)
  have k45 := hts (.fieldLink RX4 45 "CupByCup" "now" "I") (List.mem_of_getElem? (i := 3) rfl)
  have k218 := hts (.fieldLink RX4 218 "CupByCup$Cup" "liesSince" "I") (List.mem_of_getElem? (i := 4) rfl)
  unfold fX4_endGrinding at hf
  refine wald_n hx hb dX4_endGrinding_0 rfl (lv_at hl 0 rfl) ?_
  refine wg (C := RX4) (T := TX4) (N := 17) (v := wR loc (rv 1 8)) hx hb hts iX4 hown hKn.1 hH (q := 1) (hB.1 1 5 (by decide)) (by decide) rfl rfl 8 (by decide) k35 rfl dX4_endGrinding_1 ?_
  refine wast_n (lv' := [(1, wR loc (rv 1 8)), (0, wR loc 1)]) hx hb dX4_endGrinding_4 rfl hl (by decide) rfl (fun ls hl => ?_)
  refine wald_n hx hb dX4_endGrinding_5 rfl (lv_at hl 0 rfl) ?_
  refine wifnon (tgt := 10) hx hb dX4_endGrinding_6 (by decide) (fun c1 => ?_) (fun c1 => ?_)
  · have hf := wIf c1 hf
    refine wald_n hx hb dX4_endGrinding_10 rfl (lv_at hl 0 rfl) ?_
    refine lv_dup hx hb dX4_endGrinding_11 (wR_cat _ _) ?_
    obtain ⟨g2, hf⟩ := wGd_e hf
    refine wg (C := RX0) (T := TX0) (N := 11) (v := .int (iv (rv 1 8) 7)) hx hb hts iX0 hown hKn.1 hH (q := (rv 1 8)) g2 (by decide) rfl rfl 7 (by decide) k217 rfl dX4_endGrinding_12 ?_
    refine lv_iconst (v := 1) hx hb dX4_endGrinding_15 (by decide) ?_
    refine lv_isub hx hb dX4_endGrinding_16 ?_
    obtain ⟨iv3, e4, hf⟩ := wLt_e hf
    refine wp (C := RX0) (T := TX0) (N := 11) (v := .int ((iv (rv 1 8) 7) - 1)) (ty := tyX0 7) (iv' := iv3) (rv' := rv) hx hb hts iX0 tyX0 tyX0_ok nmX0 hown hKn.1 hH hO hS (q := (rv 1 8)) g2 (by decide) rfl rfl 7 (by decide) k217 rfl (tyX0_ok 7 (by decide)) rfl rfl (Nat.le_of_ble_eq_true rfl) (by rw [e4, wU_self]; rfl) (fun a ha => by rw [e4]; exact wU_ne a ha) (fun _ _ => rfl) dX4_endGrinding_17 (fun H locs hH hS => ?_)
    refine wald_n hx hb dX4_endGrinding_20 rfl (lv_at hl 0 rfl) ?_
    refine wg (C := RX0) (T := TX0) (N := 11) (v := .int (iv3 (rv 1 8) 7)) hx hb hts iX0 hown hKn.1 hH (q := (rv 1 8)) g2 (by decide) rfl rfl 7 (by decide) k217 rfl dX4_endGrinding_21 ?_
    refine lv_if_gt (tgt := 46) hx hb dX4_endGrinding_24 (by decide) (fun c5 => ?_) (fun c5 => ?_)
    · have hf := wIt c5 hf
      cases hf
      exact W.vret hx hb hr (fun t ht hW => ⟨⟨(), rfl, trivial, by show wH _ _ _ _ _ _ _ t.heap; rw [ht]; exact hH⟩, hS.F ht⟩) hS.2.2 dX4_endGrinding_46
    · have hf := wIf c5 hf
      refine wald_n hx hb dX4_endGrinding_27 rfl (lv_at hl 1 rfl) ?_
      refine wnul hx hb loc dX4_endGrinding_28 ?_
      obtain ⟨rv6, e7, hf⟩ := wLt_e hf
      refine wp (C := RX4) (T := TX4) (N := 17) (v := wR loc 0) (ty := tyX4 8) (iv' := iv3) (rv' := rv6) hx hb hts iX4 tyX4 tyX4_ok nmX4 hown hKn.1 hH hO hS (q := 1) (hB.1 1 5 (by decide)) (by decide) rfl rfl 8 (by decide) k35 rfl (tyX4_ok 8 (by decide)) (wR_nar _ _ _) (wR_fit _ _ _) (Nat.le_of_ble_eq_true rfl) (by rw [e7, wV_self]; rfl) (fun _ _ => rfl) (fun a ha => by rw [e7]; exact wV_ne a ha) dX4_endGrinding_29 (fun H locs hH hS => ?_)
      refine wald_n hx hb dX4_endGrinding_32 rfl (lv_at hl 0 rfl) ?_
      refine wald_n hx hb dX4_endGrinding_33 rfl (lv_at hl 1 rfl) ?_
      refine wg (C := RX4) (T := TX4) (N := 17) (v := .int (iv3 1 12)) hx hb hts iX4 hown hKn.1 hH (q := 1) (hB.1 1 5 (by decide)) (by decide) rfl rfl 12 (by decide) k45 rfl dX4_endGrinding_34 ?_
      obtain ⟨iv8, e9, hf⟩ := wLt_e hf
      refine wp (C := RX0) (T := TX0) (N := 11) (v := .int (iv3 1 12)) (ty := tyX0 8) (iv' := iv8) (rv' := rv6) hx hb hts iX0 tyX0 tyX0_ok nmX0 hown hKn.1 hH hO hS (q := (rv 1 8)) g2 (by decide) rfl rfl 8 (by decide) k218 rfl (tyX0_ok 8 (by decide)) rfl rfl (Nat.le_of_ble_eq_true rfl) (by rw [e9, wU_self]; rfl) (fun a ha => by rw [e9]; exact wU_ne a ha) (fun _ _ => rfl) dX4_endGrinding_37 (fun H locs hH hS => ?_)
      refine wald_n hx hb dX4_endGrinding_40 rfl (lv_at hl 1 rfl) ?_
      refine wald_n hx hb dX4_endGrinding_41 rfl (lv_at hl 0 rfl) ?_
      refine lv_iconst (v := 2) hx hb dX4_endGrinding_42 (by decide) ?_
      obtain ⟨iv10, rv11, h12, hf⟩ := wB2_e hf
      refine wcv (va_runV (As := [wR loc (rv 1 8), .int 2]) (rest := []) ⟨hx, hb, hml, hown, hts⟩ (mtX4_turn l D K loc sh ln iv8 rv6 _ ng (rv 1 8) 2 hB h12) (cwV 2 hts gX4_endGrinding_X4_turn rfl rfl rfl (by decide +kernel) ⟨Nat.le_of_ble_eq_true rfl, Nat.le_of_ble_eq_true rfl⟩) (wPreV hKn hH (hB.1 1 5 (by decide)) (by decide) rfl rfl) rfl rfl hl.1 rfl (lv_room (Nat.le_of_ble_eq_true rfl)) dX4_endGrinding_43 ⟨Nat.zero_le _, Nat.zero_le _⟩) hS hO hA (fun H locs hH hS => ?_)
      cases hf
      exact W.vret hx hb hr (fun t ht hW => ⟨⟨(), rfl, trivial, by show wH _ _ _ _ _ _ _ t.heap; rw [ht]; exact hH⟩, hS.F ht⟩) hS.2.2 dX4_endGrinding_46
  · have hf := wIt c1 hf
    cases hf
    exact W.vret hx hb hr (fun t ht hW => ⟨⟨(), rfl, trivial, by show wH _ _ _ _ _ _ _ t.heap; rw [ht]; exact hH⟩, hS.F ht⟩) hS.2.2 dX4_endGrinding_9
noncomputable def fX4_finish (ng : Nat) (sh : Nat → Nat) (iv : wI) (rv : wJ) (b1 : Nat) : Option (wI × wJ) := wB2 (fX4_turn ng sh iv rv b1 6) (fun (iv1 : wI) (rv2 : wJ) => wGd (sh b1 = 1) (wLt (wU iv1 b1 6 (iv1 1 12)) (fun (iv5 : wI) => wLt (wU iv5 1 16 (if (iv5 1 16) < ((iv5 1 12) - (iv5 b1 4)) then ((iv5 1 12) - (iv5 b1 4)) else (iv5 1 16))) (fun (iv7 : wI) => some (iv7, rv2)))))
set_option maxHeartbeats 4000000 in
set_option maxRecDepth 100000 in
theorem mtX4_finish (l : Launch) (D : va_G) (K : Nat → ClassId) (loc sh ln : Nat → Nat) (iv : wI) (rv : wJ) (sz : Nat) (ng : Nat) (b1 : Nat) {iv' : wI} {rv' : wJ} (hB : wBx ng sh ln) (hf : fX4_finish ng sh iv rv b1 = some (iv', rv')) : Met l yX4_finish wsX4_finish ({ frames := 1, cells := 0, slots := 0, locals := 22 }) (wPc D K loc sh ln iv rv sz [wR loc 1, wR loc b1]) (wQv D K loc sh ln iv' rv' sz) 0 0 (wA loc sh sz) := by
  refine Met.ofW (cc := cX4_finish) (maxL := 2) (ret := none) (by decide) rfl ?_
  intro p e s m args below meth c s₁ B hml hv
  obtain ⟨rfl, hsz, hH, hKn⟩ := hv
  have hx := B.exec
  have hb := B.bytes
  have hr := B.returns
  have hts := atoms_spec (ws := wsX4_finish) B.pre
  have hown : s.vm.findClass RX4 = some m.cls := findClass_of_methodNamed B.named
  have hlocks := B.notSynchronized
  subst hsz
  have hA : ∀ q : Nat, s.heap.size ≤ q → wA loc sh s.heap.size q := fun q h => Or.inr h
  have hO : ∀ a, sh a ≠ 0 → wA loc sh s.heap.size (loc a) := fun a h => Or.inl ⟨a, h, rfl⟩
  have hS : va_S (wA loc sh s.heap.size) s.heap s.heap [] := va_S.rf
  obtain ⟨ls, hen, hl⟩ := wEntry m [wR loc 1, wR loc b1] 2 (List.forall_mem_cons.mpr ⟨wR_cat _ _, List.forall_mem_cons.mpr ⟨wR_cat _ _, fun _ h => absurd h List.not_mem_nil⟩⟩) (Nat.le_of_ble_eq_true rfl)
  rw [hen]
  clear hen
  have hl : lv_has ls 2 [(0, wR loc 1), (1, wR loc b1)] := hl
  have k45 := hts (.fieldLink RX4 45 "CupByCup" "now" "I") (List.mem_of_getElem? (i := 1) rfl)
  have iX4 : ∀ w ∈ wsX40, w ∈ wsX4_finish := fun w h => List.mem_cons_of_mem _ (List.mem_append_left _ (List.mem_append_right _ h))
  have k134 := hts (.fieldLink RX4 134 "CupByCup$Cup" "doneAt" "I") (List.mem_of_getElem? (i := 2) rfl)
  have iX0 : ∀ w ∈ wsX00, w ∈ wsX4_finish := fun w h => List.mem_cons_of_mem _ (List.mem_append_right _ h)
  have k57 := hts (.fieldLink RX4 57 "CupByCup" "longest" "I") (List.mem_of_getElem? (i := 3) rfl)
  have k131 := hts (.fieldLink RX4 131 "CupByCup$Cup" "cameAt" "I") (List.mem_of_getElem? (i := 4) rfl)
  unfold fX4_finish at hf
  refine wald_n hx hb dX4_finish_0 rfl (lv_at hl 0 rfl) ?_
  refine wald_n hx hb dX4_finish_1 rfl (lv_at hl 1 rfl) ?_
  refine lv_bipush (v := 6) hx hb dX4_finish_2 (by decide) ?_
  obtain ⟨iv1, rv2, h3, hf⟩ := wB2_e hf
  refine wcv (va_runV (As := [wR loc b1, .int 6]) (rest := []) ⟨hx, hb, hml, hown, hts⟩ (mtX4_turn l D K loc sh ln iv rv _ ng b1 6 hB h3) (cwV 2 hts gX4_finish_X4_turn rfl rfl rfl (by decide +kernel) ⟨Nat.le_of_ble_eq_true rfl, Nat.le_of_ble_eq_true rfl⟩) (wPreV hKn hH (hB.1 1 5 (by decide)) (by decide) rfl rfl) rfl rfl hl.1 rfl (lv_room (Nat.le_of_ble_eq_true rfl)) dX4_finish_4 ⟨Nat.zero_le _, Nat.zero_le _⟩) hS hO hA (fun H locs hH hS => ?_)
  refine wald_n hx hb dX4_finish_7 rfl (lv_at hl 1 rfl) ?_
  refine wald_n hx hb dX4_finish_8 rfl (lv_at hl 0 rfl) ?_
  refine wg (C := RX4) (T := TX4) (N := 17) (v := .int (iv1 1 12)) hx hb hts iX4 hown hKn.1 hH (q := 1) (hB.1 1 5 (by decide)) (by decide) rfl rfl 12 (by decide) k45 rfl dX4_finish_9 ?_
  obtain ⟨g4, hf⟩ := wGd_e hf
  obtain ⟨iv5, e6, hf⟩ := wLt_e hf
  refine wp (C := RX0) (T := TX0) (N := 11) (v := .int (iv1 1 12)) (ty := tyX0 6) (iv' := iv5) (rv' := rv2) hx hb hts iX0 tyX0 tyX0_ok nmX0 hown hKn.1 hH hO hS (q := b1) g4 (by decide) rfl rfl 6 (by decide) k134 rfl (tyX0_ok 6 (by decide)) rfl rfl (Nat.le_of_ble_eq_true rfl) (by rw [e6, wU_self]; rfl) (fun a ha => by rw [e6]; exact wU_ne a ha) (fun _ _ => rfl) dX4_finish_12 (fun H locs hH hS => ?_)
  refine wald_n hx hb dX4_finish_15 rfl (lv_at hl 0 rfl) ?_
  refine wald_n hx hb dX4_finish_16 rfl (lv_at hl 0 rfl) ?_
  refine wg (C := RX4) (T := TX4) (N := 17) (v := .int (iv5 1 16)) hx hb hts iX4 hown hKn.1 hH (q := 1) (hB.1 1 5 (by decide)) (by decide) rfl rfl 16 (by decide) k57 rfl dX4_finish_17 ?_
  refine wald_n hx hb dX4_finish_20 rfl (lv_at hl 0 rfl) ?_
  refine wg (C := RX4) (T := TX4) (N := 17) (v := .int (iv5 1 12)) hx hb hts iX4 hown hKn.1 hH (q := 1) (hB.1 1 5 (by decide)) (by decide) rfl rfl 12 (by decide) k45 rfl dX4_finish_21 ?_
  refine wald_n hx hb dX4_finish_24 rfl (lv_at hl 1 rfl) ?_
  refine wg (C := RX0) (T := TX0) (N := 11) (v := .int (iv5 b1 4)) hx hb hts iX0 hown hKn.1 hH (q := b1) g4 (by decide) rfl rfl 4 (by decide) k131 rfl dX4_finish_25 ?_
  refine lv_isub hx hb dX4_finish_28 ?_
  refine va_mmax hx hb (hml.trans hl.1.symm) hown (hts (.methodLink RX4 179 Lib.Math.max.name) (List.mem_of_getElem? (i := 5) rfl)) (hts (.static Lib.Math.max.name) (List.mem_of_getElem? (i := 6) rfl)) (hts (.initialized "java/lang/Math") (List.mem_of_getElem? (i := 7) rfl)) (hts (.code Lib.Math.max.name Lib.Math.max.code 2 (some .int)) (List.mem_of_getElem? (i := 8) rfl)) (Nat.le_of_ble_eq_true rfl) (Nat.le_of_ble_eq_true rfl) (Nat.zero_le _) (Nat.zero_le _) dX4_finish_29 ?_
  obtain ⟨iv7, e8, hf⟩ := wLt_e hf
  refine wp (C := RX4) (T := TX4) (N := 17) (v := .int (if (iv5 1 16) < ((iv5 1 12) - (iv5 b1 4)) then ((iv5 1 12) - (iv5 b1 4)) else (iv5 1 16))) (ty := tyX4 16) (iv' := iv7) (rv' := rv2) hx hb hts iX4 tyX4 tyX4_ok nmX4 hown hKn.1 hH hO hS (q := 1) (hB.1 1 5 (by decide)) (by decide) rfl rfl 16 (by decide) k57 rfl (tyX4_ok 16 (by decide)) rfl rfl (Nat.le_of_ble_eq_true rfl) (by rw [e8, wU_self]; rfl) (fun a ha => by rw [e8]; exact wU_ne a ha) (fun _ _ => rfl) dX4_finish_32 (fun H locs hH hS => ?_)
  cases hf
  exact W.vret hx hb hr (fun t ht hW => ⟨⟨(), rfl, trivial, by show wH _ _ _ _ _ _ _ t.heap; rw [ht]; exact hH⟩, hS.F ht⟩) hS.2.2 dX4_finish_35
noncomputable def fX4_endSteaming (ng : Nat) (sh : Nat → Nat) (iv : wI) (rv : wJ) : Option (wI × wJ) := if (rv 1 9) = 0 then some (iv, rv) else wGd (sh (rv 1 9) = 1) (wLt (wU iv (rv 1 9) 7 ((iv (rv 1 9) 7) - 1)) (fun (iv3 : wI) => if 0 < (iv3 (rv 1 9) 7) then some (iv3, rv) else wLt (wV rv 1 9 0) (fun (rv6 : wJ) => wB2 (fX4_finish ng sh iv3 rv6 (rv 1 9)) (fun (iv8 : wI) (rv9 : wJ) => some (iv8, rv9)))))
set_option maxHeartbeats 4000000 in
set_option maxRecDepth 100000 in
theorem mtX4_endSteaming (l : Launch) (D : va_G) (K : Nat → ClassId) (loc sh ln : Nat → Nat) (iv : wI) (rv : wJ) (sz : Nat) (ng : Nat) {iv' : wI} {rv' : wJ} (hB : wBx ng sh ln) (hf : fX4_endSteaming ng sh iv rv = some (iv', rv')) : Met l yX4_endSteaming wsX4_endSteaming ({ frames := 2, cells := 0, slots := 0, locals := 43 }) (wPc D K loc sh ln iv rv sz [wR loc 1]) (wQv D K loc sh ln iv' rv' sz) 0 0 (wA loc sh sz) := by
  refine Met.ofW (cc := cX4_endSteaming) (maxL := 2) (ret := none) (by decide) rfl ?_
  intro p e s m args below meth c s₁ B hml hv
  obtain ⟨rfl, hsz, hH, hKn⟩ := hv
  have hx := B.exec
  have hb := B.bytes
  have hr := B.returns
  have hts := atoms_spec (ws := wsX4_endSteaming) B.pre
  have hown : s.vm.findClass RX4 = some m.cls := findClass_of_methodNamed B.named
  have hlocks := B.notSynchronized
  subst hsz
  have hA : ∀ q : Nat, s.heap.size ≤ q → wA loc sh s.heap.size q := fun q h => Or.inr h
  have hO : ∀ a, sh a ≠ 0 → wA loc sh s.heap.size (loc a) := fun a h => Or.inl ⟨a, h, rfl⟩
  have hS : va_S (wA loc sh s.heap.size) s.heap s.heap [] := va_S.rf
  obtain ⟨ls, hen, hl⟩ := wEntry m [wR loc 1] 2 (List.forall_mem_cons.mpr ⟨wR_cat _ _, fun _ h => absurd h List.not_mem_nil⟩) (Nat.le_of_ble_eq_true rfl)
  rw [hen]
  clear hen
  have hl : lv_has ls 2 [(0, wR loc 1)] := hl
  have k39 := hts (.fieldLink RX4 39 "CupByCup" "atWand" "LCupByCup$Cup;") (List.mem_of_getElem? (i := 1) rfl)
  have iX4 : ∀ w ∈ wsX40, w ∈ wsX4_endSteaming := fun w h => List.mem_cons_of_mem _ (List.mem_append_left _ (List.mem_append_right _ h))
  have k217 := hts (.fieldLink RX4 217 "CupByCup$Cup" "toGo" "I") (List.mem_of_getElem? (i := 2) rfl)
  have iX0 : ∀ w ∈ wsX00, w ∈ wsX4_endSteaming := fun w h => List.mem_cons_of_mem _ (List.mem_append_right _ h)
  unfold fX4_endSteaming at hf
  refine wald_n hx hb dX4_endSteaming_0 rfl (lv_at hl 0 rfl) ?_
  refine wg (C := RX4) (T := TX4) (N := 17) (v := wR loc (rv 1 9)) hx hb hts iX4 hown hKn.1 hH (q := 1) (hB.1 1 5 (by decide)) (by decide) rfl rfl 9 (by decide) k39 rfl dX4_endSteaming_1 ?_
  refine wast_n (lv' := [(1, wR loc (rv 1 9)), (0, wR loc 1)]) hx hb dX4_endSteaming_4 rfl hl (by decide) rfl (fun ls hl => ?_)
  refine wald_n hx hb dX4_endSteaming_5 rfl (lv_at hl 0 rfl) ?_
  refine wifnon (tgt := 10) hx hb dX4_endSteaming_6 (by decide) (fun c1 => ?_) (fun c1 => ?_)
  · have hf := wIf c1 hf
    refine wald_n hx hb dX4_endSteaming_10 rfl (lv_at hl 0 rfl) ?_
    refine lv_dup hx hb dX4_endSteaming_11 (wR_cat _ _) ?_
    obtain ⟨g2, hf⟩ := wGd_e hf
    refine wg (C := RX0) (T := TX0) (N := 11) (v := .int (iv (rv 1 9) 7)) hx hb hts iX0 hown hKn.1 hH (q := (rv 1 9)) g2 (by decide) rfl rfl 7 (by decide) k217 rfl dX4_endSteaming_12 ?_
    refine lv_iconst (v := 1) hx hb dX4_endSteaming_15 (by decide) ?_
    refine lv_isub hx hb dX4_endSteaming_16 ?_
    obtain ⟨iv3, e4, hf⟩ := wLt_e hf
    refine wp (C := RX0) (T := TX0) (N := 11) (v := .int ((iv (rv 1 9) 7) - 1)) (ty := tyX0 7) (iv' := iv3) (rv' := rv) hx hb hts iX0 tyX0 tyX0_ok nmX0 hown hKn.1 hH hO hS (q := (rv 1 9)) g2 (by decide) rfl rfl 7 (by decide) k217 rfl (tyX0_ok 7 (by decide)) rfl rfl (Nat.le_of_ble_eq_true rfl) (by rw [e4, wU_self]; rfl) (fun a ha => by rw [e4]; exact wU_ne a ha) (fun _ _ => rfl) dX4_endSteaming_17 (fun H locs hH hS => ?_)
    refine wald_n hx hb dX4_endSteaming_20 rfl (lv_at hl 0 rfl) ?_
    refine wg (C := RX0) (T := TX0) (N := 11) (v := .int (iv3 (rv 1 9) 7)) hx hb hts iX0 hown hKn.1 hH (q := (rv 1 9)) g2 (by decide) rfl rfl 7 (by decide) k217 rfl dX4_endSteaming_21 ?_
    refine lv_if_gt (tgt := 37) hx hb dX4_endSteaming_24 (by decide) (fun c5 => ?_) (fun c5 => ?_)
    · have hf := wIt c5 hf
      cases hf
      exact W.vret hx hb hr (fun t ht hW => ⟨⟨(), rfl, trivial, by show wH _ _ _ _ _ _ _ t.heap; rw [ht]; exact hH⟩, hS.F ht⟩) hS.2.2 dX4_endSteaming_37
    · have hf := wIf c5 hf
      refine wald_n hx hb dX4_endSteaming_27 rfl (lv_at hl 1 rfl) ?_
      refine wnul hx hb loc dX4_endSteaming_28 ?_
      obtain ⟨rv6, e7, hf⟩ := wLt_e hf
      refine wp (C := RX4) (T := TX4) (N := 17) (v := wR loc 0) (ty := tyX4 9) (iv' := iv3) (rv' := rv6) hx hb hts iX4 tyX4 tyX4_ok nmX4 hown hKn.1 hH hO hS (q := 1) (hB.1 1 5 (by decide)) (by decide) rfl rfl 9 (by decide) k39 rfl (tyX4_ok 9 (by decide)) (wR_nar _ _ _) (wR_fit _ _ _) (Nat.le_of_ble_eq_true rfl) (by rw [e7, wV_self]; rfl) (fun _ _ => rfl) (fun a ha => by rw [e7]; exact wV_ne a ha) dX4_endSteaming_29 (fun H locs hH hS => ?_)
      refine wald_n hx hb dX4_endSteaming_32 rfl (lv_at hl 1 rfl) ?_
      refine wald_n hx hb dX4_endSteaming_33 rfl (lv_at hl 0 rfl) ?_
      obtain ⟨iv8, rv9, h10, hf⟩ := wB2_e hf
      refine wcv (va_runV (As := [wR loc (rv 1 9)]) (rest := []) ⟨hx, hb, hml, hown, hts⟩ (mtX4_finish l D K loc sh ln iv3 rv6 _ ng (rv 1 9) hB h10) (cwV 1 hts gX4_endSteaming_X4_finish rfl rfl rfl (by decide +kernel) ⟨Nat.le_of_ble_eq_true rfl, Nat.le_of_ble_eq_true rfl⟩) (wPreV hKn hH (hB.1 1 5 (by decide)) (by decide) rfl rfl) rfl rfl hl.1 rfl (lv_room (Nat.le_of_ble_eq_true rfl)) dX4_endSteaming_34 ⟨Nat.zero_le _, Nat.zero_le _⟩) hS hO hA (fun H locs hH hS => ?_)
      cases hf
      exact W.vret hx hb hr (fun t ht hW => ⟨⟨(), rfl, trivial, by show wH _ _ _ _ _ _ _ t.heap; rw [ht]; exact hH⟩, hS.F ht⟩) hS.2.2 dX4_endSteaming_37
  · have hf := wIt c1 hf
    cases hf
    exact W.vret hx hb hr (fun t ht hW => ⟨⟨(), rfl, trivial, by show wH _ _ _ _ _ _ _ t.heap; rw [ht]; exact hH⟩, hS.F ht⟩) hS.2.2 dX4_endSteaming_9
noncomputable def fX4_endBrewing (ng : Nat) (sh : Nat → Nat) (iv : wI) (rv : wJ) (b1 : Nat) : Option (wI × wJ) := wGd (sh b1 = 1) (wGd (sh (rv b1 1) = 4) (if (iv (rv b1 1) 3) = 0 then wB2 (fX4_finish ng sh iv rv b1) (fun (iv7 : wI) (rv8 : wJ) => some (iv7, rv8)) else wB2 (fX4_turn ng sh iv rv b1 4) (fun (iv4 : wI) (rv5 : wJ) => some (iv4, rv5))))
set_option maxHeartbeats 4000000 in
set_option maxRecDepth 100000 in
theorem mtX4_endBrewing (l : Launch) (D : va_G) (K : Nat → ClassId) (loc sh ln : Nat → Nat) (iv : wI) (rv : wJ) (sz : Nat) (ng : Nat) (b1 : Nat) {iv' : wI} {rv' : wJ} (hB : wBx ng sh ln) (hf : fX4_endBrewing ng sh iv rv b1 = some (iv', rv')) : Met l yX4_endBrewing wsX4_endBrewing ({ frames := 2, cells := 0, slots := 0, locals := 43 }) (wPc D K loc sh ln iv rv sz [wR loc 1, wR loc b1]) (wQv D K loc sh ln iv' rv' sz) 0 0 (wA loc sh sz) := by
  refine Met.ofW (cc := cX4_endBrewing) (maxL := 2) (ret := none) (by decide) rfl ?_
  intro p e s m args below meth c s₁ B hml hv
  obtain ⟨rfl, hsz, hH, hKn⟩ := hv
  have hx := B.exec
  have hb := B.bytes
  have hr := B.returns
  have hts := atoms_spec (ws := wsX4_endBrewing) B.pre
  have hown : s.vm.findClass RX4 = some m.cls := findClass_of_methodNamed B.named
  have hlocks := B.notSynchronized
  subst hsz
  have hA : ∀ q : Nat, s.heap.size ≤ q → wA loc sh s.heap.size q := fun q h => Or.inr h
  have hO : ∀ a, sh a ≠ 0 → wA loc sh s.heap.size (loc a) := fun a h => Or.inl ⟨a, h, rfl⟩
  have hS : va_S (wA loc sh s.heap.size) s.heap s.heap [] := va_S.rf
  obtain ⟨ls, hen, hl⟩ := wEntry m [wR loc 1, wR loc b1] 2 (List.forall_mem_cons.mpr ⟨wR_cat _ _, List.forall_mem_cons.mpr ⟨wR_cat _ _, fun _ h => absurd h List.not_mem_nil⟩⟩) (Nat.le_of_ble_eq_true rfl)
  rw [hen]
  clear hen
  have hl : lv_has ls 2 [(0, wR loc 1), (1, wR loc b1)] := hl
  have k98 := hts (.fieldLink RX4 98 "CupByCup$Cup" "recipe" "LCupByCup$Recipe;") (List.mem_of_getElem? (i := 1) rfl)
  have iX0 : ∀ w ∈ wsX00, w ∈ wsX4_endBrewing := fun w h => List.mem_cons_of_mem _ (List.mem_append_left _ (List.mem_append_left _ (List.mem_append_right _ h)))
  have k227 := hts (.fieldLink RX4 227 "CupByCup$Recipe" "steam" "I") (List.mem_of_getElem? (i := 2) rfl)
  have iX3 : ∀ w ∈ wsX30, w ∈ wsX4_endBrewing := fun w h => List.mem_cons_of_mem _ (List.mem_append_left _ (List.mem_append_right _ h))
  unfold fX4_endBrewing at hf
  refine wald_n hx hb dX4_endBrewing_0 rfl (lv_at hl 1 rfl) ?_
  obtain ⟨g1, hf⟩ := wGd_e hf
  refine wg (C := RX0) (T := TX0) (N := 11) (v := wR loc (rv b1 1)) hx hb hts iX0 hown hKn.1 hH (q := b1) g1 (by decide) rfl rfl 1 (by decide) k98 rfl dX4_endBrewing_1 ?_
  obtain ⟨g2, hf⟩ := wGd_e hf
  refine wg (C := RX3) (T := TX3) (N := 6) (v := .int (iv (rv b1 1) 3)) hx hb hts iX3 hown hKn.1 hH (q := (rv b1 1)) g2 (by decide) rfl rfl 3 (by decide) k227 rfl dX4_endBrewing_4 ?_
  refine lv_if_ne (tgt := 18) hx hb dX4_endBrewing_7 (by decide) (fun c3 => ?_) (fun c3 => ?_)
  · have hf := wIf c3 hf
    refine wald_n hx hb dX4_endBrewing_18 rfl (lv_at hl 0 rfl) ?_
    refine wald_n hx hb dX4_endBrewing_19 rfl (lv_at hl 1 rfl) ?_
    refine lv_iconst (v := 4) hx hb dX4_endBrewing_20 (by decide) ?_
    obtain ⟨iv4, rv5, h6, hf⟩ := wB2_e hf
    refine wcv (va_runV (As := [wR loc b1, .int 4]) (rest := []) ⟨hx, hb, hml, hown, hts⟩ (mtX4_turn l D K loc sh ln iv rv _ ng b1 4 hB h6) (cwV 2 hts gX4_endBrewing_X4_turn rfl rfl rfl (by decide +kernel) ⟨Nat.le_of_ble_eq_true rfl, Nat.le_of_ble_eq_true rfl⟩) (wPreV hKn hH (hB.1 1 5 (by decide)) (by decide) rfl rfl) rfl rfl hl.1 rfl (lv_room (Nat.le_of_ble_eq_true rfl)) dX4_endBrewing_21 ⟨Nat.zero_le _, Nat.zero_le _⟩) hS hO hA (fun H locs hH hS => ?_)
    cases hf
    exact W.vret hx hb hr (fun t ht hW => ⟨⟨(), rfl, trivial, by show wH _ _ _ _ _ _ _ t.heap; rw [ht]; exact hH⟩, hS.F ht⟩) hS.2.2 dX4_endBrewing_24
  · have hf := wIt c3 hf
    refine wald_n hx hb dX4_endBrewing_10 rfl (lv_at hl 0 rfl) ?_
    refine wald_n hx hb dX4_endBrewing_11 rfl (lv_at hl 1 rfl) ?_
    obtain ⟨iv7, rv8, h9, hf⟩ := wB2_e hf
    refine wcv (va_runV (As := [wR loc b1]) (rest := []) ⟨hx, hb, hml, hown, hts⟩ (mtX4_finish l D K loc sh ln iv rv _ ng b1 hB h9) (cwV 1 hts gX4_endBrewing_X4_finish rfl rfl rfl (by decide +kernel) ⟨Nat.le_of_ble_eq_true rfl, Nat.le_of_ble_eq_true rfl⟩) (wPreV hKn hH (hB.1 1 5 (by decide)) (by decide) rfl rfl) rfl rfl hl.1 rfl (lv_room (Nat.le_of_ble_eq_true rfl)) dX4_endBrewing_12 ⟨Nat.zero_le _, Nat.zero_le _⟩) hS hO hA (fun H locs hH hS => ?_)
    refine lv_goto (tgt := 24) hx hb dX4_endBrewing_15 (by decide) ?_
    cases hf
    exact W.vret hx hb hr (fun t ht hW => ⟨⟨(), rfl, trivial, by show wH _ _ _ _ _ _ _ t.heap; rw [ht]; exact hH⟩, hS.F ht⟩) hS.2.2 dX4_endBrewing_24
noncomputable def fX4_passTickOf (ng : Nat) (sh : Nat → Nat) (iv : wI) (rv : wJ) (b1 : Nat) : Option (wI × wJ) := wGd (sh b1 = 2) (wBd (if (iv b1 4) ≤ 0 then some iv else wLt (wU iv b1 4 ((iv b1 4) - 1)) (fun (iv6 : wI) => some iv6)) (fun (iv3 : wI) => if (iv3 b1 1) = 0 then some (iv3, rv) else wLt (wU iv3 b1 2 ((iv3 b1 2) - 1)) (fun (iv9 : wI) => if (iv9 b1 2) ≤ 0 then if (iv9 b1 1) = 2 then wLt (wU iv9 b1 3 0) (fun (iv20 : wI) => wLt (wU iv20 1 15 ((iv20 1 15) + 1)) (fun (iv22 : wI) => wB2 (fX1_becomeFree ng sh iv22 rv b1) (fun (iv24 : wI) (rv25 : wJ) => if (rv b1 5) = 0 then some (iv24, rv25) else wB2 (fX4_endBrewing ng sh iv24 rv25 (rv b1 5)) (fun (iv28 : wI) (rv29 : wJ) => some (iv28, rv29))))) else wB2 (fX1_becomeFree ng sh iv9 rv b1) (fun (iv13 : wI) (rv14 : wJ) => if (rv b1 5) = 0 then some (iv13, rv14) else wB2 (fX4_endBrewing ng sh iv13 rv14 (rv b1 5)) (fun (iv17 : wI) (rv18 : wJ) => some (iv17, rv18))) else some (iv9, rv))))
set_option maxHeartbeats 4000000 in
set_option maxRecDepth 100000 in
theorem mtX4_passTickOf (l : Launch) (D : va_G) (K : Nat → ClassId) (loc sh ln : Nat → Nat) (iv : wI) (rv : wJ) (sz : Nat) (ng : Nat) (b1 : Nat) {iv' : wI} {rv' : wJ} (hB : wBx ng sh ln) (hf : fX4_passTickOf ng sh iv rv b1 = some (iv', rv')) : Met l yX4_passTickOf wsX4_passTickOf ({ frames := 3, cells := 0, slots := 0, locals := 64 }) (wPc D K loc sh ln iv rv sz [wR loc 1, wR loc b1]) (wQv D K loc sh ln iv' rv' sz) 0 0 (wA loc sh sz) := by
  refine Met.ofW (cc := cX4_passTickOf) (maxL := 3) (ret := none) (by decide) rfl ?_
  intro p e s m args below meth c s₁ B hml hv
  obtain ⟨rfl, hsz, hH, hKn⟩ := hv
  have hx := B.exec
  have hb := B.bytes
  have hr := B.returns
  have hts := atoms_spec (ws := wsX4_passTickOf) B.pre
  have hown : s.vm.findClass RX4 = some m.cls := findClass_of_methodNamed B.named
  have hlocks := B.notSynchronized
  subst hsz
  have hA : ∀ q : Nat, s.heap.size ≤ q → wA loc sh s.heap.size q := fun q h => Or.inr h
  have hO : ∀ a, sh a ≠ 0 → wA loc sh s.heap.size (loc a) := fun a h => Or.inl ⟨a, h, rfl⟩
  have hS : va_S (wA loc sh s.heap.size) s.heap s.heap [] := va_S.rf
  obtain ⟨ls, hen, hl⟩ := wEntry m [wR loc 1, wR loc b1] 3 (List.forall_mem_cons.mpr ⟨wR_cat _ _, List.forall_mem_cons.mpr ⟨wR_cat _ _, fun _ h => absurd h List.not_mem_nil⟩⟩) (Nat.le_of_ble_eq_true rfl)
  rw [hen]
  clear hen
  have hl : lv_has ls 3 [(0, wR loc 1), (1, wR loc b1)] := hl
  have k122 := hts (.fieldLink RX4 122 "CupByCup$Group" "faultLeft" "I") (List.mem_of_getElem? (i := 1) rfl)
  have iX1 : ∀ w ∈ wsX10, w ∈ wsX4_passTickOf := fun w h => List.mem_cons_of_mem _ (List.mem_append_left _ (List.mem_append_left _ (List.mem_append_left _ (List.mem_append_right _ h))))
  have k151 := hts (.fieldLink RX4 151 "CupByCup$Group" "state" "I") (List.mem_of_getElem? (i := 2) rfl)
  have k152 := hts (.fieldLink RX4 152 "CupByCup$Group" "toGo" "I") (List.mem_of_getElem? (i := 3) rfl)
  have k112 := hts (.fieldLink RX4 112 "CupByCup$Group" "brewing" "LCupByCup$Cup;") (List.mem_of_getElem? (i := 6) rfl)
  have k155 := hts (.fieldLink RX4 155 "CupByCup$Group" "due" "I") (List.mem_of_getElem? (i := 4) rfl)
  have k54 := hts (.fieldLink RX4 54 "CupByCup" "rinsesDone" "I") (List.mem_of_getElem? (i := 5) rfl)
  have iX4 : ∀ w ∈ wsX40, w ∈ wsX4_passTickOf := fun w h => List.mem_cons_of_mem _ (List.mem_append_left _ (List.mem_append_left _ (List.mem_append_right _ h)))
  unfold fX4_passTickOf at hf
  refine wald_n hx hb dX4_passTickOf_0 rfl (lv_at hl 1 rfl) ?_
  obtain ⟨g1, hf⟩ := wGd_e hf
  refine wg (C := RX1) (T := TX1) (N := 6) (v := .int (iv b1 4)) hx hb hts iX1 hown hKn.1 hH (q := b1) g1 (by decide) rfl rfl 4 (by decide) k122 rfl dX4_passTickOf_1 ?_
  obtain ⟨iv3, hv4, hf⟩ := wBd_e hf
  have hj5 : ∀ (H : Heap) (locs : List Loc) (ls : Array Slot), wH D K loc sh ln iv3 rv H → va_S (wA loc sh s.heap.size) s.heap H locs → lv_has ls 3 [(0, wR loc 1), (1, wR loc b1)] → W p l e (headSpec wsX4_passTickOf ({ frames := 3, cells := 0, slots := 0, locals := 64 })).room s m ([wR loc 1, wR loc b1] : List Value).toArray below meth c H locs 0 0 (MQ below (wQv D K loc sh ln iv' rv' s.heap.size) ([wR loc 1, wR loc b1] : List Value).toArray s 0 0 (wA loc sh s.heap.size)) (F0 m 17 ls []) := by
    intro H locs ls hH hS hl
    refine wald_n hx hb dX4_passTickOf_17 rfl (lv_at hl 1 rfl) ?_
    refine wg (C := RX1) (T := TX1) (N := 6) (v := .int (iv3 b1 1)) hx hb hts iX1 hown hKn.1 hH (q := b1) g1 (by decide) rfl rfl 1 (by decide) k151 rfl dX4_passTickOf_18 ?_
    refine lv_if_ne (tgt := 25) hx hb dX4_passTickOf_21 (by decide) (fun c8 => ?_) (fun c8 => ?_)
    · have hf := wIf c8 hf
      refine wald_n hx hb dX4_passTickOf_25 rfl (lv_at hl 1 rfl) ?_
      refine lv_dup hx hb dX4_passTickOf_26 (wR_cat _ _) ?_
      refine wg (C := RX1) (T := TX1) (N := 6) (v := .int (iv3 b1 2)) hx hb hts iX1 hown hKn.1 hH (q := b1) g1 (by decide) rfl rfl 2 (by decide) k152 rfl dX4_passTickOf_27 ?_
      refine lv_iconst (v := 1) hx hb dX4_passTickOf_30 (by decide) ?_
      refine lv_isub hx hb dX4_passTickOf_31 ?_
      obtain ⟨iv9, e10, hf⟩ := wLt_e hf
      refine wp (C := RX1) (T := TX1) (N := 6) (v := .int ((iv3 b1 2) - 1)) (ty := tyX1 2) (iv' := iv9) (rv' := rv) hx hb hts iX1 tyX1 tyX1_ok nmX1 hown hKn.1 hH hO hS (q := b1) g1 (by decide) rfl rfl 2 (by decide) k152 rfl (tyX1_ok 2 (by decide)) rfl rfl (Nat.le_of_ble_eq_true rfl) (by rw [e10, wU_self]; rfl) (fun a ha => by rw [e10]; exact wU_ne a ha) (fun _ _ => rfl) dX4_passTickOf_32 (fun H locs hH hS => ?_)
      refine wald_n hx hb dX4_passTickOf_35 rfl (lv_at hl 1 rfl) ?_
      refine wg (C := RX1) (T := TX1) (N := 6) (v := .int (iv9 b1 2)) hx hb hts iX1 hown hKn.1 hH (q := b1) g1 (by decide) rfl rfl 2 (by decide) k152 rfl dX4_passTickOf_36 ?_
      refine lv_if_le (tgt := 43) hx hb dX4_passTickOf_39 (by decide) (fun c11 => ?_) (fun c11 => ?_)
      · have hf := wIt c11 hf
        refine wald_n hx hb dX4_passTickOf_43 rfl (lv_at hl 1 rfl) ?_
        refine wg (C := RX1) (T := TX1) (N := 6) (v := .int (iv9 b1 1)) hx hb hts iX1 hown hKn.1 hH (q := b1) g1 (by decide) rfl rfl 1 (by decide) k151 rfl dX4_passTickOf_44 ?_
        refine lv_iconst (v := 2) hx hb dX4_passTickOf_47 (by decide) ?_
        refine lv_icmp_ne (tgt := 66) hx hb dX4_passTickOf_48 (by decide) (fun c12 => ?_) (fun c12 => ?_)
        · have hf := wIf c12 hf
          refine wald_n hx hb dX4_passTickOf_66 rfl (lv_at hl 1 rfl) ?_
          refine wg (C := RX1) (T := TX1) (N := 6) (v := wR loc (rv b1 5)) hx hb hts iX1 hown hKn.1 hH (q := b1) g1 (by decide) rfl rfl 5 (by decide) k112 rfl dX4_passTickOf_67 ?_
          refine wast_n (lv' := [(2, wR loc (rv b1 5)), (0, wR loc 1), (1, wR loc b1)]) hx hb dX4_passTickOf_70 rfl hl (by decide) (by simp [wR_cat]) (fun ls hl => ?_)
          refine wald_n hx hb dX4_passTickOf_71 rfl (lv_at hl 2 rfl) ?_
          obtain ⟨iv13, rv14, h15, hf⟩ := wB2_e hf
          refine W.eq (g2 := F0 m 72 ls ([] ++ .ref (loc b1) :: [])) (by rw [wR_ref (hH.nz g1 (by decide))]; rfl) ?_
          refine wcv (va_runV (As := []) (rest := []) ⟨hx, hb, hml, hown, hts⟩ (mtX1_becomeFree l D K loc sh ln iv9 rv _ ng b1 g1 h15) (cwV 0 hts gX4_passTickOf_X1_becomeFree rfl rfl rfl (by decide +kernel) ⟨Nat.le_of_ble_eq_true rfl, Nat.le_of_ble_eq_true rfl⟩) (wPreV hKn hH g1 (by decide) rfl rfl) rfl rfl hl.1 rfl (lv_room (Nat.le_of_ble_eq_true rfl)) dX4_passTickOf_72 ⟨Nat.zero_le _, Nat.zero_le _⟩) hS hO hA (fun H locs hH hS => ?_)
          refine wald_n hx hb dX4_passTickOf_75 rfl (lv_at hl 0 rfl) ?_
          refine wifnull (tgt := 84) hx hb dX4_passTickOf_76 (by decide) (fun c16 => ?_) (fun c16 => ?_)
          · have hf := wIt c16 hf
            cases hf
            exact W.vret hx hb hr (fun t ht hW => ⟨⟨(), rfl, trivial, by show wH _ _ _ _ _ _ _ t.heap; rw [ht]; exact hH⟩, hS.F ht⟩) hS.2.2 dX4_passTickOf_84
          · have hf := wIf c16 hf
            refine wald_n hx hb dX4_passTickOf_79 rfl (lv_at hl 1 rfl) ?_
            refine wald_n hx hb dX4_passTickOf_80 rfl (lv_at hl 0 rfl) ?_
            obtain ⟨iv17, rv18, h19, hf⟩ := wB2_e hf
            refine wcv (va_runV (As := [wR loc (rv b1 5)]) (rest := []) ⟨hx, hb, hml, hown, hts⟩ (mtX4_endBrewing l D K loc sh ln iv13 rv14 _ ng (rv b1 5) hB h19) (cwV 1 hts gX4_passTickOf_X4_endBrewing rfl rfl rfl (by decide +kernel) ⟨Nat.le_of_ble_eq_true rfl, Nat.le_of_ble_eq_true rfl⟩) (wPreV hKn hH (hB.1 1 5 (by decide)) (by decide) rfl rfl) rfl rfl hl.1 rfl (lv_room (Nat.le_of_ble_eq_true rfl)) dX4_passTickOf_81 ⟨Nat.zero_le _, Nat.zero_le _⟩) hS hO hA (fun H locs hH hS => ?_)
            cases hf
            exact W.vret hx hb hr (fun t ht hW => ⟨⟨(), rfl, trivial, by show wH _ _ _ _ _ _ _ t.heap; rw [ht]; exact hH⟩, hS.F ht⟩) hS.2.2 dX4_passTickOf_84
        · have hf := wIt c12 hf
          refine wald_n hx hb dX4_passTickOf_51 rfl (lv_at hl 1 rfl) ?_
          refine lv_iconst (v := 0) hx hb dX4_passTickOf_52 (by decide) ?_
          obtain ⟨iv20, e21, hf⟩ := wLt_e hf
          refine wp (C := RX1) (T := TX1) (N := 6) (v := .int 0) (ty := tyX1 3) (iv' := iv20) (rv' := rv) hx hb hts iX1 tyX1 tyX1_ok nmX1 hown hKn.1 hH hO hS (q := b1) g1 (by decide) rfl rfl 3 (by decide) k155 rfl (tyX1_ok 3 (by decide)) rfl rfl (Nat.le_of_ble_eq_true rfl) (by rw [e21, wU_self]; rfl) (fun a ha => by rw [e21]; exact wU_ne a ha) (fun _ _ => rfl) dX4_passTickOf_53 (fun H locs hH hS => ?_)
          refine wald_n hx hb dX4_passTickOf_56 rfl (lv_at hl 0 rfl) ?_
          refine lv_dup hx hb dX4_passTickOf_57 (wR_cat _ _) ?_
          refine wg (C := RX4) (T := TX4) (N := 17) (v := .int (iv20 1 15)) hx hb hts iX4 hown hKn.1 hH (q := 1) (hB.1 1 5 (by decide)) (by decide) rfl rfl 15 (by decide) k54 rfl dX4_passTickOf_58 ?_
          refine lv_iconst (v := 1) hx hb dX4_passTickOf_61 (by decide) ?_
          refine lv_iadd hx hb dX4_passTickOf_62 ?_
          obtain ⟨iv22, e23, hf⟩ := wLt_e hf
          refine wp (C := RX4) (T := TX4) (N := 17) (v := .int ((iv20 1 15) + 1)) (ty := tyX4 15) (iv' := iv22) (rv' := rv) hx hb hts iX4 tyX4 tyX4_ok nmX4 hown hKn.1 hH hO hS (q := 1) (hB.1 1 5 (by decide)) (by decide) rfl rfl 15 (by decide) k54 rfl (tyX4_ok 15 (by decide)) rfl rfl (Nat.le_of_ble_eq_true rfl) (by rw [e23, wU_self]; rfl) (fun a ha => by rw [e23]; exact wU_ne a ha) (fun _ _ => rfl) dX4_passTickOf_63 (fun H locs hH hS => ?_)
          refine wald_n hx hb dX4_passTickOf_66 rfl (lv_at hl 1 rfl) ?_
          refine wg (C := RX1) (T := TX1) (N := 6) (v := wR loc (rv b1 5)) hx hb hts iX1 hown hKn.1 hH (q := b1) g1 (by decide) rfl rfl 5 (by decide) k112 rfl dX4_passTickOf_67 ?_
          refine wast_n (lv' := [(2, wR loc (rv b1 5)), (0, wR loc 1), (1, wR loc b1)]) hx hb dX4_passTickOf_70 rfl hl (by decide) (by simp [wR_cat]) (fun ls hl => ?_)
          refine wald_n hx hb dX4_passTickOf_71 rfl (lv_at hl 2 rfl) ?_
          obtain ⟨iv24, rv25, h26, hf⟩ := wB2_e hf
          refine W.eq (g2 := F0 m 72 ls ([] ++ .ref (loc b1) :: [])) (by rw [wR_ref (hH.nz g1 (by decide))]; rfl) ?_
          refine wcv (va_runV (As := []) (rest := []) ⟨hx, hb, hml, hown, hts⟩ (mtX1_becomeFree l D K loc sh ln iv22 rv _ ng b1 g1 h26) (cwV 0 hts gX4_passTickOf_X1_becomeFree rfl rfl rfl (by decide +kernel) ⟨Nat.le_of_ble_eq_true rfl, Nat.le_of_ble_eq_true rfl⟩) (wPreV hKn hH g1 (by decide) rfl rfl) rfl rfl hl.1 rfl (lv_room (Nat.le_of_ble_eq_true rfl)) dX4_passTickOf_72 ⟨Nat.zero_le _, Nat.zero_le _⟩) hS hO hA (fun H locs hH hS => ?_)
          refine wald_n hx hb dX4_passTickOf_75 rfl (lv_at hl 0 rfl) ?_
          refine wifnull (tgt := 84) hx hb dX4_passTickOf_76 (by decide) (fun c27 => ?_) (fun c27 => ?_)
          · have hf := wIt c27 hf
            cases hf
            exact W.vret hx hb hr (fun t ht hW => ⟨⟨(), rfl, trivial, by show wH _ _ _ _ _ _ _ t.heap; rw [ht]; exact hH⟩, hS.F ht⟩) hS.2.2 dX4_passTickOf_84
          · have hf := wIf c27 hf
            refine wald_n hx hb dX4_passTickOf_79 rfl (lv_at hl 1 rfl) ?_
            refine wald_n hx hb dX4_passTickOf_80 rfl (lv_at hl 0 rfl) ?_
            obtain ⟨iv28, rv29, h30, hf⟩ := wB2_e hf
            refine wcv (va_runV (As := [wR loc (rv b1 5)]) (rest := []) ⟨hx, hb, hml, hown, hts⟩ (mtX4_endBrewing l D K loc sh ln iv24 rv25 _ ng (rv b1 5) hB h30) (cwV 1 hts gX4_passTickOf_X4_endBrewing rfl rfl rfl (by decide +kernel) ⟨Nat.le_of_ble_eq_true rfl, Nat.le_of_ble_eq_true rfl⟩) (wPreV hKn hH (hB.1 1 5 (by decide)) (by decide) rfl rfl) rfl rfl hl.1 rfl (lv_room (Nat.le_of_ble_eq_true rfl)) dX4_passTickOf_81 ⟨Nat.zero_le _, Nat.zero_le _⟩) hS hO hA (fun H locs hH hS => ?_)
            cases hf
            exact W.vret hx hb hr (fun t ht hW => ⟨⟨(), rfl, trivial, by show wH _ _ _ _ _ _ _ t.heap; rw [ht]; exact hH⟩, hS.F ht⟩) hS.2.2 dX4_passTickOf_84
      · have hf := wIf c11 hf
        cases hf
        exact W.vret hx hb hr (fun t ht hW => ⟨⟨(), rfl, trivial, by show wH _ _ _ _ _ _ _ t.heap; rw [ht]; exact hH⟩, hS.F ht⟩) hS.2.2 dX4_passTickOf_42
    · have hf := wIt c8 hf
      cases hf
      exact W.vret hx hb hr (fun t ht hW => ⟨⟨(), rfl, trivial, by show wH _ _ _ _ _ _ _ t.heap; rw [ht]; exact hH⟩, hS.F ht⟩) hS.2.2 dX4_passTickOf_24
  clear hf
  have hf := hv4
  clear hv4
  refine lv_if_le (tgt := 17) hx hb dX4_passTickOf_4 (by decide) (fun c2 => ?_) (fun c2 => ?_)
  · have hf := wIt c2 hf
    cases hf
    exact hj5 _ _ _ hH hS (lv_sub hl [0, 1] rfl)
  · have hf := wIf c2 hf
    refine wald_n hx hb dX4_passTickOf_7 rfl (lv_at hl 1 rfl) ?_
    refine lv_dup hx hb dX4_passTickOf_8 (wR_cat _ _) ?_
    refine wg (C := RX1) (T := TX1) (N := 6) (v := .int (iv b1 4)) hx hb hts iX1 hown hKn.1 hH (q := b1) g1 (by decide) rfl rfl 4 (by decide) k122 rfl dX4_passTickOf_9 ?_
    refine lv_iconst (v := 1) hx hb dX4_passTickOf_12 (by decide) ?_
    refine lv_isub hx hb dX4_passTickOf_13 ?_
    obtain ⟨iv6, e7, hf⟩ := wLt_e hf
    refine wp (C := RX1) (T := TX1) (N := 6) (v := .int ((iv b1 4) - 1)) (ty := tyX1 4) (iv' := iv6) (rv' := rv) hx hb hts iX1 tyX1 tyX1_ok nmX1 hown hKn.1 hH hO hS (q := b1) g1 (by decide) rfl rfl 4 (by decide) k122 rfl (tyX1_ok 4 (by decide)) rfl rfl (Nat.le_of_ble_eq_true rfl) (by rw [e7, wU_self]; rfl) (fun a ha => by rw [e7]; exact wU_ne a ha) (fun _ _ => rfl) dX4_passTickOf_14 (fun H locs hH hS => ?_)
    cases hf
    exact hj5 _ _ _ hH hS (lv_sub hl [0, 1] rfl)
noncomputable def fX4_waitAgain (ng : Nat) (sh : Nat → Nat) (iv : wI) (rv : wJ) (b1 : Nat) : Option (wI × wJ) := wGd (sh b1 = 1) (wGd (sh (rv b1 1) = 4) (wLt (wU iv 1 14 ((iv 1 14) + (iv (rv b1 1) 0))) (fun (iv3 : wI) => wLt (wU iv3 b1 9 ((iv3 b1 9) + 1)) (fun (iv5 : wI) => wB2 (fX4_turn ng sh iv5 rv b1 0) (fun (iv7 : wI) (rv8 : wJ) => some (iv7, rv8))))))
set_option maxHeartbeats 4000000 in
set_option maxRecDepth 100000 in
theorem mtX4_waitAgain (l : Launch) (D : va_G) (K : Nat → ClassId) (loc sh ln : Nat → Nat) (iv : wI) (rv : wJ) (sz : Nat) (ng : Nat) (b1 : Nat) {iv' : wI} {rv' : wJ} (hB : wBx ng sh ln) (hf : fX4_waitAgain ng sh iv rv b1 = some (iv', rv')) : Met l yX4_waitAgain wsX4_waitAgain ({ frames := 1, cells := 0, slots := 0, locals := 22 }) (wPc D K loc sh ln iv rv sz [wR loc 1, wR loc b1]) (wQv D K loc sh ln iv' rv' sz) 0 0 (wA loc sh sz) := by
  refine Met.ofW (cc := cX4_waitAgain) (maxL := 2) (ret := none) (by decide) rfl ?_
  intro p e s m args below meth c s₁ B hml hv
  obtain ⟨rfl, hsz, hH, hKn⟩ := hv
  have hx := B.exec
  have hb := B.bytes
  have hr := B.returns
  have hts := atoms_spec (ws := wsX4_waitAgain) B.pre
  have hown : s.vm.findClass RX4 = some m.cls := findClass_of_methodNamed B.named
  have hlocks := B.notSynchronized
  subst hsz
  have hA : ∀ q : Nat, s.heap.size ≤ q → wA loc sh s.heap.size q := fun q h => Or.inr h
  have hO : ∀ a, sh a ≠ 0 → wA loc sh s.heap.size (loc a) := fun a h => Or.inl ⟨a, h, rfl⟩
  have hS : va_S (wA loc sh s.heap.size) s.heap s.heap [] := va_S.rf
  obtain ⟨ls, hen, hl⟩ := wEntry m [wR loc 1, wR loc b1] 2 (List.forall_mem_cons.mpr ⟨wR_cat _ _, List.forall_mem_cons.mpr ⟨wR_cat _ _, fun _ h => absurd h List.not_mem_nil⟩⟩) (Nat.le_of_ble_eq_true rfl)
  rw [hen]
  clear hen
  have hl : lv_has ls 2 [(0, wR loc 1), (1, wR loc b1)] := hl
  have k51 := hts (.fieldLink RX4 51 "CupByCup" "beansSpoilt" "I") (List.mem_of_getElem? (i := 1) rfl)
  have iX4 : ∀ w ∈ wsX40, w ∈ wsX4_waitAgain := fun w h => List.mem_cons_of_mem _ (List.mem_append_left _ (List.mem_append_left _ (List.mem_append_right _ h)))
  have k98 := hts (.fieldLink RX4 98 "CupByCup$Cup" "recipe" "LCupByCup$Recipe;") (List.mem_of_getElem? (i := 2) rfl)
  have iX0 : ∀ w ∈ wsX00, w ∈ wsX4_waitAgain := fun w h => List.mem_cons_of_mem _ (List.mem_append_left _ (List.mem_append_right _ h))
  have k102 := hts (.fieldLink RX4 102 "CupByCup$Recipe" "beans" "I") (List.mem_of_getElem? (i := 3) rfl)
  have iX3 : ∀ w ∈ wsX30, w ∈ wsX4_waitAgain := fun w h => List.mem_cons_of_mem _ (List.mem_append_right _ h)
  have k148 := hts (.fieldLink RX4 148 "CupByCup$Cup" "timesLost" "I") (List.mem_of_getElem? (i := 4) rfl)
  unfold fX4_waitAgain at hf
  refine wald_n hx hb dX4_waitAgain_0 rfl (lv_at hl 0 rfl) ?_
  refine lv_dup hx hb dX4_waitAgain_1 (wR_cat _ _) ?_
  refine wg (C := RX4) (T := TX4) (N := 17) (v := .int (iv 1 14)) hx hb hts iX4 hown hKn.1 hH (q := 1) (hB.1 1 5 (by decide)) (by decide) rfl rfl 14 (by decide) k51 rfl dX4_waitAgain_2 ?_
  refine wald_n hx hb dX4_waitAgain_5 rfl (lv_at hl 1 rfl) ?_
  obtain ⟨g1, hf⟩ := wGd_e hf
  refine wg (C := RX0) (T := TX0) (N := 11) (v := wR loc (rv b1 1)) hx hb hts iX0 hown hKn.1 hH (q := b1) g1 (by decide) rfl rfl 1 (by decide) k98 rfl dX4_waitAgain_6 ?_
  obtain ⟨g2, hf⟩ := wGd_e hf
  refine wg (C := RX3) (T := TX3) (N := 6) (v := .int (iv (rv b1 1) 0)) hx hb hts iX3 hown hKn.1 hH (q := (rv b1 1)) g2 (by decide) rfl rfl 0 (by decide) k102 rfl dX4_waitAgain_9 ?_
  refine lv_iadd hx hb dX4_waitAgain_12 ?_
  obtain ⟨iv3, e4, hf⟩ := wLt_e hf
  refine wp (C := RX4) (T := TX4) (N := 17) (v := .int ((iv 1 14) + (iv (rv b1 1) 0))) (ty := tyX4 14) (iv' := iv3) (rv' := rv) hx hb hts iX4 tyX4 tyX4_ok nmX4 hown hKn.1 hH hO hS (q := 1) (hB.1 1 5 (by decide)) (by decide) rfl rfl 14 (by decide) k51 rfl (tyX4_ok 14 (by decide)) rfl rfl (Nat.le_of_ble_eq_true rfl) (by rw [e4, wU_self]; rfl) (fun a ha => by rw [e4]; exact wU_ne a ha) (fun _ _ => rfl) dX4_waitAgain_13 (fun H locs hH hS => ?_)
  refine wald_n hx hb dX4_waitAgain_16 rfl (lv_at hl 1 rfl) ?_
  refine lv_dup hx hb dX4_waitAgain_17 (wR_cat _ _) ?_
  refine wg (C := RX0) (T := TX0) (N := 11) (v := .int (iv3 b1 9)) hx hb hts iX0 hown hKn.1 hH (q := b1) g1 (by decide) rfl rfl 9 (by decide) k148 rfl dX4_waitAgain_18 ?_
  refine lv_iconst (v := 1) hx hb dX4_waitAgain_21 (by decide) ?_
  refine lv_iadd hx hb dX4_waitAgain_22 ?_
  obtain ⟨iv5, e6, hf⟩ := wLt_e hf
  refine wp (C := RX0) (T := TX0) (N := 11) (v := .int ((iv3 b1 9) + 1)) (ty := tyX0 9) (iv' := iv5) (rv' := rv) hx hb hts iX0 tyX0 tyX0_ok nmX0 hown hKn.1 hH hO hS (q := b1) g1 (by decide) rfl rfl 9 (by decide) k148 rfl (tyX0_ok 9 (by decide)) rfl rfl (Nat.le_of_ble_eq_true rfl) (by rw [e6, wU_self]; rfl) (fun a ha => by rw [e6]; exact wU_ne a ha) (fun _ _ => rfl) dX4_waitAgain_23 (fun H locs hH hS => ?_)
  refine wald_n hx hb dX4_waitAgain_26 rfl (lv_at hl 0 rfl) ?_
  refine wald_n hx hb dX4_waitAgain_27 rfl (lv_at hl 1 rfl) ?_
  refine lv_iconst (v := 0) hx hb dX4_waitAgain_28 (by decide) ?_
  obtain ⟨iv7, rv8, h9, hf⟩ := wB2_e hf
  refine wcv (va_runV (As := [wR loc b1, .int 0]) (rest := []) ⟨hx, hb, hml, hown, hts⟩ (mtX4_turn l D K loc sh ln iv5 rv _ ng b1 0 hB h9) (cwV 2 hts gX4_waitAgain_X4_turn rfl rfl rfl (by decide +kernel) ⟨Nat.le_of_ble_eq_true rfl, Nat.le_of_ble_eq_true rfl⟩) (wPreV hKn hH (hB.1 1 5 (by decide)) (by decide) rfl rfl) rfl rfl hl.1 rfl (lv_room (Nat.le_of_ble_eq_true rfl)) dX4_waitAgain_29 ⟨Nat.zero_le _, Nat.zero_le _⟩) hS hO hA (fun H locs hH hS => ?_)
  cases hf
  exact W.vret hx hb hr (fun t ht hW => ⟨⟨(), rfl, trivial, by show wH _ _ _ _ _ _ _ t.heap; rw [ht]; exact hH⟩, hS.F ht⟩) hS.2.2 dX4_waitAgain_32
noncomputable def fX4_throwAwayOldGrounds_12 (ng : Nat) (sh : Nat → Nat) : Nat → wI → wJ → Int32 → Option (wI × wJ)
  | 0, _, _, _ => none
  | n + 1, iv, rv, x1 => if (iv 1 4) ≤ x1 then some (iv, rv) else wGd (vp_in x1 100) (wGd (sh (rv 4 x1.toNatClampNeg) = 1) (if (iv (rv 4 x1.toNatClampNeg) 5) = 2 then if ((iv 1 12) - (iv (rv 4 x1.toNatClampNeg) 8)) < 30 then fX4_throwAwayOldGrounds_12 ng sh n iv rv (x1 + 1) else wB2 (fX4_waitAgain ng sh iv rv (rv 4 x1.toNatClampNeg)) (fun (iv8 : wI) (rv9 : wJ) => fX4_throwAwayOldGrounds_12 ng sh n iv8 rv9 (x1 + 1)) else fX4_throwAwayOldGrounds_12 ng sh n iv rv (x1 + 1)))
noncomputable def fX4_throwAwayOldGrounds (ng : Nat) (sh : Nat → Nat) (iv : wI) (rv : wJ) : Option (wI × wJ) := wGd (vp_in 2 8) (if (iv 5 (2 : Int32).toNatClampNeg) = 0 then some (iv, rv) else wB2 (fX4_throwAwayOldGrounds_12 ng sh wN iv rv 0) (fun (iv10 : wI) (rv11 : wJ) => some (iv10, rv11)))
set_option maxHeartbeats 4000000 in
set_option maxRecDepth 100000 in
theorem mtX4_throwAwayOldGrounds (l : Launch) (D : va_G) (K : Nat → ClassId) (loc sh ln : Nat → Nat) (iv : wI) (rv : wJ) (sz : Nat) (ng : Nat) {iv' : wI} {rv' : wJ} (hB : wBx ng sh ln) (hf : fX4_throwAwayOldGrounds ng sh iv rv = some (iv', rv')) : Met l yX4_throwAwayOldGrounds wsX4_throwAwayOldGrounds ({ frames := 2, cells := 0, slots := 0, locals := 43 }) (wPc D K loc sh ln iv rv sz [wR loc 1]) (wQv D K loc sh ln iv' rv' sz) 0 0 (wA loc sh sz) := by
  refine Met.ofW (cc := cX4_throwAwayOldGrounds) (maxL := 3) (ret := none) (by decide) rfl ?_
  intro p e s m args below meth c s₁ B hml hv
  obtain ⟨rfl, hsz, hH, hKn⟩ := hv
  have hx := B.exec
  have hb := B.bytes
  have hr := B.returns
  have hts := atoms_spec (ws := wsX4_throwAwayOldGrounds) B.pre
  have hown : s.vm.findClass RX4 = some m.cls := findClass_of_methodNamed B.named
  have hlocks := B.notSynchronized
  subst hsz
  have hA : ∀ q : Nat, s.heap.size ≤ q → wA loc sh s.heap.size q := fun q h => Or.inr h
  have hO : ∀ a, sh a ≠ 0 → wA loc sh s.heap.size (loc a) := fun a h => Or.inl ⟨a, h, rfl⟩
  have hS : va_S (wA loc sh s.heap.size) s.heap s.heap [] := va_S.rf
  obtain ⟨ls, hen, hl⟩ := wEntry m [wR loc 1] 3 (List.forall_mem_cons.mpr ⟨wR_cat _ _, fun _ h => absurd h List.not_mem_nil⟩) (Nat.le_of_ble_eq_true rfl)
  rw [hen]
  clear hen
  have hl : lv_has ls 3 [(0, wR loc 1)] := hl
  have k28 := hts (.fieldLink RX4 28 "CupByCup" "cupsThat" "[I") (List.mem_of_getElem? (i := 1) rfl)
  have iX4 : ∀ w ∈ wsX40, w ∈ wsX4_throwAwayOldGrounds := fun w h => List.mem_cons_of_mem _ (List.mem_append_left _ (List.mem_append_left _ (List.mem_append_right _ h)))
  have k25 := hts (.fieldLink RX4 25 "CupByCup" "cupCount" "I") (List.mem_of_getElem? (i := 2) rfl)
  have k21 := hts (.fieldLink RX4 21 "CupByCup" "cups" "[LCupByCup$Cup;") (List.mem_of_getElem? (i := 3) rfl)
  have k95 := hts (.fieldLink RX4 95 "CupByCup$Cup" "state" "I") (List.mem_of_getElem? (i := 4) rfl)
  have iX0 : ∀ w ∈ wsX00, w ∈ wsX4_throwAwayOldGrounds := fun w h => List.mem_cons_of_mem _ (List.mem_append_left _ (List.mem_append_right _ h))
  have k45 := hts (.fieldLink RX4 45 "CupByCup" "now" "I") (List.mem_of_getElem? (i := 5) rfl)
  have k218 := hts (.fieldLink RX4 218 "CupByCup$Cup" "liesSince" "I") (List.mem_of_getElem? (i := 6) rfl)
  unfold fX4_throwAwayOldGrounds at hf
  refine wald_n hx hb dX4_throwAwayOldGrounds_0 rfl (lv_at hl 0 rfl) ?_
  refine wg (C := RX4) (T := TX4) (N := 17) (v := wR loc 5) hx hb hts iX4 hown hKn.1 hH (q := 1) (hB.1 1 5 (by decide)) (by decide) rfl rfl 5 (by decide) k28 rfl dX4_throwAwayOldGrounds_1 ?_
  refine lv_iconst (v := 2) hx hb dX4_throwAwayOldGrounds_4 (by decide) ?_
  obtain ⟨g1, hf⟩ := wGd_e hf
  refine wia hx hb hKn.1 hH (hB.1 5 7 (by decide)) (hB.2.1 5 _ (by decide)) g1 dX4_throwAwayOldGrounds_5 ?_
  refine lv_if_ne (tgt := 10) hx hb dX4_throwAwayOldGrounds_6 (by decide) (fun c2 => ?_) (fun c2 => ?_)
  · have hf := wIf c2 hf
    refine lv_iconst (v := 0) hx hb dX4_throwAwayOldGrounds_10 (by decide) ?_
    refine lv_istore_n (lv' := [(1, .int 0), (0, wR loc 1)]) hx hb dX4_throwAwayOldGrounds_11 rfl hl (by decide) rfl (fun ls hl => ?_)
    obtain ⟨iv10, rv11, hL7, hf⟩ := wB2_e hf
    have hk8 : ∀ (H : Heap) (locs : List Loc) (ls : Array Slot), wH D K loc sh ln iv10 rv11 H → va_S (wA loc sh s.heap.size) s.heap H locs → lv_has ls 3 [] → W p l e (headSpec wsX4_throwAwayOldGrounds ({ frames := 2, cells := 0, slots := 0, locals := 43 })).room s m ([wR loc 1] : List Value).toArray below meth c H locs 0 0 (MQ below (wQv D K loc sh ln iv' rv' s.heap.size) ([wR loc 1] : List Value).toArray s 0 0 (wA loc sh s.heap.size)) (F0 m 60 ls []) := by
      clear hL7 hl hS hH
      intro H locs ls hH hS hl
      cases hf
      exact W.vret hx hb hr (fun t ht hW => ⟨⟨(), rfl, trivial, by show wH _ _ _ _ _ _ _ t.heap; rw [ht]; exact hH⟩, hS.F ht⟩) hS.2.2 dX4_throwAwayOldGrounds_60
    have lp9 : ∀ (n3 : Nat) (iv4 : wI) (rv5 : wJ) (x6 : Int32) (H : Heap) (locs : List Loc) (ls : Array Slot), fX4_throwAwayOldGrounds_12 ng sh n3 iv4 rv5 x6 = some (iv10, rv11) → wH D K loc sh ln iv4 rv5 H → va_S (wA loc sh s.heap.size) s.heap H locs → lv_has ls 3 [(0, wR loc 1), (1, .int x6)] → W p l e (headSpec wsX4_throwAwayOldGrounds ({ frames := 2, cells := 0, slots := 0, locals := 43 })).room s m ([wR loc 1] : List Value).toArray below meth c H locs 0 0 (MQ below (wQv D K loc sh ln iv' rv' s.heap.size) ([wR loc 1] : List Value).toArray s 0 0 (wA loc sh s.heap.size)) (F0 m 12 ls []) := by
      clear hf hl hS hH hL7
      intro n3
      induction n3 with
      | zero => intro iv4 rv5 x6 H locs ls hf; cases hf
      | succ n3 ih =>
        intro iv4 rv5 x6 H locs ls hf hH hS hl
        rw [fX4_throwAwayOldGrounds_12.eq_2] at hf
        refine lv_iload_n hx hb dX4_throwAwayOldGrounds_12 rfl (lv_at hl 1 rfl) ?_
        refine wald_n hx hb dX4_throwAwayOldGrounds_13 rfl (lv_at hl 0 rfl) ?_
        refine wg (C := RX4) (T := TX4) (N := 17) (v := .int (iv4 1 4)) hx hb hts iX4 hown hKn.1 hH (q := 1) (hB.1 1 5 (by decide)) (by decide) rfl rfl 4 (by decide) k25 rfl dX4_throwAwayOldGrounds_14 ?_
        refine lv_icmp_ge (tgt := 60) hx hb dX4_throwAwayOldGrounds_17 (by decide) (fun c12 => ?_) (fun c12 => ?_)
        · have hf := wIt c12 hf
          cases hf
          exact hk8 _ _ _ hH hS (lv_sub hl [] rfl)
        · have hf := wIf c12 hf
          refine wald_n hx hb dX4_throwAwayOldGrounds_20 rfl (lv_at hl 0 rfl) ?_
          refine wg (C := RX4) (T := TX4) (N := 17) (v := wR loc 4) hx hb hts iX4 hown hKn.1 hH (q := 1) (hB.1 1 5 (by decide)) (by decide) rfl rfl 3 (by decide) k21 rfl dX4_throwAwayOldGrounds_21 ?_
          refine lv_iload_n hx hb dX4_throwAwayOldGrounds_24 rfl (lv_at hl 1 rfl) ?_
          obtain ⟨g13, hf⟩ := wGd_e hf
          refine waa (kd := 9) (ki := 2) hx hb hKn.1 hH (hB.1 4 9 (by decide)) (by decide) rfl rfl (hB.2.1 4 _ (by decide)) g13 dX4_throwAwayOldGrounds_25 ?_
          refine wast_n (lv' := [(2, wR loc (rv5 4 x6.toNatClampNeg)), (0, wR loc 1), (1, .int x6)]) hx hb dX4_throwAwayOldGrounds_26 rfl hl (by decide) rfl (fun ls hl => ?_)
          refine wald_n hx hb dX4_throwAwayOldGrounds_27 rfl (lv_at hl 0 rfl) ?_
          obtain ⟨g14, hf⟩ := wGd_e hf
          refine wg (C := RX0) (T := TX0) (N := 11) (v := .int (iv4 (rv5 4 x6.toNatClampNeg) 5)) hx hb hts iX0 hown hKn.1 hH (q := (rv5 4 x6.toNatClampNeg)) g14 (by decide) rfl rfl 5 (by decide) k95 rfl dX4_throwAwayOldGrounds_28 ?_
          refine lv_iconst (v := 2) hx hb dX4_throwAwayOldGrounds_31 (by decide) ?_
          refine lv_icmp_ne (tgt := 54) hx hb dX4_throwAwayOldGrounds_32 (by decide) (fun c15 => ?_) (fun c15 => ?_)
          · have hf := wIf c15 hf
            refine lv_iinc (v := (x6 + 1)) (lv' := [(1, .int (x6 + 1)), (2, wR loc (rv5 4 x6.toNatClampNeg)), (0, wR loc 1)]) hx hb dX4_throwAwayOldGrounds_54 hl (k := 2) rfl rfl (by decide) rfl (fun ls hl => ?_)
            refine lv_goto (tgt := 12) hx hb dX4_throwAwayOldGrounds_57 (by decide) ?_
            exact ih _ _ _ _ _ _ hf hH hS (lv_sub hl [2, 0] rfl)
          · have hf := wIt c15 hf
            refine wald_n hx hb dX4_throwAwayOldGrounds_35 rfl (lv_at hl 1 rfl) ?_
            refine wg (C := RX4) (T := TX4) (N := 17) (v := .int (iv4 1 12)) hx hb hts iX4 hown hKn.1 hH (q := 1) (hB.1 1 5 (by decide)) (by decide) rfl rfl 12 (by decide) k45 rfl dX4_throwAwayOldGrounds_36 ?_
            refine wald_n hx hb dX4_throwAwayOldGrounds_39 rfl (lv_at hl 0 rfl) ?_
            refine wg (C := RX0) (T := TX0) (N := 11) (v := .int (iv4 (rv5 4 x6.toNatClampNeg) 8)) hx hb hts iX0 hown hKn.1 hH (q := (rv5 4 x6.toNatClampNeg)) g14 (by decide) rfl rfl 8 (by decide) k218 rfl dX4_throwAwayOldGrounds_40 ?_
            refine lv_isub hx hb dX4_throwAwayOldGrounds_43 ?_
            refine lv_bipush (v := 30) hx hb dX4_throwAwayOldGrounds_44 (by decide) ?_
            refine lv_icmp_lt (tgt := 54) hx hb dX4_throwAwayOldGrounds_46 (by decide) (fun c16 => ?_) (fun c16 => ?_)
            · have hf := wIt c16 hf
              refine lv_iinc (v := (x6 + 1)) (lv' := [(1, .int (x6 + 1)), (2, wR loc (rv5 4 x6.toNatClampNeg)), (0, wR loc 1)]) hx hb dX4_throwAwayOldGrounds_54 hl (k := 2) rfl rfl (by decide) rfl (fun ls hl => ?_)
              refine lv_goto (tgt := 12) hx hb dX4_throwAwayOldGrounds_57 (by decide) ?_
              exact ih _ _ _ _ _ _ hf hH hS (lv_sub hl [2, 0] rfl)
            · have hf := wIf c16 hf
              refine wald_n hx hb dX4_throwAwayOldGrounds_49 rfl (lv_at hl 1 rfl) ?_
              refine wald_n hx hb dX4_throwAwayOldGrounds_50 rfl (lv_at hl 0 rfl) ?_
              obtain ⟨iv17, rv18, h19, hf⟩ := wB2_e hf
              refine wcv (va_runV (As := [wR loc (rv5 4 x6.toNatClampNeg)]) (rest := []) ⟨hx, hb, hml, hown, hts⟩ (mtX4_waitAgain l D K loc sh ln iv4 rv5 _ ng (rv5 4 x6.toNatClampNeg) hB h19) (cwV 1 hts gX4_throwAwayOldGrounds_X4_waitAgain rfl rfl rfl (by decide +kernel) ⟨Nat.le_of_ble_eq_true rfl, Nat.le_of_ble_eq_true rfl⟩) (wPreV hKn hH (hB.1 1 5 (by decide)) (by decide) rfl rfl) rfl rfl hl.1 rfl (lv_room (Nat.le_of_ble_eq_true rfl)) dX4_throwAwayOldGrounds_51 ⟨Nat.zero_le _, Nat.zero_le _⟩) hS hO hA (fun H locs hH hS => ?_)
              refine lv_iinc (v := (x6 + 1)) (lv' := [(1, .int (x6 + 1)), (2, wR loc (rv5 4 x6.toNatClampNeg)), (0, wR loc 1)]) hx hb dX4_throwAwayOldGrounds_54 hl (k := 2) rfl rfl (by decide) rfl (fun ls hl => ?_)
              refine lv_goto (tgt := 12) hx hb dX4_throwAwayOldGrounds_57 (by decide) ?_
              exact ih _ _ _ _ _ _ hf hH hS (lv_sub hl [2, 0] rfl)
    exact lp9 wN _ _ _ _ _ _ hL7 hH hS (lv_sub hl [1, 0] rfl)
  · have hf := wIt c2 hf
    cases hf
    exact W.vret hx hb hr (fun t ht hW => ⟨⟨(), rfl, trivial, by show wH _ _ _ _ _ _ _ t.heap; rw [ht]; exact hH⟩, hS.F ht⟩) hS.2.2 dX4_throwAwayOldGrounds_9
noncomputable def fX4_powerThatGoes_33 (ng : Nat) (sh : Nat → Nat) : Nat → wI → wJ → Int32 → Int32 → Int32 → Option (Int32)
  | 0, _, _, _, _, _ => none
  | n + 1, iv, rv, x3, x1, x4 => if x3 ≤ x4 then some x1 else wGd (vp_in x4 ng) (wGd (sh (rv 2 x4.toNatClampNeg) = 2) (if (iv (rv 2 x4.toNatClampNeg) 1) = 0 then fX4_powerThatGoes_33 ng sh n iv rv x3 x1 (x4 + 1) else fX4_powerThatGoes_33 ng sh n iv rv x3 (x1 + 2) (x4 + 1)))
noncomputable def fX4_powerThatGoes (ng : Nat) (sh : Nat → Nat) (iv : wI) (rv : wJ) : Option (Int32) := wBd (if (rv 1 8) = 0 then some (0 : Int32) else some (0 + 4)) (fun (z2 : Int32) => wBd (if (rv 1 9) = 0 then some z2 else some (z2 + 3)) (fun (z6 : Int32) => wBd (fX4_powerThatGoes_33 ng sh wN iv rv (nI ng) z6 0) (fun (z15 : Int32) => some z15)))
set_option maxHeartbeats 4000000 in
set_option maxRecDepth 100000 in
theorem mtX4_powerThatGoes (l : Launch) (D : va_G) (K : Nat → ClassId) (loc sh ln : Nat → Nat) (iv : wI) (rv : wJ) (sz : Nat) (ng : Nat) {r' : Int32} (hB : wBx ng sh ln) (hf : fX4_powerThatGoes ng sh iv rv = some r') : Met l yX4_powerThatGoes wsX4_powerThatGoes ({ frames := 0, cells := 0, slots := 0, locals := 0 }) (wPc D K loc sh ln iv rv sz [wR loc 1]) (wQi D K loc sh ln iv rv sz r') 0 0 (wA loc sh sz) := by
  refine Met.ofW (cc := cX4_powerThatGoes) (maxL := 6) (ret := (some .int)) (by decide) rfl ?_
  intro p e s m args below meth c s₁ B hml hv
  obtain ⟨rfl, hsz, hH, hKn⟩ := hv
  have hx := B.exec
  have hb := B.bytes
  have hr := B.returns
  have hts := atoms_spec (ws := wsX4_powerThatGoes) B.pre
  have hown : s.vm.findClass RX4 = some m.cls := findClass_of_methodNamed B.named
  have hlocks := B.notSynchronized
  subst hsz
  have hA : ∀ q : Nat, s.heap.size ≤ q → wA loc sh s.heap.size q := fun q h => Or.inr h
  have hO : ∀ a, sh a ≠ 0 → wA loc sh s.heap.size (loc a) := fun a h => Or.inl ⟨a, h, rfl⟩
  have hS : va_S (wA loc sh s.heap.size) s.heap s.heap [] := va_S.rf
  obtain ⟨ls, hen, hl⟩ := wEntry m [wR loc 1] 6 (List.forall_mem_cons.mpr ⟨wR_cat _ _, fun _ h => absurd h List.not_mem_nil⟩) (Nat.le_of_ble_eq_true rfl)
  rw [hen]
  clear hen
  have hl : lv_has ls 6 [(0, wR loc 1)] := hl
  have k35 := hts (.fieldLink RX4 35 "CupByCup" "inGrinder" "LCupByCup$Cup;") (List.mem_of_getElem? (i := 1) rfl)
  have iX4 : ∀ w ∈ wsX40, w ∈ wsX4_powerThatGoes := fun w h => List.mem_cons_of_mem _ (List.mem_append_left _ (List.mem_append_right _ h))
  have k39 := hts (.fieldLink RX4 39 "CupByCup" "atWand" "LCupByCup$Cup;") (List.mem_of_getElem? (i := 2) rfl)
  have k66 := hts (.fieldLink RX4 66 "CupByCup" "groups" "[LCupByCup$Group;") (List.mem_of_getElem? (i := 3) rfl)
  have k151 := hts (.fieldLink RX4 151 "CupByCup$Group" "state" "I") (List.mem_of_getElem? (i := 4) rfl)
  have iX1 : ∀ w ∈ wsX10, w ∈ wsX4_powerThatGoes := fun w h => List.mem_cons_of_mem _ (List.mem_append_right _ h)
  unfold fX4_powerThatGoes at hf
  refine lv_iconst (v := 0) hx hb dX4_powerThatGoes_0 (by decide) ?_
  refine lv_istore_n (lv' := [(1, .int 0), (0, wR loc 1)]) hx hb dX4_powerThatGoes_1 rfl hl (by decide) rfl (fun ls hl => ?_)
  refine wald_n hx hb dX4_powerThatGoes_2 rfl (lv_at hl 1 rfl) ?_
  refine wg (C := RX4) (T := TX4) (N := 17) (v := wR loc (rv 1 8)) hx hb hts iX4 hown hKn.1 hH (q := 1) (hB.1 1 5 (by decide)) (by decide) rfl rfl 8 (by decide) k35 rfl dX4_powerThatGoes_3 ?_
  obtain ⟨z2, hv3, hf⟩ := wBd_e hf
  have hj4 : ∀ (H : Heap) (locs : List Loc) (ls : Array Slot), wH D K loc sh ln iv rv H → va_S (wA loc sh s.heap.size) s.heap H locs → lv_has ls 6 [(0, wR loc 1), (1, .int z2)] → W p l e (headSpec wsX4_powerThatGoes ({ frames := 0, cells := 0, slots := 0, locals := 0 })).room s m ([wR loc 1] : List Value).toArray below meth c H locs 0 0 (MQ below (wQi D K loc sh ln iv rv s.heap.size r') ([wR loc 1] : List Value).toArray s 0 0 (wA loc sh s.heap.size)) (F0 m 12 ls []) := by
    intro H locs ls hH hS hl
    refine wald_n hx hb dX4_powerThatGoes_12 rfl (lv_at hl 0 rfl) ?_
    refine wg (C := RX4) (T := TX4) (N := 17) (v := wR loc (rv 1 9)) hx hb hts iX4 hown hKn.1 hH (q := 1) (hB.1 1 5 (by decide)) (by decide) rfl rfl 9 (by decide) k39 rfl dX4_powerThatGoes_13 ?_
    obtain ⟨z6, hv7, hf⟩ := wBd_e hf
    have hj8 : ∀ (H : Heap) (locs : List Loc) (ls : Array Slot), wH D K loc sh ln iv rv H → va_S (wA loc sh s.heap.size) s.heap H locs → lv_has ls 6 [(0, wR loc 1), (1, .int z6)] → W p l e (headSpec wsX4_powerThatGoes ({ frames := 0, cells := 0, slots := 0, locals := 0 })).room s m ([wR loc 1] : List Value).toArray below meth c H locs 0 0 (MQ below (wQi D K loc sh ln iv rv s.heap.size r') ([wR loc 1] : List Value).toArray s 0 0 (wA loc sh s.heap.size)) (F0 m 22 ls []) := by
      intro H locs ls hH hS hl
      refine wald_n hx hb dX4_powerThatGoes_22 rfl (lv_at hl 0 rfl) ?_
      refine wg (C := RX4) (T := TX4) (N := 17) (v := wR loc 2) hx hb hts iX4 hown hKn.1 hH (q := 1) (hB.1 1 5 (by decide)) (by decide) rfl rfl 0 (by decide) k66 rfl dX4_powerThatGoes_23 ?_
      refine wast_n (lv' := [(2, wR loc 2), (0, wR loc 1), (1, .int z6)]) hx hb dX4_powerThatGoes_26 rfl hl (by decide) rfl (fun ls hl => ?_)
      refine wald_n hx hb dX4_powerThatGoes_27 rfl (lv_at hl 0 rfl) ?_
      refine wal (kd := 10) (ki := 3) hx hb hKn.1 hH (hB.1 2 10 (by decide)) (by decide) rfl rfl rfl hB.2.2.1 dX4_powerThatGoes_28 ?_
      refine lv_istore_n (lv' := [(3, .int (nI ng)), (2, wR loc 2), (0, wR loc 1), (1, .int z6)]) hx hb dX4_powerThatGoes_29 rfl hl (by decide) rfl (fun ls hl => ?_)
      refine lv_iconst (v := 0) hx hb dX4_powerThatGoes_30 (by decide) ?_
      refine lv_istore (lv' := [(4, .int 0), (3, .int (nI ng)), (2, wR loc 2), (0, wR loc 1), (1, .int z6)]) hx hb dX4_powerThatGoes_31 hl (by decide) rfl (fun ls hl => ?_)
      obtain ⟨z15, hL12, hf⟩ := wBd_e hf
      have hk13 : ∀ (H : Heap) (locs : List Loc) (ls : Array Slot), wH D K loc sh ln iv rv H → va_S (wA loc sh s.heap.size) s.heap H locs → lv_has ls 6 [(1, .int z15)] → W p l e (headSpec wsX4_powerThatGoes ({ frames := 0, cells := 0, slots := 0, locals := 0 })).room s m ([wR loc 1] : List Value).toArray below meth c H locs 0 0 (MQ below (wQi D K loc sh ln iv rv s.heap.size r') ([wR loc 1] : List Value).toArray s 0 0 (wA loc sh s.heap.size)) (F0 m 62 ls []) := by
        clear hL12 hl hS hH
        intro H locs ls hH hS hl
        refine lv_iload_n hx hb dX4_powerThatGoes_62 rfl (lv_at hl 0 rfl) ?_
        cases hf
        exact W.iret hx hb hr (fun t ht hW => ⟨⟨_, (), rfl, rfl, by show wH _ _ _ _ _ _ _ t.heap; rw [ht]; exact hH⟩, hS.F ht⟩) hS.2.2 dX4_powerThatGoes_63
      have lp14 : ∀ (n9 : Nat) (x10 : Int32) (x11 : Int32) (H : Heap) (locs : List Loc) (ls : Array Slot), fX4_powerThatGoes_33 ng sh n9 iv rv (nI ng) x10 x11 = some z15 → wH D K loc sh ln iv rv H → va_S (wA loc sh s.heap.size) s.heap H locs → lv_has ls 6 [(1, .int x10), (2, wR loc 2), (3, .int (nI ng)), (4, .int x11)] → W p l e (headSpec wsX4_powerThatGoes ({ frames := 0, cells := 0, slots := 0, locals := 0 })).room s m ([wR loc 1] : List Value).toArray below meth c H locs 0 0 (MQ below (wQi D K loc sh ln iv rv s.heap.size r') ([wR loc 1] : List Value).toArray s 0 0 (wA loc sh s.heap.size)) (F0 m 33 ls []) := by
        clear hf hl hS hH hL12
        intro n9
        induction n9 with
        | zero => intro x10 x11 H locs ls hf; cases hf
        | succ n9 ih =>
          intro x10 x11 H locs ls hf hH hS hl
          rw [fX4_powerThatGoes_33.eq_2] at hf
          refine lv_iload hx hb dX4_powerThatGoes_33 (lv_at hl 3 rfl) ?_
          refine lv_iload_n hx hb dX4_powerThatGoes_35 rfl (lv_at hl 2 rfl) ?_
          refine lv_icmp_ge (tgt := 62) hx hb dX4_powerThatGoes_36 (by decide) (fun c16 => ?_) (fun c16 => ?_)
          · have hf := wIt c16 hf
            cases hf
            exact hk13 _ _ _ hH hS (lv_sub hl [0] rfl)
          · have hf := wIf c16 hf
            refine wald_n hx hb dX4_powerThatGoes_39 rfl (lv_at hl 1 rfl) ?_
            refine lv_iload hx hb dX4_powerThatGoes_40 (lv_at hl 3 rfl) ?_
            obtain ⟨g17, hf⟩ := wGd_e hf
            refine waa (kd := 10) (ki := 3) hx hb hKn.1 hH (hB.1 2 10 (by decide)) (by decide) rfl rfl hB.2.2.1 g17 dX4_powerThatGoes_42 ?_
            refine wast (lv' := [(5, wR loc (rv 2 x11.toNatClampNeg)), (1, .int x10), (2, wR loc 2), (3, .int (nI ng)), (4, .int x11)]) hx hb dX4_powerThatGoes_43 hl (by decide) rfl (fun ls hl => ?_)
            refine wald hx hb dX4_powerThatGoes_45 (lv_at hl 0 rfl) ?_
            obtain ⟨g18, hf⟩ := wGd_e hf
            refine wg (C := RX1) (T := TX1) (N := 6) (v := .int (iv (rv 2 x11.toNatClampNeg) 1)) hx hb hts iX1 hown hKn.1 hH (q := (rv 2 x11.toNatClampNeg)) g18 (by decide) rfl rfl 1 (by decide) k151 rfl dX4_powerThatGoes_47 ?_
            refine lv_if_eq (tgt := 56) hx hb dX4_powerThatGoes_50 (by decide) (fun c19 => ?_) (fun c19 => ?_)
            · have hf := wIt c19 hf
              refine lv_iinc (v := (x11 + 1)) (lv' := [(4, .int (x11 + 1)), (5, wR loc (rv 2 x11.toNatClampNeg)), (1, .int x10), (2, wR loc 2), (3, .int (nI ng))]) hx hb dX4_powerThatGoes_56 hl (k := 4) rfl rfl (by decide) rfl (fun ls hl => ?_)
              refine lv_goto (tgt := 33) hx hb dX4_powerThatGoes_59 (by decide) ?_
              exact ih _ _ _ _ _ hf hH hS (lv_sub hl [2, 3, 4, 0] rfl)
            · have hf := wIf c19 hf
              refine lv_iinc (v := (x10 + 2)) (lv' := [(1, .int (x10 + 2)), (5, wR loc (rv 2 x11.toNatClampNeg)), (2, wR loc 2), (3, .int (nI ng)), (4, .int x11)]) hx hb dX4_powerThatGoes_53 hl (k := 1) rfl rfl (by decide) rfl (fun ls hl => ?_)
              refine lv_iinc (v := (x11 + 1)) (lv' := [(4, .int (x11 + 1)), (1, .int (x10 + 2)), (5, wR loc (rv 2 x11.toNatClampNeg)), (2, wR loc 2), (3, .int (nI ng))]) hx hb dX4_powerThatGoes_56 hl (k := 4) rfl rfl (by decide) rfl (fun ls hl => ?_)
              refine lv_goto (tgt := 33) hx hb dX4_powerThatGoes_59 (by decide) ?_
              exact ih _ _ _ _ _ hf hH hS (lv_sub hl [1, 3, 4, 0] rfl)
      exact lp14 wN _ _ _ _ _ hL12 hH hS (lv_sub hl [4, 2, 1, 0] rfl)
    clear hf
    have hf := hv7
    clear hv7
    refine wifnull (tgt := 22) hx hb dX4_powerThatGoes_16 (by decide) (fun c5 => ?_) (fun c5 => ?_)
    · have hf := wIt c5 hf
      cases hf
      exact hj8 _ _ _ hH hS (lv_sub hl [0, 1] rfl)
    · have hf := wIf c5 hf
      refine lv_iinc (v := (z2 + 3)) (lv' := [(1, .int (z2 + 3)), (0, wR loc 1)]) hx hb dX4_powerThatGoes_19 hl (k := 1) rfl rfl (by decide) rfl (fun ls hl => ?_)
      cases hf
      exact hj8 _ _ _ hH hS (lv_sub hl [1, 0] rfl)
  clear hf
  have hf := hv3
  clear hv3
  refine wifnull (tgt := 12) hx hb dX4_powerThatGoes_6 (by decide) (fun c1 => ?_) (fun c1 => ?_)
  · have hf := wIt c1 hf
    cases hf
    exact hj4 _ _ _ hH hS (lv_sub hl [1, 0] rfl)
  · have hf := wIf c1 hf
    refine lv_iinc (v := (0 + 4)) (lv' := [(1, .int (0 + 4)), (0, wR loc 1)]) hx hb dX4_powerThatGoes_9 hl (k := 0) rfl rfl (by decide) rfl (fun ls hl => ?_)
    cases hf
    exact hj4 _ _ _ hH hS (lv_sub hl [1, 0] rfl)
noncomputable def fX4_isPowerFor (ng : Nat) (sh : Nat → Nat) (iv : wI) (rv : wJ) (a1 : Int32) : Option (Int32) := wBd (fX4_powerThatGoes ng sh iv rv) (fun (r1 : Int32) => if (iv 1 10) < (r1 + a1) then some (0 : Int32) else some (1 : Int32))
set_option maxHeartbeats 4000000 in
set_option maxRecDepth 100000 in
theorem mtX4_isPowerFor (l : Launch) (D : va_G) (K : Nat → ClassId) (loc sh ln : Nat → Nat) (iv : wI) (rv : wJ) (sz : Nat) (ng : Nat) (a1 : Int32) {r' : Int32} (hB : wBx ng sh ln) (hf : fX4_isPowerFor ng sh iv rv a1 = some r') : Met l yX4_isPowerFor wsX4_isPowerFor ({ frames := 1, cells := 0, slots := 0, locals := 25 }) (wPc D K loc sh ln iv rv sz [wR loc 1, .int a1]) (wQi D K loc sh ln iv rv sz r') 0 0 (wA loc sh sz) := by
  refine Met.ofW (cc := cX4_isPowerFor) (maxL := 2) (ret := (some .boolean)) (by decide) rfl ?_
  intro p e s m args below meth c s₁ B hml hv
  obtain ⟨rfl, hsz, hH, hKn⟩ := hv
  have hx := B.exec
  have hb := B.bytes
  have hr := B.returns
  have hts := atoms_spec (ws := wsX4_isPowerFor) B.pre
  have hown : s.vm.findClass RX4 = some m.cls := findClass_of_methodNamed B.named
  have hlocks := B.notSynchronized
  subst hsz
  have hA : ∀ q : Nat, s.heap.size ≤ q → wA loc sh s.heap.size q := fun q h => Or.inr h
  have hO : ∀ a, sh a ≠ 0 → wA loc sh s.heap.size (loc a) := fun a h => Or.inl ⟨a, h, rfl⟩
  have hS : va_S (wA loc sh s.heap.size) s.heap s.heap [] := va_S.rf
  obtain ⟨ls, hen, hl⟩ := wEntry m [wR loc 1, .int a1] 2 (List.forall_mem_cons.mpr ⟨wR_cat _ _, List.forall_mem_cons.mpr ⟨rfl, fun _ h => absurd h List.not_mem_nil⟩⟩) (Nat.le_of_ble_eq_true rfl)
  rw [hen]
  clear hen
  have hl : lv_has ls 2 [(0, wR loc 1), (1, .int a1)] := hl
  have k80 := hts (.fieldLink RX4 80 "CupByCup" "powerLimit" "I") (List.mem_of_getElem? (i := 1) rfl)
  have iX4 : ∀ w ∈ wsX40, w ∈ wsX4_isPowerFor := fun w h => List.mem_cons_of_mem _ (List.mem_append_left _ (List.mem_append_right _ h))
  unfold fX4_isPowerFor at hf
  refine wald_n hx hb dX4_isPowerFor_0 rfl (lv_at hl 0 rfl) ?_
  obtain ⟨r1, h2, hf⟩ := wBd_e hf
  refine wci (va_runV (As := []) (rest := []) ⟨hx, hb, hml, hown, hts⟩ (mtX4_powerThatGoes l D K loc sh ln iv rv _ ng hB h2) (cwV 0 hts gX4_isPowerFor_X4_powerThatGoes rfl rfl rfl (by decide +kernel) ⟨Nat.le_of_ble_eq_true rfl, Nat.le_of_ble_eq_true rfl⟩) (wPreV hKn hH (hB.1 1 5 (by decide)) (by decide) rfl rfl) rfl rfl hl.1 rfl (lv_room (Nat.le_of_ble_eq_true rfl)) dX4_isPowerFor_1 ⟨Nat.zero_le _, Nat.zero_le _⟩) hS hO hA (fun H locs hH hS => ?_)
  refine lv_iload_n hx hb dX4_isPowerFor_4 rfl (lv_at hl 1 rfl) ?_
  refine lv_iadd hx hb dX4_isPowerFor_5 ?_
  refine wald_n hx hb dX4_isPowerFor_6 rfl (lv_at hl 0 rfl) ?_
  refine wg (C := RX4) (T := TX4) (N := 17) (v := .int (iv 1 10)) hx hb hts iX4 hown hKn.1 hH (q := 1) (hB.1 1 5 (by decide)) (by decide) rfl rfl 10 (by decide) k80 rfl dX4_isPowerFor_7 ?_
  refine lv_icmp_gt (tgt := 17) hx hb dX4_isPowerFor_10 (by decide) (fun c3 => ?_) (fun c3 => ?_)
  · have hf := wIt c3 hf
    refine lv_iconst (v := 0) hx hb dX4_isPowerFor_17 (by decide) ?_
    cases hf
    exact W.zret hx hb hr rfl (fun t ht hW => ⟨⟨_, (), rfl, rfl, by show wH _ _ _ _ _ _ _ t.heap; rw [ht]; exact hH⟩, hS.F ht⟩) hS.2.2 dX4_isPowerFor_18
  · have hf := wIf c3 hf
    refine lv_iconst (v := 1) hx hb dX4_isPowerFor_13 (by decide) ?_
    refine lv_goto (tgt := 18) hx hb dX4_isPowerFor_14 (by decide) ?_
    cases hf
    exact W.zret hx hb hr rfl (fun t ht hW => ⟨⟨_, (), rfl, rfl, by show wH _ _ _ _ _ _ _ t.heap; rw [ht]; exact hH⟩, hS.F ht⟩) hS.2.2 dX4_isPowerFor_18
noncomputable def fX4_firstThat_13 (ng : Nat) (sh : Nat → Nat) : Nat → wI → wJ → Int32 → Int32 → Option (Nat)
  | 0, _, _, _, _ => none
  | n + 1, iv, rv, x1, x2 => if (iv 1 4) ≤ x2 then some 0 else wGd (vp_in x2 100) (wGd (sh (rv 4 x2.toNatClampNeg) = 1) (if (iv (rv 4 x2.toNatClampNeg) 5) = x1 then some (rv 4 x2.toNatClampNeg) else fX4_firstThat_13 ng sh n iv rv x1 (x2 + 1)))
noncomputable def fX4_firstThat (ng : Nat) (sh : Nat → Nat) (iv : wI) (rv : wJ) (a1 : Int32) : Option (Nat) := wGd (vp_in a1 8) (if (iv 5 a1.toNatClampNeg) = 0 then some 0 else fX4_firstThat_13 ng sh wN iv rv a1 0)
set_option maxHeartbeats 4000000 in
set_option maxRecDepth 100000 in
theorem mtX4_firstThat (l : Launch) (D : va_G) (K : Nat → ClassId) (loc sh ln : Nat → Nat) (iv : wI) (rv : wJ) (sz : Nat) (ng : Nat) (a1 : Int32) {r' : Nat} (hB : wBx ng sh ln) (hf : fX4_firstThat ng sh iv rv a1 = some r') : Met l yX4_firstThat wsX4_firstThat ({ frames := 0, cells := 0, slots := 0, locals := 0 }) (wPc D K loc sh ln iv rv sz [wR loc 1, .int a1]) (wQr D K loc sh ln iv rv sz r') 0 0 (wA loc sh sz) := by
  refine Met.ofW (cc := cX4_firstThat) (maxL := 3) (ret := (some (.object "CupByCup$Cup"))) (by decide) rfl ?_
  intro p e s m args below meth c s₁ B hml hv
  obtain ⟨rfl, hsz, hH, hKn⟩ := hv
  have hx := B.exec
  have hb := B.bytes
  have hr := B.returns
  have hts := atoms_spec (ws := wsX4_firstThat) B.pre
  have hown : s.vm.findClass RX4 = some m.cls := findClass_of_methodNamed B.named
  have hlocks := B.notSynchronized
  subst hsz
  have hA : ∀ q : Nat, s.heap.size ≤ q → wA loc sh s.heap.size q := fun q h => Or.inr h
  have hO : ∀ a, sh a ≠ 0 → wA loc sh s.heap.size (loc a) := fun a h => Or.inl ⟨a, h, rfl⟩
  have hS : va_S (wA loc sh s.heap.size) s.heap s.heap [] := va_S.rf
  obtain ⟨ls, hen, hl⟩ := wEntry m [wR loc 1, .int a1] 3 (List.forall_mem_cons.mpr ⟨wR_cat _ _, List.forall_mem_cons.mpr ⟨rfl, fun _ h => absurd h List.not_mem_nil⟩⟩) (Nat.le_of_ble_eq_true rfl)
  rw [hen]
  clear hen
  have hl : lv_has ls 3 [(0, wR loc 1), (1, .int a1)] := hl
  have k28 := hts (.fieldLink RX4 28 "CupByCup" "cupsThat" "[I") (List.mem_of_getElem? (i := 1) rfl)
  have iX4 : ∀ w ∈ wsX40, w ∈ wsX4_firstThat := fun w h => List.mem_cons_of_mem _ (List.mem_append_left _ (List.mem_append_right _ h))
  have k25 := hts (.fieldLink RX4 25 "CupByCup" "cupCount" "I") (List.mem_of_getElem? (i := 2) rfl)
  have k21 := hts (.fieldLink RX4 21 "CupByCup" "cups" "[LCupByCup$Cup;") (List.mem_of_getElem? (i := 3) rfl)
  have k95 := hts (.fieldLink RX4 95 "CupByCup$Cup" "state" "I") (List.mem_of_getElem? (i := 4) rfl)
  have iX0 : ∀ w ∈ wsX00, w ∈ wsX4_firstThat := fun w h => List.mem_cons_of_mem _ (List.mem_append_right _ h)
  unfold fX4_firstThat at hf
  refine wald_n hx hb dX4_firstThat_0 rfl (lv_at hl 0 rfl) ?_
  refine wg (C := RX4) (T := TX4) (N := 17) (v := wR loc 5) hx hb hts iX4 hown hKn.1 hH (q := 1) (hB.1 1 5 (by decide)) (by decide) rfl rfl 5 (by decide) k28 rfl dX4_firstThat_1 ?_
  refine lv_iload_n hx hb dX4_firstThat_4 rfl (lv_at hl 1 rfl) ?_
  obtain ⟨g1, hf⟩ := wGd_e hf
  refine wia hx hb hKn.1 hH (hB.1 5 7 (by decide)) (hB.2.1 5 _ (by decide)) g1 dX4_firstThat_5 ?_
  refine lv_if_ne (tgt := 11) hx hb dX4_firstThat_6 (by decide) (fun c2 => ?_) (fun c2 => ?_)
  · have hf := wIf c2 hf
    refine lv_iconst (v := 0) hx hb dX4_firstThat_11 (by decide) ?_
    refine lv_istore_n (lv' := [(2, .int 0), (0, wR loc 1), (1, .int a1)]) hx hb dX4_firstThat_12 rfl hl (by decide) rfl (fun ls hl => ?_)
    have lp7 : ∀ (n3 : Nat) (x4 : Int32) (H : Heap) (locs : List Loc) (ls : Array Slot), fX4_firstThat_13 ng sh n3 iv rv a1 x4 = some r' → wH D K loc sh ln iv rv H → va_S (wA loc sh s.heap.size) s.heap H locs → lv_has ls 3 [(0, wR loc 1), (1, .int a1), (2, .int x4)] → W p l e (headSpec wsX4_firstThat ({ frames := 0, cells := 0, slots := 0, locals := 0 })).room s m ([wR loc 1, .int a1] : List Value).toArray below meth c H locs 0 0 (MQ below (wQr D K loc sh ln iv rv s.heap.size r') ([wR loc 1, .int a1] : List Value).toArray s 0 0 (wA loc sh s.heap.size)) (F0 m 13 ls []) := by
      clear hf hl hS hH
      intro n3
      induction n3 with
      | zero => intro x4 H locs ls hf; cases hf
      | succ n3 ih =>
        intro x4 H locs ls hf hH hS hl
        rw [fX4_firstThat_13.eq_2] at hf
        refine lv_iload_n hx hb dX4_firstThat_13 rfl (lv_at hl 2 rfl) ?_
        refine wald_n hx hb dX4_firstThat_14 rfl (lv_at hl 0 rfl) ?_
        refine wg (C := RX4) (T := TX4) (N := 17) (v := .int (iv 1 4)) hx hb hts iX4 hown hKn.1 hH (q := 1) (hB.1 1 5 (by decide)) (by decide) rfl rfl 4 (by decide) k25 rfl dX4_firstThat_15 ?_
        refine lv_icmp_ge (tgt := 47) hx hb dX4_firstThat_18 (by decide) (fun c8 => ?_) (fun c8 => ?_)
        · have hf := wIt c8 hf
          refine wnul hx hb loc dX4_firstThat_47 ?_
          cases hf
          exact W.aret hx hb hr (Or.inl ⟨_, rfl⟩) (wR_or _ _) (fun t ht hW => ⟨⟨_, (), by rw [wR_rf], rfl, by show wH _ _ _ _ _ _ _ t.heap; rw [ht]; exact hH⟩, hS.F ht⟩) hS.2.2 dX4_firstThat_48
        · have hf := wIf c8 hf
          refine wald_n hx hb dX4_firstThat_21 rfl (lv_at hl 0 rfl) ?_
          refine wg (C := RX4) (T := TX4) (N := 17) (v := wR loc 4) hx hb hts iX4 hown hKn.1 hH (q := 1) (hB.1 1 5 (by decide)) (by decide) rfl rfl 3 (by decide) k21 rfl dX4_firstThat_22 ?_
          refine lv_iload_n hx hb dX4_firstThat_25 rfl (lv_at hl 2 rfl) ?_
          obtain ⟨g9, hf⟩ := wGd_e hf
          refine waa (kd := 9) (ki := 2) hx hb hKn.1 hH (hB.1 4 9 (by decide)) (by decide) rfl rfl (hB.2.1 4 _ (by decide)) g9 dX4_firstThat_26 ?_
          obtain ⟨g10, hf⟩ := wGd_e hf
          refine wg (C := RX0) (T := TX0) (N := 11) (v := .int (iv (rv 4 x4.toNatClampNeg) 5)) hx hb hts iX0 hown hKn.1 hH (q := (rv 4 x4.toNatClampNeg)) g10 (by decide) rfl rfl 5 (by decide) k95 rfl dX4_firstThat_27 ?_
          refine lv_iload_n hx hb dX4_firstThat_30 rfl (lv_at hl 1 rfl) ?_
          refine lv_icmp_ne (tgt := 41) hx hb dX4_firstThat_31 (by decide) (fun c11 => ?_) (fun c11 => ?_)
          · have hf := wIf c11 hf
            refine lv_iinc (v := (x4 + 1)) (lv' := [(2, .int (x4 + 1)), (0, wR loc 1), (1, .int a1)]) hx hb dX4_firstThat_41 hl (k := 2) rfl rfl (by decide) rfl (fun ls hl => ?_)
            refine lv_goto (tgt := 13) hx hb dX4_firstThat_44 (by decide) ?_
            exact ih _ _ _ _ hf hH hS (lv_sub hl [1, 2, 0] rfl)
          · have hf := wIt c11 hf
            refine wald_n hx hb dX4_firstThat_34 rfl (lv_at hl 0 rfl) ?_
            refine wg (C := RX4) (T := TX4) (N := 17) (v := wR loc 4) hx hb hts iX4 hown hKn.1 hH (q := 1) (hB.1 1 5 (by decide)) (by decide) rfl rfl 3 (by decide) k21 rfl dX4_firstThat_35 ?_
            refine lv_iload_n hx hb dX4_firstThat_38 rfl (lv_at hl 2 rfl) ?_
            refine waa (kd := 9) (ki := 2) hx hb hKn.1 hH (hB.1 4 9 (by decide)) (by decide) rfl rfl (hB.2.1 4 _ (by decide)) g9 dX4_firstThat_39 ?_
            cases hf
            exact W.aret hx hb hr (Or.inl ⟨_, rfl⟩) (wR_or _ _) (fun t ht hW => ⟨⟨_, (), by rw [wR_rf], rfl, by show wH _ _ _ _ _ _ _ t.heap; rw [ht]; exact hH⟩, hS.F ht⟩) hS.2.2 dX4_firstThat_40
    exact lp7 wN _ _ _ _ hf hH hS (lv_sub hl [1, 2, 0] rfl)
  · have hf := wIt c2 hf
    refine wnul hx hb loc dX4_firstThat_9 ?_
    cases hf
    exact W.aret hx hb hr (Or.inl ⟨_, rfl⟩) (wR_or _ _) (fun t ht hW => ⟨⟨_, (), by rw [wR_rf], rfl, by show wH _ _ _ _ _ _ _ t.heap; rw [ht]; exact hH⟩, hS.F ht⟩) hS.2.2 dX4_firstThat_10
noncomputable def fX4_beginSteam (ng : Nat) (sh : Nat → Nat) (iv : wI) (rv : wJ) : Option (wI × wJ) := if (rv 1 9) = 0 then wBd (fX4_isPowerFor ng sh iv rv 3) (fun (r2 : Int32) => if r2 = 0 then some (iv, rv) else wBd (fX4_firstThat ng sh iv rv 4) (fun (q5 : Nat) => if q5 = 0 then some (iv, rv) else wGd (sh q5 = 1) (wGd (sh (rv q5 1) = 4) (wGd (vp_in 2 3) (if (iv (rv q5 1) 5) ≤ (iv 6 (2 : Int32).toNatClampNeg) then wLt (wU iv 6 (2 : Int32).toNatClampNeg ((iv 6 (2 : Int32).toNatClampNeg) - (iv (rv q5 1) 5))) (fun (iv12 : wI) => wLt (wU iv12 q5 7 (iv12 (rv q5 1) 3)) (fun (iv14 : wI) => wLt (wV rv 1 9 q5) (fun (rv16 : wJ) => wB2 (fX4_turn ng sh iv14 rv16 q5 5) (fun (iv18 : wI) (rv19 : wJ) => some (iv18, rv19))))) else some (iv, rv)))))) else some (iv, rv)
set_option maxHeartbeats 4000000 in
set_option maxRecDepth 100000 in
theorem mtX4_beginSteam (l : Launch) (D : va_G) (K : Nat → ClassId) (loc sh ln : Nat → Nat) (iv : wI) (rv : wJ) (sz : Nat) (ng : Nat) {iv' : wI} {rv' : wJ} (hB : wBx ng sh ln) (hf : fX4_beginSteam ng sh iv rv = some (iv', rv')) : Met l yX4_beginSteam wsX4_beginSteam ({ frames := 2, cells := 0, slots := 0, locals := 46 }) (wPc D K loc sh ln iv rv sz [wR loc 1]) (wQv D K loc sh ln iv' rv' sz) 0 0 (wA loc sh sz) := by
  refine Met.ofW (cc := cX4_beginSteam) (maxL := 2) (ret := none) (by decide) rfl ?_
  intro p e s m args below meth c s₁ B hml hv
  obtain ⟨rfl, hsz, hH, hKn⟩ := hv
  have hx := B.exec
  have hb := B.bytes
  have hr := B.returns
  have hts := atoms_spec (ws := wsX4_beginSteam) B.pre
  have hown : s.vm.findClass RX4 = some m.cls := findClass_of_methodNamed B.named
  have hlocks := B.notSynchronized
  subst hsz
  have hA : ∀ q : Nat, s.heap.size ≤ q → wA loc sh s.heap.size q := fun q h => Or.inr h
  have hO : ∀ a, sh a ≠ 0 → wA loc sh s.heap.size (loc a) := fun a h => Or.inl ⟨a, h, rfl⟩
  have hS : va_S (wA loc sh s.heap.size) s.heap s.heap [] := va_S.rf
  obtain ⟨ls, hen, hl⟩ := wEntry m [wR loc 1] 2 (List.forall_mem_cons.mpr ⟨wR_cat _ _, fun _ h => absurd h List.not_mem_nil⟩) (Nat.le_of_ble_eq_true rfl)
  rw [hen]
  clear hen
  have hl : lv_has ls 2 [(0, wR loc 1)] := hl
  have k39 := hts (.fieldLink RX4 39 "CupByCup" "atWand" "LCupByCup$Cup;") (List.mem_of_getElem? (i := 1) rfl)
  have iX4 : ∀ w ∈ wsX40, w ∈ wsX4_beginSteam := fun w h => List.mem_cons_of_mem _ (List.mem_append_left _ (List.mem_append_left _ (List.mem_append_left _ (List.mem_append_right _ h))))
  have k98 := hts (.fieldLink RX4 98 "CupByCup$Cup" "recipe" "LCupByCup$Recipe;") (List.mem_of_getElem? (i := 2) rfl)
  have iX0 : ∀ w ∈ wsX00, w ∈ wsX4_beginSteam := fun w h => List.mem_cons_of_mem _ (List.mem_append_left _ (List.mem_append_left _ (List.mem_append_right _ h)))
  have k238 := hts (.fieldLink RX4 238 "CupByCup$Recipe" "milk" "I") (List.mem_of_getElem? (i := 3) rfl)
  have iX3 : ∀ w ∈ wsX30, w ∈ wsX4_beginSteam := fun w h => List.mem_cons_of_mem _ (List.mem_append_left _ (List.mem_append_right _ h))
  have k32 := hts (.fieldLink RX4 32 "CupByCup" "stores" "[I") (List.mem_of_getElem? (i := 4) rfl)
  have k227 := hts (.fieldLink RX4 227 "CupByCup$Recipe" "steam" "I") (List.mem_of_getElem? (i := 5) rfl)
  have k217 := hts (.fieldLink RX4 217 "CupByCup$Cup" "toGo" "I") (List.mem_of_getElem? (i := 6) rfl)
  unfold fX4_beginSteam at hf
  refine wald_n hx hb dX4_beginSteam_0 rfl (lv_at hl 0 rfl) ?_
  refine wg (C := RX4) (T := TX4) (N := 17) (v := wR loc (rv 1 9)) hx hb hts iX4 hown hKn.1 hH (q := 1) (hB.1 1 5 (by decide)) (by decide) rfl rfl 9 (by decide) k39 rfl dX4_beginSteam_1 ?_
  refine wifnon (tgt := 15) hx hb dX4_beginSteam_4 (by decide) (fun c1 => ?_) (fun c1 => ?_)
  · have hf := wIf c1 hf
    cases hf
    exact W.vret hx hb hr (fun t ht hW => ⟨⟨(), rfl, trivial, by show wH _ _ _ _ _ _ _ t.heap; rw [ht]; exact hH⟩, hS.F ht⟩) hS.2.2 dX4_beginSteam_15
  · have hf := wIt c1 hf
    refine wald_n hx hb dX4_beginSteam_7 rfl (lv_at hl 0 rfl) ?_
    refine lv_iconst (v := 3) hx hb dX4_beginSteam_8 (by decide) ?_
    obtain ⟨r2, h3, hf⟩ := wBd_e hf
    refine wci (va_runV (As := [.int 3]) (rest := []) ⟨hx, hb, hml, hown, hts⟩ (mtX4_isPowerFor l D K loc sh ln iv rv _ ng 3 hB h3) (cwV 1 hts gX4_beginSteam_X4_isPowerFor rfl rfl rfl (by decide +kernel) ⟨Nat.le_of_ble_eq_true rfl, Nat.le_of_ble_eq_true rfl⟩) (wPreV hKn hH (hB.1 1 5 (by decide)) (by decide) rfl rfl) rfl rfl hl.1 rfl (lv_room (Nat.le_of_ble_eq_true rfl)) dX4_beginSteam_9 ⟨Nat.zero_le _, Nat.zero_le _⟩) hS hO hA (fun H locs hH hS => ?_)
    refine lv_if_ne (tgt := 16) hx hb dX4_beginSteam_12 (by decide) (fun c4 => ?_) (fun c4 => ?_)
    · have hf := wIf c4 hf
      refine wald_n hx hb dX4_beginSteam_16 rfl (lv_at hl 0 rfl) ?_
      refine lv_iconst (v := 4) hx hb dX4_beginSteam_17 (by decide) ?_
      obtain ⟨q5, h6, hf⟩ := wBd_e hf
      refine wcr (va_runV (As := [.int 4]) (rest := []) ⟨hx, hb, hml, hown, hts⟩ (mtX4_firstThat l D K loc sh ln iv rv _ ng 4 hB h6) (cwV 1 hts gX4_beginSteam_X4_firstThat rfl rfl rfl (by decide +kernel) ⟨Nat.le_of_ble_eq_true rfl, Nat.le_of_ble_eq_true rfl⟩) (wPreV hKn hH (hB.1 1 5 (by decide)) (by decide) rfl rfl) rfl rfl hl.1 rfl (lv_room (Nat.le_of_ble_eq_true rfl)) dX4_beginSteam_18 ⟨Nat.zero_le _, Nat.zero_le _⟩) hS hO hA (fun H locs hH hS => ?_)
      refine wast_n (lv' := [(1, wR loc q5), (0, wR loc 1)]) hx hb dX4_beginSteam_21 rfl hl (by decide) rfl (fun ls hl => ?_)
      refine wald_n hx hb dX4_beginSteam_22 rfl (lv_at hl 0 rfl) ?_
      refine wifnull (tgt := 42) hx hb dX4_beginSteam_23 (by decide) (fun c7 => ?_) (fun c7 => ?_)
      · have hf := wIt c7 hf
        cases hf
        exact W.vret hx hb hr (fun t ht hW => ⟨⟨(), rfl, trivial, by show wH _ _ _ _ _ _ _ t.heap; rw [ht]; exact hH⟩, hS.F ht⟩) hS.2.2 dX4_beginSteam_42
      · have hf := wIf c7 hf
        refine wald_n hx hb dX4_beginSteam_26 rfl (lv_at hl 0 rfl) ?_
        obtain ⟨g8, hf⟩ := wGd_e hf
        refine wg (C := RX0) (T := TX0) (N := 11) (v := wR loc (rv q5 1)) hx hb hts iX0 hown hKn.1 hH (q := q5) g8 (by decide) rfl rfl 1 (by decide) k98 rfl dX4_beginSteam_27 ?_
        obtain ⟨g9, hf⟩ := wGd_e hf
        refine wg (C := RX3) (T := TX3) (N := 6) (v := .int (iv (rv q5 1) 5)) hx hb hts iX3 hown hKn.1 hH (q := (rv q5 1)) g9 (by decide) rfl rfl 5 (by decide) k238 rfl dX4_beginSteam_30 ?_
        refine wald_n hx hb dX4_beginSteam_33 rfl (lv_at hl 1 rfl) ?_
        refine wg (C := RX4) (T := TX4) (N := 17) (v := wR loc 6) hx hb hts iX4 hown hKn.1 hH (q := 1) (hB.1 1 5 (by decide)) (by decide) rfl rfl 6 (by decide) k32 rfl dX4_beginSteam_34 ?_
        refine lv_iconst (v := 2) hx hb dX4_beginSteam_37 (by decide) ?_
        obtain ⟨g10, hf⟩ := wGd_e hf
        refine wia hx hb hKn.1 hH (hB.1 6 7 (by decide)) (hB.2.1 6 _ (by decide)) g10 dX4_beginSteam_38 ?_
        refine lv_icmp_le (tgt := 43) hx hb dX4_beginSteam_39 (by decide) (fun c11 => ?_) (fun c11 => ?_)
        · have hf := wIt c11 hf
          refine wald_n hx hb dX4_beginSteam_43 rfl (lv_at hl 1 rfl) ?_
          refine wg (C := RX4) (T := TX4) (N := 17) (v := wR loc 6) hx hb hts iX4 hown hKn.1 hH (q := 1) (hB.1 1 5 (by decide)) (by decide) rfl rfl 6 (by decide) k32 rfl dX4_beginSteam_44 ?_
          refine lv_iconst (v := 2) hx hb dX4_beginSteam_47 (by decide) ?_
          refine lv_dup2_11 hx hb dX4_beginSteam_48 rfl (wR_cat _ _) ?_
          refine wia hx hb hKn.1 hH (hB.1 6 7 (by decide)) (hB.2.1 6 _ (by decide)) g10 dX4_beginSteam_49 ?_
          refine wald_n hx hb dX4_beginSteam_50 rfl (lv_at hl 0 rfl) ?_
          refine wg (C := RX0) (T := TX0) (N := 11) (v := wR loc (rv q5 1)) hx hb hts iX0 hown hKn.1 hH (q := q5) g8 (by decide) rfl rfl 1 (by decide) k98 rfl dX4_beginSteam_51 ?_
          refine wg (C := RX3) (T := TX3) (N := 6) (v := .int (iv (rv q5 1) 5)) hx hb hts iX3 hown hKn.1 hH (q := (rv q5 1)) g9 (by decide) rfl rfl 5 (by decide) k238 rfl dX4_beginSteam_54 ?_
          refine lv_isub hx hb dX4_beginSteam_57 ?_
          obtain ⟨iv12, e13, hf⟩ := wLt_e hf
          refine wis hx hb hKn.1 hH hO hS (hB.1 6 7 (by decide)) (hB.2.1 6 _ (by decide)) g10 dX4_beginSteam_58 (fun H locs hH hS => ?_)
          rw [← e13] at hH
          refine wald_n hx hb dX4_beginSteam_59 rfl (lv_at hl 0 rfl) ?_
          refine wald_n hx hb dX4_beginSteam_60 rfl (lv_at hl 0 rfl) ?_
          refine wg (C := RX0) (T := TX0) (N := 11) (v := wR loc (rv q5 1)) hx hb hts iX0 hown hKn.1 hH (q := q5) g8 (by decide) rfl rfl 1 (by decide) k98 rfl dX4_beginSteam_61 ?_
          refine wg (C := RX3) (T := TX3) (N := 6) (v := .int (iv12 (rv q5 1) 3)) hx hb hts iX3 hown hKn.1 hH (q := (rv q5 1)) g9 (by decide) rfl rfl 3 (by decide) k227 rfl dX4_beginSteam_64 ?_
          obtain ⟨iv14, e15, hf⟩ := wLt_e hf
          refine wp (C := RX0) (T := TX0) (N := 11) (v := .int (iv12 (rv q5 1) 3)) (ty := tyX0 7) (iv' := iv14) (rv' := rv) hx hb hts iX0 tyX0 tyX0_ok nmX0 hown hKn.1 hH hO hS (q := q5) g8 (by decide) rfl rfl 7 (by decide) k217 rfl (tyX0_ok 7 (by decide)) rfl rfl (Nat.le_of_ble_eq_true rfl) (by rw [e15, wU_self]; rfl) (fun a ha => by rw [e15]; exact wU_ne a ha) (fun _ _ => rfl) dX4_beginSteam_67 (fun H locs hH hS => ?_)
          refine wald_n hx hb dX4_beginSteam_70 rfl (lv_at hl 1 rfl) ?_
          refine wald_n hx hb dX4_beginSteam_71 rfl (lv_at hl 0 rfl) ?_
          obtain ⟨rv16, e17, hf⟩ := wLt_e hf
          refine wp (C := RX4) (T := TX4) (N := 17) (v := wR loc q5) (ty := tyX4 9) (iv' := iv14) (rv' := rv16) hx hb hts iX4 tyX4 tyX4_ok nmX4 hown hKn.1 hH hO hS (q := 1) (hB.1 1 5 (by decide)) (by decide) rfl rfl 9 (by decide) k39 rfl (tyX4_ok 9 (by decide)) (wR_nar _ _ _) (wR_fit _ _ _) (Nat.le_of_ble_eq_true rfl) (by rw [e17, wV_self]; rfl) (fun _ _ => rfl) (fun a ha => by rw [e17]; exact wV_ne a ha) dX4_beginSteam_72 (fun H locs hH hS => ?_)
          refine wald_n hx hb dX4_beginSteam_75 rfl (lv_at hl 1 rfl) ?_
          refine wald_n hx hb dX4_beginSteam_76 rfl (lv_at hl 0 rfl) ?_
          refine lv_iconst (v := 5) hx hb dX4_beginSteam_77 (by decide) ?_
          obtain ⟨iv18, rv19, h20, hf⟩ := wB2_e hf
          refine wcv (va_runV (As := [wR loc q5, .int 5]) (rest := []) ⟨hx, hb, hml, hown, hts⟩ (mtX4_turn l D K loc sh ln iv14 rv16 _ ng q5 5 hB h20) (cwV 2 hts gX4_beginSteam_X4_turn rfl rfl rfl (by decide +kernel) ⟨Nat.le_of_ble_eq_true rfl, Nat.le_of_ble_eq_true rfl⟩) (wPreV hKn hH (hB.1 1 5 (by decide)) (by decide) rfl rfl) rfl rfl hl.1 rfl (lv_room (Nat.le_of_ble_eq_true rfl)) dX4_beginSteam_78 ⟨Nat.zero_le _, Nat.zero_le _⟩) hS hO hA (fun H locs hH hS => ?_)
          cases hf
          exact W.vret hx hb hr (fun t ht hW => ⟨⟨(), rfl, trivial, by show wH _ _ _ _ _ _ _ t.heap; rw [ht]; exact hH⟩, hS.F ht⟩) hS.2.2 dX4_beginSteam_81
        · have hf := wIf c11 hf
          cases hf
          exact W.vret hx hb hr (fun t ht hW => ⟨⟨(), rfl, trivial, by show wH _ _ _ _ _ _ _ t.heap; rw [ht]; exact hH⟩, hS.F ht⟩) hS.2.2 dX4_beginSteam_42
    · have hf := wIt c4 hf
      cases hf
      exact W.vret hx hb hr (fun t ht hW => ⟨⟨(), rfl, trivial, by show wH _ _ _ _ _ _ _ t.heap; rw [ht]; exact hH⟩, hS.F ht⟩) hS.2.2 dX4_beginSteam_15
noncomputable def fX4_isRinseDue (ng : Nat) (sh : Nat → Nat) (iv : wI) (rv : wJ) (b1 : Nat) : Option (Int32) := wGd (sh b1 = 2) (if (iv b1 3) < 10 then if (iv b1 3) < 5 then some (0 : Int32) else wGd (vp_in 0 8) (if (iv 5 (0 : Int32).toNatClampNeg) = 0 then wGd (vp_in 2 8) (if (iv 5 (2 : Int32).toNatClampNeg) = 0 then some (1 : Int32) else some (0 : Int32)) else some (0 : Int32)) else some (1 : Int32))
set_option maxHeartbeats 4000000 in
set_option maxRecDepth 100000 in
theorem mtX4_isRinseDue (l : Launch) (D : va_G) (K : Nat → ClassId) (loc sh ln : Nat → Nat) (iv : wI) (rv : wJ) (sz : Nat) (ng : Nat) (b1 : Nat) {r' : Int32} (hB : wBx ng sh ln) (hf : fX4_isRinseDue ng sh iv rv b1 = some r') : Met l yX4_isRinseDue wsX4_isRinseDue ({ frames := 0, cells := 0, slots := 0, locals := 0 }) (wPc D K loc sh ln iv rv sz [wR loc 1, wR loc b1]) (wQi D K loc sh ln iv rv sz r') 0 0 (wA loc sh sz) := by
  refine Met.ofW (cc := cX4_isRinseDue) (maxL := 2) (ret := (some .boolean)) (by decide) rfl ?_
  intro p e s m args below meth c s₁ B hml hv
  obtain ⟨rfl, hsz, hH, hKn⟩ := hv
  have hx := B.exec
  have hb := B.bytes
  have hr := B.returns
  have hts := atoms_spec (ws := wsX4_isRinseDue) B.pre
  have hown : s.vm.findClass RX4 = some m.cls := findClass_of_methodNamed B.named
  have hlocks := B.notSynchronized
  subst hsz
  have hA : ∀ q : Nat, s.heap.size ≤ q → wA loc sh s.heap.size q := fun q h => Or.inr h
  have hO : ∀ a, sh a ≠ 0 → wA loc sh s.heap.size (loc a) := fun a h => Or.inl ⟨a, h, rfl⟩
  have hS : va_S (wA loc sh s.heap.size) s.heap s.heap [] := va_S.rf
  obtain ⟨ls, hen, hl⟩ := wEntry m [wR loc 1, wR loc b1] 2 (List.forall_mem_cons.mpr ⟨wR_cat _ _, List.forall_mem_cons.mpr ⟨wR_cat _ _, fun _ h => absurd h List.not_mem_nil⟩⟩) (Nat.le_of_ble_eq_true rfl)
  rw [hen]
  clear hen
  have hl : lv_has ls 2 [(0, wR loc 1), (1, wR loc b1)] := hl
  have k155 := hts (.fieldLink RX4 155 "CupByCup$Group" "due" "I") (List.mem_of_getElem? (i := 1) rfl)
  have iX1 : ∀ w ∈ wsX10, w ∈ wsX4_isRinseDue := fun w h => List.mem_cons_of_mem _ (List.mem_append_left _ (List.mem_append_right _ h))
  have k28 := hts (.fieldLink RX4 28 "CupByCup" "cupsThat" "[I") (List.mem_of_getElem? (i := 2) rfl)
  have iX4 : ∀ w ∈ wsX40, w ∈ wsX4_isRinseDue := fun w h => List.mem_cons_of_mem _ (List.mem_append_right _ h)
  unfold fX4_isRinseDue at hf
  refine wald_n hx hb dX4_isRinseDue_0 rfl (lv_at hl 1 rfl) ?_
  obtain ⟨g1, hf⟩ := wGd_e hf
  refine wg (C := RX1) (T := TX1) (N := 6) (v := .int (iv b1 3)) hx hb hts iX1 hown hKn.1 hH (q := b1) g1 (by decide) rfl rfl 3 (by decide) k155 rfl dX4_isRinseDue_1 ?_
  refine lv_bipush (v := 10) hx hb dX4_isRinseDue_4 (by decide) ?_
  refine lv_icmp_lt (tgt := 11) hx hb dX4_isRinseDue_6 (by decide) (fun c2 => ?_) (fun c2 => ?_)
  · have hf := wIt c2 hf
    refine wald_n hx hb dX4_isRinseDue_11 rfl (lv_at hl 1 rfl) ?_
    refine wg (C := RX1) (T := TX1) (N := 6) (v := .int (iv b1 3)) hx hb hts iX1 hown hKn.1 hH (q := b1) g1 (by decide) rfl rfl 3 (by decide) k155 rfl dX4_isRinseDue_12 ?_
    refine lv_iconst (v := 5) hx hb dX4_isRinseDue_15 (by decide) ?_
    refine lv_icmp_lt (tgt := 41) hx hb dX4_isRinseDue_16 (by decide) (fun c3 => ?_) (fun c3 => ?_)
    · have hf := wIt c3 hf
      refine lv_iconst (v := 0) hx hb dX4_isRinseDue_41 (by decide) ?_
      cases hf
      exact W.zret hx hb hr rfl (fun t ht hW => ⟨⟨_, (), rfl, rfl, by show wH _ _ _ _ _ _ _ t.heap; rw [ht]; exact hH⟩, hS.F ht⟩) hS.2.2 dX4_isRinseDue_42
    · have hf := wIf c3 hf
      refine wald_n hx hb dX4_isRinseDue_19 rfl (lv_at hl 0 rfl) ?_
      refine wg (C := RX4) (T := TX4) (N := 17) (v := wR loc 5) hx hb hts iX4 hown hKn.1 hH (q := 1) (hB.1 1 5 (by decide)) (by decide) rfl rfl 5 (by decide) k28 rfl dX4_isRinseDue_20 ?_
      refine lv_iconst (v := 0) hx hb dX4_isRinseDue_23 (by decide) ?_
      obtain ⟨g4, hf⟩ := wGd_e hf
      refine wia hx hb hKn.1 hH (hB.1 5 7 (by decide)) (hB.2.1 5 _ (by decide)) g4 dX4_isRinseDue_24 ?_
      refine lv_if_ne (tgt := 41) hx hb dX4_isRinseDue_25 (by decide) (fun c5 => ?_) (fun c5 => ?_)
      · have hf := wIf c5 hf
        refine lv_iconst (v := 0) hx hb dX4_isRinseDue_41 (by decide) ?_
        cases hf
        exact W.zret hx hb hr rfl (fun t ht hW => ⟨⟨_, (), rfl, rfl, by show wH _ _ _ _ _ _ _ t.heap; rw [ht]; exact hH⟩, hS.F ht⟩) hS.2.2 dX4_isRinseDue_42
      · have hf := wIt c5 hf
        refine wald_n hx hb dX4_isRinseDue_28 rfl (lv_at hl 0 rfl) ?_
        refine wg (C := RX4) (T := TX4) (N := 17) (v := wR loc 5) hx hb hts iX4 hown hKn.1 hH (q := 1) (hB.1 1 5 (by decide)) (by decide) rfl rfl 5 (by decide) k28 rfl dX4_isRinseDue_29 ?_
        refine lv_iconst (v := 2) hx hb dX4_isRinseDue_32 (by decide) ?_
        obtain ⟨g6, hf⟩ := wGd_e hf
        refine wia hx hb hKn.1 hH (hB.1 5 7 (by decide)) (hB.2.1 5 _ (by decide)) g6 dX4_isRinseDue_33 ?_
        refine lv_if_ne (tgt := 41) hx hb dX4_isRinseDue_34 (by decide) (fun c7 => ?_) (fun c7 => ?_)
        · have hf := wIf c7 hf
          refine lv_iconst (v := 0) hx hb dX4_isRinseDue_41 (by decide) ?_
          cases hf
          exact W.zret hx hb hr rfl (fun t ht hW => ⟨⟨_, (), rfl, rfl, by show wH _ _ _ _ _ _ _ t.heap; rw [ht]; exact hH⟩, hS.F ht⟩) hS.2.2 dX4_isRinseDue_42
        · have hf := wIt c7 hf
          refine lv_iconst (v := 1) hx hb dX4_isRinseDue_37 (by decide) ?_
          refine lv_goto (tgt := 42) hx hb dX4_isRinseDue_38 (by decide) ?_
          cases hf
          exact W.zret hx hb hr rfl (fun t ht hW => ⟨⟨_, (), rfl, rfl, by show wH _ _ _ _ _ _ _ t.heap; rw [ht]; exact hH⟩, hS.F ht⟩) hS.2.2 dX4_isRinseDue_42
  · have hf := wIf c2 hf
    refine lv_iconst (v := 1) hx hb dX4_isRinseDue_9 (by decide) ?_
    cases hf
    exact W.zret hx hb hr rfl (fun t ht hW => ⟨⟨_, (), rfl, rfl, by show wH _ _ _ _ _ _ _ t.heap; rw [ht]; exact hH⟩, hS.F ht⟩) hS.2.2 dX4_isRinseDue_10
noncomputable def fX4_beginRinses_10 (ng : Nat) (sh : Nat → Nat) : Nat → wI → wJ → Int32 → Int32 → Option (wI)
  | 0, _, _, _, _ => none
  | n + 1, iv, rv, x2, x3 => if x2 ≤ x3 then some iv else wGd (vp_in x3 ng) (wGd (sh (rv 2 x3.toNatClampNeg) = 2) (wBd (fX1_canBegin ng sh iv rv (rv 2 x3.toNatClampNeg)) (fun (r4 : Int32) => if r4 = 0 then fX4_beginRinses_10 ng sh n iv rv x2 (x3 + 1) else wBd (fX4_isRinseDue ng sh iv rv (rv 2 x3.toNatClampNeg)) (fun (r7 : Int32) => if r7 = 0 then fX4_beginRinses_10 ng sh n iv rv x2 (x3 + 1) else wGd (vp_in 1 3) (if (iv 6 (1 : Int32).toNatClampNeg) < 20 then fX4_beginRinses_10 ng sh n iv rv x2 (x3 + 1) else wBd (fX4_isPowerFor ng sh iv rv 2) (fun (r12 : Int32) => if r12 = 0 then fX4_beginRinses_10 ng sh n iv rv x2 (x3 + 1) else wLt (wU iv 6 (1 : Int32).toNatClampNeg ((iv 6 (1 : Int32).toNatClampNeg) - 20)) (fun (iv15 : wI) => wBd (fX1_begin ng sh iv15 rv (rv 2 x3.toNatClampNeg) 2 6) (fun (iv17 : wI) => fX4_beginRinses_10 ng sh n iv17 rv x2 (x3 + 1)))))))))
noncomputable def fX4_beginRinses (ng : Nat) (sh : Nat → Nat) (iv : wI) (rv : wJ) : Option (wI) := wBd (fX4_beginRinses_10 ng sh wN iv rv (nI ng) 0) (fun (iv7 : wI) => some iv7)
set_option maxHeartbeats 4000000 in
set_option maxRecDepth 100000 in
theorem mtX4_beginRinses (l : Launch) (D : va_G) (K : Nat → ClassId) (loc sh ln : Nat → Nat) (iv : wI) (rv : wJ) (sz : Nat) (ng : Nat) {iv' : wI} (hB : wBx ng sh ln) (hf : fX4_beginRinses ng sh iv rv = some iv') : Met l yX4_beginRinses wsX4_beginRinses ({ frames := 2, cells := 0, slots := 0, locals := 46 }) (wPc D K loc sh ln iv rv sz [wR loc 1]) (wQv D K loc sh ln iv' rv sz) 0 0 (wA loc sh sz) := by
  refine Met.ofW (cc := cX4_beginRinses) (maxL := 5) (ret := none) (by decide) rfl ?_
  intro p e s m args below meth c s₁ B hml hv
  obtain ⟨rfl, hsz, hH, hKn⟩ := hv
  have hx := B.exec
  have hb := B.bytes
  have hr := B.returns
  have hts := atoms_spec (ws := wsX4_beginRinses) B.pre
  have hown : s.vm.findClass RX4 = some m.cls := findClass_of_methodNamed B.named
  have hlocks := B.notSynchronized
  subst hsz
  have hA : ∀ q : Nat, s.heap.size ≤ q → wA loc sh s.heap.size q := fun q h => Or.inr h
  have hO : ∀ a, sh a ≠ 0 → wA loc sh s.heap.size (loc a) := fun a h => Or.inl ⟨a, h, rfl⟩
  have hS : va_S (wA loc sh s.heap.size) s.heap s.heap [] := va_S.rf
  obtain ⟨ls, hen, hl⟩ := wEntry m [wR loc 1] 5 (List.forall_mem_cons.mpr ⟨wR_cat _ _, fun _ h => absurd h List.not_mem_nil⟩) (Nat.le_of_ble_eq_true rfl)
  rw [hen]
  clear hen
  have hl : lv_has ls 5 [(0, wR loc 1)] := hl
  have k66 := hts (.fieldLink RX4 66 "CupByCup" "groups" "[LCupByCup$Group;") (List.mem_of_getElem? (i := 1) rfl)
  have iX4 : ∀ w ∈ wsX40, w ∈ wsX4_beginRinses := fun w h => List.mem_cons_of_mem _ (List.mem_append_left _ (List.mem_append_right _ h))
  have k32 := hts (.fieldLink RX4 32 "CupByCup" "stores" "[I") (List.mem_of_getElem? (i := 2) rfl)
  unfold fX4_beginRinses at hf
  refine wald_n hx hb dX4_beginRinses_0 rfl (lv_at hl 0 rfl) ?_
  refine wg (C := RX4) (T := TX4) (N := 17) (v := wR loc 2) hx hb hts iX4 hown hKn.1 hH (q := 1) (hB.1 1 5 (by decide)) (by decide) rfl rfl 0 (by decide) k66 rfl dX4_beginRinses_1 ?_
  refine wast_n (lv' := [(1, wR loc 2), (0, wR loc 1)]) hx hb dX4_beginRinses_4 rfl hl (by decide) rfl (fun ls hl => ?_)
  refine wald_n hx hb dX4_beginRinses_5 rfl (lv_at hl 0 rfl) ?_
  refine wal (kd := 10) (ki := 3) hx hb hKn.1 hH (hB.1 2 10 (by decide)) (by decide) rfl rfl rfl hB.2.2.1 dX4_beginRinses_6 ?_
  refine lv_istore_n (lv' := [(2, .int (nI ng)), (1, wR loc 2), (0, wR loc 1)]) hx hb dX4_beginRinses_7 rfl hl (by decide) rfl (fun ls hl => ?_)
  refine lv_iconst (v := 0) hx hb dX4_beginRinses_8 (by decide) ?_
  refine lv_istore_n (lv' := [(3, .int 0), (2, .int (nI ng)), (1, wR loc 2), (0, wR loc 1)]) hx hb dX4_beginRinses_9 rfl hl (by decide) rfl (fun ls hl => ?_)
  obtain ⟨iv7, hL4, hf⟩ := wBd_e hf
  have hk5 : ∀ (H : Heap) (locs : List Loc) (ls : Array Slot), wH D K loc sh ln iv7 rv H → va_S (wA loc sh s.heap.size) s.heap H locs → lv_has ls 5 [] → W p l e (headSpec wsX4_beginRinses ({ frames := 2, cells := 0, slots := 0, locals := 46 })).room s m ([wR loc 1] : List Value).toArray below meth c H locs 0 0 (MQ below (wQv D K loc sh ln iv' rv s.heap.size) ([wR loc 1] : List Value).toArray s 0 0 (wA loc sh s.heap.size)) (F0 m 81 ls []) := by
    clear hL4 hl hS hH
    intro H locs ls hH hS hl
    cases hf
    exact W.vret hx hb hr (fun t ht hW => ⟨⟨(), rfl, trivial, by show wH _ _ _ _ _ _ _ t.heap; rw [ht]; exact hH⟩, hS.F ht⟩) hS.2.2 dX4_beginRinses_81
  have lp6 : ∀ (n1 : Nat) (iv2 : wI) (x3 : Int32) (H : Heap) (locs : List Loc) (ls : Array Slot), fX4_beginRinses_10 ng sh n1 iv2 rv (nI ng) x3 = some iv7 → wH D K loc sh ln iv2 rv H → va_S (wA loc sh s.heap.size) s.heap H locs → lv_has ls 5 [(0, wR loc 1), (1, wR loc 2), (2, .int (nI ng)), (3, .int x3)] → W p l e (headSpec wsX4_beginRinses ({ frames := 2, cells := 0, slots := 0, locals := 46 })).room s m ([wR loc 1] : List Value).toArray below meth c H locs 0 0 (MQ below (wQv D K loc sh ln iv' rv s.heap.size) ([wR loc 1] : List Value).toArray s 0 0 (wA loc sh s.heap.size)) (F0 m 10 ls []) := by
    clear hf hl hS hH hL4
    intro n1
    induction n1 with
    | zero => intro iv2 x3 H locs ls hf; cases hf
    | succ n1 ih =>
      intro iv2 x3 H locs ls hf hH hS hl
      rw [fX4_beginRinses_10.eq_2] at hf
      refine lv_iload_n hx hb dX4_beginRinses_10 rfl (lv_at hl 3 rfl) ?_
      refine lv_iload_n hx hb dX4_beginRinses_11 rfl (lv_at hl 2 rfl) ?_
      refine lv_icmp_ge (tgt := 81) hx hb dX4_beginRinses_12 (by decide) (fun c8 => ?_) (fun c8 => ?_)
      · have hf := wIt c8 hf
        cases hf
        exact hk5 _ _ _ hH hS (lv_sub hl [] rfl)
      · have hf := wIf c8 hf
        refine wald_n hx hb dX4_beginRinses_15 rfl (lv_at hl 1 rfl) ?_
        refine lv_iload_n hx hb dX4_beginRinses_16 rfl (lv_at hl 3 rfl) ?_
        obtain ⟨g9, hf⟩ := wGd_e hf
        refine waa (kd := 10) (ki := 3) hx hb hKn.1 hH (hB.1 2 10 (by decide)) (by decide) rfl rfl hB.2.2.1 g9 dX4_beginRinses_17 ?_
        refine wast (lv' := [(4, wR loc (rv 2 x3.toNatClampNeg)), (0, wR loc 1), (1, wR loc 2), (2, .int (nI ng)), (3, .int x3)]) hx hb dX4_beginRinses_18 hl (by decide) rfl (fun ls hl => ?_)
        refine wald hx hb dX4_beginRinses_20 (lv_at hl 0 rfl) ?_
        obtain ⟨g10, hf⟩ := wGd_e hf
        obtain ⟨r11, h12, hf⟩ := wBd_e hf
        refine W.eq (g2 := F0 m 22 ls ([] ++ .ref (loc (rv 2 x3.toNatClampNeg)) :: [])) (by rw [wR_ref (hH.nz g10 (by decide))]; rfl) ?_
        refine wci (va_runV (As := []) (rest := []) ⟨hx, hb, hml, hown, hts⟩ (mtX1_canBegin l D K loc sh ln iv2 rv _ ng (rv 2 x3.toNatClampNeg) g10 h12) (cwV 0 hts gX4_beginRinses_X1_canBegin rfl rfl rfl (by decide +kernel) ⟨Nat.le_of_ble_eq_true rfl, Nat.le_of_ble_eq_true rfl⟩) (wPreV hKn hH g10 (by decide) rfl rfl) rfl rfl hl.1 rfl (lv_room (Nat.le_of_ble_eq_true rfl)) dX4_beginRinses_22 ⟨Nat.zero_le _, Nat.zero_le _⟩) hS hO hA (fun H locs hH hS => ?_)
        refine lv_if_eq (tgt := 75) hx hb dX4_beginRinses_25 (by decide) (fun c13 => ?_) (fun c13 => ?_)
        · have hf := wIt c13 hf
          refine lv_iinc (v := (x3 + 1)) (lv' := [(3, .int (x3 + 1)), (4, wR loc (rv 2 x3.toNatClampNeg)), (0, wR loc 1), (1, wR loc 2), (2, .int (nI ng))]) hx hb dX4_beginRinses_75 hl (k := 4) rfl rfl (by decide) rfl (fun ls hl => ?_)
          refine lv_goto (tgt := 10) hx hb dX4_beginRinses_78 (by decide) ?_
          exact ih _ _ _ _ _ hf hH hS (lv_sub hl [2, 3, 4, 0] rfl)
        · have hf := wIf c13 hf
          refine wald_n hx hb dX4_beginRinses_28 rfl (lv_at hl 1 rfl) ?_
          refine wald hx hb dX4_beginRinses_29 (lv_at hl 0 rfl) ?_
          obtain ⟨r14, h15, hf⟩ := wBd_e hf
          refine wci (va_runV (As := [wR loc (rv 2 x3.toNatClampNeg)]) (rest := []) ⟨hx, hb, hml, hown, hts⟩ (mtX4_isRinseDue l D K loc sh ln iv2 rv _ ng (rv 2 x3.toNatClampNeg) hB h15) (cwV 1 hts gX4_beginRinses_X4_isRinseDue rfl rfl rfl (by decide +kernel) ⟨Nat.le_of_ble_eq_true rfl, Nat.le_of_ble_eq_true rfl⟩) (wPreV hKn hH (hB.1 1 5 (by decide)) (by decide) rfl rfl) rfl rfl hl.1 rfl (lv_room (Nat.le_of_ble_eq_true rfl)) dX4_beginRinses_31 ⟨Nat.zero_le _, Nat.zero_le _⟩) hS hO hA (fun H locs hH hS => ?_)
          refine lv_if_eq (tgt := 75) hx hb dX4_beginRinses_34 (by decide) (fun c16 => ?_) (fun c16 => ?_)
          · have hf := wIt c16 hf
            refine lv_iinc (v := (x3 + 1)) (lv' := [(3, .int (x3 + 1)), (4, wR loc (rv 2 x3.toNatClampNeg)), (0, wR loc 1), (1, wR loc 2), (2, .int (nI ng))]) hx hb dX4_beginRinses_75 hl (k := 4) rfl rfl (by decide) rfl (fun ls hl => ?_)
            refine lv_goto (tgt := 10) hx hb dX4_beginRinses_78 (by decide) ?_
            exact ih _ _ _ _ _ hf hH hS (lv_sub hl [2, 3, 4, 0] rfl)
          · have hf := wIf c16 hf
            refine wald_n hx hb dX4_beginRinses_37 rfl (lv_at hl 1 rfl) ?_
            refine wg (C := RX4) (T := TX4) (N := 17) (v := wR loc 6) hx hb hts iX4 hown hKn.1 hH (q := 1) (hB.1 1 5 (by decide)) (by decide) rfl rfl 6 (by decide) k32 rfl dX4_beginRinses_38 ?_
            refine lv_iconst (v := 1) hx hb dX4_beginRinses_41 (by decide) ?_
            obtain ⟨g17, hf⟩ := wGd_e hf
            refine wia hx hb hKn.1 hH (hB.1 6 7 (by decide)) (hB.2.1 6 _ (by decide)) g17 dX4_beginRinses_42 ?_
            refine lv_bipush (v := 20) hx hb dX4_beginRinses_43 (by decide) ?_
            refine lv_icmp_lt (tgt := 75) hx hb dX4_beginRinses_45 (by decide) (fun c18 => ?_) (fun c18 => ?_)
            · have hf := wIt c18 hf
              refine lv_iinc (v := (x3 + 1)) (lv' := [(3, .int (x3 + 1)), (4, wR loc (rv 2 x3.toNatClampNeg)), (0, wR loc 1), (1, wR loc 2), (2, .int (nI ng))]) hx hb dX4_beginRinses_75 hl (k := 4) rfl rfl (by decide) rfl (fun ls hl => ?_)
              refine lv_goto (tgt := 10) hx hb dX4_beginRinses_78 (by decide) ?_
              exact ih _ _ _ _ _ hf hH hS (lv_sub hl [2, 3, 4, 0] rfl)
            · have hf := wIf c18 hf
              refine wald_n hx hb dX4_beginRinses_48 rfl (lv_at hl 1 rfl) ?_
              refine lv_iconst (v := 2) hx hb dX4_beginRinses_49 (by decide) ?_
              obtain ⟨r19, h20, hf⟩ := wBd_e hf
              refine wci (va_runV (As := [.int 2]) (rest := []) ⟨hx, hb, hml, hown, hts⟩ (mtX4_isPowerFor l D K loc sh ln iv2 rv _ ng 2 hB h20) (cwV 1 hts gX4_beginRinses_X4_isPowerFor rfl rfl rfl (by decide +kernel) ⟨Nat.le_of_ble_eq_true rfl, Nat.le_of_ble_eq_true rfl⟩) (wPreV hKn hH (hB.1 1 5 (by decide)) (by decide) rfl rfl) rfl rfl hl.1 rfl (lv_room (Nat.le_of_ble_eq_true rfl)) dX4_beginRinses_50 ⟨Nat.zero_le _, Nat.zero_le _⟩) hS hO hA (fun H locs hH hS => ?_)
              refine lv_if_eq (tgt := 75) hx hb dX4_beginRinses_53 (by decide) (fun c21 => ?_) (fun c21 => ?_)
              · have hf := wIt c21 hf
                refine lv_iinc (v := (x3 + 1)) (lv' := [(3, .int (x3 + 1)), (4, wR loc (rv 2 x3.toNatClampNeg)), (0, wR loc 1), (1, wR loc 2), (2, .int (nI ng))]) hx hb dX4_beginRinses_75 hl (k := 4) rfl rfl (by decide) rfl (fun ls hl => ?_)
                refine lv_goto (tgt := 10) hx hb dX4_beginRinses_78 (by decide) ?_
                exact ih _ _ _ _ _ hf hH hS (lv_sub hl [2, 3, 4, 0] rfl)
              · have hf := wIf c21 hf
                refine wald_n hx hb dX4_beginRinses_56 rfl (lv_at hl 1 rfl) ?_
                refine wg (C := RX4) (T := TX4) (N := 17) (v := wR loc 6) hx hb hts iX4 hown hKn.1 hH (q := 1) (hB.1 1 5 (by decide)) (by decide) rfl rfl 6 (by decide) k32 rfl dX4_beginRinses_57 ?_
                refine lv_iconst (v := 1) hx hb dX4_beginRinses_60 (by decide) ?_
                refine lv_dup2_11 hx hb dX4_beginRinses_61 rfl (wR_cat _ _) ?_
                refine wia hx hb hKn.1 hH (hB.1 6 7 (by decide)) (hB.2.1 6 _ (by decide)) g17 dX4_beginRinses_62 ?_
                refine lv_bipush (v := 20) hx hb dX4_beginRinses_63 (by decide) ?_
                refine lv_isub hx hb dX4_beginRinses_65 ?_
                obtain ⟨iv22, e23, hf⟩ := wLt_e hf
                refine wis hx hb hKn.1 hH hO hS (hB.1 6 7 (by decide)) (hB.2.1 6 _ (by decide)) g17 dX4_beginRinses_66 (fun H locs hH hS => ?_)
                rw [← e23] at hH
                refine wald hx hb dX4_beginRinses_67 (lv_at hl 0 rfl) ?_
                refine lv_iconst (v := 2) hx hb dX4_beginRinses_69 (by decide) ?_
                refine lv_bipush (v := 6) hx hb dX4_beginRinses_70 (by decide) ?_
                obtain ⟨iv24, h25, hf⟩ := wBd_e hf
                refine W.eq (g2 := F0 m 72 ls ([.int 6, .int 2] ++ .ref (loc (rv 2 x3.toNatClampNeg)) :: [])) (by rw [wR_ref (hH.nz g10 (by decide))]; rfl) ?_
                refine wcv (va_runV (As := [.int 2, .int 6]) (rest := []) ⟨hx, hb, hml, hown, hts⟩ (mtX1_begin l D K loc sh ln iv22 rv _ ng (rv 2 x3.toNatClampNeg) 2 6 g10 h25) (cwV 2 hts gX4_beginRinses_X1_begin rfl rfl rfl (by decide +kernel) ⟨Nat.le_of_ble_eq_true rfl, Nat.le_of_ble_eq_true rfl⟩) (wPreV hKn hH g10 (by decide) rfl rfl) rfl rfl hl.1 rfl (lv_room (Nat.le_of_ble_eq_true rfl)) dX4_beginRinses_72 ⟨Nat.zero_le _, Nat.zero_le _⟩) hS hO hA (fun H locs hH hS => ?_)
                refine lv_iinc (v := (x3 + 1)) (lv' := [(3, .int (x3 + 1)), (4, wR loc (rv 2 x3.toNatClampNeg)), (0, wR loc 1), (1, wR loc 2), (2, .int (nI ng))]) hx hb dX4_beginRinses_75 hl (k := 4) rfl rfl (by decide) rfl (fun ls hl => ?_)
                refine lv_goto (tgt := 10) hx hb dX4_beginRinses_78 (by decide) ?_
                exact ih _ _ _ _ _ hf hH hS (lv_sub hl [2, 3, 4, 0] rfl)
  exact lp6 wN _ _ _ _ _ hL4 hH hS (lv_sub hl [3, 2, 1, 0] rfl)
noncomputable def fX4_beginBrews_21 (ng : Nat) (sh : Nat → Nat) : Nat → wI → wJ → Int32 → Int32 → Option (wI × wJ)
  | 0, _, _, _, _ => none
  | n + 1, iv, rv, x2, x3 => if x2 ≤ x3 then some (iv, rv) else wGd (vp_in x3 ng) (wGd (sh (rv 2 x3.toNatClampNeg) = 2) (wBd (fX1_canBegin ng sh iv rv (rv 2 x3.toNatClampNeg)) (fun (r5 : Int32) => if r5 = 0 then fX4_beginBrews_21 ng sh n iv rv x2 (x3 + 1) else if (iv (rv 2 x3.toNatClampNeg) 3) < 10 then wBd (fX4_firstThat ng sh iv rv 2) (fun (q9 : Nat) => if q9 = 0 then some (iv, rv) else wGd (sh q9 = 1) (wGd (sh (rv q9 1) = 4) (wGd (vp_in 1 3) (if (iv 6 (1 : Int32).toNatClampNeg) < (iv (rv q9 1) 4) then some (iv, rv) else wBd (fX4_isPowerFor ng sh iv rv 2) (fun (r16 : Int32) => if r16 = 0 then some (iv, rv) else wLt (wU iv 6 (1 : Int32).toNatClampNeg ((iv 6 (1 : Int32).toNatClampNeg) - (iv (rv q9 1) 4))) (fun (iv19 : wI) => wBd (fX1_begin ng sh iv19 rv (rv 2 x3.toNatClampNeg) 1 (iv19 (rv q9 1) 2)) (fun (iv21 : wI) => wLt (wV rv (rv 2 x3.toNatClampNeg) 5 q9) (fun (rv23 : wJ) => wLt (wU iv21 (rv 2 x3.toNatClampNeg) 3 ((iv21 (rv 2 x3.toNatClampNeg) 3) + 1)) (fun (iv25 : wI) => wB2 (fX4_turn ng sh iv25 rv23 q9 3) (fun (iv27 : wI) (rv28 : wJ) => wLt (wV rv28 q9 10 (rv 2 x3.toNatClampNeg)) (fun (rv30 : wJ) => fX4_beginBrews_21 ng sh n iv27 rv30 x2 (x3 + 1)))))))))))) else fX4_beginBrews_21 ng sh n iv rv x2 (x3 + 1))))
noncomputable def fX4_beginBrews (ng : Nat) (sh : Nat → Nat) (iv : wI) (rv : wJ) : Option (wI × wJ) := if 880 ≤ (iv 1 11) then fX4_beginBrews_21 ng sh wN iv rv (nI ng) 0 else some (iv, rv)
set_option maxHeartbeats 4000000 in
set_option maxRecDepth 100000 in
theorem mtX4_beginBrews (l : Launch) (D : va_G) (K : Nat → ClassId) (loc sh ln : Nat → Nat) (iv : wI) (rv : wJ) (sz : Nat) (ng : Nat) {iv' : wI} {rv' : wJ} (hB : wBx ng sh ln) (hf : fX4_beginBrews ng sh iv rv = some (iv', rv')) : Met l yX4_beginBrews wsX4_beginBrews ({ frames := 2, cells := 0, slots := 0, locals := 46 }) (wPc D K loc sh ln iv rv sz [wR loc 1]) (wQv D K loc sh ln iv' rv' sz) 0 0 (wA loc sh sz) := by
  refine Met.ofW (cc := cX4_beginBrews) (maxL := 6) (ret := none) (by decide) rfl ?_
  intro p e s m args below meth c s₁ B hml hv
  obtain ⟨rfl, hsz, hH, hKn⟩ := hv
  have hx := B.exec
  have hb := B.bytes
  have hr := B.returns
  have hts := atoms_spec (ws := wsX4_beginBrews) B.pre
  have hown : s.vm.findClass RX4 = some m.cls := findClass_of_methodNamed B.named
  have hlocks := B.notSynchronized
  subst hsz
  have hA : ∀ q : Nat, s.heap.size ≤ q → wA loc sh s.heap.size q := fun q h => Or.inr h
  have hO : ∀ a, sh a ≠ 0 → wA loc sh s.heap.size (loc a) := fun a h => Or.inl ⟨a, h, rfl⟩
  have hS : va_S (wA loc sh s.heap.size) s.heap s.heap [] := va_S.rf
  obtain ⟨ls, hen, hl⟩ := wEntry m [wR loc 1] 6 (List.forall_mem_cons.mpr ⟨wR_cat _ _, fun _ h => absurd h List.not_mem_nil⟩) (Nat.le_of_ble_eq_true rfl)
  rw [hen]
  clear hen
  have hl : lv_has ls 6 [(0, wR loc 1)] := hl
  have k42 := hts (.fieldLink RX4 42 "CupByCup" "heat" "I") (List.mem_of_getElem? (i := 1) rfl)
  have iX4 : ∀ w ∈ wsX40, w ∈ wsX4_beginBrews := fun w h => List.mem_cons_of_mem _ (List.mem_append_left _ (List.mem_append_left _ (List.mem_append_left _ (List.mem_append_right _ h))))
  have k66 := hts (.fieldLink RX4 66 "CupByCup" "groups" "[LCupByCup$Group;") (List.mem_of_getElem? (i := 2) rfl)
  have k155 := hts (.fieldLink RX4 155 "CupByCup$Group" "due" "I") (List.mem_of_getElem? (i := 3) rfl)
  have iX1 : ∀ w ∈ wsX10, w ∈ wsX4_beginBrews := fun w h => List.mem_cons_of_mem _ (List.mem_append_left _ (List.mem_append_left _ (List.mem_append_right _ h)))
  have k98 := hts (.fieldLink RX4 98 "CupByCup$Cup" "recipe" "LCupByCup$Recipe;") (List.mem_of_getElem? (i := 4) rfl)
  have iX0 : ∀ w ∈ wsX00, w ∈ wsX4_beginBrews := fun w h => List.mem_cons_of_mem _ (List.mem_append_left _ (List.mem_append_right _ h))
  have k252 := hts (.fieldLink RX4 252 "CupByCup$Recipe" "water" "I") (List.mem_of_getElem? (i := 5) rfl)
  have iX3 : ∀ w ∈ wsX30, w ∈ wsX4_beginBrews := fun w h => List.mem_cons_of_mem _ (List.mem_append_right _ h)
  have k32 := hts (.fieldLink RX4 32 "CupByCup" "stores" "[I") (List.mem_of_getElem? (i := 6) rfl)
  have k255 := hts (.fieldLink RX4 255 "CupByCup$Recipe" "brew" "I") (List.mem_of_getElem? (i := 7) rfl)
  have k112 := hts (.fieldLink RX4 112 "CupByCup$Group" "brewing" "LCupByCup$Cup;") (List.mem_of_getElem? (i := 8) rfl)
  have k137 := hts (.fieldLink RX4 137 "CupByCup$Cup" "brewsIn" "LCupByCup$Group;") (List.mem_of_getElem? (i := 9) rfl)
  unfold fX4_beginBrews at hf
  refine wald_n hx hb dX4_beginBrews_0 rfl (lv_at hl 0 rfl) ?_
  refine wg (C := RX4) (T := TX4) (N := 17) (v := .int (iv 1 11)) hx hb hts iX4 hown hKn.1 hH (q := 1) (hB.1 1 5 (by decide)) (by decide) rfl rfl 11 (by decide) k42 rfl dX4_beginBrews_1 ?_
  refine lv_sipush (v := 880) hx hb dX4_beginBrews_4 (by decide) ?_
  refine lv_icmp_ge (tgt := 11) hx hb dX4_beginBrews_7 (by decide) (fun c1 => ?_) (fun c1 => ?_)
  · have hf := wIt c1 hf
    refine wald_n hx hb dX4_beginBrews_11 rfl (lv_at hl 0 rfl) ?_
    refine wg (C := RX4) (T := TX4) (N := 17) (v := wR loc 2) hx hb hts iX4 hown hKn.1 hH (q := 1) (hB.1 1 5 (by decide)) (by decide) rfl rfl 0 (by decide) k66 rfl dX4_beginBrews_12 ?_
    refine wast_n (lv' := [(1, wR loc 2), (0, wR loc 1)]) hx hb dX4_beginBrews_15 rfl hl (by decide) rfl (fun ls hl => ?_)
    refine wald_n hx hb dX4_beginBrews_16 rfl (lv_at hl 0 rfl) ?_
    refine wal (kd := 10) (ki := 3) hx hb hKn.1 hH (hB.1 2 10 (by decide)) (by decide) rfl rfl rfl hB.2.2.1 dX4_beginBrews_17 ?_
    refine lv_istore_n (lv' := [(2, .int (nI ng)), (1, wR loc 2), (0, wR loc 1)]) hx hb dX4_beginBrews_18 rfl hl (by decide) rfl (fun ls hl => ?_)
    refine lv_iconst (v := 0) hx hb dX4_beginBrews_19 (by decide) ?_
    refine lv_istore_n (lv' := [(3, .int 0), (2, .int (nI ng)), (1, wR loc 2), (0, wR loc 1)]) hx hb dX4_beginBrews_20 rfl hl (by decide) rfl (fun ls hl => ?_)
    have lp8 : ∀ (n2 : Nat) (iv3 : wI) (rv4 : wJ) (x5 : Int32) (H : Heap) (locs : List Loc) (ls : Array Slot), fX4_beginBrews_21 ng sh n2 iv3 rv4 (nI ng) x5 = some (iv', rv') → wH D K loc sh ln iv3 rv4 H → va_S (wA loc sh s.heap.size) s.heap H locs → lv_has ls 6 [(0, wR loc 1), (1, wR loc 2), (2, .int (nI ng)), (3, .int x5)] → W p l e (headSpec wsX4_beginBrews ({ frames := 2, cells := 0, slots := 0, locals := 46 })).room s m ([wR loc 1] : List Value).toArray below meth c H locs 0 0 (MQ below (wQv D K loc sh ln iv' rv' s.heap.size) ([wR loc 1] : List Value).toArray s 0 0 (wA loc sh s.heap.size)) (F0 m 21 ls []) := by
      clear hf hl hS hH
      intro n2
      induction n2 with
      | zero => intro iv3 rv4 x5 H locs ls hf; cases hf
      | succ n2 ih =>
        intro iv3 rv4 x5 H locs ls hf hH hS hl
        rw [fX4_beginBrews_21.eq_2] at hf
        refine lv_iload_n hx hb dX4_beginBrews_21 rfl (lv_at hl 3 rfl) ?_
        refine lv_iload_n hx hb dX4_beginBrews_22 rfl (lv_at hl 2 rfl) ?_
        refine lv_icmp_ge (tgt := 159) hx hb dX4_beginBrews_23 (by decide) (fun c9 => ?_) (fun c9 => ?_)
        · have hf := wIt c9 hf
          cases hf
          exact W.vret hx hb hr (fun t ht hW => ⟨⟨(), rfl, trivial, by show wH _ _ _ _ _ _ _ t.heap; rw [ht]; exact hH⟩, hS.F ht⟩) hS.2.2 dX4_beginBrews_159
        · have hf := wIf c9 hf
          refine wald_n hx hb dX4_beginBrews_26 rfl (lv_at hl 1 rfl) ?_
          refine lv_iload_n hx hb dX4_beginBrews_27 rfl (lv_at hl 3 rfl) ?_
          obtain ⟨g10, hf⟩ := wGd_e hf
          refine waa (kd := 10) (ki := 3) hx hb hKn.1 hH (hB.1 2 10 (by decide)) (by decide) rfl rfl hB.2.2.1 g10 dX4_beginBrews_28 ?_
          refine wast (lv' := [(4, wR loc (rv4 2 x5.toNatClampNeg)), (0, wR loc 1), (1, wR loc 2), (2, .int (nI ng)), (3, .int x5)]) hx hb dX4_beginBrews_29 hl (by decide) rfl (fun ls hl => ?_)
          refine wald hx hb dX4_beginBrews_31 (lv_at hl 0 rfl) ?_
          obtain ⟨g11, hf⟩ := wGd_e hf
          obtain ⟨r12, h13, hf⟩ := wBd_e hf
          refine W.eq (g2 := F0 m 33 ls ([] ++ .ref (loc (rv4 2 x5.toNatClampNeg)) :: [])) (by rw [wR_ref (hH.nz g11 (by decide))]; rfl) ?_
          refine wci (va_runV (As := []) (rest := []) ⟨hx, hb, hml, hown, hts⟩ (mtX1_canBegin l D K loc sh ln iv3 rv4 _ ng (rv4 2 x5.toNatClampNeg) g11 h13) (cwV 0 hts gX4_beginBrews_X1_canBegin rfl rfl rfl (by decide +kernel) ⟨Nat.le_of_ble_eq_true rfl, Nat.le_of_ble_eq_true rfl⟩) (wPreV hKn hH g11 (by decide) rfl rfl) rfl rfl hl.1 rfl (lv_room (Nat.le_of_ble_eq_true rfl)) dX4_beginBrews_33 ⟨Nat.zero_le _, Nat.zero_le _⟩) hS hO hA (fun H locs hH hS => ?_)
          refine lv_if_eq (tgt := 153) hx hb dX4_beginBrews_36 (by decide) (fun c14 => ?_) (fun c14 => ?_)
          · have hf := wIt c14 hf
            refine lv_iinc (v := (x5 + 1)) (lv' := [(3, .int (x5 + 1)), (4, wR loc (rv4 2 x5.toNatClampNeg)), (0, wR loc 1), (1, wR loc 2), (2, .int (nI ng))]) hx hb dX4_beginBrews_153 hl (k := 4) rfl rfl (by decide) rfl (fun ls hl => ?_)
            refine lv_goto (tgt := 21) hx hb dX4_beginBrews_156 (by decide) ?_
            exact ih _ _ _ _ _ _ hf hH hS (lv_sub hl [2, 3, 4, 0] rfl)
          · have hf := wIf c14 hf
            refine wald hx hb dX4_beginBrews_39 (lv_at hl 0 rfl) ?_
            refine wg (C := RX1) (T := TX1) (N := 6) (v := .int (iv3 (rv4 2 x5.toNatClampNeg) 3)) hx hb hts iX1 hown hKn.1 hH (q := (rv4 2 x5.toNatClampNeg)) g11 (by decide) rfl rfl 3 (by decide) k155 rfl dX4_beginBrews_41 ?_
            refine lv_bipush (v := 10) hx hb dX4_beginBrews_44 (by decide) ?_
            refine lv_icmp_lt (tgt := 52) hx hb dX4_beginBrews_46 (by decide) (fun c15 => ?_) (fun c15 => ?_)
            · have hf := wIt c15 hf
              refine wald_n hx hb dX4_beginBrews_52 rfl (lv_at hl 1 rfl) ?_
              refine lv_iconst (v := 2) hx hb dX4_beginBrews_53 (by decide) ?_
              obtain ⟨q16, h17, hf⟩ := wBd_e hf
              refine wcr (va_runV (As := [.int 2]) (rest := []) ⟨hx, hb, hml, hown, hts⟩ (mtX4_firstThat l D K loc sh ln iv3 rv4 _ ng 2 hB h17) (cwV 1 hts gX4_beginBrews_X4_firstThat rfl rfl rfl (by decide +kernel) ⟨Nat.le_of_ble_eq_true rfl, Nat.le_of_ble_eq_true rfl⟩) (wPreV hKn hH (hB.1 1 5 (by decide)) (by decide) rfl rfl) rfl rfl hl.1 rfl (lv_room (Nat.le_of_ble_eq_true rfl)) dX4_beginBrews_54 ⟨Nat.zero_le _, Nat.zero_le _⟩) hS hO hA (fun H locs hH hS => ?_)
              refine wast (lv' := [(5, wR loc q16), (4, wR loc (rv4 2 x5.toNatClampNeg)), (0, wR loc 1), (1, wR loc 2), (2, .int (nI ng)), (3, .int x5)]) hx hb dX4_beginBrews_57 hl (by decide) (by simp [wR_cat]) (fun ls hl => ?_)
              refine wald hx hb dX4_beginBrews_59 (lv_at hl 0 rfl) ?_
              refine wifnull (tgt := 89) hx hb dX4_beginBrews_61 (by decide) (fun c18 => ?_) (fun c18 => ?_)
              · have hf := wIt c18 hf
                cases hf
                exact W.vret hx hb hr (fun t ht hW => ⟨⟨(), rfl, trivial, by show wH _ _ _ _ _ _ _ t.heap; rw [ht]; exact hH⟩, hS.F ht⟩) hS.2.2 dX4_beginBrews_89
              · have hf := wIf c18 hf
                refine wald hx hb dX4_beginBrews_64 (lv_at hl 0 rfl) ?_
                obtain ⟨g19, hf⟩ := wGd_e hf
                refine wg (C := RX0) (T := TX0) (N := 11) (v := wR loc (rv4 q16 1)) hx hb hts iX0 hown hKn.1 hH (q := q16) g19 (by decide) rfl rfl 1 (by decide) k98 rfl dX4_beginBrews_66 ?_
                obtain ⟨g20, hf⟩ := wGd_e hf
                refine wg (C := RX3) (T := TX3) (N := 6) (v := .int (iv3 (rv4 q16 1) 4)) hx hb hts iX3 hown hKn.1 hH (q := (rv4 q16 1)) g20 (by decide) rfl rfl 4 (by decide) k252 rfl dX4_beginBrews_69 ?_
                refine wald_n hx hb dX4_beginBrews_72 rfl (lv_at hl 2 rfl) ?_
                refine wg (C := RX4) (T := TX4) (N := 17) (v := wR loc 6) hx hb hts iX4 hown hKn.1 hH (q := 1) (hB.1 1 5 (by decide)) (by decide) rfl rfl 6 (by decide) k32 rfl dX4_beginBrews_73 ?_
                refine lv_iconst (v := 1) hx hb dX4_beginBrews_76 (by decide) ?_
                obtain ⟨g21, hf⟩ := wGd_e hf
                refine wia hx hb hKn.1 hH (hB.1 6 7 (by decide)) (hB.2.1 6 _ (by decide)) g21 dX4_beginBrews_77 ?_
                refine lv_icmp_gt (tgt := 89) hx hb dX4_beginBrews_78 (by decide) (fun c22 => ?_) (fun c22 => ?_)
                · have hf := wIt c22 hf
                  cases hf
                  exact W.vret hx hb hr (fun t ht hW => ⟨⟨(), rfl, trivial, by show wH _ _ _ _ _ _ _ t.heap; rw [ht]; exact hH⟩, hS.F ht⟩) hS.2.2 dX4_beginBrews_89
                · have hf := wIf c22 hf
                  refine wald_n hx hb dX4_beginBrews_81 rfl (lv_at hl 2 rfl) ?_
                  refine lv_iconst (v := 2) hx hb dX4_beginBrews_82 (by decide) ?_
                  obtain ⟨r23, h24, hf⟩ := wBd_e hf
                  refine wci (va_runV (As := [.int 2]) (rest := []) ⟨hx, hb, hml, hown, hts⟩ (mtX4_isPowerFor l D K loc sh ln iv3 rv4 _ ng 2 hB h24) (cwV 1 hts gX4_beginBrews_X4_isPowerFor rfl rfl rfl (by decide +kernel) ⟨Nat.le_of_ble_eq_true rfl, Nat.le_of_ble_eq_true rfl⟩) (wPreV hKn hH (hB.1 1 5 (by decide)) (by decide) rfl rfl) rfl rfl hl.1 rfl (lv_room (Nat.le_of_ble_eq_true rfl)) dX4_beginBrews_83 ⟨Nat.zero_le _, Nat.zero_le _⟩) hS hO hA (fun H locs hH hS => ?_)
                  refine lv_if_ne (tgt := 90) hx hb dX4_beginBrews_86 (by decide) (fun c25 => ?_) (fun c25 => ?_)
                  · have hf := wIf c25 hf
                    refine wald_n hx hb dX4_beginBrews_90 rfl (lv_at hl 2 rfl) ?_
                    refine wg (C := RX4) (T := TX4) (N := 17) (v := wR loc 6) hx hb hts iX4 hown hKn.1 hH (q := 1) (hB.1 1 5 (by decide)) (by decide) rfl rfl 6 (by decide) k32 rfl dX4_beginBrews_91 ?_
                    refine lv_iconst (v := 1) hx hb dX4_beginBrews_94 (by decide) ?_
                    refine lv_dup2_11 hx hb dX4_beginBrews_95 rfl (wR_cat _ _) ?_
                    refine wia hx hb hKn.1 hH (hB.1 6 7 (by decide)) (hB.2.1 6 _ (by decide)) g21 dX4_beginBrews_96 ?_
                    refine wald hx hb dX4_beginBrews_97 (lv_at hl 0 rfl) ?_
                    refine wg (C := RX0) (T := TX0) (N := 11) (v := wR loc (rv4 q16 1)) hx hb hts iX0 hown hKn.1 hH (q := q16) g19 (by decide) rfl rfl 1 (by decide) k98 rfl dX4_beginBrews_99 ?_
                    refine wg (C := RX3) (T := TX3) (N := 6) (v := .int (iv3 (rv4 q16 1) 4)) hx hb hts iX3 hown hKn.1 hH (q := (rv4 q16 1)) g20 (by decide) rfl rfl 4 (by decide) k252 rfl dX4_beginBrews_102 ?_
                    refine lv_isub hx hb dX4_beginBrews_105 ?_
                    obtain ⟨iv26, e27, hf⟩ := wLt_e hf
                    refine wis hx hb hKn.1 hH hO hS (hB.1 6 7 (by decide)) (hB.2.1 6 _ (by decide)) g21 dX4_beginBrews_106 (fun H locs hH hS => ?_)
                    rw [← e27] at hH
                    refine wald hx hb dX4_beginBrews_107 (lv_at hl 1 rfl) ?_
                    refine lv_iconst (v := 1) hx hb dX4_beginBrews_109 (by decide) ?_
                    refine wald hx hb dX4_beginBrews_110 (lv_at hl 0 rfl) ?_
                    refine wg (C := RX0) (T := TX0) (N := 11) (v := wR loc (rv4 q16 1)) hx hb hts iX0 hown hKn.1 hH (q := q16) g19 (by decide) rfl rfl 1 (by decide) k98 rfl dX4_beginBrews_112 ?_
                    refine wg (C := RX3) (T := TX3) (N := 6) (v := .int (iv26 (rv4 q16 1) 2)) hx hb hts iX3 hown hKn.1 hH (q := (rv4 q16 1)) g20 (by decide) rfl rfl 2 (by decide) k255 rfl dX4_beginBrews_115 ?_
                    obtain ⟨iv28, h29, hf⟩ := wBd_e hf
                    refine W.eq (g2 := F0 m 118 ls ([.int (iv26 (rv4 q16 1) 2), .int 1] ++ .ref (loc (rv4 2 x5.toNatClampNeg)) :: [])) (by rw [wR_ref (hH.nz g11 (by decide))]; rfl) ?_
                    refine wcv (va_runV (As := [.int 1, .int (iv26 (rv4 q16 1) 2)]) (rest := []) ⟨hx, hb, hml, hown, hts⟩ (mtX1_begin l D K loc sh ln iv26 rv4 _ ng (rv4 2 x5.toNatClampNeg) 1 (iv26 (rv4 q16 1) 2) g11 h29) (cwV 2 hts gX4_beginBrews_X1_begin rfl rfl rfl (by decide +kernel) ⟨Nat.le_of_ble_eq_true rfl, Nat.le_of_ble_eq_true rfl⟩) (wPreV hKn hH g11 (by decide) rfl rfl) rfl rfl hl.1 rfl (lv_room (Nat.le_of_ble_eq_true rfl)) dX4_beginBrews_118 ⟨Nat.zero_le _, Nat.zero_le _⟩) hS hO hA (fun H locs hH hS => ?_)
                    refine wald hx hb dX4_beginBrews_121 (lv_at hl 1 rfl) ?_
                    refine wald hx hb dX4_beginBrews_123 (lv_at hl 0 rfl) ?_
                    obtain ⟨rv30, e31, hf⟩ := wLt_e hf
                    refine wp (C := RX1) (T := TX1) (N := 6) (v := wR loc q16) (ty := tyX1 5) (iv' := iv28) (rv' := rv30) hx hb hts iX1 tyX1 tyX1_ok nmX1 hown hKn.1 hH hO hS (q := (rv4 2 x5.toNatClampNeg)) g11 (by decide) rfl rfl 5 (by decide) k112 rfl (tyX1_ok 5 (by decide)) (wR_nar _ _ _) (wR_fit _ _ _) (Nat.le_of_ble_eq_true rfl) (by rw [e31, wV_self]; rfl) (fun _ _ => rfl) (fun a ha => by rw [e31]; exact wV_ne a ha) dX4_beginBrews_125 (fun H locs hH hS => ?_)
                    refine wald hx hb dX4_beginBrews_128 (lv_at hl 1 rfl) ?_
                    refine lv_dup hx hb dX4_beginBrews_130 (wR_cat _ _) ?_
                    refine wg (C := RX1) (T := TX1) (N := 6) (v := .int (iv28 (rv4 2 x5.toNatClampNeg) 3)) hx hb hts iX1 hown hKn.1 hH (q := (rv4 2 x5.toNatClampNeg)) g11 (by decide) rfl rfl 3 (by decide) k155 rfl dX4_beginBrews_131 ?_
                    refine lv_iconst (v := 1) hx hb dX4_beginBrews_134 (by decide) ?_
                    refine lv_iadd hx hb dX4_beginBrews_135 ?_
                    obtain ⟨iv32, e33, hf⟩ := wLt_e hf
                    refine wp (C := RX1) (T := TX1) (N := 6) (v := .int ((iv28 (rv4 2 x5.toNatClampNeg) 3) + 1)) (ty := tyX1 3) (iv' := iv32) (rv' := rv30) hx hb hts iX1 tyX1 tyX1_ok nmX1 hown hKn.1 hH hO hS (q := (rv4 2 x5.toNatClampNeg)) g11 (by decide) rfl rfl 3 (by decide) k155 rfl (tyX1_ok 3 (by decide)) rfl rfl (Nat.le_of_ble_eq_true rfl) (by rw [e33, wU_self]; rfl) (fun a ha => by rw [e33]; exact wU_ne a ha) (fun _ _ => rfl) dX4_beginBrews_136 (fun H locs hH hS => ?_)
                    refine wald_n hx hb dX4_beginBrews_139 rfl (lv_at hl 2 rfl) ?_
                    refine wald hx hb dX4_beginBrews_140 (lv_at hl 0 rfl) ?_
                    refine lv_iconst (v := 3) hx hb dX4_beginBrews_142 (by decide) ?_
                    obtain ⟨iv34, rv35, h36, hf⟩ := wB2_e hf
                    refine wcv (va_runV (As := [wR loc q16, .int 3]) (rest := []) ⟨hx, hb, hml, hown, hts⟩ (mtX4_turn l D K loc sh ln iv32 rv30 _ ng q16 3 hB h36) (cwV 2 hts gX4_beginBrews_X4_turn rfl rfl rfl (by decide +kernel) ⟨Nat.le_of_ble_eq_true rfl, Nat.le_of_ble_eq_true rfl⟩) (wPreV hKn hH (hB.1 1 5 (by decide)) (by decide) rfl rfl) rfl rfl hl.1 rfl (lv_room (Nat.le_of_ble_eq_true rfl)) dX4_beginBrews_143 ⟨Nat.zero_le _, Nat.zero_le _⟩) hS hO hA (fun H locs hH hS => ?_)
                    refine wald hx hb dX4_beginBrews_146 (lv_at hl 0 rfl) ?_
                    refine wald hx hb dX4_beginBrews_148 (lv_at hl 1 rfl) ?_
                    obtain ⟨rv37, e38, hf⟩ := wLt_e hf
                    refine wp (C := RX0) (T := TX0) (N := 11) (v := wR loc (rv4 2 x5.toNatClampNeg)) (ty := tyX0 10) (iv' := iv34) (rv' := rv37) hx hb hts iX0 tyX0 tyX0_ok nmX0 hown hKn.1 hH hO hS (q := q16) g19 (by decide) rfl rfl 10 (by decide) k137 rfl (tyX0_ok 10 (by decide)) (wR_nar _ _ _) (wR_fit _ _ _) (Nat.le_of_ble_eq_true rfl) (by rw [e38, wV_self]; rfl) (fun _ _ => rfl) (fun a ha => by rw [e38]; exact wV_ne a ha) dX4_beginBrews_150 (fun H locs hH hS => ?_)
                    refine lv_iinc (v := (x5 + 1)) (lv' := [(3, .int (x5 + 1)), (5, wR loc q16), (4, wR loc (rv4 2 x5.toNatClampNeg)), (0, wR loc 1), (1, wR loc 2), (2, .int (nI ng))]) hx hb dX4_beginBrews_153 hl (k := 5) rfl rfl (by decide) rfl (fun ls hl => ?_)
                    refine lv_goto (tgt := 21) hx hb dX4_beginBrews_156 (by decide) ?_
                    exact ih _ _ _ _ _ _ hf hH hS (lv_sub hl [3, 4, 5, 0] rfl)
                  · have hf := wIt c25 hf
                    cases hf
                    exact W.vret hx hb hr (fun t ht hW => ⟨⟨(), rfl, trivial, by show wH _ _ _ _ _ _ _ t.heap; rw [ht]; exact hH⟩, hS.F ht⟩) hS.2.2 dX4_beginBrews_89
            · have hf := wIf c15 hf
              refine lv_goto (tgt := 153) hx hb dX4_beginBrews_49 (by decide) ?_
              refine lv_iinc (v := (x5 + 1)) (lv' := [(3, .int (x5 + 1)), (4, wR loc (rv4 2 x5.toNatClampNeg)), (0, wR loc 1), (1, wR loc 2), (2, .int (nI ng))]) hx hb dX4_beginBrews_153 hl (k := 4) rfl rfl (by decide) rfl (fun ls hl => ?_)
              refine lv_goto (tgt := 21) hx hb dX4_beginBrews_156 (by decide) ?_
              exact ih _ _ _ _ _ _ hf hH hS (lv_sub hl [2, 3, 4, 0] rfl)
    exact lp8 wN _ _ _ _ _ _ hf hH hS (lv_sub hl [3, 2, 1, 0] rfl)
  · have hf := wIf c1 hf
    cases hf
    exact W.vret hx hb hr (fun t ht hW => ⟨⟨(), rfl, trivial, by show wH _ _ _ _ _ _ _ t.heap; rw [ht]; exact hH⟩, hS.F ht⟩) hS.2.2 dX4_beginBrews_10
noncomputable def fX4_nextToGrind_15 (ng : Nat) (sh : Nat → Nat) : Nat → wI → wJ → Nat → Int32 → Option (Nat)
  | 0, _, _, _, _ => none
  | n + 1, iv, rv, c1, x2 => if (iv 1 4) ≤ x2 then some c1 else wGd (vp_in x2 100) (wGd (sh (rv 4 x2.toNatClampNeg) = 1) (if (iv (rv 4 x2.toNatClampNeg) 5) = 0 then if c1 = 0 then fX4_nextToGrind_15 ng sh n iv rv (rv 4 x2.toNatClampNeg) (x2 + 1) else wGd (sh c1 = 1) (if (iv c1 3) ≤ (iv (rv 4 x2.toNatClampNeg) 3) then fX4_nextToGrind_15 ng sh n iv rv c1 (x2 + 1) else fX4_nextToGrind_15 ng sh n iv rv (rv 4 x2.toNatClampNeg) (x2 + 1)) else fX4_nextToGrind_15 ng sh n iv rv c1 (x2 + 1)))
noncomputable def fX4_nextToGrind (ng : Nat) (sh : Nat → Nat) (iv : wI) (rv : wJ) : Option (Nat) := wGd (vp_in 0 8) (if (iv 5 (0 : Int32).toNatClampNeg) = 0 then some 0 else wBd (fX4_nextToGrind_15 ng sh wN iv rv 0 0) (fun (q9 : Nat) => some q9))
set_option maxHeartbeats 4000000 in
set_option maxRecDepth 100000 in
theorem mtX4_nextToGrind (l : Launch) (D : va_G) (K : Nat → ClassId) (loc sh ln : Nat → Nat) (iv : wI) (rv : wJ) (sz : Nat) (ng : Nat) {r' : Nat} (hB : wBx ng sh ln) (hf : fX4_nextToGrind ng sh iv rv = some r') : Met l yX4_nextToGrind wsX4_nextToGrind ({ frames := 0, cells := 0, slots := 0, locals := 0 }) (wPc D K loc sh ln iv rv sz [wR loc 1]) (wQr D K loc sh ln iv rv sz r') 0 0 (wA loc sh sz) := by
  refine Met.ofW (cc := cX4_nextToGrind) (maxL := 4) (ret := (some (.object "CupByCup$Cup"))) (by decide) rfl ?_
  intro p e s m args below meth c s₁ B hml hv
  obtain ⟨rfl, hsz, hH, hKn⟩ := hv
  have hx := B.exec
  have hb := B.bytes
  have hr := B.returns
  have hts := atoms_spec (ws := wsX4_nextToGrind) B.pre
  have hown : s.vm.findClass RX4 = some m.cls := findClass_of_methodNamed B.named
  have hlocks := B.notSynchronized
  subst hsz
  have hA : ∀ q : Nat, s.heap.size ≤ q → wA loc sh s.heap.size q := fun q h => Or.inr h
  have hO : ∀ a, sh a ≠ 0 → wA loc sh s.heap.size (loc a) := fun a h => Or.inl ⟨a, h, rfl⟩
  have hS : va_S (wA loc sh s.heap.size) s.heap s.heap [] := va_S.rf
  obtain ⟨ls, hen, hl⟩ := wEntry m [wR loc 1] 4 (List.forall_mem_cons.mpr ⟨wR_cat _ _, fun _ h => absurd h List.not_mem_nil⟩) (Nat.le_of_ble_eq_true rfl)
  rw [hen]
  clear hen
  have hl : lv_has ls 4 [(0, wR loc 1)] := hl
  have k28 := hts (.fieldLink RX4 28 "CupByCup" "cupsThat" "[I") (List.mem_of_getElem? (i := 1) rfl)
  have iX4 : ∀ w ∈ wsX40, w ∈ wsX4_nextToGrind := fun w h => List.mem_cons_of_mem _ (List.mem_append_left _ (List.mem_append_right _ h))
  have k25 := hts (.fieldLink RX4 25 "CupByCup" "cupCount" "I") (List.mem_of_getElem? (i := 2) rfl)
  have k21 := hts (.fieldLink RX4 21 "CupByCup" "cups" "[LCupByCup$Cup;") (List.mem_of_getElem? (i := 3) rfl)
  have k95 := hts (.fieldLink RX4 95 "CupByCup$Cup" "state" "I") (List.mem_of_getElem? (i := 4) rfl)
  have iX0 : ∀ w ∈ wsX00, w ∈ wsX4_nextToGrind := fun w h => List.mem_cons_of_mem _ (List.mem_append_right _ h)
  have k128 := hts (.fieldLink RX4 128 "CupByCup$Cup" "lane" "I") (List.mem_of_getElem? (i := 5) rfl)
  unfold fX4_nextToGrind at hf
  refine wald_n hx hb dX4_nextToGrind_0 rfl (lv_at hl 0 rfl) ?_
  refine wg (C := RX4) (T := TX4) (N := 17) (v := wR loc 5) hx hb hts iX4 hown hKn.1 hH (q := 1) (hB.1 1 5 (by decide)) (by decide) rfl rfl 5 (by decide) k28 rfl dX4_nextToGrind_1 ?_
  refine lv_iconst (v := 0) hx hb dX4_nextToGrind_4 (by decide) ?_
  obtain ⟨g1, hf⟩ := wGd_e hf
  refine wia hx hb hKn.1 hH (hB.1 5 7 (by decide)) (hB.2.1 5 _ (by decide)) g1 dX4_nextToGrind_5 ?_
  refine lv_if_ne (tgt := 11) hx hb dX4_nextToGrind_6 (by decide) (fun c2 => ?_) (fun c2 => ?_)
  · have hf := wIf c2 hf
    refine wnul hx hb loc dX4_nextToGrind_11 ?_
    refine wast_n (lv' := [(1, wR loc 0), (0, wR loc 1)]) hx hb dX4_nextToGrind_12 rfl hl (by decide) rfl (fun ls hl => ?_)
    refine lv_iconst (v := 0) hx hb dX4_nextToGrind_13 (by decide) ?_
    refine lv_istore_n (lv' := [(2, .int 0), (1, wR loc 0), (0, wR loc 1)]) hx hb dX4_nextToGrind_14 rfl hl (by decide) rfl (fun ls hl => ?_)
    obtain ⟨q9, hL6, hf⟩ := wBd_e hf
    have hk7 : ∀ (H : Heap) (locs : List Loc) (ls : Array Slot), wH D K loc sh ln iv rv H → va_S (wA loc sh s.heap.size) s.heap H locs → lv_has ls 4 [(1, wR loc q9)] → W p l e (headSpec wsX4_nextToGrind ({ frames := 0, cells := 0, slots := 0, locals := 0 })).room s m ([wR loc 1] : List Value).toArray below meth c H locs 0 0 (MQ below (wQr D K loc sh ln iv rv s.heap.size r') ([wR loc 1] : List Value).toArray s 0 0 (wA loc sh s.heap.size)) (F0 m 60 ls []) := by
      clear hL6 hl hS hH
      intro H locs ls hH hS hl
      refine wald_n hx hb dX4_nextToGrind_60 rfl (lv_at hl 0 rfl) ?_
      cases hf
      exact W.aret hx hb hr (Or.inl ⟨_, rfl⟩) (wR_or _ _) (fun t ht hW => ⟨⟨_, (), by rw [wR_rf], rfl, by show wH _ _ _ _ _ _ _ t.heap; rw [ht]; exact hH⟩, hS.F ht⟩) hS.2.2 dX4_nextToGrind_61
    have lp8 : ∀ (n3 : Nat) (q4 : Nat) (x5 : Int32) (H : Heap) (locs : List Loc) (ls : Array Slot), fX4_nextToGrind_15 ng sh n3 iv rv q4 x5 = some q9 → wH D K loc sh ln iv rv H → va_S (wA loc sh s.heap.size) s.heap H locs → lv_has ls 4 [(0, wR loc 1), (1, wR loc q4), (2, .int x5)] → W p l e (headSpec wsX4_nextToGrind ({ frames := 0, cells := 0, slots := 0, locals := 0 })).room s m ([wR loc 1] : List Value).toArray below meth c H locs 0 0 (MQ below (wQr D K loc sh ln iv rv s.heap.size r') ([wR loc 1] : List Value).toArray s 0 0 (wA loc sh s.heap.size)) (F0 m 15 ls []) := by
      clear hf hl hS hH hL6
      intro n3
      induction n3 with
      | zero => intro q4 x5 H locs ls hf; cases hf
      | succ n3 ih =>
        intro q4 x5 H locs ls hf hH hS hl
        rw [fX4_nextToGrind_15.eq_2] at hf
        refine lv_iload_n hx hb dX4_nextToGrind_15 rfl (lv_at hl 2 rfl) ?_
        refine wald_n hx hb dX4_nextToGrind_16 rfl (lv_at hl 0 rfl) ?_
        refine wg (C := RX4) (T := TX4) (N := 17) (v := .int (iv 1 4)) hx hb hts iX4 hown hKn.1 hH (q := 1) (hB.1 1 5 (by decide)) (by decide) rfl rfl 4 (by decide) k25 rfl dX4_nextToGrind_17 ?_
        refine lv_icmp_ge (tgt := 60) hx hb dX4_nextToGrind_20 (by decide) (fun c10 => ?_) (fun c10 => ?_)
        · have hf := wIt c10 hf
          cases hf
          exact hk7 _ _ _ hH hS (lv_sub hl [1] rfl)
        · have hf := wIf c10 hf
          refine wald_n hx hb dX4_nextToGrind_23 rfl (lv_at hl 0 rfl) ?_
          refine wg (C := RX4) (T := TX4) (N := 17) (v := wR loc 4) hx hb hts iX4 hown hKn.1 hH (q := 1) (hB.1 1 5 (by decide)) (by decide) rfl rfl 3 (by decide) k21 rfl dX4_nextToGrind_24 ?_
          refine lv_iload_n hx hb dX4_nextToGrind_27 rfl (lv_at hl 2 rfl) ?_
          obtain ⟨g11, hf⟩ := wGd_e hf
          refine waa (kd := 9) (ki := 2) hx hb hKn.1 hH (hB.1 4 9 (by decide)) (by decide) rfl rfl (hB.2.1 4 _ (by decide)) g11 dX4_nextToGrind_28 ?_
          refine wast_n (lv' := [(3, wR loc (rv 4 x5.toNatClampNeg)), (0, wR loc 1), (1, wR loc q4), (2, .int x5)]) hx hb dX4_nextToGrind_29 rfl hl (by decide) rfl (fun ls hl => ?_)
          refine wald_n hx hb dX4_nextToGrind_30 rfl (lv_at hl 0 rfl) ?_
          obtain ⟨g12, hf⟩ := wGd_e hf
          refine wg (C := RX0) (T := TX0) (N := 11) (v := .int (iv (rv 4 x5.toNatClampNeg) 5)) hx hb hts iX0 hown hKn.1 hH (q := (rv 4 x5.toNatClampNeg)) g12 (by decide) rfl rfl 5 (by decide) k95 rfl dX4_nextToGrind_31 ?_
          refine lv_if_ne (tgt := 54) hx hb dX4_nextToGrind_34 (by decide) (fun c13 => ?_) (fun c13 => ?_)
          · have hf := wIf c13 hf
            refine lv_iinc (v := (x5 + 1)) (lv' := [(2, .int (x5 + 1)), (3, wR loc (rv 4 x5.toNatClampNeg)), (0, wR loc 1), (1, wR loc q4)]) hx hb dX4_nextToGrind_54 hl (k := 3) rfl rfl (by decide) (by simp [wR_cat]) (fun ls hl => ?_)
            refine lv_goto (tgt := 15) hx hb dX4_nextToGrind_57 (by decide) ?_
            exact ih _ _ _ _ _ hf hH hS (lv_sub hl [2, 3, 0] rfl)
          · have hf := wIt c13 hf
            refine wald_n hx hb dX4_nextToGrind_37 rfl (lv_at hl 2 rfl) ?_
            refine wifnull (tgt := 52) hx hb dX4_nextToGrind_38 (by decide) (fun c14 => ?_) (fun c14 => ?_)
            · have hf := wIt c14 hf
              refine wald_n hx hb dX4_nextToGrind_52 rfl (lv_at hl 0 rfl) ?_
              refine wast_n (lv' := [(1, wR loc (rv 4 x5.toNatClampNeg)), (3, wR loc (rv 4 x5.toNatClampNeg)), (0, wR loc 1), (2, .int x5)]) hx hb dX4_nextToGrind_53 rfl hl (by decide) rfl (fun ls hl => ?_)
              refine lv_iinc (v := (x5 + 1)) (lv' := [(2, .int (x5 + 1)), (1, wR loc (rv 4 x5.toNatClampNeg)), (3, wR loc (rv 4 x5.toNatClampNeg)), (0, wR loc 1)]) hx hb dX4_nextToGrind_54 hl (k := 3) rfl rfl (by decide) (by simp [wR_cat]) (fun ls hl => ?_)
              refine lv_goto (tgt := 15) hx hb dX4_nextToGrind_57 (by decide) ?_
              exact ih _ _ _ _ _ hf hH hS (lv_sub hl [3, 1, 0] rfl)
            · have hf := wIf c14 hf
              refine wald_n hx hb dX4_nextToGrind_41 rfl (lv_at hl 0 rfl) ?_
              refine wg (C := RX0) (T := TX0) (N := 11) (v := .int (iv (rv 4 x5.toNatClampNeg) 3)) hx hb hts iX0 hown hKn.1 hH (q := (rv 4 x5.toNatClampNeg)) g12 (by decide) rfl rfl 3 (by decide) k128 rfl dX4_nextToGrind_42 ?_
              refine wald_n hx hb dX4_nextToGrind_45 rfl (lv_at hl 2 rfl) ?_
              obtain ⟨g15, hf⟩ := wGd_e hf
              refine wg (C := RX0) (T := TX0) (N := 11) (v := .int (iv q4 3)) hx hb hts iX0 hown hKn.1 hH (q := q4) g15 (by decide) rfl rfl 3 (by decide) k128 rfl dX4_nextToGrind_46 ?_
              refine lv_icmp_ge (tgt := 54) hx hb dX4_nextToGrind_49 (by decide) (fun c16 => ?_) (fun c16 => ?_)
              · have hf := wIt c16 hf
                refine lv_iinc (v := (x5 + 1)) (lv' := [(2, .int (x5 + 1)), (3, wR loc (rv 4 x5.toNatClampNeg)), (0, wR loc 1), (1, wR loc q4)]) hx hb dX4_nextToGrind_54 hl (k := 3) rfl rfl (by decide) (by simp [wR_cat]) (fun ls hl => ?_)
                refine lv_goto (tgt := 15) hx hb dX4_nextToGrind_57 (by decide) ?_
                exact ih _ _ _ _ _ hf hH hS (lv_sub hl [2, 3, 0] rfl)
              · have hf := wIf c16 hf
                refine wald_n hx hb dX4_nextToGrind_52 rfl (lv_at hl 0 rfl) ?_
                refine wast_n (lv' := [(1, wR loc (rv 4 x5.toNatClampNeg)), (3, wR loc (rv 4 x5.toNatClampNeg)), (0, wR loc 1), (2, .int x5)]) hx hb dX4_nextToGrind_53 rfl hl (by decide) rfl (fun ls hl => ?_)
                refine lv_iinc (v := (x5 + 1)) (lv' := [(2, .int (x5 + 1)), (1, wR loc (rv 4 x5.toNatClampNeg)), (3, wR loc (rv 4 x5.toNatClampNeg)), (0, wR loc 1)]) hx hb dX4_nextToGrind_54 hl (k := 3) rfl rfl (by decide) (by simp [wR_cat]) (fun ls hl => ?_)
                refine lv_goto (tgt := 15) hx hb dX4_nextToGrind_57 (by decide) ?_
                exact ih _ _ _ _ _ hf hH hS (lv_sub hl [3, 1, 0] rfl)
    exact lp8 wN _ _ _ _ _ hL6 hH hS (lv_sub hl [2, 1, 0] rfl)
  · have hf := wIt c2 hf
    refine wnul hx hb loc dX4_nextToGrind_9 ?_
    cases hf
    exact W.aret hx hb hr (Or.inl ⟨_, rfl⟩) (wR_or _ _) (fun t ht hW => ⟨⟨_, (), by rw [wR_rf], rfl, by show wH _ _ _ _ _ _ _ t.heap; rw [ht]; exact hH⟩, hS.F ht⟩) hS.2.2 dX4_nextToGrind_10
noncomputable def fX4_beginGrind (ng : Nat) (sh : Nat → Nat) (iv : wI) (rv : wJ) : Option (wI × wJ) := if (rv 1 8) = 0 then wGd (vp_in 2 8) (if (nI ng) ≤ (iv 5 (2 : Int32).toNatClampNeg) then some (iv, rv) else wBd (fX4_isPowerFor ng sh iv rv 4) (fun (r4 : Int32) => if r4 = 0 then some (iv, rv) else wBd (fX4_nextToGrind ng sh iv rv) (fun (q7 : Nat) => if q7 = 0 then some (iv, rv) else wGd (sh q7 = 1) (wGd (sh (rv q7 1) = 4) (wGd (vp_in 0 3) (if (iv (rv q7 1) 0) ≤ (iv 6 (0 : Int32).toNatClampNeg) then wLt (wU iv 6 (0 : Int32).toNatClampNeg ((iv 6 (0 : Int32).toNatClampNeg) - (iv (rv q7 1) 0))) (fun (iv14 : wI) => wLt (wU iv14 q7 7 (iv14 (rv q7 1) 1)) (fun (iv16 : wI) => wLt (wV rv 1 8 q7) (fun (rv18 : wJ) => wB2 (fX4_turn ng sh iv16 rv18 q7 1) (fun (iv20 : wI) (rv21 : wJ) => some (iv20, rv21))))) else some (iv, rv))))))) else some (iv, rv)
set_option maxHeartbeats 4000000 in
set_option maxRecDepth 100000 in
theorem mtX4_beginGrind (l : Launch) (D : va_G) (K : Nat → ClassId) (loc sh ln : Nat → Nat) (iv : wI) (rv : wJ) (sz : Nat) (ng : Nat) {iv' : wI} {rv' : wJ} (hB : wBx ng sh ln) (hf : fX4_beginGrind ng sh iv rv = some (iv', rv')) : Met l yX4_beginGrind wsX4_beginGrind ({ frames := 2, cells := 0, slots := 0, locals := 46 }) (wPc D K loc sh ln iv rv sz [wR loc 1]) (wQv D K loc sh ln iv' rv' sz) 0 0 (wA loc sh sz) := by
  refine Met.ofW (cc := cX4_beginGrind) (maxL := 2) (ret := none) (by decide) rfl ?_
  intro p e s m args below meth c s₁ B hml hv
  obtain ⟨rfl, hsz, hH, hKn⟩ := hv
  have hx := B.exec
  have hb := B.bytes
  have hr := B.returns
  have hts := atoms_spec (ws := wsX4_beginGrind) B.pre
  have hown : s.vm.findClass RX4 = some m.cls := findClass_of_methodNamed B.named
  have hlocks := B.notSynchronized
  subst hsz
  have hA : ∀ q : Nat, s.heap.size ≤ q → wA loc sh s.heap.size q := fun q h => Or.inr h
  have hO : ∀ a, sh a ≠ 0 → wA loc sh s.heap.size (loc a) := fun a h => Or.inl ⟨a, h, rfl⟩
  have hS : va_S (wA loc sh s.heap.size) s.heap s.heap [] := va_S.rf
  obtain ⟨ls, hen, hl⟩ := wEntry m [wR loc 1] 2 (List.forall_mem_cons.mpr ⟨wR_cat _ _, fun _ h => absurd h List.not_mem_nil⟩) (Nat.le_of_ble_eq_true rfl)
  rw [hen]
  clear hen
  have hl : lv_has ls 2 [(0, wR loc 1)] := hl
  have k35 := hts (.fieldLink RX4 35 "CupByCup" "inGrinder" "LCupByCup$Cup;") (List.mem_of_getElem? (i := 1) rfl)
  have iX4 : ∀ w ∈ wsX40, w ∈ wsX4_beginGrind := fun w h => List.mem_cons_of_mem _ (List.mem_append_left _ (List.mem_append_left _ (List.mem_append_left _ (List.mem_append_right _ h))))
  have k28 := hts (.fieldLink RX4 28 "CupByCup" "cupsThat" "[I") (List.mem_of_getElem? (i := 2) rfl)
  have k66 := hts (.fieldLink RX4 66 "CupByCup" "groups" "[LCupByCup$Group;") (List.mem_of_getElem? (i := 3) rfl)
  have k98 := hts (.fieldLink RX4 98 "CupByCup$Cup" "recipe" "LCupByCup$Recipe;") (List.mem_of_getElem? (i := 4) rfl)
  have iX0 : ∀ w ∈ wsX00, w ∈ wsX4_beginGrind := fun w h => List.mem_cons_of_mem _ (List.mem_append_left _ (List.mem_append_left _ (List.mem_append_right _ h)))
  have k102 := hts (.fieldLink RX4 102 "CupByCup$Recipe" "beans" "I") (List.mem_of_getElem? (i := 5) rfl)
  have iX3 : ∀ w ∈ wsX30, w ∈ wsX4_beginGrind := fun w h => List.mem_cons_of_mem _ (List.mem_append_left _ (List.mem_append_right _ h))
  have k32 := hts (.fieldLink RX4 32 "CupByCup" "stores" "[I") (List.mem_of_getElem? (i := 6) rfl)
  have k262 := hts (.fieldLink RX4 262 "CupByCup$Recipe" "grind" "I") (List.mem_of_getElem? (i := 7) rfl)
  have k217 := hts (.fieldLink RX4 217 "CupByCup$Cup" "toGo" "I") (List.mem_of_getElem? (i := 8) rfl)
  unfold fX4_beginGrind at hf
  refine wald_n hx hb dX4_beginGrind_0 rfl (lv_at hl 0 rfl) ?_
  refine wg (C := RX4) (T := TX4) (N := 17) (v := wR loc (rv 1 8)) hx hb hts iX4 hown hKn.1 hH (q := 1) (hB.1 1 5 (by decide)) (by decide) rfl rfl 8 (by decide) k35 rfl dX4_beginGrind_1 ?_
  refine wifnon (tgt := 29) hx hb dX4_beginGrind_4 (by decide) (fun c1 => ?_) (fun c1 => ?_)
  · have hf := wIf c1 hf
    cases hf
    exact W.vret hx hb hr (fun t ht hW => ⟨⟨(), rfl, trivial, by show wH _ _ _ _ _ _ _ t.heap; rw [ht]; exact hH⟩, hS.F ht⟩) hS.2.2 dX4_beginGrind_29
  · have hf := wIt c1 hf
    refine wald_n hx hb dX4_beginGrind_7 rfl (lv_at hl 0 rfl) ?_
    refine wg (C := RX4) (T := TX4) (N := 17) (v := wR loc 5) hx hb hts iX4 hown hKn.1 hH (q := 1) (hB.1 1 5 (by decide)) (by decide) rfl rfl 5 (by decide) k28 rfl dX4_beginGrind_8 ?_
    refine lv_iconst (v := 2) hx hb dX4_beginGrind_11 (by decide) ?_
    obtain ⟨g2, hf⟩ := wGd_e hf
    refine wia hx hb hKn.1 hH (hB.1 5 7 (by decide)) (hB.2.1 5 _ (by decide)) g2 dX4_beginGrind_12 ?_
    refine wald_n hx hb dX4_beginGrind_13 rfl (lv_at hl 0 rfl) ?_
    refine wg (C := RX4) (T := TX4) (N := 17) (v := wR loc 2) hx hb hts iX4 hown hKn.1 hH (q := 1) (hB.1 1 5 (by decide)) (by decide) rfl rfl 0 (by decide) k66 rfl dX4_beginGrind_14 ?_
    refine wal (kd := 10) (ki := 3) hx hb hKn.1 hH (hB.1 2 10 (by decide)) (by decide) rfl rfl rfl hB.2.2.1 dX4_beginGrind_17 ?_
    refine lv_icmp_ge (tgt := 29) hx hb dX4_beginGrind_18 (by decide) (fun c3 => ?_) (fun c3 => ?_)
    · have hf := wIt c3 hf
      cases hf
      exact W.vret hx hb hr (fun t ht hW => ⟨⟨(), rfl, trivial, by show wH _ _ _ _ _ _ _ t.heap; rw [ht]; exact hH⟩, hS.F ht⟩) hS.2.2 dX4_beginGrind_29
    · have hf := wIf c3 hf
      refine wald_n hx hb dX4_beginGrind_21 rfl (lv_at hl 0 rfl) ?_
      refine lv_iconst (v := 4) hx hb dX4_beginGrind_22 (by decide) ?_
      obtain ⟨r4, h5, hf⟩ := wBd_e hf
      refine wci (va_runV (As := [.int 4]) (rest := []) ⟨hx, hb, hml, hown, hts⟩ (mtX4_isPowerFor l D K loc sh ln iv rv _ ng 4 hB h5) (cwV 1 hts gX4_beginGrind_X4_isPowerFor rfl rfl rfl (by decide +kernel) ⟨Nat.le_of_ble_eq_true rfl, Nat.le_of_ble_eq_true rfl⟩) (wPreV hKn hH (hB.1 1 5 (by decide)) (by decide) rfl rfl) rfl rfl hl.1 rfl (lv_room (Nat.le_of_ble_eq_true rfl)) dX4_beginGrind_23 ⟨Nat.zero_le _, Nat.zero_le _⟩) hS hO hA (fun H locs hH hS => ?_)
      refine lv_if_ne (tgt := 30) hx hb dX4_beginGrind_26 (by decide) (fun c6 => ?_) (fun c6 => ?_)
      · have hf := wIf c6 hf
        refine wald_n hx hb dX4_beginGrind_30 rfl (lv_at hl 0 rfl) ?_
        obtain ⟨q7, h8, hf⟩ := wBd_e hf
        refine wcr (va_runV (As := []) (rest := []) ⟨hx, hb, hml, hown, hts⟩ (mtX4_nextToGrind l D K loc sh ln iv rv _ ng hB h8) (cwV 0 hts gX4_beginGrind_X4_nextToGrind rfl rfl rfl (by decide +kernel) ⟨Nat.le_of_ble_eq_true rfl, Nat.le_of_ble_eq_true rfl⟩) (wPreV hKn hH (hB.1 1 5 (by decide)) (by decide) rfl rfl) rfl rfl hl.1 rfl (lv_room (Nat.le_of_ble_eq_true rfl)) dX4_beginGrind_31 ⟨Nat.zero_le _, Nat.zero_le _⟩) hS hO hA (fun H locs hH hS => ?_)
        refine wast_n (lv' := [(1, wR loc q7), (0, wR loc 1)]) hx hb dX4_beginGrind_34 rfl hl (by decide) rfl (fun ls hl => ?_)
        refine wald_n hx hb dX4_beginGrind_35 rfl (lv_at hl 0 rfl) ?_
        refine wifnull (tgt := 55) hx hb dX4_beginGrind_36 (by decide) (fun c9 => ?_) (fun c9 => ?_)
        · have hf := wIt c9 hf
          cases hf
          exact W.vret hx hb hr (fun t ht hW => ⟨⟨(), rfl, trivial, by show wH _ _ _ _ _ _ _ t.heap; rw [ht]; exact hH⟩, hS.F ht⟩) hS.2.2 dX4_beginGrind_55
        · have hf := wIf c9 hf
          refine wald_n hx hb dX4_beginGrind_39 rfl (lv_at hl 0 rfl) ?_
          obtain ⟨g10, hf⟩ := wGd_e hf
          refine wg (C := RX0) (T := TX0) (N := 11) (v := wR loc (rv q7 1)) hx hb hts iX0 hown hKn.1 hH (q := q7) g10 (by decide) rfl rfl 1 (by decide) k98 rfl dX4_beginGrind_40 ?_
          obtain ⟨g11, hf⟩ := wGd_e hf
          refine wg (C := RX3) (T := TX3) (N := 6) (v := .int (iv (rv q7 1) 0)) hx hb hts iX3 hown hKn.1 hH (q := (rv q7 1)) g11 (by decide) rfl rfl 0 (by decide) k102 rfl dX4_beginGrind_43 ?_
          refine wald_n hx hb dX4_beginGrind_46 rfl (lv_at hl 1 rfl) ?_
          refine wg (C := RX4) (T := TX4) (N := 17) (v := wR loc 6) hx hb hts iX4 hown hKn.1 hH (q := 1) (hB.1 1 5 (by decide)) (by decide) rfl rfl 6 (by decide) k32 rfl dX4_beginGrind_47 ?_
          refine lv_iconst (v := 0) hx hb dX4_beginGrind_50 (by decide) ?_
          obtain ⟨g12, hf⟩ := wGd_e hf
          refine wia hx hb hKn.1 hH (hB.1 6 7 (by decide)) (hB.2.1 6 _ (by decide)) g12 dX4_beginGrind_51 ?_
          refine lv_icmp_le (tgt := 56) hx hb dX4_beginGrind_52 (by decide) (fun c13 => ?_) (fun c13 => ?_)
          · have hf := wIt c13 hf
            refine wald_n hx hb dX4_beginGrind_56 rfl (lv_at hl 1 rfl) ?_
            refine wg (C := RX4) (T := TX4) (N := 17) (v := wR loc 6) hx hb hts iX4 hown hKn.1 hH (q := 1) (hB.1 1 5 (by decide)) (by decide) rfl rfl 6 (by decide) k32 rfl dX4_beginGrind_57 ?_
            refine lv_iconst (v := 0) hx hb dX4_beginGrind_60 (by decide) ?_
            refine lv_dup2_11 hx hb dX4_beginGrind_61 rfl (wR_cat _ _) ?_
            refine wia hx hb hKn.1 hH (hB.1 6 7 (by decide)) (hB.2.1 6 _ (by decide)) g12 dX4_beginGrind_62 ?_
            refine wald_n hx hb dX4_beginGrind_63 rfl (lv_at hl 0 rfl) ?_
            refine wg (C := RX0) (T := TX0) (N := 11) (v := wR loc (rv q7 1)) hx hb hts iX0 hown hKn.1 hH (q := q7) g10 (by decide) rfl rfl 1 (by decide) k98 rfl dX4_beginGrind_64 ?_
            refine wg (C := RX3) (T := TX3) (N := 6) (v := .int (iv (rv q7 1) 0)) hx hb hts iX3 hown hKn.1 hH (q := (rv q7 1)) g11 (by decide) rfl rfl 0 (by decide) k102 rfl dX4_beginGrind_67 ?_
            refine lv_isub hx hb dX4_beginGrind_70 ?_
            obtain ⟨iv14, e15, hf⟩ := wLt_e hf
            refine wis hx hb hKn.1 hH hO hS (hB.1 6 7 (by decide)) (hB.2.1 6 _ (by decide)) g12 dX4_beginGrind_71 (fun H locs hH hS => ?_)
            rw [← e15] at hH
            refine wald_n hx hb dX4_beginGrind_72 rfl (lv_at hl 0 rfl) ?_
            refine wald_n hx hb dX4_beginGrind_73 rfl (lv_at hl 0 rfl) ?_
            refine wg (C := RX0) (T := TX0) (N := 11) (v := wR loc (rv q7 1)) hx hb hts iX0 hown hKn.1 hH (q := q7) g10 (by decide) rfl rfl 1 (by decide) k98 rfl dX4_beginGrind_74 ?_
            refine wg (C := RX3) (T := TX3) (N := 6) (v := .int (iv14 (rv q7 1) 1)) hx hb hts iX3 hown hKn.1 hH (q := (rv q7 1)) g11 (by decide) rfl rfl 1 (by decide) k262 rfl dX4_beginGrind_77 ?_
            obtain ⟨iv16, e17, hf⟩ := wLt_e hf
            refine wp (C := RX0) (T := TX0) (N := 11) (v := .int (iv14 (rv q7 1) 1)) (ty := tyX0 7) (iv' := iv16) (rv' := rv) hx hb hts iX0 tyX0 tyX0_ok nmX0 hown hKn.1 hH hO hS (q := q7) g10 (by decide) rfl rfl 7 (by decide) k217 rfl (tyX0_ok 7 (by decide)) rfl rfl (Nat.le_of_ble_eq_true rfl) (by rw [e17, wU_self]; rfl) (fun a ha => by rw [e17]; exact wU_ne a ha) (fun _ _ => rfl) dX4_beginGrind_80 (fun H locs hH hS => ?_)
            refine wald_n hx hb dX4_beginGrind_83 rfl (lv_at hl 1 rfl) ?_
            refine wald_n hx hb dX4_beginGrind_84 rfl (lv_at hl 0 rfl) ?_
            obtain ⟨rv18, e19, hf⟩ := wLt_e hf
            refine wp (C := RX4) (T := TX4) (N := 17) (v := wR loc q7) (ty := tyX4 8) (iv' := iv16) (rv' := rv18) hx hb hts iX4 tyX4 tyX4_ok nmX4 hown hKn.1 hH hO hS (q := 1) (hB.1 1 5 (by decide)) (by decide) rfl rfl 8 (by decide) k35 rfl (tyX4_ok 8 (by decide)) (wR_nar _ _ _) (wR_fit _ _ _) (Nat.le_of_ble_eq_true rfl) (by rw [e19, wV_self]; rfl) (fun _ _ => rfl) (fun a ha => by rw [e19]; exact wV_ne a ha) dX4_beginGrind_85 (fun H locs hH hS => ?_)
            refine wald_n hx hb dX4_beginGrind_88 rfl (lv_at hl 1 rfl) ?_
            refine wald_n hx hb dX4_beginGrind_89 rfl (lv_at hl 0 rfl) ?_
            refine lv_iconst (v := 1) hx hb dX4_beginGrind_90 (by decide) ?_
            obtain ⟨iv20, rv21, h22, hf⟩ := wB2_e hf
            refine wcv (va_runV (As := [wR loc q7, .int 1]) (rest := []) ⟨hx, hb, hml, hown, hts⟩ (mtX4_turn l D K loc sh ln iv16 rv18 _ ng q7 1 hB h22) (cwV 2 hts gX4_beginGrind_X4_turn rfl rfl rfl (by decide +kernel) ⟨Nat.le_of_ble_eq_true rfl, Nat.le_of_ble_eq_true rfl⟩) (wPreV hKn hH (hB.1 1 5 (by decide)) (by decide) rfl rfl) rfl rfl hl.1 rfl (lv_room (Nat.le_of_ble_eq_true rfl)) dX4_beginGrind_91 ⟨Nat.zero_le _, Nat.zero_le _⟩) hS hO hA (fun H locs hH hS => ?_)
            cases hf
            exact W.vret hx hb hr (fun t ht hW => ⟨⟨(), rfl, trivial, by show wH _ _ _ _ _ _ _ t.heap; rw [ht]; exact hH⟩, hS.F ht⟩) hS.2.2 dX4_beginGrind_94
          · have hf := wIf c13 hf
            cases hf
            exact W.vret hx hb hr (fun t ht hW => ⟨⟨(), rfl, trivial, by show wH _ _ _ _ _ _ _ t.heap; rw [ht]; exact hH⟩, hS.F ht⟩) hS.2.2 dX4_beginGrind_55
      · have hf := wIt c6 hf
        cases hf
        exact W.vret hx hb hr (fun t ht hW => ⟨⟨(), rfl, trivial, by show wH _ _ _ _ _ _ _ t.heap; rw [ht]; exact hH⟩, hS.F ht⟩) hS.2.2 dX4_beginGrind_29
noncomputable def fX4_changeHeat_20 (ng : Nat) (sh : Nat → Nat) : Nat → wI → wJ → Int32 → Int32 → Option (wI)
  | 0, _, _, _, _ => none
  | n + 1, iv, rv, x2, x3 => if x2 ≤ x3 then some iv else wGd (vp_in x3 ng) (wGd (sh (rv 2 x3.toNatClampNeg) = 2) (if (iv (rv 2 x3.toNatClampNeg) 1) = 1 then wLt (wU iv 1 11 ((iv 1 11) - 5)) (fun (iv7 : wI) => fX4_changeHeat_20 ng sh n iv7 rv x2 (x3 + 1)) else fX4_changeHeat_20 ng sh n iv rv x2 (x3 + 1)))
noncomputable def fX4_changeHeat (ng : Nat) (sh : Nat → Nat) (iv : wI) (rv : wJ) : Option (wI) := wLt (wU iv 1 11 ((iv 1 11) - 1)) (fun (iv1 : wI) => wBd (fX4_changeHeat_20 ng sh wN iv1 rv (nI ng) 0) (fun (iv9 : wI) => wBd (if (rv 1 9) = 0 then some iv9 else wLt (wU iv9 1 11 ((iv9 1 11) - 8)) (fun (iv20 : wI) => some iv20)) (fun (iv17 : wI) => if 950 ≤ (iv17 1 11) then some iv17 else wBd (fX4_isPowerFor ng sh iv17 rv 6) (fun (r23 : Int32) => if r23 = 0 then some iv17 else wLt (wU iv17 1 11 ((iv17 1 11) + 14)) (fun (iv26 : wI) => some iv26)))))
set_option maxHeartbeats 4000000 in
set_option maxRecDepth 100000 in
theorem mtX4_changeHeat (l : Launch) (D : va_G) (K : Nat → ClassId) (loc sh ln : Nat → Nat) (iv : wI) (rv : wJ) (sz : Nat) (ng : Nat) {iv' : wI} (hB : wBx ng sh ln) (hf : fX4_changeHeat ng sh iv rv = some iv') : Met l yX4_changeHeat wsX4_changeHeat ({ frames := 2, cells := 0, slots := 0, locals := 46 }) (wPc D K loc sh ln iv rv sz [wR loc 1]) (wQv D K loc sh ln iv' rv sz) 0 0 (wA loc sh sz) := by
  refine Met.ofW (cc := cX4_changeHeat) (maxL := 5) (ret := none) (by decide) rfl ?_
  intro p e s m args below meth c s₁ B hml hv
  obtain ⟨rfl, hsz, hH, hKn⟩ := hv
  have hx := B.exec
  have hb := B.bytes
  have hr := B.returns
  have hts := atoms_spec (ws := wsX4_changeHeat) B.pre
  have hown : s.vm.findClass RX4 = some m.cls := findClass_of_methodNamed B.named
  have hlocks := B.notSynchronized
  subst hsz
  have hA : ∀ q : Nat, s.heap.size ≤ q → wA loc sh s.heap.size q := fun q h => Or.inr h
  have hO : ∀ a, sh a ≠ 0 → wA loc sh s.heap.size (loc a) := fun a h => Or.inl ⟨a, h, rfl⟩
  have hS : va_S (wA loc sh s.heap.size) s.heap s.heap [] := va_S.rf
  obtain ⟨ls, hen, hl⟩ := wEntry m [wR loc 1] 5 (List.forall_mem_cons.mpr ⟨wR_cat _ _, fun _ h => absurd h List.not_mem_nil⟩) (Nat.le_of_ble_eq_true rfl)
  rw [hen]
  clear hen
  have hl : lv_has ls 5 [(0, wR loc 1)] := hl
  have k42 := hts (.fieldLink RX4 42 "CupByCup" "heat" "I") (List.mem_of_getElem? (i := 1) rfl)
  have iX4 : ∀ w ∈ wsX40, w ∈ wsX4_changeHeat := fun w h => List.mem_cons_of_mem _ (List.mem_append_left _ (List.mem_append_right _ h))
  have k66 := hts (.fieldLink RX4 66 "CupByCup" "groups" "[LCupByCup$Group;") (List.mem_of_getElem? (i := 2) rfl)
  have k151 := hts (.fieldLink RX4 151 "CupByCup$Group" "state" "I") (List.mem_of_getElem? (i := 3) rfl)
  have iX1 : ∀ w ∈ wsX10, w ∈ wsX4_changeHeat := fun w h => List.mem_cons_of_mem _ (List.mem_append_right _ h)
  have k39 := hts (.fieldLink RX4 39 "CupByCup" "atWand" "LCupByCup$Cup;") (List.mem_of_getElem? (i := 4) rfl)
  unfold fX4_changeHeat at hf
  refine wald_n hx hb dX4_changeHeat_0 rfl (lv_at hl 0 rfl) ?_
  refine lv_dup hx hb dX4_changeHeat_1 (wR_cat _ _) ?_
  refine wg (C := RX4) (T := TX4) (N := 17) (v := .int (iv 1 11)) hx hb hts iX4 hown hKn.1 hH (q := 1) (hB.1 1 5 (by decide)) (by decide) rfl rfl 11 (by decide) k42 rfl dX4_changeHeat_2 ?_
  refine lv_iconst (v := 1) hx hb dX4_changeHeat_5 (by decide) ?_
  refine lv_isub hx hb dX4_changeHeat_6 ?_
  obtain ⟨iv1, e2, hf⟩ := wLt_e hf
  refine wp (C := RX4) (T := TX4) (N := 17) (v := .int ((iv 1 11) - 1)) (ty := tyX4 11) (iv' := iv1) (rv' := rv) hx hb hts iX4 tyX4 tyX4_ok nmX4 hown hKn.1 hH hO hS (q := 1) (hB.1 1 5 (by decide)) (by decide) rfl rfl 11 (by decide) k42 rfl (tyX4_ok 11 (by decide)) rfl rfl (Nat.le_of_ble_eq_true rfl) (by rw [e2, wU_self]; rfl) (fun a ha => by rw [e2]; exact wU_ne a ha) (fun _ _ => rfl) dX4_changeHeat_7 (fun H locs hH hS => ?_)
  refine wald_n hx hb dX4_changeHeat_10 rfl (lv_at hl 0 rfl) ?_
  refine wg (C := RX4) (T := TX4) (N := 17) (v := wR loc 2) hx hb hts iX4 hown hKn.1 hH (q := 1) (hB.1 1 5 (by decide)) (by decide) rfl rfl 0 (by decide) k66 rfl dX4_changeHeat_11 ?_
  refine wast_n (lv' := [(1, wR loc 2), (0, wR loc 1)]) hx hb dX4_changeHeat_14 rfl hl (by decide) rfl (fun ls hl => ?_)
  refine wald_n hx hb dX4_changeHeat_15 rfl (lv_at hl 0 rfl) ?_
  refine wal (kd := 10) (ki := 3) hx hb hKn.1 hH (hB.1 2 10 (by decide)) (by decide) rfl rfl rfl hB.2.2.1 dX4_changeHeat_16 ?_
  refine lv_istore_n (lv' := [(2, .int (nI ng)), (1, wR loc 2), (0, wR loc 1)]) hx hb dX4_changeHeat_17 rfl hl (by decide) rfl (fun ls hl => ?_)
  refine lv_iconst (v := 0) hx hb dX4_changeHeat_18 (by decide) ?_
  refine lv_istore_n (lv' := [(3, .int 0), (2, .int (nI ng)), (1, wR loc 2), (0, wR loc 1)]) hx hb dX4_changeHeat_19 rfl hl (by decide) rfl (fun ls hl => ?_)
  obtain ⟨iv9, hL6, hf⟩ := wBd_e hf
  have hk7 : ∀ (H : Heap) (locs : List Loc) (ls : Array Slot), wH D K loc sh ln iv9 rv H → va_S (wA loc sh s.heap.size) s.heap H locs → lv_has ls 5 [(0, wR loc 1)] → W p l e (headSpec wsX4_changeHeat ({ frames := 2, cells := 0, slots := 0, locals := 46 })).room s m ([wR loc 1] : List Value).toArray below meth c H locs 0 0 (MQ below (wQv D K loc sh ln iv' rv s.heap.size) ([wR loc 1] : List Value).toArray s 0 0 (wA loc sh s.heap.size)) (F0 m 55 ls []) := by
    clear hL6 hl hS hH
    intro H locs ls hH hS hl
    refine wald_n hx hb dX4_changeHeat_55 rfl (lv_at hl 0 rfl) ?_
    refine wg (C := RX4) (T := TX4) (N := 17) (v := wR loc (rv 1 9)) hx hb hts iX4 hown hKn.1 hH (q := 1) (hB.1 1 5 (by decide)) (by decide) rfl rfl 9 (by decide) k39 rfl dX4_changeHeat_56 ?_
    obtain ⟨iv17, hv18, hf⟩ := wBd_e hf
    have hj19 : ∀ (H : Heap) (locs : List Loc) (ls : Array Slot), wH D K loc sh ln iv17 rv H → va_S (wA loc sh s.heap.size) s.heap H locs → lv_has ls 5 [(0, wR loc 1)] → W p l e (headSpec wsX4_changeHeat ({ frames := 2, cells := 0, slots := 0, locals := 46 })).room s m ([wR loc 1] : List Value).toArray below meth c H locs 0 0 (MQ below (wQv D K loc sh ln iv' rv s.heap.size) ([wR loc 1] : List Value).toArray s 0 0 (wA loc sh s.heap.size)) (F0 m 73 ls []) := by
      intro H locs ls hH hS hl
      refine wald_n hx hb dX4_changeHeat_73 rfl (lv_at hl 0 rfl) ?_
      refine wg (C := RX4) (T := TX4) (N := 17) (v := .int (iv17 1 11)) hx hb hts iX4 hown hKn.1 hH (q := 1) (hB.1 1 5 (by decide)) (by decide) rfl rfl 11 (by decide) k42 rfl dX4_changeHeat_74 ?_
      refine lv_sipush (v := 950) hx hb dX4_changeHeat_77 (by decide) ?_
      refine lv_icmp_ge (tgt := 103) hx hb dX4_changeHeat_80 (by decide) (fun c22 => ?_) (fun c22 => ?_)
      · have hf := wIt c22 hf
        cases hf
        exact W.vret hx hb hr (fun t ht hW => ⟨⟨(), rfl, trivial, by show wH _ _ _ _ _ _ _ t.heap; rw [ht]; exact hH⟩, hS.F ht⟩) hS.2.2 dX4_changeHeat_103
      · have hf := wIf c22 hf
        refine wald_n hx hb dX4_changeHeat_83 rfl (lv_at hl 0 rfl) ?_
        refine lv_bipush (v := 6) hx hb dX4_changeHeat_84 (by decide) ?_
        obtain ⟨r23, h24, hf⟩ := wBd_e hf
        refine wci (va_runV (As := [.int 6]) (rest := []) ⟨hx, hb, hml, hown, hts⟩ (mtX4_isPowerFor l D K loc sh ln iv17 rv _ ng 6 hB h24) (cwV 1 hts gX4_changeHeat_X4_isPowerFor rfl rfl rfl (by decide +kernel) ⟨Nat.le_of_ble_eq_true rfl, Nat.le_of_ble_eq_true rfl⟩) (wPreV hKn hH (hB.1 1 5 (by decide)) (by decide) rfl rfl) rfl rfl hl.1 rfl (lv_room (Nat.le_of_ble_eq_true rfl)) dX4_changeHeat_86 ⟨Nat.zero_le _, Nat.zero_le _⟩) hS hO hA (fun H locs hH hS => ?_)
        refine lv_if_eq (tgt := 103) hx hb dX4_changeHeat_89 (by decide) (fun c25 => ?_) (fun c25 => ?_)
        · have hf := wIt c25 hf
          cases hf
          exact W.vret hx hb hr (fun t ht hW => ⟨⟨(), rfl, trivial, by show wH _ _ _ _ _ _ _ t.heap; rw [ht]; exact hH⟩, hS.F ht⟩) hS.2.2 dX4_changeHeat_103
        · have hf := wIf c25 hf
          refine wald_n hx hb dX4_changeHeat_92 rfl (lv_at hl 0 rfl) ?_
          refine lv_dup hx hb dX4_changeHeat_93 (wR_cat _ _) ?_
          refine wg (C := RX4) (T := TX4) (N := 17) (v := .int (iv17 1 11)) hx hb hts iX4 hown hKn.1 hH (q := 1) (hB.1 1 5 (by decide)) (by decide) rfl rfl 11 (by decide) k42 rfl dX4_changeHeat_94 ?_
          refine lv_bipush (v := 14) hx hb dX4_changeHeat_97 (by decide) ?_
          refine lv_iadd hx hb dX4_changeHeat_99 ?_
          obtain ⟨iv26, e27, hf⟩ := wLt_e hf
          refine wp (C := RX4) (T := TX4) (N := 17) (v := .int ((iv17 1 11) + 14)) (ty := tyX4 11) (iv' := iv26) (rv' := rv) hx hb hts iX4 tyX4 tyX4_ok nmX4 hown hKn.1 hH hO hS (q := 1) (hB.1 1 5 (by decide)) (by decide) rfl rfl 11 (by decide) k42 rfl (tyX4_ok 11 (by decide)) rfl rfl (Nat.le_of_ble_eq_true rfl) (by rw [e27, wU_self]; rfl) (fun a ha => by rw [e27]; exact wU_ne a ha) (fun _ _ => rfl) dX4_changeHeat_100 (fun H locs hH hS => ?_)
          cases hf
          exact W.vret hx hb hr (fun t ht hW => ⟨⟨(), rfl, trivial, by show wH _ _ _ _ _ _ _ t.heap; rw [ht]; exact hH⟩, hS.F ht⟩) hS.2.2 dX4_changeHeat_103
    clear hf
    have hf := hv18
    clear hv18
    refine wifnull (tgt := 73) hx hb dX4_changeHeat_59 (by decide) (fun c16 => ?_) (fun c16 => ?_)
    · have hf := wIt c16 hf
      cases hf
      exact hj19 _ _ _ hH hS (lv_sub hl [0] rfl)
    · have hf := wIf c16 hf
      refine wald_n hx hb dX4_changeHeat_62 rfl (lv_at hl 0 rfl) ?_
      refine lv_dup hx hb dX4_changeHeat_63 (wR_cat _ _) ?_
      refine wg (C := RX4) (T := TX4) (N := 17) (v := .int (iv9 1 11)) hx hb hts iX4 hown hKn.1 hH (q := 1) (hB.1 1 5 (by decide)) (by decide) rfl rfl 11 (by decide) k42 rfl dX4_changeHeat_64 ?_
      refine lv_bipush (v := 8) hx hb dX4_changeHeat_67 (by decide) ?_
      refine lv_isub hx hb dX4_changeHeat_69 ?_
      obtain ⟨iv20, e21, hf⟩ := wLt_e hf
      refine wp (C := RX4) (T := TX4) (N := 17) (v := .int ((iv9 1 11) - 8)) (ty := tyX4 11) (iv' := iv20) (rv' := rv) hx hb hts iX4 tyX4 tyX4_ok nmX4 hown hKn.1 hH hO hS (q := 1) (hB.1 1 5 (by decide)) (by decide) rfl rfl 11 (by decide) k42 rfl (tyX4_ok 11 (by decide)) rfl rfl (Nat.le_of_ble_eq_true rfl) (by rw [e21, wU_self]; rfl) (fun a ha => by rw [e21]; exact wU_ne a ha) (fun _ _ => rfl) dX4_changeHeat_70 (fun H locs hH hS => ?_)
      cases hf
      exact hj19 _ _ _ hH hS (lv_sub hl [0] rfl)
  have lp8 : ∀ (n3 : Nat) (iv4 : wI) (x5 : Int32) (H : Heap) (locs : List Loc) (ls : Array Slot), fX4_changeHeat_20 ng sh n3 iv4 rv (nI ng) x5 = some iv9 → wH D K loc sh ln iv4 rv H → va_S (wA loc sh s.heap.size) s.heap H locs → lv_has ls 5 [(0, wR loc 1), (1, wR loc 2), (2, .int (nI ng)), (3, .int x5)] → W p l e (headSpec wsX4_changeHeat ({ frames := 2, cells := 0, slots := 0, locals := 46 })).room s m ([wR loc 1] : List Value).toArray below meth c H locs 0 0 (MQ below (wQv D K loc sh ln iv' rv s.heap.size) ([wR loc 1] : List Value).toArray s 0 0 (wA loc sh s.heap.size)) (F0 m 20 ls []) := by
    clear hf hl hS hH hL6
    intro n3
    induction n3 with
    | zero => intro iv4 x5 H locs ls hf; cases hf
    | succ n3 ih =>
      intro iv4 x5 H locs ls hf hH hS hl
      rw [fX4_changeHeat_20.eq_2] at hf
      refine lv_iload_n hx hb dX4_changeHeat_20 rfl (lv_at hl 3 rfl) ?_
      refine lv_iload_n hx hb dX4_changeHeat_21 rfl (lv_at hl 2 rfl) ?_
      refine lv_icmp_ge (tgt := 55) hx hb dX4_changeHeat_22 (by decide) (fun c10 => ?_) (fun c10 => ?_)
      · have hf := wIt c10 hf
        cases hf
        exact hk7 _ _ _ hH hS (lv_sub hl [0] rfl)
      · have hf := wIf c10 hf
        refine wald_n hx hb dX4_changeHeat_25 rfl (lv_at hl 1 rfl) ?_
        refine lv_iload_n hx hb dX4_changeHeat_26 rfl (lv_at hl 3 rfl) ?_
        obtain ⟨g11, hf⟩ := wGd_e hf
        refine waa (kd := 10) (ki := 3) hx hb hKn.1 hH (hB.1 2 10 (by decide)) (by decide) rfl rfl hB.2.2.1 g11 dX4_changeHeat_27 ?_
        refine wast (lv' := [(4, wR loc (rv 2 x5.toNatClampNeg)), (0, wR loc 1), (1, wR loc 2), (2, .int (nI ng)), (3, .int x5)]) hx hb dX4_changeHeat_28 hl (by decide) rfl (fun ls hl => ?_)
        refine wald hx hb dX4_changeHeat_30 (lv_at hl 0 rfl) ?_
        obtain ⟨g12, hf⟩ := wGd_e hf
        refine wg (C := RX1) (T := TX1) (N := 6) (v := .int (iv4 (rv 2 x5.toNatClampNeg) 1)) hx hb hts iX1 hown hKn.1 hH (q := (rv 2 x5.toNatClampNeg)) g12 (by decide) rfl rfl 1 (by decide) k151 rfl dX4_changeHeat_32 ?_
        refine lv_iconst (v := 1) hx hb dX4_changeHeat_35 (by decide) ?_
        refine lv_icmp_ne (tgt := 49) hx hb dX4_changeHeat_36 (by decide) (fun c13 => ?_) (fun c13 => ?_)
        · have hf := wIf c13 hf
          refine lv_iinc (v := (x5 + 1)) (lv' := [(3, .int (x5 + 1)), (4, wR loc (rv 2 x5.toNatClampNeg)), (0, wR loc 1), (1, wR loc 2), (2, .int (nI ng))]) hx hb dX4_changeHeat_49 hl (k := 4) rfl rfl (by decide) rfl (fun ls hl => ?_)
          refine lv_goto (tgt := 20) hx hb dX4_changeHeat_52 (by decide) ?_
          exact ih _ _ _ _ _ hf hH hS (lv_sub hl [2, 3, 4, 0] rfl)
        · have hf := wIt c13 hf
          refine wald_n hx hb dX4_changeHeat_39 rfl (lv_at hl 1 rfl) ?_
          refine lv_dup hx hb dX4_changeHeat_40 (wR_cat _ _) ?_
          refine wg (C := RX4) (T := TX4) (N := 17) (v := .int (iv4 1 11)) hx hb hts iX4 hown hKn.1 hH (q := 1) (hB.1 1 5 (by decide)) (by decide) rfl rfl 11 (by decide) k42 rfl dX4_changeHeat_41 ?_
          refine lv_iconst (v := 5) hx hb dX4_changeHeat_44 (by decide) ?_
          refine lv_isub hx hb dX4_changeHeat_45 ?_
          obtain ⟨iv14, e15, hf⟩ := wLt_e hf
          refine wp (C := RX4) (T := TX4) (N := 17) (v := .int ((iv4 1 11) - 5)) (ty := tyX4 11) (iv' := iv14) (rv' := rv) hx hb hts iX4 tyX4 tyX4_ok nmX4 hown hKn.1 hH hO hS (q := 1) (hB.1 1 5 (by decide)) (by decide) rfl rfl 11 (by decide) k42 rfl (tyX4_ok 11 (by decide)) rfl rfl (Nat.le_of_ble_eq_true rfl) (by rw [e15, wU_self]; rfl) (fun a ha => by rw [e15]; exact wU_ne a ha) (fun _ _ => rfl) dX4_changeHeat_46 (fun H locs hH hS => ?_)
          refine lv_iinc (v := (x5 + 1)) (lv' := [(3, .int (x5 + 1)), (4, wR loc (rv 2 x5.toNatClampNeg)), (0, wR loc 1), (1, wR loc 2), (2, .int (nI ng))]) hx hb dX4_changeHeat_49 hl (k := 4) rfl rfl (by decide) rfl (fun ls hl => ?_)
          refine lv_goto (tgt := 20) hx hb dX4_changeHeat_52 (by decide) ?_
          exact ih _ _ _ _ _ hf hH hS (lv_sub hl [2, 3, 4, 0] rfl)
  exact lp8 wN _ _ _ _ _ hL6 hH hS (lv_sub hl [3, 2, 1, 0] rfl)
noncomputable def fX4_goOneTick_18 (ng : Nat) (sh : Nat → Nat) : Nat → wI → wJ → Int32 → Int32 → Option (wI × wJ)
  | 0, _, _, _, _ => none
  | n + 1, iv, rv, x2, x3 => if x2 ≤ x3 then some (iv, rv) else wGd (vp_in x3 ng) (wB2 (fX4_passTickOf ng sh iv rv (rv 2 x3.toNatClampNeg)) (fun (iv9 : wI) (rv10 : wJ) => fX4_goOneTick_18 ng sh n iv9 rv10 x2 (x3 + 1)))
noncomputable def fX4_goOneTick (ng : Nat) (sh : Nat → Nat) (iv : wI) (rv : wJ) : Option (wI × wJ) := wB2 (fX4_endGrinding ng sh iv rv) (fun (iv1 : wI) (rv2 : wJ) => wB2 (fX4_endSteaming ng sh iv1 rv2) (fun (iv4 : wI) (rv5 : wJ) => wB2 (fX4_goOneTick_18 ng sh wN iv4 rv5 (nI ng) 0) (fun (iv14 : wI) (rv15 : wJ) => wB2 (fX4_throwAwayOldGrounds ng sh iv14 rv15) (fun (iv21 : wI) (rv22 : wJ) => wB2 (fX4_beginSteam ng sh iv21 rv22) (fun (iv24 : wI) (rv25 : wJ) => wBd (fX4_beginRinses ng sh iv24 rv25) (fun (iv27 : wI) => wB2 (fX4_beginBrews ng sh iv27 rv25) (fun (iv29 : wI) (rv30 : wJ) => wB2 (fX4_beginGrind ng sh iv29 rv30) (fun (iv32 : wI) (rv33 : wJ) => wBd (fX4_changeHeat ng sh iv32 rv33) (fun (iv35 : wI) => wLt (wU iv35 1 12 ((iv35 1 12) + 1)) (fun (iv37 : wI) => some (iv37, rv33)))))))))))
set_option maxHeartbeats 4000000 in
set_option maxRecDepth 100000 in
theorem mtX4_goOneTick (l : Launch) (D : va_G) (K : Nat → ClassId) (loc sh ln : Nat → Nat) (iv : wI) (rv : wJ) (sz : Nat) (ng : Nat) {iv' : wI} {rv' : wJ} (hB : wBx ng sh ln) (hf : fX4_goOneTick ng sh iv rv = some (iv', rv')) : Met l yX4_goOneTick wsX4_goOneTick ({ frames := 4, cells := 0, slots := 0, locals := 86 }) (wPc D K loc sh ln iv rv sz [wR loc 1]) (wQv D K loc sh ln iv' rv' sz) 0 0 (wA loc sh sz) := by
  refine Met.ofW (cc := cX4_goOneTick) (maxL := 5) (ret := none) (by decide) rfl ?_
  intro p e s m args below meth c s₁ B hml hv
  obtain ⟨rfl, hsz, hH, hKn⟩ := hv
  have hx := B.exec
  have hb := B.bytes
  have hr := B.returns
  have hts := atoms_spec (ws := wsX4_goOneTick) B.pre
  have hown : s.vm.findClass RX4 = some m.cls := findClass_of_methodNamed B.named
  have hlocks := B.notSynchronized
  subst hsz
  have hA : ∀ q : Nat, s.heap.size ≤ q → wA loc sh s.heap.size q := fun q h => Or.inr h
  have hO : ∀ a, sh a ≠ 0 → wA loc sh s.heap.size (loc a) := fun a h => Or.inl ⟨a, h, rfl⟩
  have hS : va_S (wA loc sh s.heap.size) s.heap s.heap [] := va_S.rf
  obtain ⟨ls, hen, hl⟩ := wEntry m [wR loc 1] 5 (List.forall_mem_cons.mpr ⟨wR_cat _ _, fun _ h => absurd h List.not_mem_nil⟩) (Nat.le_of_ble_eq_true rfl)
  rw [hen]
  clear hen
  have hl : lv_has ls 5 [(0, wR loc 1)] := hl
  have k66 := hts (.fieldLink RX4 66 "CupByCup" "groups" "[LCupByCup$Group;") (List.mem_of_getElem? (i := 1) rfl)
  have iX4 : ∀ w ∈ wsX40, w ∈ wsX4_goOneTick := fun w h => List.mem_cons_of_mem _ (List.mem_append_left _ (List.mem_append_left _ (List.mem_append_left _ (List.mem_append_right _ h))))
  have k45 := hts (.fieldLink RX4 45 "CupByCup" "now" "I") (List.mem_of_getElem? (i := 2) rfl)
  unfold fX4_goOneTick at hf
  refine wald_n hx hb dX4_goOneTick_0 rfl (lv_at hl 0 rfl) ?_
  obtain ⟨iv1, rv2, h3, hf⟩ := wB2_e hf
  refine wcv (va_runV (As := []) (rest := []) ⟨hx, hb, hml, hown, hts⟩ (mtX4_endGrinding l D K loc sh ln iv rv _ ng hB h3) (cwV 0 hts gX4_goOneTick_X4_endGrinding rfl rfl rfl (by decide +kernel) ⟨Nat.le_of_ble_eq_true rfl, Nat.le_of_ble_eq_true rfl⟩) (wPreV hKn hH (hB.1 1 5 (by decide)) (by decide) rfl rfl) rfl rfl hl.1 rfl (lv_room (Nat.le_of_ble_eq_true rfl)) dX4_goOneTick_1 ⟨Nat.zero_le _, Nat.zero_le _⟩) hS hO hA (fun H locs hH hS => ?_)
  refine wald_n hx hb dX4_goOneTick_4 rfl (lv_at hl 0 rfl) ?_
  obtain ⟨iv4, rv5, h6, hf⟩ := wB2_e hf
  refine wcv (va_runV (As := []) (rest := []) ⟨hx, hb, hml, hown, hts⟩ (mtX4_endSteaming l D K loc sh ln iv1 rv2 _ ng hB h6) (cwV 0 hts gX4_goOneTick_X4_endSteaming rfl rfl rfl (by decide +kernel) ⟨Nat.le_of_ble_eq_true rfl, Nat.le_of_ble_eq_true rfl⟩) (wPreV hKn hH (hB.1 1 5 (by decide)) (by decide) rfl rfl) rfl rfl hl.1 rfl (lv_room (Nat.le_of_ble_eq_true rfl)) dX4_goOneTick_5 ⟨Nat.zero_le _, Nat.zero_le _⟩) hS hO hA (fun H locs hH hS => ?_)
  refine wald_n hx hb dX4_goOneTick_8 rfl (lv_at hl 0 rfl) ?_
  refine wg (C := RX4) (T := TX4) (N := 17) (v := wR loc 2) hx hb hts iX4 hown hKn.1 hH (q := 1) (hB.1 1 5 (by decide)) (by decide) rfl rfl 0 (by decide) k66 rfl dX4_goOneTick_9 ?_
  refine wast_n (lv' := [(1, wR loc 2), (0, wR loc 1)]) hx hb dX4_goOneTick_12 rfl hl (by decide) rfl (fun ls hl => ?_)
  refine wald_n hx hb dX4_goOneTick_13 rfl (lv_at hl 0 rfl) ?_
  refine wal (kd := 10) (ki := 3) hx hb hKn.1 hH (hB.1 2 10 (by decide)) (by decide) rfl rfl rfl hB.2.2.1 dX4_goOneTick_14 ?_
  refine lv_istore_n (lv' := [(2, .int (nI ng)), (1, wR loc 2), (0, wR loc 1)]) hx hb dX4_goOneTick_15 rfl hl (by decide) rfl (fun ls hl => ?_)
  refine lv_iconst (v := 0) hx hb dX4_goOneTick_16 (by decide) ?_
  refine lv_istore_n (lv' := [(3, .int 0), (2, .int (nI ng)), (1, wR loc 2), (0, wR loc 1)]) hx hb dX4_goOneTick_17 rfl hl (by decide) rfl (fun ls hl => ?_)
  obtain ⟨iv14, rv15, hL11, hf⟩ := wB2_e hf
  have hk12 : ∀ (H : Heap) (locs : List Loc) (ls : Array Slot), wH D K loc sh ln iv14 rv15 H → va_S (wA loc sh s.heap.size) s.heap H locs → lv_has ls 5 [(0, wR loc 1)] → W p l e (headSpec wsX4_goOneTick ({ frames := 4, cells := 0, slots := 0, locals := 86 })).room s m ([wR loc 1] : List Value).toArray below meth c H locs 0 0 (MQ below (wQv D K loc sh ln iv' rv' s.heap.size) ([wR loc 1] : List Value).toArray s 0 0 (wA loc sh s.heap.size)) (F0 m 40 ls []) := by
    clear hL11 hl hS hH
    intro H locs ls hH hS hl
    refine wald_n hx hb dX4_goOneTick_40 rfl (lv_at hl 0 rfl) ?_
    obtain ⟨iv21, rv22, h23, hf⟩ := wB2_e hf
    refine wcv (va_runV (As := []) (rest := []) ⟨hx, hb, hml, hown, hts⟩ (mtX4_throwAwayOldGrounds l D K loc sh ln iv14 rv15 _ ng hB h23) (cwV 0 hts gX4_goOneTick_X4_throwAwayOldGrounds rfl rfl rfl (by decide +kernel) ⟨Nat.le_of_ble_eq_true rfl, Nat.le_of_ble_eq_true rfl⟩) (wPreV hKn hH (hB.1 1 5 (by decide)) (by decide) rfl rfl) rfl rfl hl.1 rfl (lv_room (Nat.le_of_ble_eq_true rfl)) dX4_goOneTick_41 ⟨Nat.zero_le _, Nat.zero_le _⟩) hS hO hA (fun H locs hH hS => ?_)
    refine wald_n hx hb dX4_goOneTick_44 rfl (lv_at hl 0 rfl) ?_
    obtain ⟨iv24, rv25, h26, hf⟩ := wB2_e hf
    refine wcv (va_runV (As := []) (rest := []) ⟨hx, hb, hml, hown, hts⟩ (mtX4_beginSteam l D K loc sh ln iv21 rv22 _ ng hB h26) (cwV 0 hts gX4_goOneTick_X4_beginSteam rfl rfl rfl (by decide +kernel) ⟨Nat.le_of_ble_eq_true rfl, Nat.le_of_ble_eq_true rfl⟩) (wPreV hKn hH (hB.1 1 5 (by decide)) (by decide) rfl rfl) rfl rfl hl.1 rfl (lv_room (Nat.le_of_ble_eq_true rfl)) dX4_goOneTick_45 ⟨Nat.zero_le _, Nat.zero_le _⟩) hS hO hA (fun H locs hH hS => ?_)
    refine wald_n hx hb dX4_goOneTick_48 rfl (lv_at hl 0 rfl) ?_
    obtain ⟨iv27, h28, hf⟩ := wBd_e hf
    refine wcv (va_runV (As := []) (rest := []) ⟨hx, hb, hml, hown, hts⟩ (mtX4_beginRinses l D K loc sh ln iv24 rv25 _ ng hB h28) (cwV 0 hts gX4_goOneTick_X4_beginRinses rfl rfl rfl (by decide +kernel) ⟨Nat.le_of_ble_eq_true rfl, Nat.le_of_ble_eq_true rfl⟩) (wPreV hKn hH (hB.1 1 5 (by decide)) (by decide) rfl rfl) rfl rfl hl.1 rfl (lv_room (Nat.le_of_ble_eq_true rfl)) dX4_goOneTick_49 ⟨Nat.zero_le _, Nat.zero_le _⟩) hS hO hA (fun H locs hH hS => ?_)
    refine wald_n hx hb dX4_goOneTick_52 rfl (lv_at hl 0 rfl) ?_
    obtain ⟨iv29, rv30, h31, hf⟩ := wB2_e hf
    refine wcv (va_runV (As := []) (rest := []) ⟨hx, hb, hml, hown, hts⟩ (mtX4_beginBrews l D K loc sh ln iv27 rv25 _ ng hB h31) (cwV 0 hts gX4_goOneTick_X4_beginBrews rfl rfl rfl (by decide +kernel) ⟨Nat.le_of_ble_eq_true rfl, Nat.le_of_ble_eq_true rfl⟩) (wPreV hKn hH (hB.1 1 5 (by decide)) (by decide) rfl rfl) rfl rfl hl.1 rfl (lv_room (Nat.le_of_ble_eq_true rfl)) dX4_goOneTick_53 ⟨Nat.zero_le _, Nat.zero_le _⟩) hS hO hA (fun H locs hH hS => ?_)
    refine wald_n hx hb dX4_goOneTick_56 rfl (lv_at hl 0 rfl) ?_
    obtain ⟨iv32, rv33, h34, hf⟩ := wB2_e hf
    refine wcv (va_runV (As := []) (rest := []) ⟨hx, hb, hml, hown, hts⟩ (mtX4_beginGrind l D K loc sh ln iv29 rv30 _ ng hB h34) (cwV 0 hts gX4_goOneTick_X4_beginGrind rfl rfl rfl (by decide +kernel) ⟨Nat.le_of_ble_eq_true rfl, Nat.le_of_ble_eq_true rfl⟩) (wPreV hKn hH (hB.1 1 5 (by decide)) (by decide) rfl rfl) rfl rfl hl.1 rfl (lv_room (Nat.le_of_ble_eq_true rfl)) dX4_goOneTick_57 ⟨Nat.zero_le _, Nat.zero_le _⟩) hS hO hA (fun H locs hH hS => ?_)
    refine wald_n hx hb dX4_goOneTick_60 rfl (lv_at hl 0 rfl) ?_
    obtain ⟨iv35, h36, hf⟩ := wBd_e hf
    refine wcv (va_runV (As := []) (rest := []) ⟨hx, hb, hml, hown, hts⟩ (mtX4_changeHeat l D K loc sh ln iv32 rv33 _ ng hB h36) (cwV 0 hts gX4_goOneTick_X4_changeHeat rfl rfl rfl (by decide +kernel) ⟨Nat.le_of_ble_eq_true rfl, Nat.le_of_ble_eq_true rfl⟩) (wPreV hKn hH (hB.1 1 5 (by decide)) (by decide) rfl rfl) rfl rfl hl.1 rfl (lv_room (Nat.le_of_ble_eq_true rfl)) dX4_goOneTick_61 ⟨Nat.zero_le _, Nat.zero_le _⟩) hS hO hA (fun H locs hH hS => ?_)
    refine wald_n hx hb dX4_goOneTick_64 rfl (lv_at hl 0 rfl) ?_
    refine lv_dup hx hb dX4_goOneTick_65 (wR_cat _ _) ?_
    refine wg (C := RX4) (T := TX4) (N := 17) (v := .int (iv35 1 12)) hx hb hts iX4 hown hKn.1 hH (q := 1) (hB.1 1 5 (by decide)) (by decide) rfl rfl 12 (by decide) k45 rfl dX4_goOneTick_66 ?_
    refine lv_iconst (v := 1) hx hb dX4_goOneTick_69 (by decide) ?_
    refine lv_iadd hx hb dX4_goOneTick_70 ?_
    obtain ⟨iv37, e38, hf⟩ := wLt_e hf
    refine wp (C := RX4) (T := TX4) (N := 17) (v := .int ((iv35 1 12) + 1)) (ty := tyX4 12) (iv' := iv37) (rv' := rv33) hx hb hts iX4 tyX4 tyX4_ok nmX4 hown hKn.1 hH hO hS (q := 1) (hB.1 1 5 (by decide)) (by decide) rfl rfl 12 (by decide) k45 rfl (tyX4_ok 12 (by decide)) rfl rfl (Nat.le_of_ble_eq_true rfl) (by rw [e38, wU_self]; rfl) (fun a ha => by rw [e38]; exact wU_ne a ha) (fun _ _ => rfl) dX4_goOneTick_71 (fun H locs hH hS => ?_)
    cases hf
    exact W.vret hx hb hr (fun t ht hW => ⟨⟨(), rfl, trivial, by show wH _ _ _ _ _ _ _ t.heap; rw [ht]; exact hH⟩, hS.F ht⟩) hS.2.2 dX4_goOneTick_74
  have lp13 : ∀ (n7 : Nat) (iv8 : wI) (rv9 : wJ) (x10 : Int32) (H : Heap) (locs : List Loc) (ls : Array Slot), fX4_goOneTick_18 ng sh n7 iv8 rv9 (nI ng) x10 = some (iv14, rv15) → wH D K loc sh ln iv8 rv9 H → va_S (wA loc sh s.heap.size) s.heap H locs → lv_has ls 5 [(0, wR loc 1), (1, wR loc 2), (2, .int (nI ng)), (3, .int x10)] → W p l e (headSpec wsX4_goOneTick ({ frames := 4, cells := 0, slots := 0, locals := 86 })).room s m ([wR loc 1] : List Value).toArray below meth c H locs 0 0 (MQ below (wQv D K loc sh ln iv' rv' s.heap.size) ([wR loc 1] : List Value).toArray s 0 0 (wA loc sh s.heap.size)) (F0 m 18 ls []) := by
    clear hf hl hS hH hL11
    intro n7
    induction n7 with
    | zero => intro iv8 rv9 x10 H locs ls hf; cases hf
    | succ n7 ih =>
      intro iv8 rv9 x10 H locs ls hf hH hS hl
      rw [fX4_goOneTick_18.eq_2] at hf
      refine lv_iload_n hx hb dX4_goOneTick_18 rfl (lv_at hl 3 rfl) ?_
      refine lv_iload_n hx hb dX4_goOneTick_19 rfl (lv_at hl 2 rfl) ?_
      refine lv_icmp_ge (tgt := 40) hx hb dX4_goOneTick_20 (by decide) (fun c16 => ?_) (fun c16 => ?_)
      · have hf := wIt c16 hf
        cases hf
        exact hk12 _ _ _ hH hS (lv_sub hl [0] rfl)
      · have hf := wIf c16 hf
        refine wald_n hx hb dX4_goOneTick_23 rfl (lv_at hl 1 rfl) ?_
        refine lv_iload_n hx hb dX4_goOneTick_24 rfl (lv_at hl 3 rfl) ?_
        obtain ⟨g17, hf⟩ := wGd_e hf
        refine waa (kd := 10) (ki := 3) hx hb hKn.1 hH (hB.1 2 10 (by decide)) (by decide) rfl rfl hB.2.2.1 g17 dX4_goOneTick_25 ?_
        refine wast (lv' := [(4, wR loc (rv9 2 x10.toNatClampNeg)), (0, wR loc 1), (1, wR loc 2), (2, .int (nI ng)), (3, .int x10)]) hx hb dX4_goOneTick_26 hl (by decide) rfl (fun ls hl => ?_)
        refine wald_n hx hb dX4_goOneTick_28 rfl (lv_at hl 1 rfl) ?_
        refine wald hx hb dX4_goOneTick_29 (lv_at hl 0 rfl) ?_
        obtain ⟨iv18, rv19, h20, hf⟩ := wB2_e hf
        refine wcv (va_runV (As := [wR loc (rv9 2 x10.toNatClampNeg)]) (rest := []) ⟨hx, hb, hml, hown, hts⟩ (mtX4_passTickOf l D K loc sh ln iv8 rv9 _ ng (rv9 2 x10.toNatClampNeg) hB h20) (cwV 1 hts gX4_goOneTick_X4_passTickOf rfl rfl rfl (by decide +kernel) ⟨Nat.le_of_ble_eq_true rfl, Nat.le_of_ble_eq_true rfl⟩) (wPreV hKn hH (hB.1 1 5 (by decide)) (by decide) rfl rfl) rfl rfl hl.1 rfl (lv_room (Nat.le_of_ble_eq_true rfl)) dX4_goOneTick_31 ⟨Nat.zero_le _, Nat.zero_le _⟩) hS hO hA (fun H locs hH hS => ?_)
        refine lv_iinc (v := (x10 + 1)) (lv' := [(3, .int (x10 + 1)), (4, wR loc (rv9 2 x10.toNatClampNeg)), (0, wR loc 1), (1, wR loc 2), (2, .int (nI ng))]) hx hb dX4_goOneTick_34 hl (k := 4) rfl rfl (by decide) rfl (fun ls hl => ?_)
        refine lv_goto (tgt := 18) hx hb dX4_goOneTick_37 (by decide) ?_
        exact ih _ _ _ _ _ _ hf hH hS (lv_sub hl [2, 3, 4, 0] rfl)
  exact lp13 wN _ _ _ _ _ _ hL11 hH hS (lv_sub hl [3, 2, 1, 0] rfl)
noncomputable def fX4_go_15 (ng : Nat) (sh : Nat → Nat) : Nat → wI → wJ → Int32 → Int32 → Option (wI × wJ)
  | 0, _, _, _, _ => none
  | n + 1, iv, rv, x1, x2 => if x1 ≤ x2 then some (iv, rv) else if 20000 ≤ (iv 1 12) then some (iv, rv) else wB2 (fX4_goOneTick ng sh iv rv) (fun (iv5 : wI) (rv6 : wJ) => fX4_go_15 ng sh n iv5 rv6 x1 (x2 + 1))
noncomputable def fX4_go (ng : Nat) (sh : Nat → Nat) (iv : wI) (rv : wJ) (a1 : Int32) : Option (wI × wJ × Int32) := if a1 < 0 then some (iv, rv, ((-1) : Int32)) else if a1 ≤ 500 then wB2 (fX4_go_15 ng sh wN iv rv a1 0) (fun (iv10 : wI) (rv11 : wJ) => some (iv10, rv11, (iv10 1 12))) else some (iv, rv, ((-1) : Int32))
set_option maxHeartbeats 4000000 in
set_option maxRecDepth 100000 in
theorem mtX4_go (l : Launch) (D : va_G) (K : Nat → ClassId) (loc sh ln : Nat → Nat) (iv : wI) (rv : wJ) (sz : Nat) (ng : Nat) (a1 : Int32) {iv' : wI} {rv' : wJ} {r' : Int32} (hB : wBx ng sh ln) (hf : fX4_go ng sh iv rv a1 = some (iv', rv', r')) : Met l yX4_go wsX4_go ({ frames := 5, cells := 0, slots := 0, locals := 110 }) (wPc D K loc sh ln iv rv sz [wR loc 1, .int a1]) (wQi D K loc sh ln iv' rv' sz r') 0 0 (wA loc sh sz) := by
  refine Met.ofW (cc := cX4_go) (maxL := 3) (ret := (some .int)) (by decide) rfl ?_
  intro p e s m args below meth c s₁ B hml hv
  obtain ⟨rfl, hsz, hH, hKn⟩ := hv
  have hx := B.exec
  have hb := B.bytes
  have hr := B.returns
  have hts := atoms_spec (ws := wsX4_go) B.pre
  have hown : s.vm.findClass RX4 = some m.cls := findClass_of_methodNamed B.named
  have hlocks := B.notSynchronized
  subst hsz
  have hA : ∀ q : Nat, s.heap.size ≤ q → wA loc sh s.heap.size q := fun q h => Or.inr h
  have hO : ∀ a, sh a ≠ 0 → wA loc sh s.heap.size (loc a) := fun a h => Or.inl ⟨a, h, rfl⟩
  have hS : va_S (wA loc sh s.heap.size) s.heap s.heap [] := va_S.rf
  obtain ⟨ls, hen, hl⟩ := wEntry m [wR loc 1, .int a1] 3 (List.forall_mem_cons.mpr ⟨wR_cat _ _, List.forall_mem_cons.mpr ⟨rfl, fun _ h => absurd h List.not_mem_nil⟩⟩) (Nat.le_of_ble_eq_true rfl)
  rw [hen]
  clear hen
  have hl : lv_has ls 3 [(0, wR loc 1), (1, .int a1)] := hl
  have k45 := hts (.fieldLink RX4 45 "CupByCup" "now" "I") (List.mem_of_getElem? (i := 1) rfl)
  have iX4 : ∀ w ∈ wsX40, w ∈ wsX4_go := fun w h => List.mem_cons_of_mem _ (List.mem_append_left _ (List.mem_append_left _ (List.mem_append_left _ (List.mem_append_right _ h))))
  unfold fX4_go at hf
  refine lv_iload_n hx hb dX4_go_0 rfl (lv_at hl 1 rfl) ?_
  refine lv_if_lt (tgt := 11) hx hb dX4_go_1 (by decide) (fun c1 => ?_) (fun c1 => ?_)
  · have hf := wIt c1 hf
    refine lv_iconst (v := (-1)) hx hb dX4_go_11 (by decide) ?_
    cases hf
    exact W.iret hx hb hr (fun t ht hW => ⟨⟨_, (), rfl, rfl, by show wH _ _ _ _ _ _ _ t.heap; rw [ht]; exact hH⟩, hS.F ht⟩) hS.2.2 dX4_go_12
  · have hf := wIf c1 hf
    refine lv_iload_n hx hb dX4_go_4 rfl (lv_at hl 1 rfl) ?_
    refine lv_sipush (v := 500) hx hb dX4_go_5 (by decide) ?_
    refine lv_icmp_le (tgt := 13) hx hb dX4_go_8 (by decide) (fun c2 => ?_) (fun c2 => ?_)
    · have hf := wIt c2 hf
      refine lv_iconst (v := 0) hx hb dX4_go_13 (by decide) ?_
      refine lv_istore_n (lv' := [(2, .int 0), (0, wR loc 1), (1, .int a1)]) hx hb dX4_go_14 rfl hl (by decide) rfl (fun ls hl => ?_)
      obtain ⟨iv10, rv11, hL7, hf⟩ := wB2_e hf
      have hk8 : ∀ (H : Heap) (locs : List Loc) (ls : Array Slot), wH D K loc sh ln iv10 rv11 H → va_S (wA loc sh s.heap.size) s.heap H locs → lv_has ls 3 [(0, wR loc 1)] → W p l e (headSpec wsX4_go ({ frames := 5, cells := 0, slots := 0, locals := 110 })).room s m ([wR loc 1, .int a1] : List Value).toArray below meth c H locs 0 0 (MQ below (wQi D K loc sh ln iv' rv' s.heap.size r') ([wR loc 1, .int a1] : List Value).toArray s 0 0 (wA loc sh s.heap.size)) (F0 m 40 ls []) := by
        clear hL7 hl hS hH
        intro H locs ls hH hS hl
        refine wald_n hx hb dX4_go_40 rfl (lv_at hl 0 rfl) ?_
        refine wg (C := RX4) (T := TX4) (N := 17) (v := .int (iv10 1 12)) hx hb hts iX4 hown hKn.1 hH (q := 1) (hB.1 1 5 (by decide)) (by decide) rfl rfl 12 (by decide) k45 rfl dX4_go_41 ?_
        cases hf
        exact W.iret hx hb hr (fun t ht hW => ⟨⟨_, (), rfl, rfl, by show wH _ _ _ _ _ _ _ t.heap; rw [ht]; exact hH⟩, hS.F ht⟩) hS.2.2 dX4_go_44
      have lp9 : ∀ (n3 : Nat) (iv4 : wI) (rv5 : wJ) (x6 : Int32) (H : Heap) (locs : List Loc) (ls : Array Slot), fX4_go_15 ng sh n3 iv4 rv5 a1 x6 = some (iv10, rv11) → wH D K loc sh ln iv4 rv5 H → va_S (wA loc sh s.heap.size) s.heap H locs → lv_has ls 3 [(0, wR loc 1), (1, .int a1), (2, .int x6)] → W p l e (headSpec wsX4_go ({ frames := 5, cells := 0, slots := 0, locals := 110 })).room s m ([wR loc 1, .int a1] : List Value).toArray below meth c H locs 0 0 (MQ below (wQi D K loc sh ln iv' rv' s.heap.size r') ([wR loc 1, .int a1] : List Value).toArray s 0 0 (wA loc sh s.heap.size)) (F0 m 15 ls []) := by
        clear hf hl hS hH hL7
        intro n3
        induction n3 with
        | zero => intro iv4 rv5 x6 H locs ls hf; cases hf
        | succ n3 ih =>
          intro iv4 rv5 x6 H locs ls hf hH hS hl
          rw [fX4_go_15.eq_2] at hf
          refine lv_iload_n hx hb dX4_go_15 rfl (lv_at hl 2 rfl) ?_
          refine lv_iload_n hx hb dX4_go_16 rfl (lv_at hl 1 rfl) ?_
          refine lv_icmp_ge (tgt := 40) hx hb dX4_go_17 (by decide) (fun c12 => ?_) (fun c12 => ?_)
          · have hf := wIt c12 hf
            cases hf
            exact hk8 _ _ _ hH hS (lv_sub hl [0] rfl)
          · have hf := wIf c12 hf
            refine wald_n hx hb dX4_go_20 rfl (lv_at hl 0 rfl) ?_
            refine wg (C := RX4) (T := TX4) (N := 17) (v := .int (iv4 1 12)) hx hb hts iX4 hown hKn.1 hH (q := 1) (hB.1 1 5 (by decide)) (by decide) rfl rfl 12 (by decide) k45 rfl dX4_go_21 ?_
            refine lv_sipush (v := 20000) hx hb dX4_go_24 (by decide) ?_
            refine lv_icmp_ge (tgt := 40) hx hb dX4_go_27 (by decide) (fun c13 => ?_) (fun c13 => ?_)
            · have hf := wIt c13 hf
              cases hf
              exact hk8 _ _ _ hH hS (lv_sub hl [0] rfl)
            · have hf := wIf c13 hf
              refine wald_n hx hb dX4_go_30 rfl (lv_at hl 0 rfl) ?_
              obtain ⟨iv14, rv15, h16, hf⟩ := wB2_e hf
              refine wcv (va_runV (As := []) (rest := []) ⟨hx, hb, hml, hown, hts⟩ (mtX4_goOneTick l D K loc sh ln iv4 rv5 _ ng hB h16) (cwV 0 hts gX4_go_X4_goOneTick rfl rfl rfl (by decide +kernel) ⟨Nat.le_of_ble_eq_true rfl, Nat.le_of_ble_eq_true rfl⟩) (wPreV hKn hH (hB.1 1 5 (by decide)) (by decide) rfl rfl) rfl rfl hl.1 rfl (lv_room (Nat.le_of_ble_eq_true rfl)) dX4_go_31 ⟨Nat.zero_le _, Nat.zero_le _⟩) hS hO hA (fun H locs hH hS => ?_)
              refine lv_iinc (v := (x6 + 1)) (lv' := [(2, .int (x6 + 1)), (0, wR loc 1), (1, .int a1)]) hx hb dX4_go_34 hl (k := 2) rfl rfl (by decide) rfl (fun ls hl => ?_)
              refine lv_goto (tgt := 15) hx hb dX4_go_37 (by decide) ?_
              exact ih _ _ _ _ _ _ hf hH hS (lv_sub hl [1, 2, 0] rfl)
      exact lp9 wN _ _ _ _ _ _ hL7 hH hS (lv_sub hl [1, 2, 0] rfl)
    · have hf := wIf c2 hf
      refine lv_iconst (v := (-1)) hx hb dX4_go_11 (by decide) ?_
      cases hf
      exact W.iret hx hb hr (fun t ht hW => ⟨⟨_, (), rfl, rfl, by show wH _ _ _ _ _ _ _ t.heap; rw [ht]; exact hH⟩, hS.F ht⟩) hS.2.2 dX4_go_12
noncomputable def fX4_fault (ng : Nat) (sh : Nat → Nat) (iv : wI) (rv : wJ) (a1 : Int32) (a2 : Int32) : Option (wI × wJ × Int32) := wBd (fX4_isAmong a1 (nI ng)) (fun (r1 : Int32) => if r1 = 0 then some (iv, rv, (0 : Int32)) else if a2 < 1 then some (iv, rv, (0 : Int32)) else if a2 ≤ 200 then wGd (vp_in a1 ng) (wGd (sh (rv 2 a1.toNatClampNeg) = 2) (if (rv (rv 2 a1.toNatClampNeg) 5) = 0 then wB2 (fX1_becomeFree ng sh iv rv (rv 2 a1.toNatClampNeg)) (fun (iv9 : wI) (rv10 : wJ) => wLt (wU iv9 (rv 2 a1.toNatClampNeg) 4 a2) (fun (iv12 : wI) => some (iv12, rv10, (1 : Int32)))) else wB2 (fX4_waitAgain ng sh iv rv (rv (rv 2 a1.toNatClampNeg) 5)) (fun (iv14 : wI) (rv15 : wJ) => wB2 (fX1_becomeFree ng sh iv14 rv15 (rv 2 a1.toNatClampNeg)) (fun (iv17 : wI) (rv18 : wJ) => wLt (wU iv17 (rv 2 a1.toNatClampNeg) 4 a2) (fun (iv20 : wI) => some (iv20, rv18, (1 : Int32))))))) else some (iv, rv, (0 : Int32)))
set_option maxHeartbeats 4000000 in
set_option maxRecDepth 100000 in
theorem mtX4_fault (l : Launch) (D : va_G) (K : Nat → ClassId) (loc sh ln : Nat → Nat) (iv : wI) (rv : wJ) (sz : Nat) (ng : Nat) (a1 : Int32) (a2 : Int32) {iv' : wI} {rv' : wJ} {r' : Int32} (hB : wBx ng sh ln) (hf : fX4_fault ng sh iv rv a1 a2 = some (iv', rv', r')) : Met l yX4_fault wsX4_fault ({ frames := 2, cells := 0, slots := 0, locals := 43 }) (wPc D K loc sh ln iv rv sz [wR loc 1, .int a1, .int a2]) (wQi D K loc sh ln iv' rv' sz r') 0 0 (wA loc sh sz) := by
  refine Met.ofW (cc := cX4_fault) (maxL := 4) (ret := (some .boolean)) (by decide) rfl ?_
  intro p e s m args below meth c s₁ B hml hv
  obtain ⟨rfl, hsz, hH, hKn⟩ := hv
  have hx := B.exec
  have hb := B.bytes
  have hr := B.returns
  have hts := atoms_spec (ws := wsX4_fault) B.pre
  have hown : s.vm.findClass RX4 = some m.cls := findClass_of_methodNamed B.named
  have hlocks := B.notSynchronized
  subst hsz
  have hA : ∀ q : Nat, s.heap.size ≤ q → wA loc sh s.heap.size q := fun q h => Or.inr h
  have hO : ∀ a, sh a ≠ 0 → wA loc sh s.heap.size (loc a) := fun a h => Or.inl ⟨a, h, rfl⟩
  have hS : va_S (wA loc sh s.heap.size) s.heap s.heap [] := va_S.rf
  obtain ⟨ls, hen, hl⟩ := wEntry m [wR loc 1, .int a1, .int a2] 4 (List.forall_mem_cons.mpr ⟨wR_cat _ _, List.forall_mem_cons.mpr ⟨rfl, List.forall_mem_cons.mpr ⟨rfl, fun _ h => absurd h List.not_mem_nil⟩⟩⟩) (Nat.le_of_ble_eq_true rfl)
  rw [hen]
  clear hen
  have hl : lv_has ls 4 [(0, wR loc 1), (1, .int a1), (2, .int a2)] := hl
  have k66 := hts (.fieldLink RX4 66 "CupByCup" "groups" "[LCupByCup$Group;") (List.mem_of_getElem? (i := 1) rfl)
  have iX4 : ∀ w ∈ wsX40, w ∈ wsX4_fault := fun w h => List.mem_cons_of_mem _ (List.mem_append_left _ (List.mem_append_left _ (List.mem_append_left _ (List.mem_append_right _ h))))
  have k112 := hts (.fieldLink RX4 112 "CupByCup$Group" "brewing" "LCupByCup$Cup;") (List.mem_of_getElem? (i := 2) rfl)
  have iX1 : ∀ w ∈ wsX10, w ∈ wsX4_fault := fun w h => List.mem_cons_of_mem _ (List.mem_append_left _ (List.mem_append_left _ (List.mem_append_right _ h)))
  have k122 := hts (.fieldLink RX4 122 "CupByCup$Group" "faultLeft" "I") (List.mem_of_getElem? (i := 3) rfl)
  unfold fX4_fault at hf
  refine lv_iload_n hx hb dX4_fault_0 rfl (lv_at hl 1 rfl) ?_
  refine wald_n hx hb dX4_fault_1 rfl (lv_at hl 0 rfl) ?_
  refine wg (C := RX4) (T := TX4) (N := 17) (v := wR loc 2) hx hb hts iX4 hown hKn.1 hH (q := 1) (hB.1 1 5 (by decide)) (by decide) rfl rfl 0 (by decide) k66 rfl dX4_fault_2 ?_
  refine wal (kd := 10) (ki := 3) hx hb hKn.1 hH (hB.1 2 10 (by decide)) (by decide) rfl rfl rfl hB.2.2.1 dX4_fault_5 ?_
  obtain ⟨r1, h2, hf⟩ := wBd_e hf
  refine wci (va_runS (As := [.int a1, .int (nI ng)]) (rest := []) ⟨hx, hb, hml, hown, hts⟩ (mtX4_isAmong l D K loc sh ln iv rv _ ng a1 (nI ng) h2) (va_cwS 2 hts gX4_fault_X4_isAmong rfl rfl rfl (by decide +kernel) ⟨Nat.le_of_ble_eq_true rfl, Nat.le_of_ble_eq_true rfl⟩) (wPreS hKn hH) rfl rfl hl.1 rfl (lv_room (Nat.le_of_ble_eq_true rfl)) dX4_fault_6 ⟨Nat.zero_le _, Nat.zero_le _⟩) hS hO hA (fun H locs hH hS => ?_)
  refine lv_if_eq (tgt := 24) hx hb dX4_fault_9 (by decide) (fun c3 => ?_) (fun c3 => ?_)
  · have hf := wIt c3 hf
    refine lv_iconst (v := 0) hx hb dX4_fault_24 (by decide) ?_
    cases hf
    exact W.zret hx hb hr rfl (fun t ht hW => ⟨⟨_, (), rfl, rfl, by show wH _ _ _ _ _ _ _ t.heap; rw [ht]; exact hH⟩, hS.F ht⟩) hS.2.2 dX4_fault_25
  · have hf := wIf c3 hf
    refine lv_iload_n hx hb dX4_fault_12 rfl (lv_at hl 2 rfl) ?_
    refine lv_iconst (v := 1) hx hb dX4_fault_13 (by decide) ?_
    refine lv_icmp_lt (tgt := 24) hx hb dX4_fault_14 (by decide) (fun c4 => ?_) (fun c4 => ?_)
    · have hf := wIt c4 hf
      refine lv_iconst (v := 0) hx hb dX4_fault_24 (by decide) ?_
      cases hf
      exact W.zret hx hb hr rfl (fun t ht hW => ⟨⟨_, (), rfl, rfl, by show wH _ _ _ _ _ _ _ t.heap; rw [ht]; exact hH⟩, hS.F ht⟩) hS.2.2 dX4_fault_25
    · have hf := wIf c4 hf
      refine lv_iload_n hx hb dX4_fault_17 rfl (lv_at hl 2 rfl) ?_
      refine lv_sipush (v := 200) hx hb dX4_fault_18 (by decide) ?_
      refine lv_icmp_le (tgt := 26) hx hb dX4_fault_21 (by decide) (fun c5 => ?_) (fun c5 => ?_)
      · have hf := wIt c5 hf
        refine wald_n hx hb dX4_fault_26 rfl (lv_at hl 0 rfl) ?_
        refine wg (C := RX4) (T := TX4) (N := 17) (v := wR loc 2) hx hb hts iX4 hown hKn.1 hH (q := 1) (hB.1 1 5 (by decide)) (by decide) rfl rfl 0 (by decide) k66 rfl dX4_fault_27 ?_
        refine lv_iload_n hx hb dX4_fault_30 rfl (lv_at hl 1 rfl) ?_
        obtain ⟨g6, hf⟩ := wGd_e hf
        refine waa (kd := 10) (ki := 3) hx hb hKn.1 hH (hB.1 2 10 (by decide)) (by decide) rfl rfl hB.2.2.1 g6 dX4_fault_31 ?_
        refine wast_n (lv' := [(3, wR loc (rv 2 a1.toNatClampNeg)), (0, wR loc 1), (1, .int a1), (2, .int a2)]) hx hb dX4_fault_32 rfl hl (by decide) rfl (fun ls hl => ?_)
        refine wald_n hx hb dX4_fault_33 rfl (lv_at hl 0 rfl) ?_
        obtain ⟨g7, hf⟩ := wGd_e hf
        refine wg (C := RX1) (T := TX1) (N := 6) (v := wR loc (rv (rv 2 a1.toNatClampNeg) 5)) hx hb hts iX1 hown hKn.1 hH (q := (rv 2 a1.toNatClampNeg)) g7 (by decide) rfl rfl 5 (by decide) k112 rfl dX4_fault_34 ?_
        refine wifnull (tgt := 48) hx hb dX4_fault_37 (by decide) (fun c8 => ?_) (fun c8 => ?_)
        · have hf := wIt c8 hf
          refine wald_n hx hb dX4_fault_48 rfl (lv_at hl 0 rfl) ?_
          obtain ⟨iv9, rv10, h11, hf⟩ := wB2_e hf
          refine W.eq (g2 := F0 m 49 ls ([] ++ .ref (loc (rv 2 a1.toNatClampNeg)) :: [])) (by rw [wR_ref (hH.nz g7 (by decide))]; rfl) ?_
          refine wcv (va_runV (As := []) (rest := []) ⟨hx, hb, hml, hown, hts⟩ (mtX1_becomeFree l D K loc sh ln iv rv _ ng (rv 2 a1.toNatClampNeg) g7 h11) (cwV 0 hts gX4_fault_X1_becomeFree rfl rfl rfl (by decide +kernel) ⟨Nat.le_of_ble_eq_true rfl, Nat.le_of_ble_eq_true rfl⟩) (wPreV hKn hH g7 (by decide) rfl rfl) rfl rfl hl.1 rfl (lv_room (Nat.le_of_ble_eq_true rfl)) dX4_fault_49 ⟨Nat.zero_le _, Nat.zero_le _⟩) hS hO hA (fun H locs hH hS => ?_)
          refine wald_n hx hb dX4_fault_52 rfl (lv_at hl 0 rfl) ?_
          refine lv_iload_n hx hb dX4_fault_53 rfl (lv_at hl 3 rfl) ?_
          obtain ⟨iv12, e13, hf⟩ := wLt_e hf
          refine wp (C := RX1) (T := TX1) (N := 6) (v := .int a2) (ty := tyX1 4) (iv' := iv12) (rv' := rv10) hx hb hts iX1 tyX1 tyX1_ok nmX1 hown hKn.1 hH hO hS (q := (rv 2 a1.toNatClampNeg)) g7 (by decide) rfl rfl 4 (by decide) k122 rfl (tyX1_ok 4 (by decide)) rfl rfl (Nat.le_of_ble_eq_true rfl) (by rw [e13, wU_self]; rfl) (fun a ha => by rw [e13]; exact wU_ne a ha) (fun _ _ => rfl) dX4_fault_54 (fun H locs hH hS => ?_)
          refine lv_iconst (v := 1) hx hb dX4_fault_57 (by decide) ?_
          cases hf
          exact W.zret hx hb hr rfl (fun t ht hW => ⟨⟨_, (), rfl, rfl, by show wH _ _ _ _ _ _ _ t.heap; rw [ht]; exact hH⟩, hS.F ht⟩) hS.2.2 dX4_fault_58
        · have hf := wIf c8 hf
          refine wald_n hx hb dX4_fault_40 rfl (lv_at hl 1 rfl) ?_
          refine wald_n hx hb dX4_fault_41 rfl (lv_at hl 0 rfl) ?_
          refine wg (C := RX1) (T := TX1) (N := 6) (v := wR loc (rv (rv 2 a1.toNatClampNeg) 5)) hx hb hts iX1 hown hKn.1 hH (q := (rv 2 a1.toNatClampNeg)) g7 (by decide) rfl rfl 5 (by decide) k112 rfl dX4_fault_42 ?_
          obtain ⟨iv14, rv15, h16, hf⟩ := wB2_e hf
          refine wcv (va_runV (As := [wR loc (rv (rv 2 a1.toNatClampNeg) 5)]) (rest := []) ⟨hx, hb, hml, hown, hts⟩ (mtX4_waitAgain l D K loc sh ln iv rv _ ng (rv (rv 2 a1.toNatClampNeg) 5) hB h16) (cwV 1 hts gX4_fault_X4_waitAgain rfl rfl rfl (by decide +kernel) ⟨Nat.le_of_ble_eq_true rfl, Nat.le_of_ble_eq_true rfl⟩) (wPreV hKn hH (hB.1 1 5 (by decide)) (by decide) rfl rfl) rfl rfl hl.1 rfl (lv_room (Nat.le_of_ble_eq_true rfl)) dX4_fault_45 ⟨Nat.zero_le _, Nat.zero_le _⟩) hS hO hA (fun H locs hH hS => ?_)
          refine wald_n hx hb dX4_fault_48 rfl (lv_at hl 0 rfl) ?_
          obtain ⟨iv17, rv18, h19, hf⟩ := wB2_e hf
          refine W.eq (g2 := F0 m 49 ls ([] ++ .ref (loc (rv 2 a1.toNatClampNeg)) :: [])) (by rw [wR_ref (hH.nz g7 (by decide))]; rfl) ?_
          refine wcv (va_runV (As := []) (rest := []) ⟨hx, hb, hml, hown, hts⟩ (mtX1_becomeFree l D K loc sh ln iv14 rv15 _ ng (rv 2 a1.toNatClampNeg) g7 h19) (cwV 0 hts gX4_fault_X1_becomeFree rfl rfl rfl (by decide +kernel) ⟨Nat.le_of_ble_eq_true rfl, Nat.le_of_ble_eq_true rfl⟩) (wPreV hKn hH g7 (by decide) rfl rfl) rfl rfl hl.1 rfl (lv_room (Nat.le_of_ble_eq_true rfl)) dX4_fault_49 ⟨Nat.zero_le _, Nat.zero_le _⟩) hS hO hA (fun H locs hH hS => ?_)
          refine wald_n hx hb dX4_fault_52 rfl (lv_at hl 0 rfl) ?_
          refine lv_iload_n hx hb dX4_fault_53 rfl (lv_at hl 3 rfl) ?_
          obtain ⟨iv20, e21, hf⟩ := wLt_e hf
          refine wp (C := RX1) (T := TX1) (N := 6) (v := .int a2) (ty := tyX1 4) (iv' := iv20) (rv' := rv18) hx hb hts iX1 tyX1 tyX1_ok nmX1 hown hKn.1 hH hO hS (q := (rv 2 a1.toNatClampNeg)) g7 (by decide) rfl rfl 4 (by decide) k122 rfl (tyX1_ok 4 (by decide)) rfl rfl (Nat.le_of_ble_eq_true rfl) (by rw [e21, wU_self]; rfl) (fun a ha => by rw [e21]; exact wU_ne a ha) (fun _ _ => rfl) dX4_fault_54 (fun H locs hH hS => ?_)
          refine lv_iconst (v := 1) hx hb dX4_fault_57 (by decide) ?_
          cases hf
          exact W.zret hx hb hr rfl (fun t ht hW => ⟨⟨_, (), rfl, rfl, by show wH _ _ _ _ _ _ _ t.heap; rw [ht]; exact hH⟩, hS.F ht⟩) hS.2.2 dX4_fault_58
      · have hf := wIf c5 hf
        refine lv_iconst (v := 0) hx hb dX4_fault_24 (by decide) ?_
        cases hf
        exact W.zret hx hb hr rfl (fun t ht hW => ⟨⟨_, (), rfl, rfl, by show wH _ _ _ _ _ _ _ t.heap; rw [ht]; exact hH⟩, hS.F ht⟩) hS.2.2 dX4_fault_25
noncomputable def fX4_limit (ng : Nat) (sh : Nat → Nat) (iv : wI) (rv : wJ) (a1 : Int32) : Option (wI × Int32) := if a1 < 6 then some (iv, (0 : Int32)) else if a1 ≤ 30 then wLt (wU iv 1 10 a1) (fun (iv3 : wI) => some (iv3, (1 : Int32))) else some (iv, (0 : Int32))
set_option maxHeartbeats 4000000 in
set_option maxRecDepth 100000 in
theorem mtX4_limit (l : Launch) (D : va_G) (K : Nat → ClassId) (loc sh ln : Nat → Nat) (iv : wI) (rv : wJ) (sz : Nat) (ng : Nat) (a1 : Int32) {iv' : wI} {r' : Int32} (hB : wBx ng sh ln) (hf : fX4_limit ng sh iv rv a1 = some (iv', r')) : Met l yX4_limit wsX4_limit ({ frames := 0, cells := 0, slots := 0, locals := 0 }) (wPc D K loc sh ln iv rv sz [wR loc 1, .int a1]) (wQi D K loc sh ln iv' rv sz r') 0 0 (wA loc sh sz) := by
  refine Met.ofW (cc := cX4_limit) (maxL := 2) (ret := (some .boolean)) (by decide) rfl ?_
  intro p e s m args below meth c s₁ B hml hv
  obtain ⟨rfl, hsz, hH, hKn⟩ := hv
  have hx := B.exec
  have hb := B.bytes
  have hr := B.returns
  have hts := atoms_spec (ws := wsX4_limit) B.pre
  have hown : s.vm.findClass RX4 = some m.cls := findClass_of_methodNamed B.named
  have hlocks := B.notSynchronized
  subst hsz
  have hA : ∀ q : Nat, s.heap.size ≤ q → wA loc sh s.heap.size q := fun q h => Or.inr h
  have hO : ∀ a, sh a ≠ 0 → wA loc sh s.heap.size (loc a) := fun a h => Or.inl ⟨a, h, rfl⟩
  have hS : va_S (wA loc sh s.heap.size) s.heap s.heap [] := va_S.rf
  obtain ⟨ls, hen, hl⟩ := wEntry m [wR loc 1, .int a1] 2 (List.forall_mem_cons.mpr ⟨wR_cat _ _, List.forall_mem_cons.mpr ⟨rfl, fun _ h => absurd h List.not_mem_nil⟩⟩) (Nat.le_of_ble_eq_true rfl)
  rw [hen]
  clear hen
  have hl : lv_has ls 2 [(0, wR loc 1), (1, .int a1)] := hl
  have k80 := hts (.fieldLink RX4 80 "CupByCup" "powerLimit" "I") (List.mem_of_getElem? (i := 1) rfl)
  have iX4 : ∀ w ∈ wsX40, w ∈ wsX4_limit := fun w h => List.mem_cons_of_mem _ (List.mem_append_right _ h)
  unfold fX4_limit at hf
  refine lv_iload_n hx hb dX4_limit_0 rfl (lv_at hl 1 rfl) ?_
  refine lv_bipush (v := 6) hx hb dX4_limit_1 (by decide) ?_
  refine lv_icmp_lt (tgt := 12) hx hb dX4_limit_3 (by decide) (fun c1 => ?_) (fun c1 => ?_)
  · have hf := wIt c1 hf
    refine lv_iconst (v := 0) hx hb dX4_limit_12 (by decide) ?_
    cases hf
    exact W.zret hx hb hr rfl (fun t ht hW => ⟨⟨_, (), rfl, rfl, by show wH _ _ _ _ _ _ _ t.heap; rw [ht]; exact hH⟩, hS.F ht⟩) hS.2.2 dX4_limit_13
  · have hf := wIf c1 hf
    refine lv_iload_n hx hb dX4_limit_6 rfl (lv_at hl 1 rfl) ?_
    refine lv_bipush (v := 30) hx hb dX4_limit_7 (by decide) ?_
    refine lv_icmp_le (tgt := 14) hx hb dX4_limit_9 (by decide) (fun c2 => ?_) (fun c2 => ?_)
    · have hf := wIt c2 hf
      refine wald_n hx hb dX4_limit_14 rfl (lv_at hl 0 rfl) ?_
      refine lv_iload_n hx hb dX4_limit_15 rfl (lv_at hl 1 rfl) ?_
      obtain ⟨iv3, e4, hf⟩ := wLt_e hf
      refine wp (C := RX4) (T := TX4) (N := 17) (v := .int a1) (ty := tyX4 10) (iv' := iv3) (rv' := rv) hx hb hts iX4 tyX4 tyX4_ok nmX4 hown hKn.1 hH hO hS (q := 1) (hB.1 1 5 (by decide)) (by decide) rfl rfl 10 (by decide) k80 rfl (tyX4_ok 10 (by decide)) rfl rfl (Nat.le_of_ble_eq_true rfl) (by rw [e4, wU_self]; rfl) (fun a ha => by rw [e4]; exact wU_ne a ha) (fun _ _ => rfl) dX4_limit_16 (fun H locs hH hS => ?_)
      refine lv_iconst (v := 1) hx hb dX4_limit_19 (by decide) ?_
      cases hf
      exact W.zret hx hb hr rfl (fun t ht hW => ⟨⟨_, (), rfl, rfl, by show wH _ _ _ _ _ _ _ t.heap; rw [ht]; exact hH⟩, hS.F ht⟩) hS.2.2 dX4_limit_20
    · have hf := wIf c2 hf
      refine lv_iconst (v := 0) hx hb dX4_limit_12 (by decide) ?_
      cases hf
      exact W.zret hx hb hr rfl (fun t ht hW => ⟨⟨_, (), rfl, rfl, by show wH _ _ _ _ _ _ _ t.heap; rw [ht]; exact hH⟩, hS.F ht⟩) hS.2.2 dX4_limit_13
noncomputable def fX4_tell (ng : Nat) (sh : Nat → Nat) (iv : wI) (rv : wJ) (a1 : Int32) (a2 : Int32) : Option (wI × Int32) := if a1 < 0 then some (iv, ((-1) : Int32)) else if 1000 < a1 then some (iv, ((-1) : Int32)) else if a2 < 0 then some (iv, ((-1) : Int32)) else if a2 ≤ 1000 then wBd (fX4_within ((a1 - a2) / 4) (-6) 6) (fun (r5 : Int32) => wBd (fX4_within ((iv 1 13) + r5) 0 100) (fun (r7 : Int32) => wLt (wU iv 1 13 r7) (fun (iv9 : wI) => some (iv9, (iv9 1 13))))) else some (iv, ((-1) : Int32))
set_option maxHeartbeats 4000000 in
set_option maxRecDepth 100000 in
theorem mtX4_tell (l : Launch) (D : va_G) (K : Nat → ClassId) (loc sh ln : Nat → Nat) (iv : wI) (rv : wJ) (sz : Nat) (ng : Nat) (a1 : Int32) (a2 : Int32) {iv' : wI} {r' : Int32} (hB : wBx ng sh ln) (hf : fX4_tell ng sh iv rv a1 a2 = some (iv', r')) : Met l yX4_tell wsX4_tell ({ frames := 2, cells := 0, slots := 0, locals := 43 }) (wPc D K loc sh ln iv rv sz [wR loc 1, .int a1, .int a2]) (wQi D K loc sh ln iv' rv sz r') 0 0 (wA loc sh sz) := by
  refine Met.ofW (cc := cX4_tell) (maxL := 4) (ret := (some .int)) (by decide) rfl ?_
  intro p e s m args below meth c s₁ B hml hv
  obtain ⟨rfl, hsz, hH, hKn⟩ := hv
  have hx := B.exec
  have hb := B.bytes
  have hr := B.returns
  have hts := atoms_spec (ws := wsX4_tell) B.pre
  have hown : s.vm.findClass RX4 = some m.cls := findClass_of_methodNamed B.named
  have hlocks := B.notSynchronized
  subst hsz
  have hA : ∀ q : Nat, s.heap.size ≤ q → wA loc sh s.heap.size q := fun q h => Or.inr h
  have hO : ∀ a, sh a ≠ 0 → wA loc sh s.heap.size (loc a) := fun a h => Or.inl ⟨a, h, rfl⟩
  have hS : va_S (wA loc sh s.heap.size) s.heap s.heap [] := va_S.rf
  obtain ⟨ls, hen, hl⟩ := wEntry m [wR loc 1, .int a1, .int a2] 4 (List.forall_mem_cons.mpr ⟨wR_cat _ _, List.forall_mem_cons.mpr ⟨rfl, List.forall_mem_cons.mpr ⟨rfl, fun _ h => absurd h List.not_mem_nil⟩⟩⟩) (Nat.le_of_ble_eq_true rfl)
  rw [hen]
  clear hen
  have hl : lv_has ls 4 [(0, wR loc 1), (1, .int a1), (2, .int a2)] := hl
  have k48 := hts (.fieldLink RX4 48 "CupByCup" "setting" "I") (List.mem_of_getElem? (i := 1) rfl)
  have iX4 : ∀ w ∈ wsX40, w ∈ wsX4_tell := fun w h => List.mem_cons_of_mem _ (List.mem_append_right _ h)
  unfold fX4_tell at hf
  refine lv_iload_n hx hb dX4_tell_0 rfl (lv_at hl 1 rfl) ?_
  refine lv_if_lt (tgt := 22) hx hb dX4_tell_1 (by decide) (fun c1 => ?_) (fun c1 => ?_)
  · have hf := wIt c1 hf
    refine lv_iconst (v := (-1)) hx hb dX4_tell_22 (by decide) ?_
    cases hf
    exact W.iret hx hb hr (fun t ht hW => ⟨⟨_, (), rfl, rfl, by show wH _ _ _ _ _ _ _ t.heap; rw [ht]; exact hH⟩, hS.F ht⟩) hS.2.2 dX4_tell_23
  · have hf := wIf c1 hf
    refine lv_iload_n hx hb dX4_tell_4 rfl (lv_at hl 1 rfl) ?_
    refine lv_sipush (v := 1000) hx hb dX4_tell_5 (by decide) ?_
    refine lv_icmp_gt (tgt := 22) hx hb dX4_tell_8 (by decide) (fun c2 => ?_) (fun c2 => ?_)
    · have hf := wIt c2 hf
      refine lv_iconst (v := (-1)) hx hb dX4_tell_22 (by decide) ?_
      cases hf
      exact W.iret hx hb hr (fun t ht hW => ⟨⟨_, (), rfl, rfl, by show wH _ _ _ _ _ _ _ t.heap; rw [ht]; exact hH⟩, hS.F ht⟩) hS.2.2 dX4_tell_23
    · have hf := wIf c2 hf
      refine lv_iload_n hx hb dX4_tell_11 rfl (lv_at hl 2 rfl) ?_
      refine lv_if_lt (tgt := 22) hx hb dX4_tell_12 (by decide) (fun c3 => ?_) (fun c3 => ?_)
      · have hf := wIt c3 hf
        refine lv_iconst (v := (-1)) hx hb dX4_tell_22 (by decide) ?_
        cases hf
        exact W.iret hx hb hr (fun t ht hW => ⟨⟨_, (), rfl, rfl, by show wH _ _ _ _ _ _ _ t.heap; rw [ht]; exact hH⟩, hS.F ht⟩) hS.2.2 dX4_tell_23
      · have hf := wIf c3 hf
        refine lv_iload_n hx hb dX4_tell_15 rfl (lv_at hl 2 rfl) ?_
        refine lv_sipush (v := 1000) hx hb dX4_tell_16 (by decide) ?_
        refine lv_icmp_le (tgt := 24) hx hb dX4_tell_19 (by decide) (fun c4 => ?_) (fun c4 => ?_)
        · have hf := wIt c4 hf
          refine lv_iload_n hx hb dX4_tell_24 rfl (lv_at hl 1 rfl) ?_
          refine lv_iload_n hx hb dX4_tell_25 rfl (lv_at hl 2 rfl) ?_
          refine lv_isub hx hb dX4_tell_26 ?_
          refine lv_iconst (v := 4) hx hb dX4_tell_27 (by decide) ?_
          refine lv_idiv hx hb dX4_tell_28 (by decide) ?_
          refine lv_bipush (v := (-6)) hx hb dX4_tell_29 (by decide) ?_
          refine lv_bipush (v := 6) hx hb dX4_tell_31 (by decide) ?_
          obtain ⟨r5, h6, hf⟩ := wBd_e hf
          refine wci (va_runS (As := [.int ((a1 - a2) / 4), .int (-6), .int 6]) (rest := []) ⟨hx, hb, hml, hown, hts⟩ (mtX4_within l D K loc sh ln iv rv _ ng ((a1 - a2) / 4) (-6) 6 h6) (va_cwS 3 hts gX4_tell_X4_within rfl rfl rfl (by decide +kernel) ⟨Nat.le_of_ble_eq_true rfl, Nat.le_of_ble_eq_true rfl⟩) (wPreS hKn hH) rfl rfl hl.1 rfl (lv_room (Nat.le_of_ble_eq_true rfl)) dX4_tell_33 ⟨Nat.zero_le _, Nat.zero_le _⟩) hS hO hA (fun H locs hH hS => ?_)
          refine lv_istore_n (lv' := [(3, .int r5), (0, wR loc 1), (1, .int a1), (2, .int a2)]) hx hb dX4_tell_36 rfl hl (by decide) rfl (fun ls hl => ?_)
          refine wald_n hx hb dX4_tell_37 rfl (lv_at hl 1 rfl) ?_
          refine wald_n hx hb dX4_tell_38 rfl (lv_at hl 1 rfl) ?_
          refine wg (C := RX4) (T := TX4) (N := 17) (v := .int (iv 1 13)) hx hb hts iX4 hown hKn.1 hH (q := 1) (hB.1 1 5 (by decide)) (by decide) rfl rfl 13 (by decide) k48 rfl dX4_tell_39 ?_
          refine lv_iload_n hx hb dX4_tell_42 rfl (lv_at hl 0 rfl) ?_
          refine lv_iadd hx hb dX4_tell_43 ?_
          refine lv_iconst (v := 0) hx hb dX4_tell_44 (by decide) ?_
          refine lv_bipush (v := 100) hx hb dX4_tell_45 (by decide) ?_
          obtain ⟨r7, h8, hf⟩ := wBd_e hf
          refine wci (va_runS (As := [.int ((iv 1 13) + r5), .int 0, .int 100]) (rest := [wR loc 1]) ⟨hx, hb, hml, hown, hts⟩ (mtX4_within l D K loc sh ln iv rv _ ng ((iv 1 13) + r5) 0 100 h8) (va_cwS 3 hts gX4_tell_X4_within rfl rfl rfl (by decide +kernel) ⟨Nat.le_of_ble_eq_true rfl, Nat.le_of_ble_eq_true rfl⟩) (wPreS hKn hH) rfl rfl hl.1 rfl (lv_room (Nat.le_of_ble_eq_true rfl)) dX4_tell_47 ⟨Nat.zero_le _, Nat.zero_le _⟩) hS hO hA (fun H locs hH hS => ?_)
          obtain ⟨iv9, e10, hf⟩ := wLt_e hf
          refine wp (C := RX4) (T := TX4) (N := 17) (v := .int r7) (ty := tyX4 13) (iv' := iv9) (rv' := rv) hx hb hts iX4 tyX4 tyX4_ok nmX4 hown hKn.1 hH hO hS (q := 1) (hB.1 1 5 (by decide)) (by decide) rfl rfl 13 (by decide) k48 rfl (tyX4_ok 13 (by decide)) rfl rfl (Nat.le_of_ble_eq_true rfl) (by rw [e10, wU_self]; rfl) (fun a ha => by rw [e10]; exact wU_ne a ha) (fun _ _ => rfl) dX4_tell_50 (fun H locs hH hS => ?_)
          refine wald_n hx hb dX4_tell_53 rfl (lv_at hl 1 rfl) ?_
          refine wg (C := RX4) (T := TX4) (N := 17) (v := .int (iv9 1 13)) hx hb hts iX4 hown hKn.1 hH (q := 1) (hB.1 1 5 (by decide)) (by decide) rfl rfl 13 (by decide) k48 rfl dX4_tell_54 ?_
          cases hf
          exact W.iret hx hb hr (fun t ht hW => ⟨⟨_, (), rfl, rfl, by show wH _ _ _ _ _ _ _ t.heap; rw [ht]; exact hH⟩, hS.F ht⟩) hS.2.2 dX4_tell_57
        · have hf := wIf c4 hf
          refine lv_iconst (v := (-1)) hx hb dX4_tell_22 (by decide) ?_
          cases hf
          exact W.iret hx hb hr (fun t ht hW => ⟨⟨_, (), rfl, rfl, by show wH _ _ _ _ _ _ _ t.heap; rw [ht]; exact hH⟩, hS.F ht⟩) hS.2.2 dX4_tell_23
noncomputable def fX4_ticksToGo (ng : Nat) (sh : Nat → Nat) (iv : wI) (rv : wJ) (b1 : Nat) : Option (Int32) := wGd (sh b1 = 1) (if (rv b1 10) = 0 then if (iv b1 5) = 1 then some (iv b1 7) else if (iv b1 5) = 5 then some (iv b1 7) else some ((-1) : Int32) else wGd (sh (rv b1 10) = 2) (some (iv (rv b1 10) 2)))
set_option maxHeartbeats 4000000 in
set_option maxRecDepth 100000 in
theorem mtX4_ticksToGo (l : Launch) (D : va_G) (K : Nat → ClassId) (loc sh ln : Nat → Nat) (iv : wI) (rv : wJ) (sz : Nat) (ng : Nat) (b1 : Nat) {r' : Int32} (hf : fX4_ticksToGo ng sh iv rv b1 = some r') : Met l yX4_ticksToGo wsX4_ticksToGo ({ frames := 0, cells := 0, slots := 0, locals := 0 }) (wPc D K loc sh ln iv rv sz [wR loc 1, wR loc b1]) (wQi D K loc sh ln iv rv sz r') 0 0 (wA loc sh sz) := by
  refine Met.ofW (cc := cX4_ticksToGo) (maxL := 2) (ret := (some .int)) (by decide) rfl ?_
  intro p e s m args below meth c s₁ B hml hv
  obtain ⟨rfl, hsz, hH, hKn⟩ := hv
  have hx := B.exec
  have hb := B.bytes
  have hr := B.returns
  have hts := atoms_spec (ws := wsX4_ticksToGo) B.pre
  have hown : s.vm.findClass RX4 = some m.cls := findClass_of_methodNamed B.named
  have hlocks := B.notSynchronized
  subst hsz
  have hA : ∀ q : Nat, s.heap.size ≤ q → wA loc sh s.heap.size q := fun q h => Or.inr h
  have hO : ∀ a, sh a ≠ 0 → wA loc sh s.heap.size (loc a) := fun a h => Or.inl ⟨a, h, rfl⟩
  have hS : va_S (wA loc sh s.heap.size) s.heap s.heap [] := va_S.rf
  obtain ⟨ls, hen, hl⟩ := wEntry m [wR loc 1, wR loc b1] 2 (List.forall_mem_cons.mpr ⟨wR_cat _ _, List.forall_mem_cons.mpr ⟨wR_cat _ _, fun _ h => absurd h List.not_mem_nil⟩⟩) (Nat.le_of_ble_eq_true rfl)
  rw [hen]
  clear hen
  have hl : lv_has ls 2 [(0, wR loc 1), (1, wR loc b1)] := hl
  have k137 := hts (.fieldLink RX4 137 "CupByCup$Cup" "brewsIn" "LCupByCup$Group;") (List.mem_of_getElem? (i := 1) rfl)
  have iX0 : ∀ w ∈ wsX00, w ∈ wsX4_ticksToGo := fun w h => List.mem_cons_of_mem _ (List.mem_append_left _ (List.mem_append_right _ h))
  have k95 := hts (.fieldLink RX4 95 "CupByCup$Cup" "state" "I") (List.mem_of_getElem? (i := 3) rfl)
  have k217 := hts (.fieldLink RX4 217 "CupByCup$Cup" "toGo" "I") (List.mem_of_getElem? (i := 4) rfl)
  have k152 := hts (.fieldLink RX4 152 "CupByCup$Group" "toGo" "I") (List.mem_of_getElem? (i := 2) rfl)
  have iX1 : ∀ w ∈ wsX10, w ∈ wsX4_ticksToGo := fun w h => List.mem_cons_of_mem _ (List.mem_append_right _ h)
  unfold fX4_ticksToGo at hf
  refine wald_n hx hb dX4_ticksToGo_0 rfl (lv_at hl 1 rfl) ?_
  obtain ⟨g1, hf⟩ := wGd_e hf
  refine wg (C := RX0) (T := TX0) (N := 11) (v := wR loc (rv b1 10)) hx hb hts iX0 hown hKn.1 hH (q := b1) g1 (by decide) rfl rfl 10 (by decide) k137 rfl dX4_ticksToGo_1 ?_
  refine wifnull (tgt := 15) hx hb dX4_ticksToGo_4 (by decide) (fun c2 => ?_) (fun c2 => ?_)
  · have hf := wIt c2 hf
    refine wald_n hx hb dX4_ticksToGo_15 rfl (lv_at hl 1 rfl) ?_
    refine wg (C := RX0) (T := TX0) (N := 11) (v := .int (iv b1 5)) hx hb hts iX0 hown hKn.1 hH (q := b1) g1 (by decide) rfl rfl 5 (by decide) k95 rfl dX4_ticksToGo_16 ?_
    refine lv_iconst (v := 1) hx hb dX4_ticksToGo_19 (by decide) ?_
    refine lv_icmp_eq (tgt := 31) hx hb dX4_ticksToGo_20 (by decide) (fun c3 => ?_) (fun c3 => ?_)
    · have hf := wIt c3 hf
      refine wald_n hx hb dX4_ticksToGo_31 rfl (lv_at hl 1 rfl) ?_
      refine wg (C := RX0) (T := TX0) (N := 11) (v := .int (iv b1 7)) hx hb hts iX0 hown hKn.1 hH (q := b1) g1 (by decide) rfl rfl 7 (by decide) k217 rfl dX4_ticksToGo_32 ?_
      refine lv_goto (tgt := 39) hx hb dX4_ticksToGo_35 (by decide) ?_
      cases hf
      exact W.iret hx hb hr (fun t ht hW => ⟨⟨_, (), rfl, rfl, by show wH _ _ _ _ _ _ _ t.heap; rw [ht]; exact hH⟩, hS.F ht⟩) hS.2.2 dX4_ticksToGo_39
    · have hf := wIf c3 hf
      refine wald_n hx hb dX4_ticksToGo_23 rfl (lv_at hl 1 rfl) ?_
      refine wg (C := RX0) (T := TX0) (N := 11) (v := .int (iv b1 5)) hx hb hts iX0 hown hKn.1 hH (q := b1) g1 (by decide) rfl rfl 5 (by decide) k95 rfl dX4_ticksToGo_24 ?_
      refine lv_iconst (v := 5) hx hb dX4_ticksToGo_27 (by decide) ?_
      refine lv_icmp_ne (tgt := 38) hx hb dX4_ticksToGo_28 (by decide) (fun c4 => ?_) (fun c4 => ?_)
      · have hf := wIf c4 hf
        refine lv_iconst (v := (-1)) hx hb dX4_ticksToGo_38 (by decide) ?_
        cases hf
        exact W.iret hx hb hr (fun t ht hW => ⟨⟨_, (), rfl, rfl, by show wH _ _ _ _ _ _ _ t.heap; rw [ht]; exact hH⟩, hS.F ht⟩) hS.2.2 dX4_ticksToGo_39
      · have hf := wIt c4 hf
        refine wald_n hx hb dX4_ticksToGo_31 rfl (lv_at hl 1 rfl) ?_
        refine wg (C := RX0) (T := TX0) (N := 11) (v := .int (iv b1 7)) hx hb hts iX0 hown hKn.1 hH (q := b1) g1 (by decide) rfl rfl 7 (by decide) k217 rfl dX4_ticksToGo_32 ?_
        refine lv_goto (tgt := 39) hx hb dX4_ticksToGo_35 (by decide) ?_
        cases hf
        exact W.iret hx hb hr (fun t ht hW => ⟨⟨_, (), rfl, rfl, by show wH _ _ _ _ _ _ _ t.heap; rw [ht]; exact hH⟩, hS.F ht⟩) hS.2.2 dX4_ticksToGo_39
  · have hf := wIf c2 hf
    refine wald_n hx hb dX4_ticksToGo_7 rfl (lv_at hl 1 rfl) ?_
    refine wg (C := RX0) (T := TX0) (N := 11) (v := wR loc (rv b1 10)) hx hb hts iX0 hown hKn.1 hH (q := b1) g1 (by decide) rfl rfl 10 (by decide) k137 rfl dX4_ticksToGo_8 ?_
    obtain ⟨g5, hf⟩ := wGd_e hf
    refine wg (C := RX1) (T := TX1) (N := 6) (v := .int (iv (rv b1 10) 2)) hx hb hts iX1 hown hKn.1 hH (q := (rv b1 10)) g5 (by decide) rfl rfl 2 (by decide) k152 rfl dX4_ticksToGo_11 ?_
    cases hf
    exact W.iret hx hb hr (fun t ht hW => ⟨⟨_, (), rfl, rfl, by show wH _ _ _ _ _ _ _ t.heap; rw [ht]; exact hH⟩, hS.F ht⟩) hS.2.2 dX4_ticksToGo_14
noncomputable def fX4_cup (ng : Nat) (sh : Nat → Nat) (iv : wI) (rv : wJ) (a1 : Int32) (a2 : Int32) : Option (Int32) := wBd (fX4_isAmong a1 (iv 1 4)) (fun (r1 : Int32) => if r1 = 0 then some ((-1) : Int32) else wGd (vp_in a1 100) (if a2 = 0 then wGd (sh (rv 4 a1.toNatClampNeg) = 1) (some (iv (rv 4 a1.toNatClampNeg) 5)) else if a2 = 1 then wGd (sh (rv 4 a1.toNatClampNeg) = 1) (some (iv (rv 4 a1.toNatClampNeg) 2)) else if a2 = 2 then wGd (sh (rv 4 a1.toNatClampNeg) = 1) (some (iv (rv 4 a1.toNatClampNeg) 3)) else if a2 = 3 then wGd (sh (rv 4 a1.toNatClampNeg) = 1) (some (iv (rv 4 a1.toNatClampNeg) 4)) else if a2 = 4 then wGd (sh (rv 4 a1.toNatClampNeg) = 1) (some (iv (rv 4 a1.toNatClampNeg) 6)) else if a2 = 5 then wGd (sh (rv 4 a1.toNatClampNeg) = 1) (if (rv (rv 4 a1.toNatClampNeg) 10) = 0 then some ((-1) : Int32) else wGd (sh (rv (rv 4 a1.toNatClampNeg) 10) = 2) (some (iv (rv (rv 4 a1.toNatClampNeg) 10) 0))) else if a2 = 6 then wBd (fX4_ticksToGo ng sh iv rv (rv 4 a1.toNatClampNeg)) (fun (r20 : Int32) => some r20) else if a2 = 7 then wGd (sh (rv 4 a1.toNatClampNeg) = 1) (some (iv (rv 4 a1.toNatClampNeg) 9)) else some ((-1) : Int32)))
set_option maxHeartbeats 4000000 in
set_option maxRecDepth 100000 in
theorem mtX4_cup (l : Launch) (D : va_G) (K : Nat → ClassId) (loc sh ln : Nat → Nat) (iv : wI) (rv : wJ) (sz : Nat) (ng : Nat) (a1 : Int32) (a2 : Int32) {r' : Int32} (hB : wBx ng sh ln) (hf : fX4_cup ng sh iv rv a1 a2 = some r') : Met l yX4_cup wsX4_cup ({ frames := 1, cells := 0, slots := 0, locals := 21 }) (wPc D K loc sh ln iv rv sz [wR loc 1, .int a1, .int a2]) (wQi D K loc sh ln iv rv sz r') 0 0 (wA loc sh sz) := by
  refine Met.ofW (cc := cX4_cup) (maxL := 4) (ret := (some .int)) (by decide) rfl ?_
  intro p e s m args below meth c s₁ B hml hv
  obtain ⟨rfl, hsz, hH, hKn⟩ := hv
  have hx := B.exec
  have hb := B.bytes
  have hr := B.returns
  have hts := atoms_spec (ws := wsX4_cup) B.pre
  have hown : s.vm.findClass RX4 = some m.cls := findClass_of_methodNamed B.named
  have hlocks := B.notSynchronized
  subst hsz
  have hA : ∀ q : Nat, s.heap.size ≤ q → wA loc sh s.heap.size q := fun q h => Or.inr h
  have hO : ∀ a, sh a ≠ 0 → wA loc sh s.heap.size (loc a) := fun a h => Or.inl ⟨a, h, rfl⟩
  have hS : va_S (wA loc sh s.heap.size) s.heap s.heap [] := va_S.rf
  obtain ⟨ls, hen, hl⟩ := wEntry m [wR loc 1, .int a1, .int a2] 4 (List.forall_mem_cons.mpr ⟨wR_cat _ _, List.forall_mem_cons.mpr ⟨rfl, List.forall_mem_cons.mpr ⟨rfl, fun _ h => absurd h List.not_mem_nil⟩⟩⟩) (Nat.le_of_ble_eq_true rfl)
  rw [hen]
  clear hen
  have hl : lv_has ls 4 [(0, wR loc 1), (1, .int a1), (2, .int a2)] := hl
  have k25 := hts (.fieldLink RX4 25 "CupByCup" "cupCount" "I") (List.mem_of_getElem? (i := 1) rfl)
  have iX4 : ∀ w ∈ wsX40, w ∈ wsX4_cup := fun w h => List.mem_cons_of_mem _ (List.mem_append_left _ (List.mem_append_left _ (List.mem_append_right _ h)))
  have k21 := hts (.fieldLink RX4 21 "CupByCup" "cups" "[LCupByCup$Cup;") (List.mem_of_getElem? (i := 2) rfl)
  have k95 := hts (.fieldLink RX4 95 "CupByCup$Cup" "state" "I") (List.mem_of_getElem? (i := 3) rfl)
  have iX0 : ∀ w ∈ wsX00, w ∈ wsX4_cup := fun w h => List.mem_cons_of_mem _ (List.mem_append_left _ (List.mem_append_right _ h))
  have k125 := hts (.fieldLink RX4 125 "CupByCup$Cup" "firstOfOrder" "I") (List.mem_of_getElem? (i := 4) rfl)
  have k128 := hts (.fieldLink RX4 128 "CupByCup$Cup" "lane" "I") (List.mem_of_getElem? (i := 5) rfl)
  have k131 := hts (.fieldLink RX4 131 "CupByCup$Cup" "cameAt" "I") (List.mem_of_getElem? (i := 6) rfl)
  have k134 := hts (.fieldLink RX4 134 "CupByCup$Cup" "doneAt" "I") (List.mem_of_getElem? (i := 7) rfl)
  have k137 := hts (.fieldLink RX4 137 "CupByCup$Cup" "brewsIn" "LCupByCup$Group;") (List.mem_of_getElem? (i := 8) rfl)
  have k141 := hts (.fieldLink RX4 141 "CupByCup$Group" "number" "I") (List.mem_of_getElem? (i := 9) rfl)
  have iX1 : ∀ w ∈ wsX10, w ∈ wsX4_cup := fun w h => List.mem_cons_of_mem _ (List.mem_append_right _ h)
  have k148 := hts (.fieldLink RX4 148 "CupByCup$Cup" "timesLost" "I") (List.mem_of_getElem? (i := 10) rfl)
  unfold fX4_cup at hf
  refine lv_iload_n hx hb dX4_cup_0 rfl (lv_at hl 1 rfl) ?_
  refine wald_n hx hb dX4_cup_1 rfl (lv_at hl 0 rfl) ?_
  refine wg (C := RX4) (T := TX4) (N := 17) (v := .int (iv 1 4)) hx hb hts iX4 hown hKn.1 hH (q := 1) (hB.1 1 5 (by decide)) (by decide) rfl rfl 4 (by decide) k25 rfl dX4_cup_2 ?_
  obtain ⟨r1, h2, hf⟩ := wBd_e hf
  refine wci (va_runS (As := [.int a1, .int (iv 1 4)]) (rest := []) ⟨hx, hb, hml, hown, hts⟩ (mtX4_isAmong l D K loc sh ln iv rv _ ng a1 (iv 1 4) h2) (va_cwS 2 hts gX4_cup_X4_isAmong rfl rfl rfl (by decide +kernel) ⟨Nat.le_of_ble_eq_true rfl, Nat.le_of_ble_eq_true rfl⟩) (wPreS hKn hH) rfl rfl hl.1 rfl (lv_room (Nat.le_of_ble_eq_true rfl)) dX4_cup_5 ⟨Nat.zero_le _, Nat.zero_le _⟩) hS hO hA (fun H locs hH hS => ?_)
  refine lv_if_ne (tgt := 13) hx hb dX4_cup_8 (by decide) (fun c3 => ?_) (fun c3 => ?_)
  · have hf := wIf c3 hf
    refine wald_n hx hb dX4_cup_13 rfl (lv_at hl 0 rfl) ?_
    refine wg (C := RX4) (T := TX4) (N := 17) (v := wR loc 4) hx hb hts iX4 hown hKn.1 hH (q := 1) (hB.1 1 5 (by decide)) (by decide) rfl rfl 3 (by decide) k21 rfl dX4_cup_14 ?_
    refine lv_iload_n hx hb dX4_cup_17 rfl (lv_at hl 1 rfl) ?_
    obtain ⟨g4, hf⟩ := wGd_e hf
    refine waa (kd := 9) (ki := 2) hx hb hKn.1 hH (hB.1 4 9 (by decide)) (by decide) rfl rfl (hB.2.1 4 _ (by decide)) g4 dX4_cup_18 ?_
    refine wast_n (lv' := [(3, wR loc (rv 4 a1.toNatClampNeg)), (0, wR loc 1), (1, .int a1), (2, .int a2)]) hx hb dX4_cup_19 rfl hl (by decide) rfl (fun ls hl => ?_)
    refine lv_iload_n hx hb dX4_cup_20 rfl (lv_at hl 3 rfl) ?_
    by_cases c5 : a2 = 0
    · have hf := wIt c5 hf
      refine lv_tableIn (off := 47) (tgt := 68) hx hb dX4_cup_21 (by rw [c5]; decide) (by rw [c5]; decide) (by rw [c5]; decide) (by decide) ?_
      refine wald_n hx hb dX4_cup_68 rfl (lv_at hl 0 rfl) ?_
      obtain ⟨g6, hf⟩ := wGd_e hf
      refine wg (C := RX0) (T := TX0) (N := 11) (v := .int (iv (rv 4 a1.toNatClampNeg) 5)) hx hb hts iX0 hown hKn.1 hH (q := (rv 4 a1.toNatClampNeg)) g6 (by decide) rfl rfl 5 (by decide) k95 rfl dX4_cup_69 ?_
      cases hf
      exact W.iret hx hb hr (fun t ht hW => ⟨⟨_, (), rfl, rfl, by show wH _ _ _ _ _ _ _ t.heap; rw [ht]; exact hH⟩, hS.F ht⟩) hS.2.2 dX4_cup_72
    · have hf := wIf c5 hf
      by_cases c7 : a2 = 1
      · have hf := wIt c7 hf
        refine lv_tableIn (off := 52) (tgt := 73) hx hb dX4_cup_21 (by rw [c7]; decide) (by rw [c7]; decide) (by rw [c7]; decide) (by decide) ?_
        refine wald_n hx hb dX4_cup_73 rfl (lv_at hl 0 rfl) ?_
        obtain ⟨g8, hf⟩ := wGd_e hf
        refine wg (C := RX0) (T := TX0) (N := 11) (v := .int (iv (rv 4 a1.toNatClampNeg) 2)) hx hb hts iX0 hown hKn.1 hH (q := (rv 4 a1.toNatClampNeg)) g8 (by decide) rfl rfl 2 (by decide) k125 rfl dX4_cup_74 ?_
        cases hf
        exact W.iret hx hb hr (fun t ht hW => ⟨⟨_, (), rfl, rfl, by show wH _ _ _ _ _ _ _ t.heap; rw [ht]; exact hH⟩, hS.F ht⟩) hS.2.2 dX4_cup_77
      · have hf := wIf c7 hf
        by_cases c9 : a2 = 2
        · have hf := wIt c9 hf
          refine lv_tableIn (off := 57) (tgt := 78) hx hb dX4_cup_21 (by rw [c9]; decide) (by rw [c9]; decide) (by rw [c9]; decide) (by decide) ?_
          refine wald_n hx hb dX4_cup_78 rfl (lv_at hl 0 rfl) ?_
          obtain ⟨g10, hf⟩ := wGd_e hf
          refine wg (C := RX0) (T := TX0) (N := 11) (v := .int (iv (rv 4 a1.toNatClampNeg) 3)) hx hb hts iX0 hown hKn.1 hH (q := (rv 4 a1.toNatClampNeg)) g10 (by decide) rfl rfl 3 (by decide) k128 rfl dX4_cup_79 ?_
          cases hf
          exact W.iret hx hb hr (fun t ht hW => ⟨⟨_, (), rfl, rfl, by show wH _ _ _ _ _ _ _ t.heap; rw [ht]; exact hH⟩, hS.F ht⟩) hS.2.2 dX4_cup_82
        · have hf := wIf c9 hf
          by_cases c11 : a2 = 3
          · have hf := wIt c11 hf
            refine lv_tableIn (off := 62) (tgt := 83) hx hb dX4_cup_21 (by rw [c11]; decide) (by rw [c11]; decide) (by rw [c11]; decide) (by decide) ?_
            refine wald_n hx hb dX4_cup_83 rfl (lv_at hl 0 rfl) ?_
            obtain ⟨g12, hf⟩ := wGd_e hf
            refine wg (C := RX0) (T := TX0) (N := 11) (v := .int (iv (rv 4 a1.toNatClampNeg) 4)) hx hb hts iX0 hown hKn.1 hH (q := (rv 4 a1.toNatClampNeg)) g12 (by decide) rfl rfl 4 (by decide) k131 rfl dX4_cup_84 ?_
            cases hf
            exact W.iret hx hb hr (fun t ht hW => ⟨⟨_, (), rfl, rfl, by show wH _ _ _ _ _ _ _ t.heap; rw [ht]; exact hH⟩, hS.F ht⟩) hS.2.2 dX4_cup_87
          · have hf := wIf c11 hf
            by_cases c13 : a2 = 4
            · have hf := wIt c13 hf
              refine lv_tableIn (off := 67) (tgt := 88) hx hb dX4_cup_21 (by rw [c13]; decide) (by rw [c13]; decide) (by rw [c13]; decide) (by decide) ?_
              refine wald_n hx hb dX4_cup_88 rfl (lv_at hl 0 rfl) ?_
              obtain ⟨g14, hf⟩ := wGd_e hf
              refine wg (C := RX0) (T := TX0) (N := 11) (v := .int (iv (rv 4 a1.toNatClampNeg) 6)) hx hb hts iX0 hown hKn.1 hH (q := (rv 4 a1.toNatClampNeg)) g14 (by decide) rfl rfl 6 (by decide) k134 rfl dX4_cup_89 ?_
              cases hf
              exact W.iret hx hb hr (fun t ht hW => ⟨⟨_, (), rfl, rfl, by show wH _ _ _ _ _ _ _ t.heap; rw [ht]; exact hH⟩, hS.F ht⟩) hS.2.2 dX4_cup_92
            · have hf := wIf c13 hf
              by_cases c15 : a2 = 5
              · have hf := wIt c15 hf
                refine lv_tableIn (off := 72) (tgt := 93) hx hb dX4_cup_21 (by rw [c15]; decide) (by rw [c15]; decide) (by rw [c15]; decide) (by decide) ?_
                refine wald_n hx hb dX4_cup_93 rfl (lv_at hl 0 rfl) ?_
                obtain ⟨g16, hf⟩ := wGd_e hf
                refine wg (C := RX0) (T := TX0) (N := 11) (v := wR loc (rv (rv 4 a1.toNatClampNeg) 10)) hx hb hts iX0 hown hKn.1 hH (q := (rv 4 a1.toNatClampNeg)) g16 (by decide) rfl rfl 10 (by decide) k137 rfl dX4_cup_94 ?_
                refine wifnon (tgt := 104) hx hb dX4_cup_97 (by decide) (fun c17 => ?_) (fun c17 => ?_)
                · have hf := wIf c17 hf
                  refine wald_n hx hb dX4_cup_104 rfl (lv_at hl 0 rfl) ?_
                  refine wg (C := RX0) (T := TX0) (N := 11) (v := wR loc (rv (rv 4 a1.toNatClampNeg) 10)) hx hb hts iX0 hown hKn.1 hH (q := (rv 4 a1.toNatClampNeg)) g16 (by decide) rfl rfl 10 (by decide) k137 rfl dX4_cup_105 ?_
                  obtain ⟨g18, hf⟩ := wGd_e hf
                  refine wg (C := RX1) (T := TX1) (N := 6) (v := .int (iv (rv (rv 4 a1.toNatClampNeg) 10) 0)) hx hb hts iX1 hown hKn.1 hH (q := (rv (rv 4 a1.toNatClampNeg) 10)) g18 (by decide) rfl rfl 0 (by decide) k141 rfl dX4_cup_108 ?_
                  cases hf
                  exact W.iret hx hb hr (fun t ht hW => ⟨⟨_, (), rfl, rfl, by show wH _ _ _ _ _ _ _ t.heap; rw [ht]; exact hH⟩, hS.F ht⟩) hS.2.2 dX4_cup_111
                · have hf := wIt c17 hf
                  refine lv_iconst (v := (-1)) hx hb dX4_cup_100 (by decide) ?_
                  refine lv_goto (tgt := 111) hx hb dX4_cup_101 (by decide) ?_
                  cases hf
                  exact W.iret hx hb hr (fun t ht hW => ⟨⟨_, (), rfl, rfl, by show wH _ _ _ _ _ _ _ t.heap; rw [ht]; exact hH⟩, hS.F ht⟩) hS.2.2 dX4_cup_111
              · have hf := wIf c15 hf
                by_cases c19 : a2 = 6
                · have hf := wIt c19 hf
                  refine lv_tableIn (off := 91) (tgt := 112) hx hb dX4_cup_21 (by rw [c19]; decide) (by rw [c19]; decide) (by rw [c19]; decide) (by decide) ?_
                  refine wald_n hx hb dX4_cup_112 rfl (lv_at hl 1 rfl) ?_
                  refine wald_n hx hb dX4_cup_113 rfl (lv_at hl 0 rfl) ?_
                  obtain ⟨r20, h21, hf⟩ := wBd_e hf
                  refine wci (va_runV (As := [wR loc (rv 4 a1.toNatClampNeg)]) (rest := []) ⟨hx, hb, hml, hown, hts⟩ (mtX4_ticksToGo l D K loc sh ln iv rv _ ng (rv 4 a1.toNatClampNeg) h21) (cwV 1 hts gX4_cup_X4_ticksToGo rfl rfl rfl (by decide +kernel) ⟨Nat.le_of_ble_eq_true rfl, Nat.le_of_ble_eq_true rfl⟩) (wPreV hKn hH (hB.1 1 5 (by decide)) (by decide) rfl rfl) rfl rfl hl.1 rfl (lv_room (Nat.le_of_ble_eq_true rfl)) dX4_cup_114 ⟨Nat.zero_le _, Nat.zero_le _⟩) hS hO hA (fun H locs hH hS => ?_)
                  cases hf
                  exact W.iret hx hb hr (fun t ht hW => ⟨⟨_, (), rfl, rfl, by show wH _ _ _ _ _ _ _ t.heap; rw [ht]; exact hH⟩, hS.F ht⟩) hS.2.2 dX4_cup_117
                · have hf := wIf c19 hf
                  by_cases c22 : a2 = 7
                  · have hf := wIt c22 hf
                    refine lv_tableIn (off := 97) (tgt := 118) hx hb dX4_cup_21 (by rw [c22]; decide) (by rw [c22]; decide) (by rw [c22]; decide) (by decide) ?_
                    refine wald_n hx hb dX4_cup_118 rfl (lv_at hl 0 rfl) ?_
                    obtain ⟨g23, hf⟩ := wGd_e hf
                    refine wg (C := RX0) (T := TX0) (N := 11) (v := .int (iv (rv 4 a1.toNatClampNeg) 9)) hx hb hts iX0 hown hKn.1 hH (q := (rv 4 a1.toNatClampNeg)) g23 (by decide) rfl rfl 9 (by decide) k148 rfl dX4_cup_119 ?_
                    cases hf
                    exact W.iret hx hb hr (fun t ht hW => ⟨⟨_, (), rfl, rfl, by show wH _ _ _ _ _ _ _ t.heap; rw [ht]; exact hH⟩, hS.F ht⟩) hS.2.2 dX4_cup_122
                  · have hf := wIf c22 hf
                    refine lv_tableOut (tgt := 123) hx hb dX4_cup_21 (by have q0 := lv_neT (a := 0) c5 (by decide); have q1 := lv_neT (a := 1) c7 (by decide); have q2 := lv_neT (a := 2) c9 (by decide); have q3 := lv_neT (a := 3) c11 (by decide); have q4 := lv_neT (a := 4) c13 (by decide); have q5 := lv_neT (a := 5) c15 (by decide); have q6 := lv_neT (a := 6) c19 (by decide); have q7 := lv_neT (a := 7) c22 (by decide); omega) (by decide) ?_
                    refine lv_iconst (v := (-1)) hx hb dX4_cup_123 (by decide) ?_
                    cases hf
                    exact W.iret hx hb hr (fun t ht hW => ⟨⟨_, (), rfl, rfl, by show wH _ _ _ _ _ _ _ t.heap; rw [ht]; exact hH⟩, hS.F ht⟩) hS.2.2 dX4_cup_124
  · have hf := wIt c3 hf
    refine lv_iconst (v := (-1)) hx hb dX4_cup_11 (by decide) ?_
    cases hf
    exact W.iret hx hb hr (fun t ht hW => ⟨⟨_, (), rfl, rfl, by show wH _ _ _ _ _ _ _ t.heap; rw [ht]; exact hH⟩, hS.F ht⟩) hS.2.2 dX4_cup_12
noncomputable def fX4_group (ng : Nat) (sh : Nat → Nat) (iv : wI) (rv : wJ) (a1 : Int32) (a2 : Int32) : Option (Int32) := wBd (fX4_isAmong a1 (nI ng)) (fun (r1 : Int32) => if r1 = 0 then some ((-1) : Int32) else wGd (vp_in a1 ng) (if a2 = 0 then wGd (sh (rv 2 a1.toNatClampNeg) = 2) (some (iv (rv 2 a1.toNatClampNeg) 1)) else if a2 = 1 then wGd (sh (rv 2 a1.toNatClampNeg) = 2) (some (iv (rv 2 a1.toNatClampNeg) 2)) else if a2 = 2 then wGd (sh (rv 2 a1.toNatClampNeg) = 2) (some (iv (rv 2 a1.toNatClampNeg) 3)) else if a2 = 3 then wGd (sh (rv 2 a1.toNatClampNeg) = 2) (some (iv (rv 2 a1.toNatClampNeg) 4)) else some ((-1) : Int32)))
set_option maxHeartbeats 4000000 in
set_option maxRecDepth 100000 in
theorem mtX4_group (l : Launch) (D : va_G) (K : Nat → ClassId) (loc sh ln : Nat → Nat) (iv : wI) (rv : wJ) (sz : Nat) (ng : Nat) (a1 : Int32) (a2 : Int32) {r' : Int32} (hB : wBx ng sh ln) (hf : fX4_group ng sh iv rv a1 a2 = some r') : Met l yX4_group wsX4_group ({ frames := 1, cells := 0, slots := 0, locals := 21 }) (wPc D K loc sh ln iv rv sz [wR loc 1, .int a1, .int a2]) (wQi D K loc sh ln iv rv sz r') 0 0 (wA loc sh sz) := by
  refine Met.ofW (cc := cX4_group) (maxL := 4) (ret := (some .int)) (by decide) rfl ?_
  intro p e s m args below meth c s₁ B hml hv
  obtain ⟨rfl, hsz, hH, hKn⟩ := hv
  have hx := B.exec
  have hb := B.bytes
  have hr := B.returns
  have hts := atoms_spec (ws := wsX4_group) B.pre
  have hown : s.vm.findClass RX4 = some m.cls := findClass_of_methodNamed B.named
  have hlocks := B.notSynchronized
  subst hsz
  have hA : ∀ q : Nat, s.heap.size ≤ q → wA loc sh s.heap.size q := fun q h => Or.inr h
  have hO : ∀ a, sh a ≠ 0 → wA loc sh s.heap.size (loc a) := fun a h => Or.inl ⟨a, h, rfl⟩
  have hS : va_S (wA loc sh s.heap.size) s.heap s.heap [] := va_S.rf
  obtain ⟨ls, hen, hl⟩ := wEntry m [wR loc 1, .int a1, .int a2] 4 (List.forall_mem_cons.mpr ⟨wR_cat _ _, List.forall_mem_cons.mpr ⟨rfl, List.forall_mem_cons.mpr ⟨rfl, fun _ h => absurd h List.not_mem_nil⟩⟩⟩) (Nat.le_of_ble_eq_true rfl)
  rw [hen]
  clear hen
  have hl : lv_has ls 4 [(0, wR loc 1), (1, .int a1), (2, .int a2)] := hl
  have k66 := hts (.fieldLink RX4 66 "CupByCup" "groups" "[LCupByCup$Group;") (List.mem_of_getElem? (i := 1) rfl)
  have iX4 : ∀ w ∈ wsX40, w ∈ wsX4_group := fun w h => List.mem_cons_of_mem _ (List.mem_append_left _ (List.mem_append_right _ h))
  have k151 := hts (.fieldLink RX4 151 "CupByCup$Group" "state" "I") (List.mem_of_getElem? (i := 2) rfl)
  have iX1 : ∀ w ∈ wsX10, w ∈ wsX4_group := fun w h => List.mem_cons_of_mem _ (List.mem_append_right _ h)
  have k152 := hts (.fieldLink RX4 152 "CupByCup$Group" "toGo" "I") (List.mem_of_getElem? (i := 3) rfl)
  have k155 := hts (.fieldLink RX4 155 "CupByCup$Group" "due" "I") (List.mem_of_getElem? (i := 4) rfl)
  have k122 := hts (.fieldLink RX4 122 "CupByCup$Group" "faultLeft" "I") (List.mem_of_getElem? (i := 5) rfl)
  unfold fX4_group at hf
  refine lv_iload_n hx hb dX4_group_0 rfl (lv_at hl 1 rfl) ?_
  refine wald_n hx hb dX4_group_1 rfl (lv_at hl 0 rfl) ?_
  refine wg (C := RX4) (T := TX4) (N := 17) (v := wR loc 2) hx hb hts iX4 hown hKn.1 hH (q := 1) (hB.1 1 5 (by decide)) (by decide) rfl rfl 0 (by decide) k66 rfl dX4_group_2 ?_
  refine wal (kd := 10) (ki := 3) hx hb hKn.1 hH (hB.1 2 10 (by decide)) (by decide) rfl rfl rfl hB.2.2.1 dX4_group_5 ?_
  obtain ⟨r1, h2, hf⟩ := wBd_e hf
  refine wci (va_runS (As := [.int a1, .int (nI ng)]) (rest := []) ⟨hx, hb, hml, hown, hts⟩ (mtX4_isAmong l D K loc sh ln iv rv _ ng a1 (nI ng) h2) (va_cwS 2 hts gX4_group_X4_isAmong rfl rfl rfl (by decide +kernel) ⟨Nat.le_of_ble_eq_true rfl, Nat.le_of_ble_eq_true rfl⟩) (wPreS hKn hH) rfl rfl hl.1 rfl (lv_room (Nat.le_of_ble_eq_true rfl)) dX4_group_6 ⟨Nat.zero_le _, Nat.zero_le _⟩) hS hO hA (fun H locs hH hS => ?_)
  refine lv_if_ne (tgt := 14) hx hb dX4_group_9 (by decide) (fun c3 => ?_) (fun c3 => ?_)
  · have hf := wIf c3 hf
    refine wald_n hx hb dX4_group_14 rfl (lv_at hl 0 rfl) ?_
    refine wg (C := RX4) (T := TX4) (N := 17) (v := wR loc 2) hx hb hts iX4 hown hKn.1 hH (q := 1) (hB.1 1 5 (by decide)) (by decide) rfl rfl 0 (by decide) k66 rfl dX4_group_15 ?_
    refine lv_iload_n hx hb dX4_group_18 rfl (lv_at hl 1 rfl) ?_
    obtain ⟨g4, hf⟩ := wGd_e hf
    refine waa (kd := 10) (ki := 3) hx hb hKn.1 hH (hB.1 2 10 (by decide)) (by decide) rfl rfl hB.2.2.1 g4 dX4_group_19 ?_
    refine wast_n (lv' := [(3, wR loc (rv 2 a1.toNatClampNeg)), (0, wR loc 1), (1, .int a1), (2, .int a2)]) hx hb dX4_group_20 rfl hl (by decide) rfl (fun ls hl => ?_)
    refine lv_iload_n hx hb dX4_group_21 rfl (lv_at hl 3 rfl) ?_
    by_cases c5 : a2 = 0
    · have hf := wIt c5 hf
      refine lv_tableIn (off := 30) (tgt := 52) hx hb dX4_group_22 (by rw [c5]; decide) (by rw [c5]; decide) (by rw [c5]; decide) (by decide) ?_
      refine wald_n hx hb dX4_group_52 rfl (lv_at hl 0 rfl) ?_
      obtain ⟨g6, hf⟩ := wGd_e hf
      refine wg (C := RX1) (T := TX1) (N := 6) (v := .int (iv (rv 2 a1.toNatClampNeg) 1)) hx hb hts iX1 hown hKn.1 hH (q := (rv 2 a1.toNatClampNeg)) g6 (by decide) rfl rfl 1 (by decide) k151 rfl dX4_group_53 ?_
      cases hf
      exact W.iret hx hb hr (fun t ht hW => ⟨⟨_, (), rfl, rfl, by show wH _ _ _ _ _ _ _ t.heap; rw [ht]; exact hH⟩, hS.F ht⟩) hS.2.2 dX4_group_56
    · have hf := wIf c5 hf
      by_cases c7 : a2 = 1
      · have hf := wIt c7 hf
        refine lv_tableIn (off := 35) (tgt := 57) hx hb dX4_group_22 (by rw [c7]; decide) (by rw [c7]; decide) (by rw [c7]; decide) (by decide) ?_
        refine wald_n hx hb dX4_group_57 rfl (lv_at hl 0 rfl) ?_
        obtain ⟨g8, hf⟩ := wGd_e hf
        refine wg (C := RX1) (T := TX1) (N := 6) (v := .int (iv (rv 2 a1.toNatClampNeg) 2)) hx hb hts iX1 hown hKn.1 hH (q := (rv 2 a1.toNatClampNeg)) g8 (by decide) rfl rfl 2 (by decide) k152 rfl dX4_group_58 ?_
        cases hf
        exact W.iret hx hb hr (fun t ht hW => ⟨⟨_, (), rfl, rfl, by show wH _ _ _ _ _ _ _ t.heap; rw [ht]; exact hH⟩, hS.F ht⟩) hS.2.2 dX4_group_61
      · have hf := wIf c7 hf
        by_cases c9 : a2 = 2
        · have hf := wIt c9 hf
          refine lv_tableIn (off := 40) (tgt := 62) hx hb dX4_group_22 (by rw [c9]; decide) (by rw [c9]; decide) (by rw [c9]; decide) (by decide) ?_
          refine wald_n hx hb dX4_group_62 rfl (lv_at hl 0 rfl) ?_
          obtain ⟨g10, hf⟩ := wGd_e hf
          refine wg (C := RX1) (T := TX1) (N := 6) (v := .int (iv (rv 2 a1.toNatClampNeg) 3)) hx hb hts iX1 hown hKn.1 hH (q := (rv 2 a1.toNatClampNeg)) g10 (by decide) rfl rfl 3 (by decide) k155 rfl dX4_group_63 ?_
          cases hf
          exact W.iret hx hb hr (fun t ht hW => ⟨⟨_, (), rfl, rfl, by show wH _ _ _ _ _ _ _ t.heap; rw [ht]; exact hH⟩, hS.F ht⟩) hS.2.2 dX4_group_66
        · have hf := wIf c9 hf
          by_cases c11 : a2 = 3
          · have hf := wIt c11 hf
            refine lv_tableIn (off := 45) (tgt := 67) hx hb dX4_group_22 (by rw [c11]; decide) (by rw [c11]; decide) (by rw [c11]; decide) (by decide) ?_
            refine wald_n hx hb dX4_group_67 rfl (lv_at hl 0 rfl) ?_
            obtain ⟨g12, hf⟩ := wGd_e hf
            refine wg (C := RX1) (T := TX1) (N := 6) (v := .int (iv (rv 2 a1.toNatClampNeg) 4)) hx hb hts iX1 hown hKn.1 hH (q := (rv 2 a1.toNatClampNeg)) g12 (by decide) rfl rfl 4 (by decide) k122 rfl dX4_group_68 ?_
            cases hf
            exact W.iret hx hb hr (fun t ht hW => ⟨⟨_, (), rfl, rfl, by show wH _ _ _ _ _ _ _ t.heap; rw [ht]; exact hH⟩, hS.F ht⟩) hS.2.2 dX4_group_71
          · have hf := wIf c11 hf
            refine lv_tableOut (tgt := 72) hx hb dX4_group_22 (by have q0 := lv_neT (a := 0) c5 (by decide); have q1 := lv_neT (a := 1) c7 (by decide); have q2 := lv_neT (a := 2) c9 (by decide); have q3 := lv_neT (a := 3) c11 (by decide); omega) (by decide) ?_
            refine lv_iconst (v := (-1)) hx hb dX4_group_72 (by decide) ?_
            cases hf
            exact W.iret hx hb hr (fun t ht hW => ⟨⟨_, (), rfl, rfl, by show wH _ _ _ _ _ _ _ t.heap; rw [ht]; exact hH⟩, hS.F ht⟩) hS.2.2 dX4_group_73
  · have hf := wIt c3 hf
    refine lv_iconst (v := (-1)) hx hb dX4_group_12 (by decide) ?_
    cases hf
    exact W.iret hx hb hr (fun t ht hW => ⟨⟨_, (), rfl, rfl, by show wH _ _ _ _ _ _ _ t.heap; rw [ht]; exact hH⟩, hS.F ht⟩) hS.2.2 dX4_group_13
noncomputable def fX4_planWaiting_31 (ng : Nat) (sh : Nat → Nat) : Nat → wI → wJ → Int32 → Option (wI × wJ)
  | 0, _, _, _ => none
  | n + 1, iv, rv, x1 => if (iv 1 4) ≤ x1 then some (iv, rv) else wGd (vp_in x1 100) (wGd (sh (rv 4 x1.toNatClampNeg) = 1) (if (iv (rv 4 x1.toNatClampNeg) 5) = 0 then wB2 (fX2_add ng sh iv rv (rv 4 x1.toNatClampNeg)) (fun (iv10 : wI) (rv11 : wJ) => fX4_planWaiting_31 ng sh n iv10 rv11 (x1 + 1)) else fX4_planWaiting_31 ng sh n iv rv (x1 + 1)))
noncomputable def fX4_planWaiting (ng : Nat) (sh : Nat → Nat) (iv : wI) (rv : wJ) : Option (wI × wJ × Int32) := wGd (vp_in 0 8) (if (iv 5 (0 : Int32).toNatClampNeg) < 1 then some (iv, rv, (0 : Int32)) else if (iv 5 (0 : Int32).toNatClampNeg) ≤ 5 then wBd (fX2_clear ng sh iv rv) (fun (iv4 : wI) => wB2 (fX4_planWaiting_31 ng sh wN iv4 rv 0) (fun (iv13 : wI) (rv14 : wJ) => wB2 (fX2_findBest ng sh iv13 rv14) (fun (iv22 : wI) (rv23 : wJ) => some (iv22, rv23, (1 : Int32))))) else some (iv, rv, (0 : Int32)))
set_option maxHeartbeats 4000000 in
set_option maxRecDepth 100000 in
theorem mtX4_planWaiting (l : Launch) (D : va_G) (K : Nat → ClassId) (loc sh ln : Nat → Nat) (iv : wI) (rv : wJ) (sz : Nat) (ng : Nat) {iv' : wI} {rv' : wJ} {r' : Int32} (hB : wBx ng sh ln) (hf : fX4_planWaiting ng sh iv rv = some (iv', rv', r')) : Met l yX4_planWaiting wsX4_planWaiting ({ frames := 4, cells := 0, slots := 0, locals := 93 }) (wPc D K loc sh ln iv rv sz [wR loc 1]) (wQi D K loc sh ln iv' rv' sz r') 0 0 (wA loc sh sz) := by
  refine Met.ofW (cc := cX4_planWaiting) (maxL := 2) (ret := (some .boolean)) (by decide) rfl ?_
  intro p e s m args below meth c s₁ B hml hv
  obtain ⟨rfl, hsz, hH, hKn⟩ := hv
  have hx := B.exec
  have hb := B.bytes
  have hr := B.returns
  have hts := atoms_spec (ws := wsX4_planWaiting) B.pre
  have hown : s.vm.findClass RX4 = some m.cls := findClass_of_methodNamed B.named
  have hlocks := B.notSynchronized
  subst hsz
  have hA : ∀ q : Nat, s.heap.size ≤ q → wA loc sh s.heap.size q := fun q h => Or.inr h
  have hO : ∀ a, sh a ≠ 0 → wA loc sh s.heap.size (loc a) := fun a h => Or.inl ⟨a, h, rfl⟩
  have hS : va_S (wA loc sh s.heap.size) s.heap s.heap [] := va_S.rf
  obtain ⟨ls, hen, hl⟩ := wEntry m [wR loc 1] 2 (List.forall_mem_cons.mpr ⟨wR_cat _ _, fun _ h => absurd h List.not_mem_nil⟩) (Nat.le_of_ble_eq_true rfl)
  rw [hen]
  clear hen
  have hl : lv_has ls 2 [(0, wR loc 1)] := hl
  have k28 := hts (.fieldLink RX4 28 "CupByCup" "cupsThat" "[I") (List.mem_of_getElem? (i := 1) rfl)
  have iX4 : ∀ w ∈ wsX40, w ∈ wsX4_planWaiting := fun w h => List.mem_cons_of_mem _ (List.mem_append_left _ (List.mem_append_left _ (List.mem_append_left _ (List.mem_append_right _ h))))
  have k76 := hts (.fieldLink RX4 76 "CupByCup" "planner" "LCupByCup$Planner;") (List.mem_of_getElem? (i := 2) rfl)
  have k25 := hts (.fieldLink RX4 25 "CupByCup" "cupCount" "I") (List.mem_of_getElem? (i := 3) rfl)
  have k21 := hts (.fieldLink RX4 21 "CupByCup" "cups" "[LCupByCup$Cup;") (List.mem_of_getElem? (i := 4) rfl)
  have k95 := hts (.fieldLink RX4 95 "CupByCup$Cup" "state" "I") (List.mem_of_getElem? (i := 5) rfl)
  have iX0 : ∀ w ∈ wsX00, w ∈ wsX4_planWaiting := fun w h => List.mem_cons_of_mem _ (List.mem_append_left _ (List.mem_append_left _ (List.mem_append_right _ h)))
  unfold fX4_planWaiting at hf
  refine wald_n hx hb dX4_planWaiting_0 rfl (lv_at hl 0 rfl) ?_
  refine wg (C := RX4) (T := TX4) (N := 17) (v := wR loc 5) hx hb hts iX4 hown hKn.1 hH (q := 1) (hB.1 1 5 (by decide)) (by decide) rfl rfl 5 (by decide) k28 rfl dX4_planWaiting_1 ?_
  refine lv_iconst (v := 0) hx hb dX4_planWaiting_4 (by decide) ?_
  obtain ⟨g1, hf⟩ := wGd_e hf
  refine wia hx hb hKn.1 hH (hB.1 5 7 (by decide)) (hB.2.1 5 _ (by decide)) g1 dX4_planWaiting_5 ?_
  refine lv_iconst (v := 1) hx hb dX4_planWaiting_6 (by decide) ?_
  refine lv_icmp_lt (tgt := 20) hx hb dX4_planWaiting_7 (by decide) (fun c2 => ?_) (fun c2 => ?_)
  · have hf := wIt c2 hf
    refine lv_iconst (v := 0) hx hb dX4_planWaiting_20 (by decide) ?_
    cases hf
    exact W.zret hx hb hr rfl (fun t ht hW => ⟨⟨_, (), rfl, rfl, by show wH _ _ _ _ _ _ _ t.heap; rw [ht]; exact hH⟩, hS.F ht⟩) hS.2.2 dX4_planWaiting_21
  · have hf := wIf c2 hf
    refine wald_n hx hb dX4_planWaiting_10 rfl (lv_at hl 0 rfl) ?_
    refine wg (C := RX4) (T := TX4) (N := 17) (v := wR loc 5) hx hb hts iX4 hown hKn.1 hH (q := 1) (hB.1 1 5 (by decide)) (by decide) rfl rfl 5 (by decide) k28 rfl dX4_planWaiting_11 ?_
    refine lv_iconst (v := 0) hx hb dX4_planWaiting_14 (by decide) ?_
    refine wia hx hb hKn.1 hH (hB.1 5 7 (by decide)) (hB.2.1 5 _ (by decide)) g1 dX4_planWaiting_15 ?_
    refine lv_iconst (v := 5) hx hb dX4_planWaiting_16 (by decide) ?_
    refine lv_icmp_le (tgt := 22) hx hb dX4_planWaiting_17 (by decide) (fun c3 => ?_) (fun c3 => ?_)
    · have hf := wIt c3 hf
      refine wald_n hx hb dX4_planWaiting_22 rfl (lv_at hl 0 rfl) ?_
      refine wg (C := RX4) (T := TX4) (N := 17) (v := wR loc 7) hx hb hts iX4 hown hKn.1 hH (q := 1) (hB.1 1 5 (by decide)) (by decide) rfl rfl 7 (by decide) k76 rfl dX4_planWaiting_23 ?_
      obtain ⟨iv4, h5, hf⟩ := wBd_e hf
      refine wcv (va_runV (As := []) (rest := []) ⟨hx, hb, hml, hown, hts⟩ (mtX2_clear l D K loc sh ln iv rv _ ng hB h5) (cwV 0 hts gX4_planWaiting_X2_clear rfl rfl rfl (by decide +kernel) ⟨Nat.le_of_ble_eq_true rfl, Nat.le_of_ble_eq_true rfl⟩) (wPreV hKn hH (hB.1 7 3 (by decide)) (by decide) rfl rfl) rfl rfl hl.1 rfl (lv_room (Nat.le_of_ble_eq_true rfl)) dX4_planWaiting_26 ⟨Nat.zero_le _, Nat.zero_le _⟩) hS hO hA (fun H locs hH hS => ?_)
      refine lv_iconst (v := 0) hx hb dX4_planWaiting_29 (by decide) ?_
      refine lv_istore_n (lv' := [(1, .int 0), (0, wR loc 1)]) hx hb dX4_planWaiting_30 rfl hl (by decide) rfl (fun ls hl => ?_)
      obtain ⟨iv13, rv14, hL10, hf⟩ := wB2_e hf
      have hk11 : ∀ (H : Heap) (locs : List Loc) (ls : Array Slot), wH D K loc sh ln iv13 rv14 H → va_S (wA loc sh s.heap.size) s.heap H locs → lv_has ls 2 [(0, wR loc 1)] → W p l e (headSpec wsX4_planWaiting ({ frames := 4, cells := 0, slots := 0, locals := 93 })).room s m ([wR loc 1] : List Value).toArray below meth c H locs 0 0 (MQ below (wQi D K loc sh ln iv' rv' s.heap.size r') ([wR loc 1] : List Value).toArray s 0 0 (wA loc sh s.heap.size)) (F0 m 70 ls []) := by
        clear hL10 hl hS hH
        intro H locs ls hH hS hl
        refine wald_n hx hb dX4_planWaiting_70 rfl (lv_at hl 0 rfl) ?_
        refine wg (C := RX4) (T := TX4) (N := 17) (v := wR loc 7) hx hb hts iX4 hown hKn.1 hH (q := 1) (hB.1 1 5 (by decide)) (by decide) rfl rfl 7 (by decide) k76 rfl dX4_planWaiting_71 ?_
        obtain ⟨iv22, rv23, h24, hf⟩ := wB2_e hf
        refine wcv (va_runV (As := []) (rest := []) ⟨hx, hb, hml, hown, hts⟩ (mtX2_findBest l D K loc sh ln iv13 rv14 _ ng hB h24) (cwV 0 hts gX4_planWaiting_X2_findBest rfl rfl rfl (by decide +kernel) ⟨Nat.le_of_ble_eq_true rfl, Nat.le_of_ble_eq_true rfl⟩) (wPreV hKn hH (hB.1 7 3 (by decide)) (by decide) rfl rfl) rfl rfl hl.1 rfl (lv_room (Nat.le_of_ble_eq_true rfl)) dX4_planWaiting_74 ⟨Nat.zero_le _, Nat.zero_le _⟩) hS hO hA (fun H locs hH hS => ?_)
        refine lv_iconst (v := 1) hx hb dX4_planWaiting_77 (by decide) ?_
        cases hf
        exact W.zret hx hb hr rfl (fun t ht hW => ⟨⟨_, (), rfl, rfl, by show wH _ _ _ _ _ _ _ t.heap; rw [ht]; exact hH⟩, hS.F ht⟩) hS.2.2 dX4_planWaiting_78
      have lp12 : ∀ (n6 : Nat) (iv7 : wI) (rv8 : wJ) (x9 : Int32) (H : Heap) (locs : List Loc) (ls : Array Slot), fX4_planWaiting_31 ng sh n6 iv7 rv8 x9 = some (iv13, rv14) → wH D K loc sh ln iv7 rv8 H → va_S (wA loc sh s.heap.size) s.heap H locs → lv_has ls 2 [(0, wR loc 1), (1, .int x9)] → W p l e (headSpec wsX4_planWaiting ({ frames := 4, cells := 0, slots := 0, locals := 93 })).room s m ([wR loc 1] : List Value).toArray below meth c H locs 0 0 (MQ below (wQi D K loc sh ln iv' rv' s.heap.size r') ([wR loc 1] : List Value).toArray s 0 0 (wA loc sh s.heap.size)) (F0 m 31 ls []) := by
        clear hf hl hS hH hL10
        intro n6
        induction n6 with
        | zero => intro iv7 rv8 x9 H locs ls hf; cases hf
        | succ n6 ih =>
          intro iv7 rv8 x9 H locs ls hf hH hS hl
          rw [fX4_planWaiting_31.eq_2] at hf
          refine lv_iload_n hx hb dX4_planWaiting_31 rfl (lv_at hl 1 rfl) ?_
          refine wald_n hx hb dX4_planWaiting_32 rfl (lv_at hl 0 rfl) ?_
          refine wg (C := RX4) (T := TX4) (N := 17) (v := .int (iv7 1 4)) hx hb hts iX4 hown hKn.1 hH (q := 1) (hB.1 1 5 (by decide)) (by decide) rfl rfl 4 (by decide) k25 rfl dX4_planWaiting_33 ?_
          refine lv_icmp_ge (tgt := 70) hx hb dX4_planWaiting_36 (by decide) (fun c15 => ?_) (fun c15 => ?_)
          · have hf := wIt c15 hf
            cases hf
            exact hk11 _ _ _ hH hS (lv_sub hl [0] rfl)
          · have hf := wIf c15 hf
            refine wald_n hx hb dX4_planWaiting_39 rfl (lv_at hl 0 rfl) ?_
            refine wg (C := RX4) (T := TX4) (N := 17) (v := wR loc 4) hx hb hts iX4 hown hKn.1 hH (q := 1) (hB.1 1 5 (by decide)) (by decide) rfl rfl 3 (by decide) k21 rfl dX4_planWaiting_40 ?_
            refine lv_iload_n hx hb dX4_planWaiting_43 rfl (lv_at hl 1 rfl) ?_
            obtain ⟨g16, hf⟩ := wGd_e hf
            refine waa (kd := 9) (ki := 2) hx hb hKn.1 hH (hB.1 4 9 (by decide)) (by decide) rfl rfl (hB.2.1 4 _ (by decide)) g16 dX4_planWaiting_44 ?_
            obtain ⟨g17, hf⟩ := wGd_e hf
            refine wg (C := RX0) (T := TX0) (N := 11) (v := .int (iv7 (rv8 4 x9.toNatClampNeg) 5)) hx hb hts iX0 hown hKn.1 hH (q := (rv8 4 x9.toNatClampNeg)) g17 (by decide) rfl rfl 5 (by decide) k95 rfl dX4_planWaiting_45 ?_
            refine lv_if_ne (tgt := 64) hx hb dX4_planWaiting_48 (by decide) (fun c18 => ?_) (fun c18 => ?_)
            · have hf := wIf c18 hf
              refine lv_iinc (v := (x9 + 1)) (lv' := [(1, .int (x9 + 1)), (0, wR loc 1)]) hx hb dX4_planWaiting_64 hl (k := 1) rfl rfl (by decide) rfl (fun ls hl => ?_)
              refine lv_goto (tgt := 31) hx hb dX4_planWaiting_67 (by decide) ?_
              exact ih _ _ _ _ _ _ hf hH hS (lv_sub hl [1, 0] rfl)
            · have hf := wIt c18 hf
              refine wald_n hx hb dX4_planWaiting_51 rfl (lv_at hl 0 rfl) ?_
              refine wg (C := RX4) (T := TX4) (N := 17) (v := wR loc 7) hx hb hts iX4 hown hKn.1 hH (q := 1) (hB.1 1 5 (by decide)) (by decide) rfl rfl 7 (by decide) k76 rfl dX4_planWaiting_52 ?_
              refine wald_n hx hb dX4_planWaiting_55 rfl (lv_at hl 0 rfl) ?_
              refine wg (C := RX4) (T := TX4) (N := 17) (v := wR loc 4) hx hb hts iX4 hown hKn.1 hH (q := 1) (hB.1 1 5 (by decide)) (by decide) rfl rfl 3 (by decide) k21 rfl dX4_planWaiting_56 ?_
              refine lv_iload_n hx hb dX4_planWaiting_59 rfl (lv_at hl 1 rfl) ?_
              refine waa (kd := 9) (ki := 2) hx hb hKn.1 hH (hB.1 4 9 (by decide)) (by decide) rfl rfl (hB.2.1 4 _ (by decide)) g16 dX4_planWaiting_60 ?_
              obtain ⟨iv19, rv20, h21, hf⟩ := wB2_e hf
              refine wcv (va_runV (As := [wR loc (rv8 4 x9.toNatClampNeg)]) (rest := []) ⟨hx, hb, hml, hown, hts⟩ (mtX2_add l D K loc sh ln iv7 rv8 _ ng (rv8 4 x9.toNatClampNeg) hB h21) (cwV 1 hts gX4_planWaiting_X2_add rfl rfl rfl (by decide +kernel) ⟨Nat.le_of_ble_eq_true rfl, Nat.le_of_ble_eq_true rfl⟩) (wPreV hKn hH (hB.1 7 3 (by decide)) (by decide) rfl rfl) rfl rfl hl.1 rfl (lv_room (Nat.le_of_ble_eq_true rfl)) dX4_planWaiting_61 ⟨Nat.zero_le _, Nat.zero_le _⟩) hS hO hA (fun H locs hH hS => ?_)
              refine lv_iinc (v := (x9 + 1)) (lv' := [(1, .int (x9 + 1)), (0, wR loc 1)]) hx hb dX4_planWaiting_64 hl (k := 1) rfl rfl (by decide) rfl (fun ls hl => ?_)
              refine lv_goto (tgt := 31) hx hb dX4_planWaiting_67 (by decide) ?_
              exact ih _ _ _ _ _ _ hf hH hS (lv_sub hl [1, 0] rfl)
      exact lp12 wN _ _ _ _ _ _ hL10 hH hS (lv_sub hl [1, 0] rfl)
    · have hf := wIf c3 hf
      refine lv_iconst (v := 0) hx hb dX4_planWaiting_20 (by decide) ?_
      cases hf
      exact W.zret hx hb hr rfl (fun t ht hW => ⟨⟨_, (), rfl, rfl, by show wH _ _ _ _ _ _ _ t.heap; rw [ht]; exact hH⟩, hS.F ht⟩) hS.2.2 dX4_planWaiting_21
noncomputable def fX4_best (ng : Nat) (sh : Nat → Nat) (iv : wI) (rv : wJ) (a1 : Int32) : Option (wI × wJ × Int32) := wGd (vp_in 0 8) (wBd (fX4_isAmong a1 (iv 5 (0 : Int32).toNatClampNeg)) (fun (r2 : Int32) => if r2 = 0 then some (iv, rv, ((-1) : Int32)) else wB3 (fX4_planWaiting ng sh iv rv) (fun (iv5 : wI) (rv6 : wJ) (r7 : Int32) => if r7 = 0 then some (iv5, rv6, ((-1) : Int32)) else wBd (fX2_bestAt ng sh iv5 rv6 a1) (fun (r10 : Int32) => some (iv5, rv6, r10)))))
set_option maxHeartbeats 4000000 in
set_option maxRecDepth 100000 in
theorem mtX4_best (l : Launch) (D : va_G) (K : Nat → ClassId) (loc sh ln : Nat → Nat) (iv : wI) (rv : wJ) (sz : Nat) (ng : Nat) (a1 : Int32) {iv' : wI} {rv' : wJ} {r' : Int32} (hB : wBx ng sh ln) (hf : fX4_best ng sh iv rv a1 = some (iv', rv', r')) : Met l yX4_best wsX4_best ({ frames := 5, cells := 0, slots := 0, locals := 114 }) (wPc D K loc sh ln iv rv sz [wR loc 1, .int a1]) (wQi D K loc sh ln iv' rv' sz r') 0 0 (wA loc sh sz) := by
  refine Met.ofW (cc := cX4_best) (maxL := 2) (ret := (some .int)) (by decide) rfl ?_
  intro p e s m args below meth c s₁ B hml hv
  obtain ⟨rfl, hsz, hH, hKn⟩ := hv
  have hx := B.exec
  have hb := B.bytes
  have hr := B.returns
  have hts := atoms_spec (ws := wsX4_best) B.pre
  have hown : s.vm.findClass RX4 = some m.cls := findClass_of_methodNamed B.named
  have hlocks := B.notSynchronized
  subst hsz
  have hA : ∀ q : Nat, s.heap.size ≤ q → wA loc sh s.heap.size q := fun q h => Or.inr h
  have hO : ∀ a, sh a ≠ 0 → wA loc sh s.heap.size (loc a) := fun a h => Or.inl ⟨a, h, rfl⟩
  have hS : va_S (wA loc sh s.heap.size) s.heap s.heap [] := va_S.rf
  obtain ⟨ls, hen, hl⟩ := wEntry m [wR loc 1, .int a1] 2 (List.forall_mem_cons.mpr ⟨wR_cat _ _, List.forall_mem_cons.mpr ⟨rfl, fun _ h => absurd h List.not_mem_nil⟩⟩) (Nat.le_of_ble_eq_true rfl)
  rw [hen]
  clear hen
  have hl : lv_has ls 2 [(0, wR loc 1), (1, .int a1)] := hl
  have k28 := hts (.fieldLink RX4 28 "CupByCup" "cupsThat" "[I") (List.mem_of_getElem? (i := 1) rfl)
  have iX4 : ∀ w ∈ wsX40, w ∈ wsX4_best := fun w h => List.mem_cons_of_mem _ (List.mem_append_left _ (List.mem_append_left _ (List.mem_append_left _ (List.mem_append_right _ h))))
  have k76 := hts (.fieldLink RX4 76 "CupByCup" "planner" "LCupByCup$Planner;") (List.mem_of_getElem? (i := 2) rfl)
  unfold fX4_best at hf
  refine lv_iload_n hx hb dX4_best_0 rfl (lv_at hl 1 rfl) ?_
  refine wald_n hx hb dX4_best_1 rfl (lv_at hl 0 rfl) ?_
  refine wg (C := RX4) (T := TX4) (N := 17) (v := wR loc 5) hx hb hts iX4 hown hKn.1 hH (q := 1) (hB.1 1 5 (by decide)) (by decide) rfl rfl 5 (by decide) k28 rfl dX4_best_2 ?_
  refine lv_iconst (v := 0) hx hb dX4_best_5 (by decide) ?_
  obtain ⟨g1, hf⟩ := wGd_e hf
  refine wia hx hb hKn.1 hH (hB.1 5 7 (by decide)) (hB.2.1 5 _ (by decide)) g1 dX4_best_6 ?_
  obtain ⟨r2, h3, hf⟩ := wBd_e hf
  refine wci (va_runS (As := [.int a1, .int (iv 5 (0 : Int32).toNatClampNeg)]) (rest := []) ⟨hx, hb, hml, hown, hts⟩ (mtX4_isAmong l D K loc sh ln iv rv _ ng a1 (iv 5 (0 : Int32).toNatClampNeg) h3) (va_cwS 2 hts gX4_best_X4_isAmong rfl rfl rfl (by decide +kernel) ⟨Nat.le_of_ble_eq_true rfl, Nat.le_of_ble_eq_true rfl⟩) (wPreS hKn hH) rfl rfl hl.1 rfl (lv_room (Nat.le_of_ble_eq_true rfl)) dX4_best_7 ⟨Nat.zero_le _, Nat.zero_le _⟩) hS hO hA (fun H locs hH hS => ?_)
  refine lv_if_eq (tgt := 20) hx hb dX4_best_10 (by decide) (fun c4 => ?_) (fun c4 => ?_)
  · have hf := wIt c4 hf
    refine lv_iconst (v := (-1)) hx hb dX4_best_20 (by decide) ?_
    cases hf
    exact W.iret hx hb hr (fun t ht hW => ⟨⟨_, (), rfl, rfl, by show wH _ _ _ _ _ _ _ t.heap; rw [ht]; exact hH⟩, hS.F ht⟩) hS.2.2 dX4_best_21
  · have hf := wIf c4 hf
    refine wald_n hx hb dX4_best_13 rfl (lv_at hl 0 rfl) ?_
    obtain ⟨iv5, rv6, r7, h8, hf⟩ := wB3_e hf
    refine wci (va_runV (As := []) (rest := []) ⟨hx, hb, hml, hown, hts⟩ (mtX4_planWaiting l D K loc sh ln iv rv _ ng hB h8) (cwV 0 hts gX4_best_X4_planWaiting rfl rfl rfl (by decide +kernel) ⟨Nat.le_of_ble_eq_true rfl, Nat.le_of_ble_eq_true rfl⟩) (wPreV hKn hH (hB.1 1 5 (by decide)) (by decide) rfl rfl) rfl rfl hl.1 rfl (lv_room (Nat.le_of_ble_eq_true rfl)) dX4_best_14 ⟨Nat.zero_le _, Nat.zero_le _⟩) hS hO hA (fun H locs hH hS => ?_)
    refine lv_if_ne (tgt := 22) hx hb dX4_best_17 (by decide) (fun c9 => ?_) (fun c9 => ?_)
    · have hf := wIf c9 hf
      refine wald_n hx hb dX4_best_22 rfl (lv_at hl 0 rfl) ?_
      refine wg (C := RX4) (T := TX4) (N := 17) (v := wR loc 7) hx hb hts iX4 hown hKn.1 hH (q := 1) (hB.1 1 5 (by decide)) (by decide) rfl rfl 7 (by decide) k76 rfl dX4_best_23 ?_
      refine lv_iload_n hx hb dX4_best_26 rfl (lv_at hl 1 rfl) ?_
      obtain ⟨r10, h11, hf⟩ := wBd_e hf
      refine wci (va_runV (As := [.int a1]) (rest := []) ⟨hx, hb, hml, hown, hts⟩ (mtX2_bestAt l D K loc sh ln iv5 rv6 _ ng a1 hB h11) (cwV 1 hts gX4_best_X2_bestAt rfl rfl rfl (by decide +kernel) ⟨Nat.le_of_ble_eq_true rfl, Nat.le_of_ble_eq_true rfl⟩) (wPreV hKn hH (hB.1 7 3 (by decide)) (by decide) rfl rfl) rfl rfl hl.1 rfl (lv_room (Nat.le_of_ble_eq_true rfl)) dX4_best_27 ⟨Nat.zero_le _, Nat.zero_le _⟩) hS hO hA (fun H locs hH hS => ?_)
      cases hf
      exact W.iret hx hb hr (fun t ht hW => ⟨⟨_, (), rfl, rfl, by show wH _ _ _ _ _ _ _ t.heap; rw [ht]; exact hH⟩, hS.F ht⟩) hS.2.2 dX4_best_30
    · have hf := wIt c9 hf
      refine lv_iconst (v := (-1)) hx hb dX4_best_20 (by decide) ?_
      cases hf
      exact W.iret hx hb hr (fun t ht hW => ⟨⟨_, (), rfl, rfl, by show wH _ _ _ _ _ _ _ t.heap; rw [ht]; exact hH⟩, hS.F ht⟩) hS.2.2 dX4_best_21
noncomputable def fX4_sum (ng : Nat) (sh : Nat → Nat) (iv : wI) (rv : wJ) : Option (wI × wJ × Int32) := wB3 (fX4_planWaiting ng sh iv rv) (fun (iv1 : wI) (rv2 : wJ) (r3 : Int32) => if r3 = 0 then some (iv1, rv2, ((-1) : Int32)) else some (iv1, rv2, (iv1 7 6)))
set_option maxHeartbeats 4000000 in
set_option maxRecDepth 100000 in
theorem mtX4_sum (l : Launch) (D : va_G) (K : Nat → ClassId) (loc sh ln : Nat → Nat) (iv : wI) (rv : wJ) (sz : Nat) (ng : Nat) {iv' : wI} {rv' : wJ} {r' : Int32} (hB : wBx ng sh ln) (hf : fX4_sum ng sh iv rv = some (iv', rv', r')) : Met l yX4_sum wsX4_sum ({ frames := 5, cells := 0, slots := 0, locals := 114 }) (wPc D K loc sh ln iv rv sz [wR loc 1]) (wQi D K loc sh ln iv' rv' sz r') 0 0 (wA loc sh sz) := by
  refine Met.ofW (cc := cX4_sum) (maxL := 1) (ret := (some .int)) (by decide) rfl ?_
  intro p e s m args below meth c s₁ B hml hv
  obtain ⟨rfl, hsz, hH, hKn⟩ := hv
  have hx := B.exec
  have hb := B.bytes
  have hr := B.returns
  have hts := atoms_spec (ws := wsX4_sum) B.pre
  have hown : s.vm.findClass RX4 = some m.cls := findClass_of_methodNamed B.named
  have hlocks := B.notSynchronized
  subst hsz
  have hA : ∀ q : Nat, s.heap.size ≤ q → wA loc sh s.heap.size q := fun q h => Or.inr h
  have hO : ∀ a, sh a ≠ 0 → wA loc sh s.heap.size (loc a) := fun a h => Or.inl ⟨a, h, rfl⟩
  have hS : va_S (wA loc sh s.heap.size) s.heap s.heap [] := va_S.rf
  obtain ⟨ls, hen, hl⟩ := wEntry m [wR loc 1] 1 (List.forall_mem_cons.mpr ⟨wR_cat _ _, fun _ h => absurd h List.not_mem_nil⟩) (Nat.le_of_ble_eq_true rfl)
  rw [hen]
  clear hen
  have hl : lv_has ls 1 [(0, wR loc 1)] := hl
  have k76 := hts (.fieldLink RX4 76 "CupByCup" "planner" "LCupByCup$Planner;") (List.mem_of_getElem? (i := 1) rfl)
  have iX4 : ∀ w ∈ wsX40, w ∈ wsX4_sum := fun w h => List.mem_cons_of_mem _ (List.mem_append_left _ (List.mem_append_left _ (List.mem_append_left _ (List.mem_append_right _ h))))
  have k166 := hts (.fieldLink RX4 166 "CupByCup$Planner" "bestSum" "I") (List.mem_of_getElem? (i := 2) rfl)
  have iX2 : ∀ w ∈ wsX20, w ∈ wsX4_sum := fun w h => List.mem_cons_of_mem _ (List.mem_append_left _ (List.mem_append_left _ (List.mem_append_right _ h)))
  unfold fX4_sum at hf
  refine wald_n hx hb dX4_sum_0 rfl (lv_at hl 0 rfl) ?_
  obtain ⟨iv1, rv2, r3, h4, hf⟩ := wB3_e hf
  refine wci (va_runV (As := []) (rest := []) ⟨hx, hb, hml, hown, hts⟩ (mtX4_planWaiting l D K loc sh ln iv rv _ ng hB h4) (cwV 0 hts gX4_sum_X4_planWaiting rfl rfl rfl (by decide +kernel) ⟨Nat.le_of_ble_eq_true rfl, Nat.le_of_ble_eq_true rfl⟩) (wPreV hKn hH (hB.1 1 5 (by decide)) (by decide) rfl rfl) rfl rfl hl.1 rfl (lv_room (Nat.le_of_ble_eq_true rfl)) dX4_sum_1 ⟨Nat.zero_le _, Nat.zero_le _⟩) hS hO hA (fun H locs hH hS => ?_)
  refine lv_if_eq (tgt := 17) hx hb dX4_sum_4 (by decide) (fun c5 => ?_) (fun c5 => ?_)
  · have hf := wIt c5 hf
    refine lv_iconst (v := (-1)) hx hb dX4_sum_17 (by decide) ?_
    cases hf
    exact W.iret hx hb hr (fun t ht hW => ⟨⟨_, (), rfl, rfl, by show wH _ _ _ _ _ _ _ t.heap; rw [ht]; exact hH⟩, hS.F ht⟩) hS.2.2 dX4_sum_18
  · have hf := wIf c5 hf
    refine wald_n hx hb dX4_sum_7 rfl (lv_at hl 0 rfl) ?_
    refine wg (C := RX4) (T := TX4) (N := 17) (v := wR loc 7) hx hb hts iX4 hown hKn.1 hH (q := 1) (hB.1 1 5 (by decide)) (by decide) rfl rfl 7 (by decide) k76 rfl dX4_sum_8 ?_
    refine wg (C := RX2) (T := TX2) (N := 7) (v := .int (iv1 7 6)) hx hb hts iX2 hown hKn.1 hH (q := 7) (hB.1 7 3 (by decide)) (by decide) rfl rfl 6 (by decide) k166 rfl dX4_sum_11 ?_
    refine lv_goto (tgt := 18) hx hb dX4_sum_14 (by decide) ?_
    cases hf
    exact W.iret hx hb hr (fun t ht hW => ⟨⟨_, (), rfl, rfl, by show wH _ _ _ _ _ _ _ t.heap; rw [ht]; exact hH⟩, hS.F ht⟩) hS.2.2 dX4_sum_18
noncomputable def fX4_count (ng : Nat) (sh : Nat → Nat) (iv : wI) (rv : wJ) (a1 : Int32) : Option (Int32) := if a1 = 0 then some (iv 1 12) else if a1 = 1 then some (iv 1 11) else if a1 = 2 then wBd (fX4_powerThatGoes ng sh iv rv) (fun (r4 : Int32) => some r4) else if a1 = 3 then some (iv 1 4) else if a1 = 4 then wGd (vp_in 6 8) (some (iv 5 (6 : Int32).toNatClampNeg)) else if a1 = 5 then wGd (vp_in 0 8) (some (iv 5 (0 : Int32).toNatClampNeg)) else if a1 = 6 then wGd (vp_in 0 3) (some (iv 6 (0 : Int32).toNatClampNeg)) else if a1 = 7 then wGd (vp_in 1 3) (some (iv 6 (1 : Int32).toNatClampNeg)) else if a1 = 8 then wGd (vp_in 2 3) (some (iv 6 (2 : Int32).toNatClampNeg)) else if a1 = 9 then some (iv 1 14) else if a1 = 10 then some (iv 1 15) else if a1 = 11 then some (iv 1 13) else if a1 = 12 then some (iv 1 16) else some ((-1) : Int32)
set_option maxHeartbeats 4000000 in
set_option maxRecDepth 100000 in
theorem mtX4_count (l : Launch) (D : va_G) (K : Nat → ClassId) (loc sh ln : Nat → Nat) (iv : wI) (rv : wJ) (sz : Nat) (ng : Nat) (a1 : Int32) {r' : Int32} (hB : wBx ng sh ln) (hf : fX4_count ng sh iv rv a1 = some r') : Met l yX4_count wsX4_count ({ frames := 1, cells := 0, slots := 0, locals := 25 }) (wPc D K loc sh ln iv rv sz [wR loc 1, .int a1]) (wQi D K loc sh ln iv rv sz r') 0 0 (wA loc sh sz) := by
  refine Met.ofW (cc := cX4_count) (maxL := 2) (ret := (some .int)) (by decide) rfl ?_
  intro p e s m args below meth c s₁ B hml hv
  obtain ⟨rfl, hsz, hH, hKn⟩ := hv
  have hx := B.exec
  have hb := B.bytes
  have hr := B.returns
  have hts := atoms_spec (ws := wsX4_count) B.pre
  have hown : s.vm.findClass RX4 = some m.cls := findClass_of_methodNamed B.named
  have hlocks := B.notSynchronized
  subst hsz
  have hA : ∀ q : Nat, s.heap.size ≤ q → wA loc sh s.heap.size q := fun q h => Or.inr h
  have hO : ∀ a, sh a ≠ 0 → wA loc sh s.heap.size (loc a) := fun a h => Or.inl ⟨a, h, rfl⟩
  have hS : va_S (wA loc sh s.heap.size) s.heap s.heap [] := va_S.rf
  obtain ⟨ls, hen, hl⟩ := wEntry m [wR loc 1, .int a1] 2 (List.forall_mem_cons.mpr ⟨wR_cat _ _, List.forall_mem_cons.mpr ⟨rfl, fun _ h => absurd h List.not_mem_nil⟩⟩) (Nat.le_of_ble_eq_true rfl)
  rw [hen]
  clear hen
  have hl : lv_has ls 2 [(0, wR loc 1), (1, .int a1)] := hl
  have k45 := hts (.fieldLink RX4 45 "CupByCup" "now" "I") (List.mem_of_getElem? (i := 1) rfl)
  have iX4 : ∀ w ∈ wsX40, w ∈ wsX4_count := fun w h => List.mem_cons_of_mem _ (List.mem_append_left _ (List.mem_append_right _ h))
  have k42 := hts (.fieldLink RX4 42 "CupByCup" "heat" "I") (List.mem_of_getElem? (i := 2) rfl)
  have k25 := hts (.fieldLink RX4 25 "CupByCup" "cupCount" "I") (List.mem_of_getElem? (i := 3) rfl)
  have k28 := hts (.fieldLink RX4 28 "CupByCup" "cupsThat" "[I") (List.mem_of_getElem? (i := 4) rfl)
  have k32 := hts (.fieldLink RX4 32 "CupByCup" "stores" "[I") (List.mem_of_getElem? (i := 5) rfl)
  have k51 := hts (.fieldLink RX4 51 "CupByCup" "beansSpoilt" "I") (List.mem_of_getElem? (i := 6) rfl)
  have k54 := hts (.fieldLink RX4 54 "CupByCup" "rinsesDone" "I") (List.mem_of_getElem? (i := 7) rfl)
  have k48 := hts (.fieldLink RX4 48 "CupByCup" "setting" "I") (List.mem_of_getElem? (i := 8) rfl)
  have k57 := hts (.fieldLink RX4 57 "CupByCup" "longest" "I") (List.mem_of_getElem? (i := 9) rfl)
  unfold fX4_count at hf
  refine lv_iload_n hx hb dX4_count_0 rfl (lv_at hl 1 rfl) ?_
  by_cases c1 : a1 = 0
  · have hf := wIt c1 hf
    refine lv_tableIn (off := 67) (tgt := 68) hx hb dX4_count_1 (by rw [c1]; decide) (by rw [c1]; decide) (by rw [c1]; decide) (by decide) ?_
    refine wald_n hx hb dX4_count_68 rfl (lv_at hl 0 rfl) ?_
    refine wg (C := RX4) (T := TX4) (N := 17) (v := .int (iv 1 12)) hx hb hts iX4 hown hKn.1 hH (q := 1) (hB.1 1 5 (by decide)) (by decide) rfl rfl 12 (by decide) k45 rfl dX4_count_69 ?_
    cases hf
    exact W.iret hx hb hr (fun t ht hW => ⟨⟨_, (), rfl, rfl, by show wH _ _ _ _ _ _ _ t.heap; rw [ht]; exact hH⟩, hS.F ht⟩) hS.2.2 dX4_count_72
  · have hf := wIf c1 hf
    by_cases c2 : a1 = 1
    · have hf := wIt c2 hf
      refine lv_tableIn (off := 72) (tgt := 73) hx hb dX4_count_1 (by rw [c2]; decide) (by rw [c2]; decide) (by rw [c2]; decide) (by decide) ?_
      refine wald_n hx hb dX4_count_73 rfl (lv_at hl 0 rfl) ?_
      refine wg (C := RX4) (T := TX4) (N := 17) (v := .int (iv 1 11)) hx hb hts iX4 hown hKn.1 hH (q := 1) (hB.1 1 5 (by decide)) (by decide) rfl rfl 11 (by decide) k42 rfl dX4_count_74 ?_
      cases hf
      exact W.iret hx hb hr (fun t ht hW => ⟨⟨_, (), rfl, rfl, by show wH _ _ _ _ _ _ _ t.heap; rw [ht]; exact hH⟩, hS.F ht⟩) hS.2.2 dX4_count_77
    · have hf := wIf c2 hf
      by_cases c3 : a1 = 2
      · have hf := wIt c3 hf
        refine lv_tableIn (off := 77) (tgt := 78) hx hb dX4_count_1 (by rw [c3]; decide) (by rw [c3]; decide) (by rw [c3]; decide) (by decide) ?_
        refine wald_n hx hb dX4_count_78 rfl (lv_at hl 0 rfl) ?_
        obtain ⟨r4, h5, hf⟩ := wBd_e hf
        refine wci (va_runV (As := []) (rest := []) ⟨hx, hb, hml, hown, hts⟩ (mtX4_powerThatGoes l D K loc sh ln iv rv _ ng hB h5) (cwV 0 hts gX4_count_X4_powerThatGoes rfl rfl rfl (by decide +kernel) ⟨Nat.le_of_ble_eq_true rfl, Nat.le_of_ble_eq_true rfl⟩) (wPreV hKn hH (hB.1 1 5 (by decide)) (by decide) rfl rfl) rfl rfl hl.1 rfl (lv_room (Nat.le_of_ble_eq_true rfl)) dX4_count_79 ⟨Nat.zero_le _, Nat.zero_le _⟩) hS hO hA (fun H locs hH hS => ?_)
        cases hf
        exact W.iret hx hb hr (fun t ht hW => ⟨⟨_, (), rfl, rfl, by show wH _ _ _ _ _ _ _ t.heap; rw [ht]; exact hH⟩, hS.F ht⟩) hS.2.2 dX4_count_82
      · have hf := wIf c3 hf
        by_cases c6 : a1 = 3
        · have hf := wIt c6 hf
          refine lv_tableIn (off := 82) (tgt := 83) hx hb dX4_count_1 (by rw [c6]; decide) (by rw [c6]; decide) (by rw [c6]; decide) (by decide) ?_
          refine wald_n hx hb dX4_count_83 rfl (lv_at hl 0 rfl) ?_
          refine wg (C := RX4) (T := TX4) (N := 17) (v := .int (iv 1 4)) hx hb hts iX4 hown hKn.1 hH (q := 1) (hB.1 1 5 (by decide)) (by decide) rfl rfl 4 (by decide) k25 rfl dX4_count_84 ?_
          cases hf
          exact W.iret hx hb hr (fun t ht hW => ⟨⟨_, (), rfl, rfl, by show wH _ _ _ _ _ _ _ t.heap; rw [ht]; exact hH⟩, hS.F ht⟩) hS.2.2 dX4_count_87
        · have hf := wIf c6 hf
          by_cases c7 : a1 = 4
          · have hf := wIt c7 hf
            refine lv_tableIn (off := 87) (tgt := 88) hx hb dX4_count_1 (by rw [c7]; decide) (by rw [c7]; decide) (by rw [c7]; decide) (by decide) ?_
            refine wald_n hx hb dX4_count_88 rfl (lv_at hl 0 rfl) ?_
            refine wg (C := RX4) (T := TX4) (N := 17) (v := wR loc 5) hx hb hts iX4 hown hKn.1 hH (q := 1) (hB.1 1 5 (by decide)) (by decide) rfl rfl 5 (by decide) k28 rfl dX4_count_89 ?_
            refine lv_bipush (v := 6) hx hb dX4_count_92 (by decide) ?_
            obtain ⟨g8, hf⟩ := wGd_e hf
            refine wia hx hb hKn.1 hH (hB.1 5 7 (by decide)) (hB.2.1 5 _ (by decide)) g8 dX4_count_94 ?_
            cases hf
            exact W.iret hx hb hr (fun t ht hW => ⟨⟨_, (), rfl, rfl, by show wH _ _ _ _ _ _ _ t.heap; rw [ht]; exact hH⟩, hS.F ht⟩) hS.2.2 dX4_count_95
          · have hf := wIf c7 hf
            by_cases c9 : a1 = 5
            · have hf := wIt c9 hf
              refine lv_tableIn (off := 95) (tgt := 96) hx hb dX4_count_1 (by rw [c9]; decide) (by rw [c9]; decide) (by rw [c9]; decide) (by decide) ?_
              refine wald_n hx hb dX4_count_96 rfl (lv_at hl 0 rfl) ?_
              refine wg (C := RX4) (T := TX4) (N := 17) (v := wR loc 5) hx hb hts iX4 hown hKn.1 hH (q := 1) (hB.1 1 5 (by decide)) (by decide) rfl rfl 5 (by decide) k28 rfl dX4_count_97 ?_
              refine lv_iconst (v := 0) hx hb dX4_count_100 (by decide) ?_
              obtain ⟨g10, hf⟩ := wGd_e hf
              refine wia hx hb hKn.1 hH (hB.1 5 7 (by decide)) (hB.2.1 5 _ (by decide)) g10 dX4_count_101 ?_
              cases hf
              exact W.iret hx hb hr (fun t ht hW => ⟨⟨_, (), rfl, rfl, by show wH _ _ _ _ _ _ _ t.heap; rw [ht]; exact hH⟩, hS.F ht⟩) hS.2.2 dX4_count_102
            · have hf := wIf c9 hf
              by_cases c11 : a1 = 6
              · have hf := wIt c11 hf
                refine lv_tableIn (off := 102) (tgt := 103) hx hb dX4_count_1 (by rw [c11]; decide) (by rw [c11]; decide) (by rw [c11]; decide) (by decide) ?_
                refine wald_n hx hb dX4_count_103 rfl (lv_at hl 0 rfl) ?_
                refine wg (C := RX4) (T := TX4) (N := 17) (v := wR loc 6) hx hb hts iX4 hown hKn.1 hH (q := 1) (hB.1 1 5 (by decide)) (by decide) rfl rfl 6 (by decide) k32 rfl dX4_count_104 ?_
                refine lv_iconst (v := 0) hx hb dX4_count_107 (by decide) ?_
                obtain ⟨g12, hf⟩ := wGd_e hf
                refine wia hx hb hKn.1 hH (hB.1 6 7 (by decide)) (hB.2.1 6 _ (by decide)) g12 dX4_count_108 ?_
                cases hf
                exact W.iret hx hb hr (fun t ht hW => ⟨⟨_, (), rfl, rfl, by show wH _ _ _ _ _ _ _ t.heap; rw [ht]; exact hH⟩, hS.F ht⟩) hS.2.2 dX4_count_109
              · have hf := wIf c11 hf
                by_cases c13 : a1 = 7
                · have hf := wIt c13 hf
                  refine lv_tableIn (off := 109) (tgt := 110) hx hb dX4_count_1 (by rw [c13]; decide) (by rw [c13]; decide) (by rw [c13]; decide) (by decide) ?_
                  refine wald_n hx hb dX4_count_110 rfl (lv_at hl 0 rfl) ?_
                  refine wg (C := RX4) (T := TX4) (N := 17) (v := wR loc 6) hx hb hts iX4 hown hKn.1 hH (q := 1) (hB.1 1 5 (by decide)) (by decide) rfl rfl 6 (by decide) k32 rfl dX4_count_111 ?_
                  refine lv_iconst (v := 1) hx hb dX4_count_114 (by decide) ?_
                  obtain ⟨g14, hf⟩ := wGd_e hf
                  refine wia hx hb hKn.1 hH (hB.1 6 7 (by decide)) (hB.2.1 6 _ (by decide)) g14 dX4_count_115 ?_
                  cases hf
                  exact W.iret hx hb hr (fun t ht hW => ⟨⟨_, (), rfl, rfl, by show wH _ _ _ _ _ _ _ t.heap; rw [ht]; exact hH⟩, hS.F ht⟩) hS.2.2 dX4_count_116
                · have hf := wIf c13 hf
                  by_cases c15 : a1 = 8
                  · have hf := wIt c15 hf
                    refine lv_tableIn (off := 116) (tgt := 117) hx hb dX4_count_1 (by rw [c15]; decide) (by rw [c15]; decide) (by rw [c15]; decide) (by decide) ?_
                    refine wald_n hx hb dX4_count_117 rfl (lv_at hl 0 rfl) ?_
                    refine wg (C := RX4) (T := TX4) (N := 17) (v := wR loc 6) hx hb hts iX4 hown hKn.1 hH (q := 1) (hB.1 1 5 (by decide)) (by decide) rfl rfl 6 (by decide) k32 rfl dX4_count_118 ?_
                    refine lv_iconst (v := 2) hx hb dX4_count_121 (by decide) ?_
                    obtain ⟨g16, hf⟩ := wGd_e hf
                    refine wia hx hb hKn.1 hH (hB.1 6 7 (by decide)) (hB.2.1 6 _ (by decide)) g16 dX4_count_122 ?_
                    cases hf
                    exact W.iret hx hb hr (fun t ht hW => ⟨⟨_, (), rfl, rfl, by show wH _ _ _ _ _ _ _ t.heap; rw [ht]; exact hH⟩, hS.F ht⟩) hS.2.2 dX4_count_123
                  · have hf := wIf c15 hf
                    by_cases c17 : a1 = 9
                    · have hf := wIt c17 hf
                      refine lv_tableIn (off := 123) (tgt := 124) hx hb dX4_count_1 (by rw [c17]; decide) (by rw [c17]; decide) (by rw [c17]; decide) (by decide) ?_
                      refine wald_n hx hb dX4_count_124 rfl (lv_at hl 0 rfl) ?_
                      refine wg (C := RX4) (T := TX4) (N := 17) (v := .int (iv 1 14)) hx hb hts iX4 hown hKn.1 hH (q := 1) (hB.1 1 5 (by decide)) (by decide) rfl rfl 14 (by decide) k51 rfl dX4_count_125 ?_
                      cases hf
                      exact W.iret hx hb hr (fun t ht hW => ⟨⟨_, (), rfl, rfl, by show wH _ _ _ _ _ _ _ t.heap; rw [ht]; exact hH⟩, hS.F ht⟩) hS.2.2 dX4_count_128
                    · have hf := wIf c17 hf
                      by_cases c18 : a1 = 10
                      · have hf := wIt c18 hf
                        refine lv_tableIn (off := 128) (tgt := 129) hx hb dX4_count_1 (by rw [c18]; decide) (by rw [c18]; decide) (by rw [c18]; decide) (by decide) ?_
                        refine wald_n hx hb dX4_count_129 rfl (lv_at hl 0 rfl) ?_
                        refine wg (C := RX4) (T := TX4) (N := 17) (v := .int (iv 1 15)) hx hb hts iX4 hown hKn.1 hH (q := 1) (hB.1 1 5 (by decide)) (by decide) rfl rfl 15 (by decide) k54 rfl dX4_count_130 ?_
                        cases hf
                        exact W.iret hx hb hr (fun t ht hW => ⟨⟨_, (), rfl, rfl, by show wH _ _ _ _ _ _ _ t.heap; rw [ht]; exact hH⟩, hS.F ht⟩) hS.2.2 dX4_count_133
                      · have hf := wIf c18 hf
                        by_cases c19 : a1 = 11
                        · have hf := wIt c19 hf
                          refine lv_tableIn (off := 133) (tgt := 134) hx hb dX4_count_1 (by rw [c19]; decide) (by rw [c19]; decide) (by rw [c19]; decide) (by decide) ?_
                          refine wald_n hx hb dX4_count_134 rfl (lv_at hl 0 rfl) ?_
                          refine wg (C := RX4) (T := TX4) (N := 17) (v := .int (iv 1 13)) hx hb hts iX4 hown hKn.1 hH (q := 1) (hB.1 1 5 (by decide)) (by decide) rfl rfl 13 (by decide) k48 rfl dX4_count_135 ?_
                          cases hf
                          exact W.iret hx hb hr (fun t ht hW => ⟨⟨_, (), rfl, rfl, by show wH _ _ _ _ _ _ _ t.heap; rw [ht]; exact hH⟩, hS.F ht⟩) hS.2.2 dX4_count_138
                        · have hf := wIf c19 hf
                          by_cases c20 : a1 = 12
                          · have hf := wIt c20 hf
                            refine lv_tableIn (off := 138) (tgt := 139) hx hb dX4_count_1 (by rw [c20]; decide) (by rw [c20]; decide) (by rw [c20]; decide) (by decide) ?_
                            refine wald_n hx hb dX4_count_139 rfl (lv_at hl 0 rfl) ?_
                            refine wg (C := RX4) (T := TX4) (N := 17) (v := .int (iv 1 16)) hx hb hts iX4 hown hKn.1 hH (q := 1) (hB.1 1 5 (by decide)) (by decide) rfl rfl 16 (by decide) k57 rfl dX4_count_140 ?_
                            cases hf
                            exact W.iret hx hb hr (fun t ht hW => ⟨⟨_, (), rfl, rfl, by show wH _ _ _ _ _ _ _ t.heap; rw [ht]; exact hH⟩, hS.F ht⟩) hS.2.2 dX4_count_143
                          · have hf := wIf c20 hf
                            refine lv_tableOut (tgt := 144) hx hb dX4_count_1 (by have q0 := lv_neT (a := 0) c1 (by decide); have q1 := lv_neT (a := 1) c2 (by decide); have q2 := lv_neT (a := 2) c3 (by decide); have q3 := lv_neT (a := 3) c6 (by decide); have q4 := lv_neT (a := 4) c7 (by decide); have q5 := lv_neT (a := 5) c9 (by decide); have q6 := lv_neT (a := 6) c11 (by decide); have q7 := lv_neT (a := 7) c13 (by decide); have q8 := lv_neT (a := 8) c15 (by decide); have q9 := lv_neT (a := 9) c17 (by decide); have q10 := lv_neT (a := 10) c18 (by decide); have q11 := lv_neT (a := 11) c19 (by decide); have q12 := lv_neT (a := 12) c20 (by decide); omega) (by decide) ?_
                            refine lv_iconst (v := (-1)) hx hb dX4_count_144 (by decide) ?_
                            cases hf
                            exact W.iret hx hb hr (fun t ht hW => ⟨⟨_, (), rfl, rfl, by show wH _ _ _ _ _ _ _ t.heap; rw [ht]; exact hH⟩, hS.F ht⟩) hS.2.2 dX4_count_145
