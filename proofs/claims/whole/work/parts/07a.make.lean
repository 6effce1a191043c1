noncomputable def fX2_init  (sh : (Nat → Nat)) (ln : (Nat → Nat)) (iv : wI) (rv : wJ) (a1 : Int32) : Option ((Nat → Nat) × (Nat → Nat) × wI × wJ) := wGd (sh 7 = 12) (wGd (wFr sh rv 8) (wLt (va_up sh 8 9) (fun (sh3 : Nat → Nat) => wLt (va_up ln 8 (5 : Int32).toNatClampNeg) (fun (ln4 : Nat → Nat) => wLt (va_up iv 8 (fun _ => (0 : Int32))) (fun (iv5 : wI) => wLt (va_up rv 8 (fun _ => (0 : Nat))) (fun (rv6 : wJ) => wGd (sh3 7 = 12) (wLt (wV rv6 7 0 8) (fun (rv13 : wJ) => wGd (wFr sh3 rv13 9) (wLt (va_up sh3 9 7) (fun (sh16 : Nat → Nat) => wLt (va_up ln4 9 (5 : Int32).toNatClampNeg) (fun (ln17 : Nat → Nat) => wLt (va_up iv5 9 (fun _ => (0 : Int32))) (fun (iv18 : wI) => wLt (va_up rv13 9 (fun _ => (0 : Nat))) (fun (rv19 : wJ) => wGd (sh16 7 = 12) (wLt (wV rv19 7 1 9) (fun (rv26 : wJ) => wGd (wFr sh16 rv26 10) (wLt (va_up sh16 10 7) (fun (sh29 : Nat → Nat) => wLt (va_up ln17 10 (5 : Int32).toNatClampNeg) (fun (ln30 : Nat → Nat) => wLt (va_up iv18 10 (fun _ => (0 : Int32))) (fun (iv31 : wI) => wLt (va_up rv26 10 (fun _ => (0 : Nat))) (fun (rv32 : wJ) => wGd (sh29 7 = 12) (wLt (wV rv32 7 2 10) (fun (rv39 : wJ) => wGd (wFr sh29 rv39 11) (wLt (va_up sh29 11 8) (fun (sh42 : Nat → Nat) => wLt (va_up ln30 11 (5 : Int32).toNatClampNeg) (fun (ln43 : Nat → Nat) => wLt (va_up iv31 11 (fun _ => (0 : Int32))) (fun (iv44 : wI) => wLt (va_up rv39 11 (fun _ => (0 : Nat))) (fun (rv45 : wJ) => wGd (sh42 7 = 12) (wLt (wV rv45 7 3 11) (fun (rv52 : wJ) => wLt (wU iv44 7 5 0) (fun (iv54 : wI) => wLt (wU iv54 7 6 0) (fun (iv56 : wI) => wGd (vp_in a1 4) (wGd (wFr sh42 rv52 12) (wLt (va_up sh42 12 7) (fun (sh60 : Nat → Nat) => wLt (va_up ln43 12 a1.toNatClampNeg) (fun (ln61 : Nat → Nat) => wLt (va_up iv56 12 (fun _ => (0 : Int32))) (fun (iv62 : wI) => wLt (va_up rv52 12 (fun _ => (0 : Nat))) (fun (rv63 : wJ) => wGd (sh60 7 = 12) (wLt (wV rv63 7 4 12) (fun (rv70 : wJ) => some (sh60, ln61, iv62, rv70))))))))))))))))))))))))))))))))))))))))
set_option maxHeartbeats 4000000 in
set_option maxRecDepth 100000 in
theorem mtX2_init (l : Launch) (D : va_G) (K : Nat → ClassId) (loc sh ln : Nat → Nat) (iv : wI) (rv : wJ) (sz : Nat) (a1 : Int32) {sh' : (Nat → Nat)} {ln' : (Nat → Nat)} {iv' : wI} {rv' : wJ} (hf : fX2_init sh ln iv rv a1 = some (sh', ln', iv', rv')) : Met l yX2_init wsX2_init ({ frames := 1, cells := 5, slots := 23, locals := 20 }) (wPc D K loc sh ln iv rv sz [wR loc 7, .int a1]) (wQnv D K loc sh sh' ln' iv' rv' sz) 5 23 (wA loc sh sz) := by
  refine Met.ofW (cc := cX2_init) (maxL := 2) (ret := none) (by decide) rfl ?_
  intro p e s m args below meth c s₁ B hml hv
  obtain ⟨rfl, hsz, hH, hKn⟩ := hv
  have hx := B.exec
  have hb := B.bytes
  have hr := B.returns
  have hts := atoms_spec (ws := wsX2_init) B.pre
  have hown : s.vm.findClass RX2 = some m.cls := findClass_of_methodNamed B.named
  have hlocks := B.notSynchronized
  subst hsz
  have hA : ∀ q : Nat, s.heap.size ≤ q → wA loc sh s.heap.size q := fun q h => Or.inr h
  have hO : ∀ a, sh a ≠ 0 → wA loc sh s.heap.size (loc a) := fun a h => Or.inl ⟨a, h, rfl⟩
  have hS : va_S (wA loc sh s.heap.size) s.heap s.heap [] := va_S.rf
  obtain ⟨ls, hen, hl⟩ := wEntry m [wR loc 7, .int a1] 2 (List.forall_mem_cons.mpr ⟨wR_cat _ _, List.forall_mem_cons.mpr ⟨rfl, fun _ h => absurd h List.not_mem_nil⟩⟩) (Nat.le_of_ble_eq_true rfl)
  rw [hen]
  clear hen
  have hl : lv_has ls 2 [(0, wR loc 7), (1, .int a1)] := hl
  have hin : meth.name = "<init>" := (name_of_methodNamed B.named B.method).1
  have hkp : ∀ a, sh a ≠ 0 → loc a = loc a ∧ sh a ≠ 0 := fun a h => ⟨rfl, h⟩
  have k11 := hts (.fieldLink RX2 11 "CupByCup$Planner" "order" "[LCupByCup$Cup;") (List.mem_of_getElem? (i := 5) rfl)
  have iX2 : ∀ w ∈ wsX20, w ∈ wsX2_init := fun w h => List.mem_cons_of_mem _ (List.mem_append_right _ h)
  have k17 := hts (.fieldLink RX2 17 "CupByCup$Planner" "best" "[I") (List.mem_of_getElem? (i := 7) rfl)
  have k21 := hts (.fieldLink RX2 21 "CupByCup$Planner" "brewedAt" "[I") (List.mem_of_getElem? (i := 8) rfl)
  have k24 := hts (.fieldLink RX2 24 "CupByCup$Planner" "needsSteam" "[Z") (List.mem_of_getElem? (i := 10) rfl)
  have k28 := hts (.fieldLink RX2 28 "CupByCup$Planner" "size" "I") (List.mem_of_getElem? (i := 11) rfl)
  have k32 := hts (.fieldLink RX2 32 "CupByCup$Planner" "bestSum" "I") (List.mem_of_getElem? (i := 12) rfl)
  have k35 := hts (.fieldLink RX2 35 "CupByCup$Planner" "groupFreeAt" "[I") (List.mem_of_getElem? (i := 13) rfl)
  unfold fX2_init at hf
  refine wald_n hx hb dX2_init_0 rfl (lv_at hl 0 rfl) ?_
  obtain ⟨g1, hq⟩ := wGd_e hf
  clear hf
  revert hq
  intro hf
  refine W.eq (g2 := F0 m 1 ls (.ref (loc 7) :: [])) (by rw [wR_ref (loc := loc) (c := 7) (hH.nz g1 (by decide))]) ?_
  refine W.objInit hx hb hown (hts (.methodLink RX2 3 objectInit) (List.mem_of_getElem? (i := 1) rfl)) (hts (.instanceMethod objectInit) (List.mem_of_getElem? (i := 2) rfl)) (hts (.code objectInit ⟨#[0xb1]⟩ 1 none) (List.mem_of_getElem? (i := 3) rfl)) rfl (by rw [hml]; exact hl.1) rfl dX2_init_1 (Nat.le_of_ble_eq_true rfl) (Nat.le_of_ble_eq_true rfl) ?_
  refine W.eq (g2 := F0 m 4 ls []) rfl ?_
  refine wald_n hx hb dX2_init_4 rfl (lv_at hl 0 rfl) ?_
  refine lv_iconst (v := 5) hx hb dX2_init_5 (by decide) ?_
  obtain ⟨g2, hq⟩ := wGd_e hf
  clear hf
  revert hq
  intro hf
  obtain ⟨sh3, e7, hq⟩ := wLt_e hf
  clear hf
  revert hq
  intro hf
  obtain ⟨ln4, e8, hq⟩ := wLt_e hf
  clear hf
  revert hq
  intro hf
  obtain ⟨iv5, e9, hq⟩ := wLt_e hf
  clear hf
  revert hq
  intro hf
  obtain ⟨rv6, e10, hq⟩ := wLt_e hf
  clear hf
  revert hq
  intro hf
  refine wnqE hx hb hown (hts (.classLink RX2 9 RX0) (List.mem_of_getElem? (i := 4) rfl)) hKn.2.1 hKn.1 hH hO hS hA 8 9 2 g2 (by decide) (fun _ _ => rfl) rfl (M := 5) (by decide) (Nat.le_of_ble_eq_true rfl) (by decide) (by show _ ≤ 5; omega) (by show _ ≤ 23; omega) dX2_init_6 e7 e8 e9 e10 (fun lo11 H hloc hH hO hS => ?_)
  replace hkp := wKpE (kd := 9) hkp g2.2.1 (by decide) hloc e7
  rw [wR_same (hloc 7 (wNe g1 (by decide) g2.2.1))] at hl
  refine W.eq (g2 := F0 m 9 ls [wR lo11 8, wR lo11 7]) (by rw [wR_same (hloc 7 (wNe g1 (by decide) g2.2.1))]) ?_
  obtain ⟨g12, hq⟩ := wGd_e hf
  clear hf
  revert hq
  intro hf
  obtain ⟨rv13, e14, hq⟩ := wLt_e hf
  clear hf
  revert hq
  intro hf
  refine wpF (C := RX2) (T := TX2) (N := 7) (v := wR lo11 8) (ty := tyX2 0) (iv' := iv5) (rv' := rv13) hx hb hts iX2 tyX2 tyX2_ok nmX2 hown hKn.1 hH hO hS (q := 7) g12 (by decide) rfl rfl 0 (by decide) k11 rfl hin rfl (tyX2_ok 0 (by decide)) (wR_nar _ _ _) (wR_fitA _ _ _) (Nat.le_of_ble_eq_true rfl) (by rw [e14, wV_self]; rfl) (fun _ _ => rfl) (fun a ha => by rw [e14]; exact wV_ne a ha) dX2_init_9 (fun H locs hH hS => ?_)
  refine wald_n hx hb dX2_init_12 rfl (lv_at hl 0 rfl) ?_
  refine lv_iconst (v := 5) hx hb dX2_init_13 (by decide) ?_
  obtain ⟨g15, hq⟩ := wGd_e hf
  clear hf
  revert hq
  intro hf
  obtain ⟨sh16, e20, hq⟩ := wLt_e hf
  clear hf
  revert hq
  intro hf
  obtain ⟨ln17, e21, hq⟩ := wLt_e hf
  clear hf
  revert hq
  intro hf
  obtain ⟨iv18, e22, hq⟩ := wLt_e hf
  clear hf
  revert hq
  intro hf
  obtain ⟨rv19, e23, hq⟩ := wLt_e hf
  clear hf
  revert hq
  intro hf
  refine wnaE (atype := .int) (ty := .int) hx hb (hts (.arrayClass .int) (List.mem_of_getElem? (i := 6) rfl)) hKn.1 hH hO hS hA 9 7 0 g15 (by decide) rfl (fun _ _ => rfl) rfl rfl (fun h => h) (M := 5) (by decide) (Nat.le_of_ble_eq_true rfl) (by decide) (by decide) (by show _ ≤ 5; omega) (by show _ ≤ 23; omega) dX2_init_14 e20 e21 e22 e23 (fun lo24 H hloc hH hO hS => ?_)
  replace hkp := wKpE (kd := 7) hkp g15.2.1 (by decide) hloc e20
  rw [wR_same (hloc 7 (wNe g12 (by decide) g15.2.1))] at hl
  refine W.eq (g2 := F0 m 16 ls [wR lo24 9, wR lo24 7]) (by rw [wR_same (hloc 7 (wNe g12 (by decide) g15.2.1))]) ?_
  obtain ⟨g25, hq⟩ := wGd_e hf
  clear hf
  revert hq
  intro hf
  obtain ⟨rv26, e27, hq⟩ := wLt_e hf
  clear hf
  revert hq
  intro hf
  refine wpF (C := RX2) (T := TX2) (N := 7) (v := wR lo24 9) (ty := tyX2 1) (iv' := iv18) (rv' := rv26) hx hb hts iX2 tyX2 tyX2_ok nmX2 hown hKn.1 hH hO hS (q := 7) g25 (by decide) rfl rfl 1 (by decide) k17 rfl hin rfl (tyX2_ok 1 (by decide)) (wR_nar _ _ _) (wR_fitA _ _ _) (Nat.le_of_ble_eq_true rfl) (by rw [e27, wV_self]; rfl) (fun _ _ => rfl) (fun a ha => by rw [e27]; exact wV_ne a ha) dX2_init_16 (fun H locs hH hS => ?_)
  refine wald_n hx hb dX2_init_19 rfl (lv_at hl 0 rfl) ?_
  refine lv_iconst (v := 5) hx hb dX2_init_20 (by decide) ?_
  obtain ⟨g28, hq⟩ := wGd_e hf
  clear hf
  revert hq
  intro hf
  obtain ⟨sh29, e33, hq⟩ := wLt_e hf
  clear hf
  revert hq
  intro hf
  obtain ⟨ln30, e34, hq⟩ := wLt_e hf
  clear hf
  revert hq
  intro hf
  obtain ⟨iv31, e35, hq⟩ := wLt_e hf
  clear hf
  revert hq
  intro hf
  obtain ⟨rv32, e36, hq⟩ := wLt_e hf
  clear hf
  revert hq
  intro hf
  refine wnaE (atype := .int) (ty := .int) hx hb (hts (.arrayClass .int) (List.mem_of_getElem? (i := 6) rfl)) hKn.1 hH hO hS hA 10 7 0 g28 (by decide) rfl (fun _ _ => rfl) rfl rfl (fun h => h) (M := 5) (by decide) (Nat.le_of_ble_eq_true rfl) (by decide) (by decide) (by show _ ≤ 5; omega) (by show _ ≤ 23; omega) dX2_init_21 e33 e34 e35 e36 (fun lo37 H hloc hH hO hS => ?_)
  replace hkp := wKpE (kd := 7) hkp g28.2.1 (by decide) hloc e33
  rw [wR_same (hloc 7 (wNe g25 (by decide) g28.2.1))] at hl
  refine W.eq (g2 := F0 m 23 ls [wR lo37 10, wR lo37 7]) (by rw [wR_same (hloc 7 (wNe g25 (by decide) g28.2.1))]) ?_
  obtain ⟨g38, hq⟩ := wGd_e hf
  clear hf
  revert hq
  intro hf
  obtain ⟨rv39, e40, hq⟩ := wLt_e hf
  clear hf
  revert hq
  intro hf
  refine wpF (C := RX2) (T := TX2) (N := 7) (v := wR lo37 10) (ty := tyX2 2) (iv' := iv31) (rv' := rv39) hx hb hts iX2 tyX2 tyX2_ok nmX2 hown hKn.1 hH hO hS (q := 7) g38 (by decide) rfl rfl 2 (by decide) k21 rfl hin rfl (tyX2_ok 2 (by decide)) (wR_nar _ _ _) (wR_fitA _ _ _) (Nat.le_of_ble_eq_true rfl) (by rw [e40, wV_self]; rfl) (fun _ _ => rfl) (fun a ha => by rw [e40]; exact wV_ne a ha) dX2_init_23 (fun H locs hH hS => ?_)
  refine wald_n hx hb dX2_init_26 rfl (lv_at hl 0 rfl) ?_
  refine lv_iconst (v := 5) hx hb dX2_init_27 (by decide) ?_
  obtain ⟨g41, hq⟩ := wGd_e hf
  clear hf
  revert hq
  intro hf
  obtain ⟨sh42, e46, hq⟩ := wLt_e hf
  clear hf
  revert hq
  intro hf
  obtain ⟨ln43, e47, hq⟩ := wLt_e hf
  clear hf
  revert hq
  intro hf
  obtain ⟨iv44, e48, hq⟩ := wLt_e hf
  clear hf
  revert hq
  intro hf
  obtain ⟨rv45, e49, hq⟩ := wLt_e hf
  clear hf
  revert hq
  intro hf
  refine wnaE (atype := .boolean) (ty := .boolean) hx hb (hts (.arrayClass .boolean) (List.mem_of_getElem? (i := 9) rfl)) hKn.1 hH hO hS hA 11 8 1 g41 (by decide) rfl (fun _ _ => rfl) rfl rfl (fun h => h) (M := 5) (by decide) (Nat.le_of_ble_eq_true rfl) (by decide) (by decide) (by show _ ≤ 5; omega) (by show _ ≤ 23; omega) dX2_init_28 e46 e47 e48 e49 (fun lo50 H hloc hH hO hS => ?_)
  replace hkp := wKpE (kd := 8) hkp g41.2.1 (by decide) hloc e46
  rw [wR_same (hloc 7 (wNe g38 (by decide) g41.2.1))] at hl
  refine W.eq (g2 := F0 m 30 ls [wR lo50 11, wR lo50 7]) (by rw [wR_same (hloc 7 (wNe g38 (by decide) g41.2.1))]) ?_
  obtain ⟨g51, hq⟩ := wGd_e hf
  clear hf
  revert hq
  intro hf
  obtain ⟨rv52, e53, hq⟩ := wLt_e hf
  clear hf
  revert hq
  intro hf
  refine wpF (C := RX2) (T := TX2) (N := 7) (v := wR lo50 11) (ty := tyX2 3) (iv' := iv44) (rv' := rv52) hx hb hts iX2 tyX2 tyX2_ok nmX2 hown hKn.1 hH hO hS (q := 7) g51 (by decide) rfl rfl 3 (by decide) k24 rfl hin rfl (tyX2_ok 3 (by decide)) (wR_nar _ _ _) (wR_fitA _ _ _) (Nat.le_of_ble_eq_true rfl) (by rw [e53, wV_self]; rfl) (fun _ _ => rfl) (fun a ha => by rw [e53]; exact wV_ne a ha) dX2_init_30 (fun H locs hH hS => ?_)
  refine wald_n hx hb dX2_init_33 rfl (lv_at hl 0 rfl) ?_
  refine lv_iconst (v := 0) hx hb dX2_init_34 (by decide) ?_
  obtain ⟨iv54, e55, hq⟩ := wLt_e hf
  clear hf
  revert hq
  intro hf
  refine wp (C := RX2) (T := TX2) (N := 7) (v := .int 0) (ty := tyX2 5) (iv' := iv54) (rv' := rv52) hx hb hts iX2 tyX2 tyX2_ok nmX2 hown hKn.1 hH hO hS (q := 7) g51 (by decide) rfl rfl 5 (by decide) k28 rfl (tyX2_ok 5 (by decide)) rfl rfl (Nat.le_of_ble_eq_true rfl) (by rw [e55, wU_self]; rfl) (fun a ha => by rw [e55]; exact wU_ne a ha) (fun _ _ => rfl) dX2_init_35 (fun H locs hH hS => ?_)
  refine wald_n hx hb dX2_init_38 rfl (lv_at hl 0 rfl) ?_
  refine lv_iconst (v := 0) hx hb dX2_init_39 (by decide) ?_
  obtain ⟨iv56, e57, hq⟩ := wLt_e hf
  clear hf
  revert hq
  intro hf
  refine wp (C := RX2) (T := TX2) (N := 7) (v := .int 0) (ty := tyX2 6) (iv' := iv56) (rv' := rv52) hx hb hts iX2 tyX2 tyX2_ok nmX2 hown hKn.1 hH hO hS (q := 7) g51 (by decide) rfl rfl 6 (by decide) k32 rfl (tyX2_ok 6 (by decide)) rfl rfl (Nat.le_of_ble_eq_true rfl) (by rw [e57, wU_self]; rfl) (fun a ha => by rw [e57]; exact wU_ne a ha) (fun _ _ => rfl) dX2_init_40 (fun H locs hH hS => ?_)
  refine wald_n hx hb dX2_init_43 rfl (lv_at hl 0 rfl) ?_
  refine lv_iload_n hx hb dX2_init_44 rfl (lv_at hl 1 rfl) ?_
  obtain ⟨g59, hq⟩ := wGd_e hf
  clear hf
  revert hq
  intro hf
  obtain ⟨g58, hq⟩ := wGd_e hf
  clear hf
  revert hq
  intro hf
  obtain ⟨sh60, e64, hq⟩ := wLt_e hf
  clear hf
  revert hq
  intro hf
  obtain ⟨ln61, e65, hq⟩ := wLt_e hf
  clear hf
  revert hq
  intro hf
  obtain ⟨iv62, e66, hq⟩ := wLt_e hf
  clear hf
  revert hq
  intro hf
  obtain ⟨rv63, e67, hq⟩ := wLt_e hf
  clear hf
  revert hq
  intro hf
  refine wnaE (atype := .int) (ty := .int) hx hb (hts (.arrayClass .int) (List.mem_of_getElem? (i := 6) rfl)) hKn.1 hH hO hS hA 12 7 0 g58 (by decide) rfl (fun _ _ => rfl) rfl rfl (fun h => h) (M := 3) (fun h => g59 (Or.inl h)) (Nat.le_of_lt_succ (Nat.not_le.mp fun q => g59 (Or.inr q))) (by decide) (by decide) (by show _ ≤ 5; omega) (by show _ ≤ 23; omega) dX2_init_45 e64 e65 e66 e67 (fun lo68 H hloc hH hO hS => ?_)
  replace hkp := wKpE (kd := 7) hkp g58.2.1 (by decide) hloc e64
  rw [wR_same (hloc 7 (wNe g51 (by decide) g58.2.1))] at hl
  refine W.eq (g2 := F0 m 47 ls [wR lo68 12, wR lo68 7]) (by rw [wR_same (hloc 7 (wNe g51 (by decide) g58.2.1))]) ?_
  obtain ⟨g69, hq⟩ := wGd_e hf
  clear hf
  revert hq
  intro hf
  obtain ⟨rv70, e71, hq⟩ := wLt_e hf
  clear hf
  revert hq
  intro hf
  refine wpF (C := RX2) (T := TX2) (N := 7) (v := wR lo68 12) (ty := tyX2 4) (iv' := iv62) (rv' := rv70) hx hb hts iX2 tyX2 tyX2_ok nmX2 hown hKn.1 hH hO hS (q := 7) g69 (by decide) rfl rfl 4 (by decide) k35 rfl hin rfl (tyX2_ok 4 (by decide)) (wR_nar _ _ _) (wR_fitA _ _ _) (Nat.le_of_ble_eq_true rfl) (by rw [e71, wV_self]; rfl) (fun _ _ => rfl) (fun a ha => by rw [e71]; exact wV_ne a ha) dX2_init_47 (fun H locs hH hS => ?_)
  cases hf
  refine W.widen (k := 5) (n := 23) (by omega) (by omega) ?_
  exact W.vret hx hb hr (fun t ht hW => ⟨⟨lo68, rfl, hkp, by show wH _ _ _ _ _ _ _ t.heap; rw [ht]; exact hH, hO⟩, hS.F ht⟩) hS.2.2 dX2_init_50
noncomputable def fX4_readRecipe (nx : Nat) (sh : (Nat → Nat)) (ln : (Nat → Nat)) (iv : wI) (rv : wJ) (a0 : Int32) (a1 : Int32) : Option ((Nat → Nat) × (Nat → Nat) × wI × wJ × Nat) := if a0 < 0 then some (sh, ln, iv, rv, 0) else if a1 < 0 then some (sh, ln, iv, rv, 0) else if (a0 - a0 / 10 * 10) = 0 then wGd (wFr sh rv nx) (wLt (va_up sh nx 4) (fun (sh5 : Nat → Nat) => wLt (va_up ln nx 0) (fun (ln6 : Nat → Nat) => wLt (va_up iv nx (fun _ => (0 : Int32))) (fun (iv7 : wI) => wLt (va_up rv nx (fun _ => (0 : Nat))) (fun (rv8 : wJ) => wBd (fX3_init 0 sh5 iv7 rv8 nx (a0 / 1000000) ((a0 / 100000) - (a0 / 100000) / 10 * 10) ((a0 / 1000) - (a0 / 1000) / 100 * 100) ((a0 / 10) - (a0 / 10) / 100 * 100) (a1 / 1000) (a1 - a1 / 1000 * 1000)) (fun (iv14 : wI) => wBd (fX3_canBe 0 sh5 iv14 rv8 nx) (fun (r16 : Int32) => if r16 = 0 then some (sh5, ln6, iv14, rv8, 0) else some (sh5, ln6, iv14, rv8, nx)))))))) else some (sh, ln, iv, rv, 0)
set_option maxHeartbeats 4000000 in
set_option maxRecDepth 100000 in
theorem mtX4_readRecipe (l : Launch) (D : va_G) (K : Nat → ClassId) (loc sh ln : Nat → Nat) (iv : wI) (rv : wJ) (sz : Nat) (nx : Nat) (a0 : Int32) (a1 : Int32) {sh' : (Nat → Nat)} {ln' : (Nat → Nat)} {iv' : wI} {rv' : wJ} {r' : Nat} (hf : fX4_readRecipe nx sh ln iv rv a0 a1 = some (sh', ln', iv', rv', r')) : Met l yX4_readRecipe wsX4_readRecipe ({ frames := 2, cells := 1, slots := 6, locals := 46 }) (wPc D K loc sh ln iv rv sz [.int a0, .int a1]) (wQnr D K loc sh sh' ln' iv' rv' sz r') 1 6 (wA loc sh sz) := by
  refine Met.ofW (cc := cX4_readRecipe) (maxL := 3) (ret := (some (.object "CupByCup$Recipe"))) (by decide) rfl ?_
  intro p e s m args below meth c s₁ B hml hv
  obtain ⟨rfl, hsz, hH, hKn⟩ := hv
  have hx := B.exec
  have hb := B.bytes
  have hr := B.returns
  have hts := atoms_spec (ws := wsX4_readRecipe) B.pre
  have hown : s.vm.findClass RX4 = some m.cls := findClass_of_methodNamed B.named
  have hlocks := B.notSynchronized
  subst hsz
  have hA : ∀ q : Nat, s.heap.size ≤ q → wA loc sh s.heap.size q := fun q h => Or.inr h
  have hO : ∀ a, sh a ≠ 0 → wA loc sh s.heap.size (loc a) := fun a h => Or.inl ⟨a, h, rfl⟩
  have hS : va_S (wA loc sh s.heap.size) s.heap s.heap [] := va_S.rf
  obtain ⟨ls, hen, hl⟩ := wEntry m [.int a0, .int a1] 3 (List.forall_mem_cons.mpr ⟨rfl, List.forall_mem_cons.mpr ⟨rfl, fun _ h => absurd h List.not_mem_nil⟩⟩) (Nat.le_of_ble_eq_true rfl)
  rw [hen]
  clear hen
  have hl : lv_has ls 3 [(0, .int a0), (1, .int a1)] := hl
  have hkp : ∀ a, sh a ≠ 0 → loc a = loc a ∧ sh a ≠ 0 := fun a h => ⟨rfl, h⟩
  have iX3 : ∀ w ∈ wsX30, w ∈ wsX4_readRecipe := fun w h => List.mem_cons_of_mem _ (List.mem_append_right _ h)
  unfold fX4_readRecipe at hf
  refine lv_iload_n hx hb dX4_readRecipe_0 rfl (lv_at hl 0 rfl) ?_
  refine lv_if_lt (tgt := 15) hx hb dX4_readRecipe_1 (by decide) (fun c1 => ?_) (fun c1 => ?_)
  · replace hf := wIt c1 hf
    refine wnul hx hb loc dX4_readRecipe_15 ?_
    cases hf
    refine W.widen (k := 1) (n := 6) (by omega) (by omega) ?_
    exact W.aret hx hb hr (Or.inl ⟨_, rfl⟩) (wR_or _ _) (fun t ht hW => ⟨⟨_, loc, by rw [wR_rf], ⟨rfl, hkp⟩, by show wH _ _ _ _ _ _ _ t.heap; rw [ht]; exact hH, hO⟩, hS.F ht⟩) hS.2.2 dX4_readRecipe_16
  · replace hf := wIf c1 hf
    refine lv_iload_n hx hb dX4_readRecipe_4 rfl (lv_at hl 1 rfl) ?_
    refine lv_if_lt (tgt := 15) hx hb dX4_readRecipe_5 (by decide) (fun c2 => ?_) (fun c2 => ?_)
    · replace hf := wIt c2 hf
      refine wnul hx hb loc dX4_readRecipe_15 ?_
      cases hf
      refine W.widen (k := 1) (n := 6) (by omega) (by omega) ?_
      exact W.aret hx hb hr (Or.inl ⟨_, rfl⟩) (wR_or _ _) (fun t ht hW => ⟨⟨_, loc, by rw [wR_rf], ⟨rfl, hkp⟩, by show wH _ _ _ _ _ _ _ t.heap; rw [ht]; exact hH, hO⟩, hS.F ht⟩) hS.2.2 dX4_readRecipe_16
    · replace hf := wIf c2 hf
      refine lv_iload_n hx hb dX4_readRecipe_8 rfl (lv_at hl 0 rfl) ?_
      refine lv_bipush (v := 10) hx hb dX4_readRecipe_9 (by decide) ?_
      refine lv_irem hx hb dX4_readRecipe_11 (by decide) ?_
      refine lv_if_eq (tgt := 17) hx hb dX4_readRecipe_12 (by decide) (fun c3 => ?_) (fun c3 => ?_)
      · replace hf := wIt c3 hf
        obtain ⟨g4, hq⟩ := wGd_e hf
        clear hf
        revert hq
        intro hf
        obtain ⟨sh5, e9, hq⟩ := wLt_e hf
        clear hf
        revert hq
        intro hf
        obtain ⟨ln6, e10, hq⟩ := wLt_e hf
        clear hf
        revert hq
        intro hf
        obtain ⟨iv7, e11, hq⟩ := wLt_e hf
        clear hf
        revert hq
        intro hf
        obtain ⟨rv8, e12, hq⟩ := wLt_e hf
        clear hf
        revert hq
        intro hf
        refine wnoE (C := RX3) (T := TX3) (N := 6) (fs := [.int 0, .int 0, .int 0, .int 0, .int 0, .int 0]) hx hb hts iX3 tyX3 tyX3_ok hown (hts (.classLink RX4 9 RX3) (List.mem_of_getElem? (i := 1) rfl)) (hts (.instantiable RX3 6) (List.mem_of_getElem? (i := 2) rfl)) (hts (.initialized RX3) (List.mem_of_getElem? (i := 3) rfl)) hKn.1 hH hO hS hA nx 4 0 g4 (by decide) (fun _ => rfl) rfl (fun j hj => by rcases (show j = 0 ∨ j = 1 ∨ j = 2 ∨ j = 3 ∨ j = 4 ∨ j = 5 by omega) with rfl | rfl | rfl | rfl | rfl | rfl <;> rfl) (by show _ ≤ 1; omega) (by show _ ≤ 6; omega) dX4_readRecipe_17 e9 e10 e11 e12 (fun lo13 H hloc hH hO hS => ?_)
        replace hkp := wKpE (kd := 4) hkp g4.2.1 (by decide) hloc e9
        refine lv_dup hx hb dX4_readRecipe_20 (wR_cat _ _) ?_
        refine lv_iload_n hx hb dX4_readRecipe_21 rfl (lv_at hl 0 rfl) ?_
        refine lv_ldc (v := 1000000) hx hb hown (hts (.constant RX4 182 (1000000)) (List.mem_of_getElem? (i := 4) rfl)) dX4_readRecipe_22 ?_
        refine lv_idiv hx hb dX4_readRecipe_24 (by decide) ?_
        refine lv_iload_n hx hb dX4_readRecipe_25 rfl (lv_at hl 0 rfl) ?_
        refine lv_ldc (v := 100000) hx hb hown (hts (.constant RX4 91 (100000)) (List.mem_of_getElem? (i := 5) rfl)) dX4_readRecipe_26 ?_
        refine lv_idiv hx hb dX4_readRecipe_28 (by decide) ?_
        refine lv_bipush (v := 10) hx hb dX4_readRecipe_29 (by decide) ?_
        refine lv_irem hx hb dX4_readRecipe_31 (by decide) ?_
        refine lv_iload_n hx hb dX4_readRecipe_32 rfl (lv_at hl 0 rfl) ?_
        refine lv_sipush (v := 1000) hx hb dX4_readRecipe_33 (by decide) ?_
        refine lv_idiv hx hb dX4_readRecipe_36 (by decide) ?_
        refine lv_bipush (v := 100) hx hb dX4_readRecipe_37 (by decide) ?_
        refine lv_irem hx hb dX4_readRecipe_39 (by decide) ?_
        refine lv_iload_n hx hb dX4_readRecipe_40 rfl (lv_at hl 0 rfl) ?_
        refine lv_bipush (v := 10) hx hb dX4_readRecipe_41 (by decide) ?_
        refine lv_idiv hx hb dX4_readRecipe_43 (by decide) ?_
        refine lv_bipush (v := 100) hx hb dX4_readRecipe_44 (by decide) ?_
        refine lv_irem hx hb dX4_readRecipe_46 (by decide) ?_
        refine lv_iload_n hx hb dX4_readRecipe_47 rfl (lv_at hl 1 rfl) ?_
        refine lv_sipush (v := 1000) hx hb dX4_readRecipe_48 (by decide) ?_
        refine lv_idiv hx hb dX4_readRecipe_51 (by decide) ?_
        refine lv_iload_n hx hb dX4_readRecipe_52 rfl (lv_at hl 1 rfl) ?_
        refine lv_sipush (v := 1000) hx hb dX4_readRecipe_53 (by decide) ?_
        refine lv_irem hx hb dX4_readRecipe_56 (by decide) ?_
        obtain ⟨iv14, h15, hq⟩ := wBd_e hf
        clear hf
        revert hq
        intro hf
        refine W.eq (g2 := F0 m 57 ls ([.int (a1 - a1 / 1000 * 1000), .int (a1 / 1000), .int ((a0 / 10) - (a0 / 10) / 100 * 100), .int ((a0 / 1000) - (a0 / 1000) / 100 * 100), .int ((a0 / 100000) - (a0 / 100000) / 10 * 10), .int (a0 / 1000000)] ++ .ref (lo13 nx) :: [wR lo13 nx])) (by rw [wR_ref (loc := lo13) (c := nx) (hH.nz (e9 ▸ va_up_self _ _ _) (by decide))]; rfl) ?_
        refine wcv (va_runI (As := [.int (a0 / 1000000), .int ((a0 / 100000) - (a0 / 100000) / 10 * 10), .int ((a0 / 1000) - (a0 / 1000) / 100 * 100), .int ((a0 / 10) - (a0 / 10) / 100 * 100), .int (a1 / 1000), .int (a1 - a1 / 1000 * 1000)]) (rest := [wR lo13 nx]) ⟨hx, hb, hml, hown, hts⟩ (mtX3_init l D K lo13 sh5 ln6 iv7 rv8 _ 0 nx (a0 / 1000000) ((a0 / 100000) - (a0 / 100000) / 10 * 10) ((a0 / 1000) - (a0 / 1000) / 100 * 100) ((a0 / 10) - (a0 / 10) / 100 * 100) (a1 / 1000) (a1 - a1 / 1000 * 1000) (e9 ▸ va_up_self _ _ _) h15) (cwI 6 hts gX4_readRecipe_X3_init rfl rfl rfl (hts (.initialized RX3) (List.mem_of_getElem? (i := 3) rfl)) (hts (.methodLink RX4 183 yX3_init) (List.mem_of_getElem? (i := 6) rfl)) (hts (.instanceMethod yX3_init) (List.mem_of_getElem? (i := 7) rfl)) rfl (by decide +kernel) ⟨Nat.le_of_ble_eq_true rfl, Nat.le_of_ble_eq_true rfl⟩) (wPreI hKn hH (e9 ▸ va_up_self _ _ _) (by decide)) rfl rfl hl.1 rfl (lv_room (by simp [wR_cat, iCat])) dX4_readRecipe_57 ⟨by show _ ≤ 1; omega, by show _ ≤ 6; omega⟩) hS hO hA (fun H locs hH hS => ?_)
        refine wast_n (lv' := [(2, wR lo13 nx), (0, .int a0), (1, .int a1)]) hx hb dX4_readRecipe_60 rfl hl (by decide) rfl (fun ls hl => ?_)
        refine wald_n hx hb dX4_readRecipe_61 rfl (lv_at hl 0 rfl) ?_
        obtain ⟨r16, h17, hq⟩ := wBd_e hf
        clear hf
        revert hq
        intro hf
        refine W.eq (g2 := F0 m 62 ls ([] ++ .ref (lo13 nx) :: [])) (by rw [wR_ref (loc := lo13) (c := nx) (hH.nz (e9 ▸ va_up_self _ _ _) (by decide))]; rfl) ?_
        refine wci (va_runV (As := []) (rest := []) ⟨hx, hb, hml, hown, hts⟩ (mtX3_canBe l D K lo13 sh5 ln6 iv14 rv8 _ 0 nx (e9 ▸ va_up_self _ _ _) h17) (cwV 0 hts gX4_readRecipe_X3_canBe rfl rfl rfl (by decide +kernel) ⟨Nat.le_of_ble_eq_true rfl, Nat.le_of_ble_eq_true rfl⟩) (wPreV hKn hH (e9 ▸ va_up_self _ _ _) (by decide) rfl rfl) rfl rfl hl.1 rfl (lv_room (Nat.le_of_ble_eq_true rfl)) dX4_readRecipe_62 ⟨by show _ ≤ 1; omega, by show _ ≤ 6; omega⟩) hS hO hA (fun H locs hH hS => ?_)
        refine lv_if_eq (tgt := 72) hx hb dX4_readRecipe_65 (by decide) (fun c18 => ?_) (fun c18 => ?_)
        · replace hf := wIt c18 hf
          refine wnul hx hb lo13 dX4_readRecipe_72 ?_
          cases hf
          refine W.widen (k := 1) (n := 6) (by omega) (by omega) ?_
          exact W.aret hx hb hr (Or.inl ⟨_, rfl⟩) (wR_or _ _) (fun t ht hW => ⟨⟨_, lo13, by rw [wR_rf], ⟨rfl, hkp⟩, by show wH _ _ _ _ _ _ _ t.heap; rw [ht]; exact hH, hO⟩, hS.F ht⟩) hS.2.2 dX4_readRecipe_73
        · replace hf := wIf c18 hf
          refine wald_n hx hb dX4_readRecipe_68 rfl (lv_at hl 0 rfl) ?_
          refine lv_goto (tgt := 73) hx hb dX4_readRecipe_69 (by decide) ?_
          cases hf
          refine W.widen (k := 1) (n := 6) (by omega) (by omega) ?_
          exact W.aret hx hb hr (Or.inl ⟨_, rfl⟩) (wR_or _ _) (fun t ht hW => ⟨⟨_, lo13, by rw [wR_rf], ⟨rfl, hkp⟩, by show wH _ _ _ _ _ _ _ t.heap; rw [ht]; exact hH, hO⟩, hS.F ht⟩) hS.2.2 dX4_readRecipe_73
      · replace hf := wIf c3 hf
        refine wnul hx hb loc dX4_readRecipe_15 ?_
        cases hf
        refine W.widen (k := 1) (n := 6) (by omega) (by omega) ?_
        exact W.aret hx hb hr (Or.inl ⟨_, rfl⟩) (wR_or _ _) (fun t ht hW => ⟨⟨_, loc, by rw [wR_rf], ⟨rfl, hkp⟩, by show wH _ _ _ _ _ _ _ t.heap; rw [ht]; exact hH, hO⟩, hS.F ht⟩) hS.2.2 dX4_readRecipe_16
noncomputable def fX4_recipe (nx : Nat) (sh : (Nat → Nat)) (ln : (Nat → Nat)) (iv : wI) (rv : wJ) (a1 : Int32) (a2 : Int32) : Option ((Nat → Nat) × (Nat → Nat) × wI × wJ × Int32) := wGd (sh 1 = 5) (if (iv 1 2) < 8 then wB5 (fX4_readRecipe nx sh ln iv rv a1 a2) (fun (sh3 : (Nat → Nat)) (ln4 : (Nat → Nat)) (iv5 : wI) (rv6 : wJ) (q7 : Nat) => if q7 = 0 then some (sh3, ln4, iv5, rv6, ((-1) : Int32)) else wGd (sh3 1 = 5) (wGd (sh3 3 = 11) (wGd (vp_in (iv5 1 2) (ln4 3)) (wGd (sh3 q7 = 4) (wLt (wV rv6 3 (iv5 1 2).toNatClampNeg q7) (fun (rv15 : wJ) => wLt (wU iv5 1 2 ((iv5 1 2) + 1)) (fun (iv17 : wI) => some (sh3, ln4, iv17, rv15, ((iv17 1 2) - 1))))))))) else some (sh, ln, iv, rv, ((-1) : Int32)))
set_option maxHeartbeats 4000000 in
set_option maxRecDepth 100000 in
theorem mtX4_recipe (l : Launch) (D : va_G) (K : Nat → ClassId) (loc sh ln : Nat → Nat) (iv : wI) (rv : wJ) (sz : Nat) (nx : Nat) (a1 : Int32) (a2 : Int32) {sh' : (Nat → Nat)} {ln' : (Nat → Nat)} {iv' : wI} {rv' : wJ} {r' : Int32} (hf : fX4_recipe nx sh ln iv rv a1 a2 = some (sh', ln', iv', rv', r')) : Met l yX4_recipe wsX4_recipe ({ frames := 3, cells := 1, slots := 6, locals := 68 }) (wPc D K loc sh ln iv rv sz [wR loc 1, .int a1, .int a2]) (wQni D K loc sh sh' ln' iv' rv' sz r') 1 6 (wA loc sh sz) := by
  refine Met.ofW (cc := cX4_recipe) (maxL := 4) (ret := (some .int)) (by decide) rfl ?_
  intro p e s m args below meth c s₁ B hml hv
  obtain ⟨rfl, hsz, hH, hKn⟩ := hv
  have hx := B.exec
  have hb := B.bytes
  have hr := B.returns
  have hts := atoms_spec (ws := wsX4_recipe) B.pre
  have hown : s.vm.findClass RX4 = some m.cls := findClass_of_methodNamed B.named
  have hlocks := B.notSynchronized
  subst hsz
  have hA : ∀ q : Nat, s.heap.size ≤ q → wA loc sh s.heap.size q := fun q h => Or.inr h
  have hO : ∀ a, sh a ≠ 0 → wA loc sh s.heap.size (loc a) := fun a h => Or.inl ⟨a, h, rfl⟩
  have hS : va_S (wA loc sh s.heap.size) s.heap s.heap [] := va_S.rf
  obtain ⟨ls, hen, hl⟩ := wEntry m [wR loc 1, .int a1, .int a2] 4 (List.forall_mem_cons.mpr ⟨wR_cat _ _, List.forall_mem_cons.mpr ⟨rfl, List.forall_mem_cons.mpr ⟨rfl, fun _ h => absurd h List.not_mem_nil⟩⟩⟩) (Nat.le_of_ble_eq_true rfl)
  rw [hen]
  clear hen
  have hl : lv_has ls 4 [(0, wR loc 1), (1, .int a1), (2, .int a2)] := hl
  have hkp : ∀ a, sh a ≠ 0 → loc a = loc a ∧ sh a ≠ 0 := fun a h => ⟨rfl, h⟩
  have k15 := hts (.fieldLink RX4 15 "CupByCup" "recipeCount" "I") (List.mem_of_getElem? (i := 1) rfl)
  have iX4 : ∀ w ∈ wsX40, w ∈ wsX4_recipe := fun w h => List.mem_cons_of_mem _ (List.mem_append_left _ (List.mem_append_right _ h))
  have k11 := hts (.fieldLink RX4 11 "CupByCup" "recipes" "[LCupByCup$Recipe;") (List.mem_of_getElem? (i := 2) rfl)
  unfold fX4_recipe at hf
  refine wald_n hx hb dX4_recipe_0 rfl (lv_at hl 0 rfl) ?_
  obtain ⟨g1, hq⟩ := wGd_e hf
  clear hf
  revert hq
  intro hf
  refine wg (C := RX4) (T := TX4) (N := 17) (v := .int (iv 1 2)) hx hb hts iX4 hown hKn.1 hH (q := 1) g1 (by decide) rfl rfl 2 (by decide) k15 rfl dX4_recipe_1 ?_
  refine lv_bipush (v := 8) hx hb dX4_recipe_4 (by decide) ?_
  refine lv_icmp_lt (tgt := 11) hx hb dX4_recipe_6 (by decide) (fun c2 => ?_) (fun c2 => ?_)
  · replace hf := wIt c2 hf
    refine lv_iload_n hx hb dX4_recipe_11 rfl (lv_at hl 1 rfl) ?_
    refine lv_iload_n hx hb dX4_recipe_12 rfl (lv_at hl 2 rfl) ?_
    obtain ⟨sh3, ln4, iv5, rv6, q7, h8, hq⟩ := wB5_e hf
    clear hf
    revert hq
    intro hf
    refine wcnr (va_runS (As := [.int a1, .int a2]) (rest := []) ⟨hx, hb, hml, hown, hts⟩ (mtX4_readRecipe l D K loc sh ln iv rv _ nx a1 a2 h8) (va_cwS 2 hts gX4_recipe_X4_readRecipe rfl rfl rfl (by decide +kernel) ⟨Nat.le_of_ble_eq_true rfl, Nat.le_of_ble_eq_true rfl⟩) (wPreS hKn hH) rfl rfl hl.1 rfl (lv_room (Nat.le_of_ble_eq_true rfl)) dX4_recipe_13 ⟨by show _ ≤ 1; omega, by show _ ≤ 6; omega⟩) hS hO hA (fun lo9 H locs hloc hH hO hS => ?_)
    replace hkp := wKq hkp hloc
    rw [wR_same (hloc 1 (wNz g1 (by decide))).1] at hl
    refine wast_n (lv' := [(3, wR lo9 q7), (0, wR lo9 1), (1, .int a1), (2, .int a2)]) hx hb dX4_recipe_16 rfl hl (by decide) rfl (fun ls hl => ?_)
    refine wald_n hx hb dX4_recipe_17 rfl (lv_at hl 0 rfl) ?_
    refine wifnon (tgt := 23) hx hb dX4_recipe_18 (by decide) (fun c10 => ?_) (fun c10 => ?_)
    · replace hf := wIf c10 hf
      refine wald_n hx hb dX4_recipe_23 rfl (lv_at hl 1 rfl) ?_
      obtain ⟨g11, hq⟩ := wGd_e hf
      clear hf
      revert hq
      intro hf
      refine wg (C := RX4) (T := TX4) (N := 17) (v := wR lo9 3) hx hb hts iX4 hown hKn.1 hH (q := 1) g11 (by decide) rfl rfl 1 (by decide) k11 rfl dX4_recipe_24 ?_
      refine wald_n hx hb dX4_recipe_27 rfl (lv_at hl 1 rfl) ?_
      refine wg (C := RX4) (T := TX4) (N := 17) (v := .int (iv5 1 2)) hx hb hts iX4 hown hKn.1 hH (q := 1) g11 (by decide) rfl rfl 2 (by decide) k15 rfl dX4_recipe_28 ?_
      refine wald_n hx hb dX4_recipe_31 rfl (lv_at hl 0 rfl) ?_
      obtain ⟨g12, hq⟩ := wGd_e hf
      clear hf
      revert hq
      intro hf
      obtain ⟨g13, hq⟩ := wGd_e hf
      clear hf
      revert hq
      intro hf
      obtain ⟨g14, hq⟩ := wGd_e hf
      clear hf
      revert hq
      intro hf
      obtain ⟨rv15, e16, hq⟩ := wLt_e hf
      clear hf
      revert hq
      intro hf
      refine was (kd := 11) (ki := 4) (kv := 4) hx hb hKn.1 hH hO hS g12 (by decide) (fun _ => rfl) rfl rfl g14 (by decide) rfl rfl g13 dX4_recipe_32 (fun H locs hH hS => ?_)
      rw [← e16] at hH
      refine wald_n hx hb dX4_recipe_33 rfl (lv_at hl 1 rfl) ?_
      refine lv_dup hx hb dX4_recipe_34 (wR_cat _ _) ?_
      refine wg (C := RX4) (T := TX4) (N := 17) (v := .int (iv5 1 2)) hx hb hts iX4 hown hKn.1 hH (q := 1) g11 (by decide) rfl rfl 2 (by decide) k15 rfl dX4_recipe_35 ?_
      refine lv_iconst (v := 1) hx hb dX4_recipe_38 (by decide) ?_
      refine lv_iadd hx hb dX4_recipe_39 ?_
      obtain ⟨iv17, e18, hq⟩ := wLt_e hf
      clear hf
      revert hq
      intro hf
      refine wp (C := RX4) (T := TX4) (N := 17) (v := .int ((iv5 1 2) + 1)) (ty := tyX4 2) (iv' := iv17) (rv' := rv15) hx hb hts iX4 tyX4 tyX4_ok nmX4 hown hKn.1 hH hO hS (q := 1) g11 (by decide) rfl rfl 2 (by decide) k15 rfl (tyX4_ok 2 (by decide)) rfl rfl (Nat.le_of_ble_eq_true rfl) (by rw [e18, wU_self]; rfl) (fun a ha => by rw [e18]; exact wU_ne a ha) (fun _ _ => rfl) dX4_recipe_40 (fun H locs hH hS => ?_)
      refine wald_n hx hb dX4_recipe_43 rfl (lv_at hl 1 rfl) ?_
      refine wg (C := RX4) (T := TX4) (N := 17) (v := .int (iv17 1 2)) hx hb hts iX4 hown hKn.1 hH (q := 1) g11 (by decide) rfl rfl 2 (by decide) k15 rfl dX4_recipe_44 ?_
      refine lv_iconst (v := 1) hx hb dX4_recipe_47 (by decide) ?_
      refine lv_isub hx hb dX4_recipe_48 ?_
      cases hf
      refine W.widen (k := 1) (n := 6) (by omega) (by omega) ?_
      exact W.iret hx hb hr (fun t ht hW => ⟨⟨_, lo9, rfl, ⟨rfl, hkp⟩, by show wH _ _ _ _ _ _ _ t.heap; rw [ht]; exact hH, hO⟩, hS.F ht⟩) hS.2.2 dX4_recipe_49
    · replace hf := wIt c10 hf
      refine lv_iconst (v := (-1)) hx hb dX4_recipe_21 (by decide) ?_
      cases hf
      refine W.widen (k := 1) (n := 6) (by omega) (by omega) ?_
      exact W.iret hx hb hr (fun t ht hW => ⟨⟨_, lo9, rfl, ⟨rfl, hkp⟩, by show wH _ _ _ _ _ _ _ t.heap; rw [ht]; exact hH, hO⟩, hS.F ht⟩) hS.2.2 dX4_recipe_22
  · replace hf := wIf c2 hf
    refine lv_iconst (v := (-1)) hx hb dX4_recipe_9 (by decide) ?_
    cases hf
    refine W.widen (k := 1) (n := 6) (by omega) (by omega) ?_
    exact W.iret hx hb hr (fun t ht hW => ⟨⟨_, loc, rfl, ⟨rfl, hkp⟩, by show wH _ _ _ _ _ _ _ t.heap; rw [ht]; exact hH, hO⟩, hS.F ht⟩) hS.2.2 dX4_recipe_10
noncomputable def fX4_alter (nx : Nat) (sh : (Nat → Nat)) (ln : (Nat → Nat)) (iv : wI) (rv : wJ) (a1 : Int32) (a2 : Int32) (a3 : Int32) : Option ((Nat → Nat) × (Nat → Nat) × wI × wJ × Int32) := wGd (sh 1 = 5) (wBd (fX4_isAmong a1 (iv 1 2)) (fun (r2 : Int32) => if r2 = 0 then some (sh, ln, iv, rv, (0 : Int32)) else wB5 (fX4_readRecipe nx sh ln iv rv a2 a3) (fun (sh5 : (Nat → Nat)) (ln6 : (Nat → Nat)) (iv7 : wI) (rv8 : wJ) (q9 : Nat) => if q9 = 0 then some (sh5, ln6, iv7, rv8, (0 : Int32)) else wGd (sh5 1 = 5) (wGd (sh5 3 = 11) (wGd (vp_in a1 (ln6 3)) (wGd (sh5 q9 = 4) (wLt (wV rv8 3 a1.toNatClampNeg q9) (fun (rv17 : wJ) => some (sh5, ln6, iv7, rv17, (1 : Int32))))))))))
set_option maxHeartbeats 4000000 in
set_option maxRecDepth 100000 in
theorem mtX4_alter (l : Launch) (D : va_G) (K : Nat → ClassId) (loc sh ln : Nat → Nat) (iv : wI) (rv : wJ) (sz : Nat) (nx : Nat) (a1 : Int32) (a2 : Int32) (a3 : Int32) {sh' : (Nat → Nat)} {ln' : (Nat → Nat)} {iv' : wI} {rv' : wJ} {r' : Int32} (hf : fX4_alter nx sh ln iv rv a1 a2 a3 = some (sh', ln', iv', rv', r')) : Met l yX4_alter wsX4_alter ({ frames := 3, cells := 1, slots := 6, locals := 68 }) (wPc D K loc sh ln iv rv sz [wR loc 1, .int a1, .int a2, .int a3]) (wQni D K loc sh sh' ln' iv' rv' sz r') 1 6 (wA loc sh sz) := by
  refine Met.ofW (cc := cX4_alter) (maxL := 5) (ret := (some .boolean)) (by decide) rfl ?_
  intro p e s m args below meth c s₁ B hml hv
  obtain ⟨rfl, hsz, hH, hKn⟩ := hv
  have hx := B.exec
  have hb := B.bytes
  have hr := B.returns
  have hts := atoms_spec (ws := wsX4_alter) B.pre
  have hown : s.vm.findClass RX4 = some m.cls := findClass_of_methodNamed B.named
  have hlocks := B.notSynchronized
  subst hsz
  have hA : ∀ q : Nat, s.heap.size ≤ q → wA loc sh s.heap.size q := fun q h => Or.inr h
  have hO : ∀ a, sh a ≠ 0 → wA loc sh s.heap.size (loc a) := fun a h => Or.inl ⟨a, h, rfl⟩
  have hS : va_S (wA loc sh s.heap.size) s.heap s.heap [] := va_S.rf
  obtain ⟨ls, hen, hl⟩ := wEntry m [wR loc 1, .int a1, .int a2, .int a3] 5 (List.forall_mem_cons.mpr ⟨wR_cat _ _, List.forall_mem_cons.mpr ⟨rfl, List.forall_mem_cons.mpr ⟨rfl, List.forall_mem_cons.mpr ⟨rfl, fun _ h => absurd h List.not_mem_nil⟩⟩⟩⟩) (Nat.le_of_ble_eq_true rfl)
  rw [hen]
  clear hen
  have hl : lv_has ls 5 [(0, wR loc 1), (1, .int a1), (2, .int a2), (3, .int a3)] := hl
  have hkp : ∀ a, sh a ≠ 0 → loc a = loc a ∧ sh a ≠ 0 := fun a h => ⟨rfl, h⟩
  have k15 := hts (.fieldLink RX4 15 "CupByCup" "recipeCount" "I") (List.mem_of_getElem? (i := 1) rfl)
  have iX4 : ∀ w ∈ wsX40, w ∈ wsX4_alter := fun w h => List.mem_cons_of_mem _ (List.mem_append_left _ (List.mem_append_right _ h))
  have k11 := hts (.fieldLink RX4 11 "CupByCup" "recipes" "[LCupByCup$Recipe;") (List.mem_of_getElem? (i := 2) rfl)
  unfold fX4_alter at hf
  refine lv_iload_n hx hb dX4_alter_0 rfl (lv_at hl 1 rfl) ?_
  refine wald_n hx hb dX4_alter_1 rfl (lv_at hl 0 rfl) ?_
  obtain ⟨g1, hq⟩ := wGd_e hf
  clear hf
  revert hq
  intro hf
  refine wg (C := RX4) (T := TX4) (N := 17) (v := .int (iv 1 2)) hx hb hts iX4 hown hKn.1 hH (q := 1) g1 (by decide) rfl rfl 2 (by decide) k15 rfl dX4_alter_2 ?_
  obtain ⟨r2, h3, hq⟩ := wBd_e hf
  clear hf
  revert hq
  intro hf
  refine wci (va_runS (As := [.int a1, .int (iv 1 2)]) (rest := []) ⟨hx, hb, hml, hown, hts⟩ (mtX4_isAmong l D K loc sh ln iv rv _ 0 a1 (iv 1 2) h3) (va_cwS 2 hts gX4_alter_X4_isAmong rfl rfl rfl (by decide +kernel) ⟨Nat.le_of_ble_eq_true rfl, Nat.le_of_ble_eq_true rfl⟩) (wPreS hKn hH) rfl rfl hl.1 rfl (lv_room (Nat.le_of_ble_eq_true rfl)) dX4_alter_5 ⟨by show _ ≤ 1; omega, by show _ ≤ 6; omega⟩) hS hO hA (fun H locs hH hS => ?_)
  refine lv_if_ne (tgt := 13) hx hb dX4_alter_8 (by decide) (fun c4 => ?_) (fun c4 => ?_)
  · replace hf := wIf c4 hf
    refine lv_iload_n hx hb dX4_alter_13 rfl (lv_at hl 2 rfl) ?_
    refine lv_iload_n hx hb dX4_alter_14 rfl (lv_at hl 3 rfl) ?_
    obtain ⟨sh5, ln6, iv7, rv8, q9, h10, hq⟩ := wB5_e hf
    clear hf
    revert hq
    intro hf
    refine wcnr (va_runS (As := [.int a2, .int a3]) (rest := []) ⟨hx, hb, hml, hown, hts⟩ (mtX4_readRecipe l D K loc sh ln iv rv _ nx a2 a3 h10) (va_cwS 2 hts gX4_alter_X4_readRecipe rfl rfl rfl (by decide +kernel) ⟨Nat.le_of_ble_eq_true rfl, Nat.le_of_ble_eq_true rfl⟩) (wPreS hKn hH) rfl rfl hl.1 rfl (lv_room (Nat.le_of_ble_eq_true rfl)) dX4_alter_15 ⟨by show _ ≤ 1; omega, by show _ ≤ 6; omega⟩) hS hO hA (fun lo11 H locs hloc hH hO hS => ?_)
    replace hkp := wKq hkp hloc
    rw [wR_same (hloc 1 (wNz g1 (by decide))).1] at hl
    refine wast (lv' := [(4, wR lo11 q9), (0, wR lo11 1), (1, .int a1), (2, .int a2), (3, .int a3)]) hx hb dX4_alter_18 hl (by decide) rfl (fun ls hl => ?_)
    refine wald hx hb dX4_alter_20 (lv_at hl 0 rfl) ?_
    refine wifnon (tgt := 27) hx hb dX4_alter_22 (by decide) (fun c12 => ?_) (fun c12 => ?_)
    · replace hf := wIf c12 hf
      refine wald_n hx hb dX4_alter_27 rfl (lv_at hl 1 rfl) ?_
      obtain ⟨g13, hq⟩ := wGd_e hf
      clear hf
      revert hq
      intro hf
      refine wg (C := RX4) (T := TX4) (N := 17) (v := wR lo11 3) hx hb hts iX4 hown hKn.1 hH (q := 1) g13 (by decide) rfl rfl 1 (by decide) k11 rfl dX4_alter_28 ?_
      refine lv_iload_n hx hb dX4_alter_31 rfl (lv_at hl 2 rfl) ?_
      refine wald hx hb dX4_alter_32 (lv_at hl 0 rfl) ?_
      obtain ⟨g14, hq⟩ := wGd_e hf
      clear hf
      revert hq
      intro hf
      obtain ⟨g15, hq⟩ := wGd_e hf
      clear hf
      revert hq
      intro hf
      obtain ⟨g16, hq⟩ := wGd_e hf
      clear hf
      revert hq
      intro hf
      obtain ⟨rv17, e18, hq⟩ := wLt_e hf
      clear hf
      revert hq
      intro hf
      refine was (kd := 11) (ki := 4) (kv := 4) hx hb hKn.1 hH hO hS g14 (by decide) (fun _ => rfl) rfl rfl g16 (by decide) rfl rfl g15 dX4_alter_34 (fun H locs hH hS => ?_)
      rw [← e18] at hH
      refine lv_iconst (v := 1) hx hb dX4_alter_35 (by decide) ?_
      cases hf
      refine W.widen (k := 1) (n := 6) (by omega) (by omega) ?_
      exact W.zret hx hb hr rfl (fun t ht hW => ⟨⟨_, lo11, rfl, ⟨rfl, hkp⟩, by show wH _ _ _ _ _ _ _ t.heap; rw [ht]; exact hH, hO⟩, hS.F ht⟩) hS.2.2 dX4_alter_36
    · replace hf := wIt c12 hf
      refine lv_iconst (v := 0) hx hb dX4_alter_25 (by decide) ?_
      cases hf
      refine W.widen (k := 1) (n := 6) (by omega) (by omega) ?_
      exact W.zret hx hb hr rfl (fun t ht hW => ⟨⟨_, lo11, rfl, ⟨rfl, hkp⟩, by show wH _ _ _ _ _ _ _ t.heap; rw [ht]; exact hH, hO⟩, hS.F ht⟩) hS.2.2 dX4_alter_26
  · replace hf := wIt c4 hf
    refine lv_iconst (v := 0) hx hb dX4_alter_11 (by decide) ?_
    cases hf
    refine W.widen (k := 1) (n := 6) (by omega) (by omega) ?_
    exact W.zret hx hb hr rfl (fun t ht hW => ⟨⟨_, loc, rfl, ⟨rfl, hkp⟩, by show wH _ _ _ _ _ _ _ t.heap; rw [ht]; exact hH, hO⟩, hS.F ht⟩) hS.2.2 dX4_alter_12
noncomputable def fX4_order_54  : Nat → (Nat → Nat) → (Nat → Nat) → wI → wJ → Int32 → Int32 → Int32 → Int32 → Int32 → Option ((Nat → Nat) × (Nat → Nat) × wI × wJ)
  | 0, _, _, _, _, _, _, _, _, _ => none
  | n + 1, sh, ln, iv, rv, x1, x2, x3, x4, x5 => if x2 ≤ x5 then some (sh, ln, iv, rv) else wGd (sh 1 = 5) (wGd (sh 4 = 9) (wGd (wFr sh rv ((x4 + x5).toNatClampNeg + 100)) (wLt (va_up sh ((x4 + x5).toNatClampNeg + 100) 1) (fun (sh15 : Nat → Nat) => wLt (va_up ln ((x4 + x5).toNatClampNeg + 100) 0) (fun (ln16 : Nat → Nat) => wLt (va_up iv ((x4 + x5).toNatClampNeg + 100) (fun _ => (0 : Int32))) (fun (iv17 : wI) => wLt (va_up rv ((x4 + x5).toNatClampNeg + 100) (fun _ => (0 : Nat))) (fun (rv18 : wJ) => wGd (sh15 1 = 5) (wGd (sh15 3 = 11) (wGd (vp_in x1 (ln16 3)) (wB2 (fX0_init 0 sh15 iv17 rv18 ((x4 + x5).toNatClampNeg + 100) (x4 + x5) (rv18 3 x1.toNatClampNeg) x4 x3 (iv17 1 12)) (fun (iv27 : wI) (rv28 : wJ) => wGd (sh15 4 = 9) (wGd (vp_in (x4 + x5) (ln16 4)) (wLt (wV rv28 4 (x4 + x5).toNatClampNeg ((x4 + x5).toNatClampNeg + 100)) (fun (rv32 : wJ) => fX4_order_54 n sh15 ln16 iv27 rv32 x1 x2 x3 x4 (x5 + 1)))))))))))))))
noncomputable def fX4_order  (sh : (Nat → Nat)) (ln : (Nat → Nat)) (iv : wI) (rv : wJ) (a1 : Int32) (a2 : Int32) (a3 : Int32) : Option ((Nat → Nat) × (Nat → Nat) × wI × wJ × Int32) := wGd (sh 1 = 5) (wBd (fX4_isAmong a1 (iv 1 2)) (fun (r2 : Int32) => if r2 = 0 then some (sh, ln, iv, rv, ((-1) : Int32)) else wBd (fX4_isAmong a3 2) (fun (r5 : Int32) => if r5 = 0 then some (sh, ln, iv, rv, ((-1) : Int32)) else if a2 < 1 then some (sh, ln, iv, rv, ((-1) : Int32)) else if 6 < a2 then some (sh, ln, iv, rv, ((-1) : Int32)) else if a2 ≤ (100 - (iv 1 4)) then wB4 (fX4_order_54 7 sh ln iv rv a1 a2 a3 (iv 1 4) 0) (fun (sh21 : (Nat → Nat)) (ln22 : (Nat → Nat)) (iv23 : wI) (rv24 : wJ) => wGd (sh21 1 = 5) (wLt (wU iv23 1 4 ((iv23 1 4) + a2)) (fun (iv50 : wI) => wGd (sh21 5 = 7) (wGd (vp_in 0 (ln22 5)) (wLt (wU iv50 5 (0 : Int32).toNatClampNeg ((iv50 5 (0 : Int32).toNatClampNeg) + a2)) (fun (iv54 : wI) => some (sh21, ln22, iv54, rv24, (iv 1 4)))))))) else some (sh, ln, iv, rv, ((-1) : Int32)))))
set_option maxHeartbeats 4000000 in
set_option maxRecDepth 100000 in
theorem mtX4_order (l : Launch) (D : va_G) (K : Nat → ClassId) (loc sh ln : Nat → Nat) (iv : wI) (rv : wJ) (sz : Nat) (a1 : Int32) (a2 : Int32) (a3 : Int32) {sh' : (Nat → Nat)} {ln' : (Nat → Nat)} {iv' : wI} {rv' : wJ} {r' : Int32} (hf : fX4_order sh ln iv rv a1 a2 a3 = some (sh', ln', iv', rv', r')) : Met l yX4_order wsX4_order ({ frames := 2, cells := 7, slots := 77, locals := 45 }) (wPc D K loc sh ln iv rv sz [wR loc 1, .int a1, .int a2, .int a3]) (wQni D K loc sh sh' ln' iv' rv' sz r') 7 77 (wA loc sh sz) := by
  refine Met.ofW (cc := cX4_order) (maxL := 6) (ret := (some .int)) (by decide) rfl ?_
  intro p e s m args below meth c s₁ B hml hv
  obtain ⟨rfl, hsz, hH, hKn⟩ := hv
  have hx := B.exec
  have hb := B.bytes
  have hr := B.returns
  have hts := atoms_spec (ws := wsX4_order) B.pre
  have hown : s.vm.findClass RX4 = some m.cls := findClass_of_methodNamed B.named
  have hlocks := B.notSynchronized
  subst hsz
  have hA : ∀ q : Nat, s.heap.size ≤ q → wA loc sh s.heap.size q := fun q h => Or.inr h
  have hO : ∀ a, sh a ≠ 0 → wA loc sh s.heap.size (loc a) := fun a h => Or.inl ⟨a, h, rfl⟩
  have hS : va_S (wA loc sh s.heap.size) s.heap s.heap [] := va_S.rf
  obtain ⟨ls, hen, hl⟩ := wEntry m [wR loc 1, .int a1, .int a2, .int a3] 6 (List.forall_mem_cons.mpr ⟨wR_cat _ _, List.forall_mem_cons.mpr ⟨rfl, List.forall_mem_cons.mpr ⟨rfl, List.forall_mem_cons.mpr ⟨rfl, fun _ h => absurd h List.not_mem_nil⟩⟩⟩⟩) (Nat.le_of_ble_eq_true rfl)
  rw [hen]
  clear hen
  have hl : lv_has ls 6 [(0, wR loc 1), (1, .int a1), (2, .int a2), (3, .int a3)] := hl
  have hkp : ∀ a, sh a ≠ 0 → loc a = loc a ∧ sh a ≠ 0 := fun a h => ⟨rfl, h⟩
  have k15 := hts (.fieldLink RX4 15 "CupByCup" "recipeCount" "I") (List.mem_of_getElem? (i := 1) rfl)
  have iX4 : ∀ w ∈ wsX40, w ∈ wsX4_order := fun w h => List.mem_cons_of_mem _ (List.mem_append_left _ (List.mem_append_right _ h))
  have k25 := hts (.fieldLink RX4 25 "CupByCup" "cupCount" "I") (List.mem_of_getElem? (i := 2) rfl)
  have k21 := hts (.fieldLink RX4 21 "CupByCup" "cups" "[LCupByCup$Cup;") (List.mem_of_getElem? (i := 3) rfl)
  have k11 := hts (.fieldLink RX4 11 "CupByCup" "recipes" "[LCupByCup$Recipe;") (List.mem_of_getElem? (i := 7) rfl)
  have k45 := hts (.fieldLink RX4 45 "CupByCup" "now" "I") (List.mem_of_getElem? (i := 8) rfl)
  have iX0 : ∀ w ∈ wsX00, w ∈ wsX4_order := fun w h => List.mem_cons_of_mem _ (List.mem_append_right _ h)
  have k28 := hts (.fieldLink RX4 28 "CupByCup" "cupsThat" "[I") (List.mem_of_getElem? (i := 9) rfl)
  unfold fX4_order at hf
  refine lv_iload_n hx hb dX4_order_0 rfl (lv_at hl 1 rfl) ?_
  refine wald_n hx hb dX4_order_1 rfl (lv_at hl 0 rfl) ?_
  obtain ⟨g1, hq⟩ := wGd_e hf
  clear hf
  revert hq
  intro hf
  refine wg (C := RX4) (T := TX4) (N := 17) (v := .int (iv 1 2)) hx hb hts iX4 hown hKn.1 hH (q := 1) g1 (by decide) rfl rfl 2 (by decide) k15 rfl dX4_order_2 ?_
  obtain ⟨r2, h3, hq⟩ := wBd_e hf
  clear hf
  revert hq
  intro hf
  refine wci (va_runS (As := [.int a1, .int (iv 1 2)]) (rest := []) ⟨hx, hb, hml, hown, hts⟩ (mtX4_isAmong l D K loc sh ln iv rv _ 0 a1 (iv 1 2) h3) (va_cwS 2 hts gX4_order_X4_isAmong rfl rfl rfl (by decide +kernel) ⟨Nat.le_of_ble_eq_true rfl, Nat.le_of_ble_eq_true rfl⟩) (wPreS hKn hH) rfl rfl hl.1 rfl (lv_room (Nat.le_of_ble_eq_true rfl)) dX4_order_5 ⟨by show _ ≤ 7; omega, by show _ ≤ 77; omega⟩) hS hO hA (fun H locs hH hS => ?_)
  refine lv_if_eq (tgt := 19) hx hb dX4_order_8 (by decide) (fun c4 => ?_) (fun c4 => ?_)
  · replace hf := wIt c4 hf
    refine lv_iconst (v := (-1)) hx hb dX4_order_19 (by decide) ?_
    cases hf
    refine W.widen (k := 7) (n := 77) (by omega) (by omega) ?_
    exact W.iret hx hb hr (fun t ht hW => ⟨⟨_, loc, rfl, ⟨rfl, hkp⟩, by show wH _ _ _ _ _ _ _ t.heap; rw [ht]; exact hH, hO⟩, hS.F ht⟩) hS.2.2 dX4_order_20
  · replace hf := wIf c4 hf
    refine lv_iload_n hx hb dX4_order_11 rfl (lv_at hl 3 rfl) ?_
    refine lv_iconst (v := 2) hx hb dX4_order_12 (by decide) ?_
    obtain ⟨r5, h6, hq⟩ := wBd_e hf
    clear hf
    revert hq
    intro hf
    refine wci (va_runS (As := [.int a3, .int 2]) (rest := []) ⟨hx, hb, hml, hown, hts⟩ (mtX4_isAmong l D K loc sh ln iv rv _ 0 a3 2 h6) (va_cwS 2 hts gX4_order_X4_isAmong rfl rfl rfl (by decide +kernel) ⟨Nat.le_of_ble_eq_true rfl, Nat.le_of_ble_eq_true rfl⟩) (wPreS hKn hH) rfl rfl hl.1 rfl (lv_room (Nat.le_of_ble_eq_true rfl)) dX4_order_13 ⟨by show _ ≤ 7; omega, by show _ ≤ 77; omega⟩) hS hO hA (fun H locs hH hS => ?_)
    refine lv_if_ne (tgt := 21) hx hb dX4_order_16 (by decide) (fun c7 => ?_) (fun c7 => ?_)
    · replace hf := wIf c7 hf
      refine lv_iload_n hx hb dX4_order_21 rfl (lv_at hl 2 rfl) ?_
      refine lv_iconst (v := 1) hx hb dX4_order_22 (by decide) ?_
      refine lv_icmp_lt (tgt := 43) hx hb dX4_order_23 (by decide) (fun c8 => ?_) (fun c8 => ?_)
      · replace hf := wIt c8 hf
        refine lv_iconst (v := (-1)) hx hb dX4_order_43 (by decide) ?_
        cases hf
        refine W.widen (k := 7) (n := 77) (by omega) (by omega) ?_
        exact W.iret hx hb hr (fun t ht hW => ⟨⟨_, loc, rfl, ⟨rfl, hkp⟩, by show wH _ _ _ _ _ _ _ t.heap; rw [ht]; exact hH, hO⟩, hS.F ht⟩) hS.2.2 dX4_order_44
      · replace hf := wIf c8 hf
        refine lv_iload_n hx hb dX4_order_26 rfl (lv_at hl 2 rfl) ?_
        refine lv_bipush (v := 6) hx hb dX4_order_27 (by decide) ?_
        refine lv_icmp_gt (tgt := 43) hx hb dX4_order_29 (by decide) (fun c9 => ?_) (fun c9 => ?_)
        · replace hf := wIt c9 hf
          refine lv_iconst (v := (-1)) hx hb dX4_order_43 (by decide) ?_
          cases hf
          refine W.widen (k := 7) (n := 77) (by omega) (by omega) ?_
          exact W.iret hx hb hr (fun t ht hW => ⟨⟨_, loc, rfl, ⟨rfl, hkp⟩, by show wH _ _ _ _ _ _ _ t.heap; rw [ht]; exact hH, hO⟩, hS.F ht⟩) hS.2.2 dX4_order_44
        · replace hf := wIf c9 hf
          refine lv_iload_n hx hb dX4_order_32 rfl (lv_at hl 2 rfl) ?_
          refine lv_bipush (v := 100) hx hb dX4_order_33 (by decide) ?_
          refine wald_n hx hb dX4_order_35 rfl (lv_at hl 0 rfl) ?_
          refine wg (C := RX4) (T := TX4) (N := 17) (v := .int (iv 1 4)) hx hb hts iX4 hown hKn.1 hH (q := 1) g1 (by decide) rfl rfl 4 (by decide) k25 rfl dX4_order_36 ?_
          refine lv_isub hx hb dX4_order_39 ?_
          refine lv_icmp_le (tgt := 45) hx hb dX4_order_40 (by decide) (fun c10 => ?_) (fun c10 => ?_)
          · replace hf := wIt c10 hf
            refine wald_n hx hb dX4_order_45 rfl (lv_at hl 0 rfl) ?_
            refine wg (C := RX4) (T := TX4) (N := 17) (v := .int (iv 1 4)) hx hb hts iX4 hown hKn.1 hH (q := 1) g1 (by decide) rfl rfl 4 (by decide) k25 rfl dX4_order_46 ?_
            refine lv_istore (lv' := [(4, .int (iv 1 4)), (0, wR loc 1), (1, .int a1), (2, .int a2), (3, .int a3)]) hx hb dX4_order_49 hl (by decide) rfl (fun ls hl => ?_)
            refine lv_iconst (v := 0) hx hb dX4_order_51 (by decide) ?_
            refine lv_istore (lv' := [(5, .int 0), (4, .int (iv 1 4)), (0, wR loc 1), (1, .int a1), (2, .int a2), (3, .int a3)]) hx hb dX4_order_52 hl (by decide) rfl (fun ls hl => ?_)
            obtain ⟨sh21, ln22, iv23, rv24, hL18, hq⟩ := wB4_e hf
            clear hf
            revert hq
            intro hf
            have hk19 : ∀ (lo25 : Nat → Nat) (H : Heap) (locs : List Loc) (ls : Array Slot), (∀ a, sh a ≠ 0 → lo25 a = loc a ∧ sh21 a ≠ 0) → (∀ a, sh21 a ≠ 0 → wA loc sh s.heap.size (lo25 a)) → wH D K lo25 sh21 ln22 iv23 rv24 H → va_S (wA loc sh s.heap.size) s.heap H locs → lv_has ls 6 [(0, wR lo25 1), (2, .int a2), (4, .int (iv 1 4))] → W p l e (headSpec wsX4_order ({ frames := 2, cells := 7, slots := 77, locals := 45 })).room s m ([wR loc 1, .int a1, .int a2, .int a3] : List Value).toArray below meth c H locs 7 77 (MQ below (wQni D K loc sh sh' ln' iv' rv' s.heap.size r') ([wR loc 1, .int a1, .int a2, .int a3] : List Value).toArray s 7 77 (wA loc sh s.heap.size)) (F0 m 101 ls []) := by
              clear hL18 hl hS hH hkp hO
              intro lo25 H locs ls hkp hO hH hS hl
              refine wald_n hx hb dX4_order_101 rfl (lv_at hl 0 rfl) ?_
              refine lv_dup hx hb dX4_order_102 (wR_cat _ _) ?_
              obtain ⟨g49, hq⟩ := wGd_e hf
              clear hf
              revert hq
              intro hf
              refine wg (C := RX4) (T := TX4) (N := 17) (v := .int (iv23 1 4)) hx hb hts iX4 hown hKn.1 hH (q := 1) g49 (by decide) rfl rfl 4 (by decide) k25 rfl dX4_order_103 ?_
              refine lv_iload_n hx hb dX4_order_106 rfl (lv_at hl 1 rfl) ?_
              refine lv_iadd hx hb dX4_order_107 ?_
              obtain ⟨iv50, e51, hq⟩ := wLt_e hf
              clear hf
              revert hq
              intro hf
              refine wp (C := RX4) (T := TX4) (N := 17) (v := .int ((iv23 1 4) + a2)) (ty := tyX4 4) (iv' := iv50) (rv' := rv24) hx hb hts iX4 tyX4 tyX4_ok nmX4 hown hKn.1 hH hO hS (q := 1) g49 (by decide) rfl rfl 4 (by decide) k25 rfl (tyX4_ok 4 (by decide)) rfl rfl (Nat.le_of_ble_eq_true rfl) (by rw [e51, wU_self]; rfl) (fun a ha => by rw [e51]; exact wU_ne a ha) (fun _ _ => rfl) dX4_order_108 (fun H locs hH hS => ?_)
              refine wald_n hx hb dX4_order_111 rfl (lv_at hl 0 rfl) ?_
              refine wg (C := RX4) (T := TX4) (N := 17) (v := wR lo25 5) hx hb hts iX4 hown hKn.1 hH (q := 1) g49 (by decide) rfl rfl 5 (by decide) k28 rfl dX4_order_112 ?_
              refine lv_iconst (v := 0) hx hb dX4_order_115 (by decide) ?_
              refine lv_dup2_11 hx hb dX4_order_116 rfl (wR_cat _ _) ?_
              obtain ⟨g52, hq⟩ := wGd_e hf
              clear hf
              revert hq
              intro hf
              obtain ⟨g53, hq⟩ := wGd_e hf
              clear hf
              revert hq
              intro hf
              refine wia hx hb hKn.1 hH g52 rfl g53 dX4_order_117 ?_
              refine lv_iload_n hx hb dX4_order_118 rfl (lv_at hl 1 rfl) ?_
              refine lv_iadd hx hb dX4_order_119 ?_
              obtain ⟨iv54, e55, hq⟩ := wLt_e hf
              clear hf
              revert hq
              intro hf
              refine wis hx hb hKn.1 hH hO hS g52 rfl g53 dX4_order_120 (fun H locs hH hS => ?_)
              rw [← e55] at hH
              refine lv_iload hx hb dX4_order_121 (lv_at hl 2 rfl) ?_
              cases hf
              refine W.widen (k := 7) (n := 77) (by omega) (by omega) ?_
              exact W.iret hx hb hr (fun t ht hW => ⟨⟨_, lo25, rfl, ⟨rfl, hkp⟩, by show wH _ _ _ _ _ _ _ t.heap; rw [ht]; exact hH, hO⟩, hS.F ht⟩) hS.2.2 dX4_order_123
            have lp20 : ∀ (n11 : Nat) (hle : n11 ≤ 7) (lo14 : Nat → Nat) (sh15 : Nat → Nat) (ln16 : Nat → Nat) (iv12 : wI) (rv13 : wJ) (x17 : Int32) (H : Heap) (locs : List Loc) (ls : Array Slot), fX4_order_54 n11 sh15 ln16 iv12 rv13 a1 a2 a3 (iv 1 4) x17 = some (sh21, ln22, iv23, rv24) → (∀ a, sh a ≠ 0 → lo14 a = loc a ∧ sh15 a ≠ 0) → (∀ a, sh15 a ≠ 0 → wA loc sh s.heap.size (lo14 a)) → wH D K lo14 sh15 ln16 iv12 rv13 H → va_S (wA loc sh s.heap.size) s.heap H locs → lv_has ls 6 [(0, wR lo14 1), (1, .int a1), (2, .int a2), (3, .int a3), (4, .int (iv 1 4)), (5, .int x17)] → W p l e (headSpec wsX4_order ({ frames := 2, cells := 7, slots := 77, locals := 45 })).room s m ([wR loc 1, .int a1, .int a2, .int a3] : List Value).toArray below meth c H locs (0 + (7 - n11) * 1) (0 + (7 - n11) * 11) (MQ below (wQni D K loc sh sh' ln' iv' rv' s.heap.size r') ([wR loc 1, .int a1, .int a2, .int a3] : List Value).toArray s 7 77 (wA loc sh s.heap.size)) (F0 m 54 ls []) := by
              clear hf hl hS hH hkp hO hL18
              intro n11
              induction n11 with
              | zero => intro hle lo14 sh15 ln16 iv12 rv13 x17 H locs ls hf; cases hf
              | succ n11 ih =>
                intro hle lo14 sh15 ln16 iv12 rv13 x17 H locs ls hf hkp hO hH hS hl
                rw [fX4_order_54.eq_2] at hf
                refine lv_iload hx hb dX4_order_54 (lv_at hl 5 rfl) ?_
                refine lv_iload_n hx hb dX4_order_56 rfl (lv_at hl 2 rfl) ?_
                refine lv_icmp_ge (tgt := 101) hx hb dX4_order_57 (by decide) (fun c26 => ?_) (fun c26 => ?_)
                · replace hf := wIt c26 hf
                  cases hf
                  refine W.widen (k := 7) (n := 77) (by omega) (by omega) ?_
                  exact hk19 _ _ _ _ hkp hO hH hS (lv_sub hl [0, 2, 4] rfl)
                · replace hf := wIf c26 hf
                  refine wald_n hx hb dX4_order_60 rfl (lv_at hl 0 rfl) ?_
                  obtain ⟨g27, hq⟩ := wGd_e hf
                  clear hf
                  revert hq
                  intro hf
                  refine wg (C := RX4) (T := TX4) (N := 17) (v := wR lo14 4) hx hb hts iX4 hown hKn.1 hH (q := 1) g27 (by decide) rfl rfl 3 (by decide) k21 rfl dX4_order_61 ?_
                  refine lv_iload hx hb dX4_order_64 (lv_at hl 4 rfl) ?_
                  refine lv_iload hx hb dX4_order_66 (lv_at hl 5 rfl) ?_
                  refine lv_iadd hx hb dX4_order_68 ?_
                  obtain ⟨g28, hq⟩ := wGd_e hf
                  clear hf
                  revert hq
                  intro hf
                  obtain ⟨g29, hq⟩ := wGd_e hf
                  clear hf
                  revert hq
                  intro hf
                  obtain ⟨sh30, e34, hq⟩ := wLt_e hf
                  clear hf
                  revert hq
                  intro hf
                  obtain ⟨ln31, e35, hq⟩ := wLt_e hf
                  clear hf
                  revert hq
                  intro hf
                  obtain ⟨iv32, e36, hq⟩ := wLt_e hf
                  clear hf
                  revert hq
                  intro hf
                  obtain ⟨rv33, e37, hq⟩ := wLt_e hf
                  clear hf
                  revert hq
                  intro hf
                  refine wnoE (C := RX0) (T := TX0) (N := 11) (fs := [.int 0, .null, .int 0, .int 0, .int 0, .int 0, .int 0, .int 0, .int 0, .int 0, .null]) hx hb hts iX0 tyX0 tyX0_ok hown (hts (.classLink RX4 19 RX0) (List.mem_of_getElem? (i := 4) rfl)) (hts (.instantiable RX0 11) (List.mem_of_getElem? (i := 5) rfl)) (hts (.initialized RX0) (List.mem_of_getElem? (i := 6) rfl)) hKn.1 hH hO hS hA (((iv 1 4) + x17).toNatClampNeg + 100) 1 0 g29 (by decide) (fun _ => rfl) rfl (fun j hj => by rcases (show j = 0 ∨ j = 1 ∨ j = 2 ∨ j = 3 ∨ j = 4 ∨ j = 5 ∨ j = 6 ∨ j = 7 ∨ j = 8 ∨ j = 9 ∨ j = 10 by omega) with rfl | rfl | rfl | rfl | rfl | rfl | rfl | rfl | rfl | rfl | rfl <;> rfl) (by show _ ≤ 7; omega) (by show _ ≤ 77; omega) dX4_order_69 e34 e35 e36 e37 (fun lo38 H hloc hH hO hS => ?_)
                  replace hkp := wKpE (kd := 1) hkp g29.2.1 (by decide) hloc e34
                  rw [wR_same (hloc 1 (wNe g27 (by decide) g29.2.1))] at hl
                  refine W.eq (g2 := F0 m 72 ls [wR lo38 (((iv 1 4) + x17).toNatClampNeg + 100), .int ((iv 1 4) + x17), wR lo38 4]) (by rw [wR_same (hloc 4 (wNe g28 (by decide) g29.2.1))]) ?_
                  refine lv_dup hx hb dX4_order_72 (wR_cat _ _) ?_
                  refine lv_iload hx hb dX4_order_73 (lv_at hl 4 rfl) ?_
                  refine lv_iload hx hb dX4_order_75 (lv_at hl 5 rfl) ?_
                  refine lv_iadd hx hb dX4_order_77 ?_
                  refine wald_n hx hb dX4_order_78 rfl (lv_at hl 0 rfl) ?_
                  obtain ⟨g39, hq⟩ := wGd_e hf
                  clear hf
                  revert hq
                  intro hf
                  refine wg (C := RX4) (T := TX4) (N := 17) (v := wR lo38 3) hx hb hts iX4 hown hKn.1 hH (q := 1) g39 (by decide) rfl rfl 1 (by decide) k11 rfl dX4_order_79 ?_
                  refine lv_iload_n hx hb dX4_order_82 rfl (lv_at hl 1 rfl) ?_
                  obtain ⟨g40, hq⟩ := wGd_e hf
                  clear hf
                  revert hq
                  intro hf
                  obtain ⟨g41, hq⟩ := wGd_e hf
                  clear hf
                  revert hq
                  intro hf
                  refine waa (kd := 11) (ki := 4) hx hb hKn.1 hH g40 (by decide) rfl rfl rfl g41 dX4_order_83 ?_
                  refine lv_iload hx hb dX4_order_84 (lv_at hl 4 rfl) ?_
                  refine lv_iload_n hx hb dX4_order_86 rfl (lv_at hl 3 rfl) ?_
                  refine wald_n hx hb dX4_order_87 rfl (lv_at hl 0 rfl) ?_
                  refine wg (C := RX4) (T := TX4) (N := 17) (v := .int (iv32 1 12)) hx hb hts iX4 hown hKn.1 hH (q := 1) g39 (by decide) rfl rfl 12 (by decide) k45 rfl dX4_order_88 ?_
                  obtain ⟨iv42, rv43, h44, hq⟩ := wB2_e hf
                  clear hf
                  revert hq
                  intro hf
                  refine W.eq (g2 := F0 m 91 ls ([.int (iv32 1 12), .int a3, .int (iv 1 4), wR lo38 (rv33 3 a1.toNatClampNeg), .int ((iv 1 4) + x17)] ++ .ref (lo38 (((iv 1 4) + x17).toNatClampNeg + 100)) :: [wR lo38 (((iv 1 4) + x17).toNatClampNeg + 100), .int ((iv 1 4) + x17), wR lo38 4])) (by rw [wR_ref (loc := lo38) (c := (((iv 1 4) + x17).toNatClampNeg + 100)) (hH.nz (e34 ▸ va_up_self _ _ _) (by decide))]; rfl) ?_
                  refine wcv (va_runI (As := [.int ((iv 1 4) + x17), wR lo38 (rv33 3 a1.toNatClampNeg), .int (iv 1 4), .int a3, .int (iv32 1 12)]) (rest := [wR lo38 (((iv 1 4) + x17).toNatClampNeg + 100), .int ((iv 1 4) + x17), wR lo38 4]) ⟨hx, hb, hml, hown, hts⟩ (mtX0_init l D K lo38 sh30 ln31 iv32 rv33 _ 0 (((iv 1 4) + x17).toNatClampNeg + 100) ((iv 1 4) + x17) (rv33 3 a1.toNatClampNeg) (iv 1 4) a3 (iv32 1 12) (e34 ▸ va_up_self _ _ _) h44) (cwI 5 hts gX4_order_X0_init rfl rfl rfl (hts (.initialized RX0) (List.mem_of_getElem? (i := 6) rfl)) (hts (.methodLink RX4 92 yX0_init) (List.mem_of_getElem? (i := 14) rfl)) (hts (.instanceMethod yX0_init) (List.mem_of_getElem? (i := 15) rfl)) rfl (by decide +kernel) ⟨Nat.le_of_ble_eq_true rfl, Nat.le_of_ble_eq_true rfl⟩) (wPreI hKn hH (e34 ▸ va_up_self _ _ _) (by decide)) rfl rfl hl.1 rfl (lv_room (by simp [wR_cat, iCat])) dX4_order_91 ⟨by show _ ≤ 7; omega, by show _ ≤ 77; omega⟩) hS hO hA (fun H locs hH hS => ?_)
                  obtain ⟨g45, hq⟩ := wGd_e hf
                  clear hf
                  revert hq
                  intro hf
                  obtain ⟨g46, hq⟩ := wGd_e hf
                  clear hf
                  revert hq
                  intro hf
                  obtain ⟨rv47, e48, hq⟩ := wLt_e hf
                  clear hf
                  revert hq
                  intro hf
                  refine was (kd := 9) (ki := 2) (kv := 1) hx hb hKn.1 hH hO hS g45 (by decide) (fun _ => rfl) rfl rfl (e34 ▸ va_up_self _ _ _) (by decide) rfl rfl g46 dX4_order_94 (fun H locs hH hS => ?_)
                  rw [← e48] at hH
                  refine lv_iinc (v := (x17 + 1)) (lv' := [(5, .int (x17 + 1)), (0, wR lo38 1), (1, .int a1), (2, .int a2), (3, .int a3), (4, .int (iv 1 4))]) hx hb dX4_order_95 hl (k := 5) rfl rfl (by decide) rfl (fun ls hl => ?_)
                  refine lv_goto (tgt := 54) hx hb dX4_order_98 (by decide) ?_
                  refine W.widen (k := 0 + (7 - n11) * 1) (n := 0 + (7 - n11) * 11) (by omega) (by omega) ?_
                  exact ih (by omega) _ _ _ _ _ _ _ _ _ hf hkp hO hH hS (lv_sub hl [1, 2, 3, 4, 5, 0] rfl)
            refine W.widen (k := 0 + (7 - 7) * 1) (n := 0 + (7 - 7) * 11) (by omega) (by omega) ?_
            exact lp20 7 (Nat.le_refl _) _ _ _ _ _ _ _ _ _ hL18 hkp hO hH hS (lv_sub hl [2, 3, 4, 5, 1, 0] rfl)
          · replace hf := wIf c10 hf
            refine lv_iconst (v := (-1)) hx hb dX4_order_43 (by decide) ?_
            cases hf
            refine W.widen (k := 7) (n := 77) (by omega) (by omega) ?_
            exact W.iret hx hb hr (fun t ht hW => ⟨⟨_, loc, rfl, ⟨rfl, hkp⟩, by show wH _ _ _ _ _ _ _ t.heap; rw [ht]; exact hH, hO⟩, hS.F ht⟩) hS.2.2 dX4_order_44
    · replace hf := wIt c7 hf
      refine lv_iconst (v := (-1)) hx hb dX4_order_19 (by decide) ?_
      cases hf
      refine W.widen (k := 7) (n := 77) (by omega) (by omega) ?_
      exact W.iret hx hb hr (fun t ht hW => ⟨⟨_, loc, rfl, ⟨rfl, hkp⟩, by show wH _ _ _ _ _ _ _ t.heap; rw [ht]; exact hH, hO⟩, hS.F ht⟩) hS.2.2 dX4_order_20
