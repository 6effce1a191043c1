noncomputable def fX4_init_108  : Nat → (Nat → Nat) → (Nat → Nat) → wI → wJ → Int32 → Int32 → Int32 → Option ((Nat → Nat) × (Nat → Nat) × wI × wJ)
  | 0, _, _, _, _, _, _, _ => none
  | n + 1, sh, ln, iv, rv, x2, x3, x4 => if x3 ≤ x4 then some (sh, ln, iv, rv) else wGd (sh 1 = 13) (wGd (sh (rv 1 0) = 10) (wGd (wFr sh rv (x4.toNatClampNeg + 13)) (wLt (va_up sh (x4.toNatClampNeg + 13) 2) (fun (sh94 : Nat → Nat) => wLt (va_up ln (x4.toNatClampNeg + 13) 0) (fun (ln95 : Nat → Nat) => wLt (va_up iv (x4.toNatClampNeg + 13) (fun _ => (0 : Int32))) (fun (iv96 : wI) => wLt (va_up rv (x4.toNatClampNeg + 13) (fun _ => (0 : Nat))) (fun (rv97 : wJ) => wB2 (fX1_init 0 sh94 iv96 rv97 (x4.toNatClampNeg + 13) x4) (fun (iv103 : wI) (rv104 : wJ) => wGd (sh94 (rv 1 0) = 10) (wGd (vp_in x4 (ln95 (rv 1 0))) (wLt (wV rv104 (rv 1 0) x4.toNatClampNeg (x4.toNatClampNeg + 13)) (fun (rv108 : wJ) => fX4_init_108 n sh94 ln95 iv103 rv108 x2 x3 (x4 + 1))))))))))))
noncomputable def fX4_init  (sh : (Nat → Nat)) (ln : (Nat → Nat)) (iv : wI) (rv : wJ) (a1 : Int32) (a2 : Int32) : Option ((Nat → Nat) × (Nat → Nat) × wI × wJ) := wGd (sh 1 = 13) (wGd (wFr sh rv 3) (wLt (va_up sh 3 11) (fun (sh3 : Nat → Nat) => wLt (va_up ln 3 (8 : Int32).toNatClampNeg) (fun (ln4 : Nat → Nat) => wLt (va_up iv 3 (fun _ => (0 : Int32))) (fun (iv5 : wI) => wLt (va_up rv 3 (fun _ => (0 : Nat))) (fun (rv6 : wJ) => wGd (sh3 1 = 13) (wLt (wV rv6 1 1 3) (fun (rv13 : wJ) => wLt (wU iv5 1 2 0) (fun (iv15 : wI) => wGd (wFr sh3 rv13 4) (wLt (va_up sh3 4 9) (fun (sh18 : Nat → Nat) => wLt (va_up ln4 4 (100 : Int32).toNatClampNeg) (fun (ln19 : Nat → Nat) => wLt (va_up iv15 4 (fun _ => (0 : Int32))) (fun (iv20 : wI) => wLt (va_up rv13 4 (fun _ => (0 : Nat))) (fun (rv21 : wJ) => wGd (sh18 1 = 13) (wLt (wV rv21 1 3 4) (fun (rv28 : wJ) => wLt (wU iv20 1 4 0) (fun (iv30 : wI) => wGd (wFr sh18 rv28 5) (wLt (va_up sh18 5 7) (fun (sh33 : Nat → Nat) => wLt (va_up ln19 5 (8 : Int32).toNatClampNeg) (fun (ln34 : Nat → Nat) => wLt (va_up iv30 5 (fun _ => (0 : Int32))) (fun (iv35 : wI) => wLt (va_up rv28 5 (fun _ => (0 : Nat))) (fun (rv36 : wJ) => wGd (sh33 1 = 13) (wLt (wV rv36 1 5 5) (fun (rv43 : wJ) => wGd (wFr sh33 rv43 6) (wLt (va_up sh33 6 7) (fun (sh46 : Nat → Nat) => wLt (va_up ln34 6 (3 : Int32).toNatClampNeg) (fun (ln47 : Nat → Nat) => wLt (va_up iv35 6 (fun _ => (0 : Int32))) (fun (iv48 : wI) => wLt (va_up rv43 6 (fun _ => (0 : Nat))) (fun (rv49 : wJ) => wGd (sh46 1 = 13) (wLt (wV rv49 1 6 6) (fun (rv56 : wJ) => wLt (wV rv56 1 8 0) (fun (rv58 : wJ) => wLt (wV rv58 1 9 0) (fun (rv60 : wJ) => wLt (wU iv48 1 11 900) (fun (iv62 : wI) => wLt (wU iv62 1 12 0) (fun (iv64 : wI) => wLt (wU iv64 1 13 50) (fun (iv66 : wI) => wLt (wU iv66 1 14 0) (fun (iv68 : wI) => wLt (wU iv68 1 15 0) (fun (iv70 : wI) => wLt (wU iv70 1 16 0) (fun (iv72 : wI) => wBd (fX4_within a1 1 3) (fun (r74 : Int32) => wGd (vp_in r74 4) (wGd (wFr sh46 rv60 2) (wLt (va_up sh46 2 10) (fun (sh78 : Nat → Nat) => wLt (va_up ln47 2 r74.toNatClampNeg) (fun (ln79 : Nat → Nat) => wLt (va_up iv72 2 (fun _ => (0 : Int32))) (fun (iv80 : wI) => wLt (va_up rv60 2 (fun _ => (0 : Nat))) (fun (rv81 : wJ) => wGd (sh78 1 = 13) (wLt (wV rv81 1 0 2) (fun (rv88 : wJ) => wB4 (fX4_init_108 4 sh78 ln79 iv80 rv88 a2 r74 0) (fun (sh100 : (Nat → Nat)) (ln101 : (Nat → Nat)) (iv102 : wI) (rv103 : wJ) => wGd (sh100 1 = 13) (wGd (wFr sh100 rv103 7) (wLt (va_up sh100 7 12) (fun (sh127 : Nat → Nat) => wLt (va_up ln101 7 0) (fun (ln128 : Nat → Nat) => wLt (va_up iv102 7 (fun _ => (0 : Int32))) (fun (iv129 : wI) => wLt (va_up rv103 7 (fun _ => (0 : Nat))) (fun (rv130 : wJ) => wGd (sh127 1 = 13) (wB4 (fX2_init sh127 ln128 iv129 rv130 r74) (fun (sh137 : (Nat → Nat)) (ln138 : (Nat → Nat)) (iv139 : wI) (rv140 : wJ) => wGd (sh137 1 = 13) (wLt (wV rv140 1 7 7) (fun (rv144 : wJ) => wBd (fX4_within a2 6 30) (fun (r146 : Int32) => wLt (wU iv139 1 10 r146) (fun (iv148 : wI) => some (sh137, ln138, iv148, rv144))))))))))))))))))))))))))))))))))))))))))))))))))))))))))))))
set_option maxHeartbeats 4000000 in
set_option maxRecDepth 100000 in
theorem mtX4_init (l : Launch) (D : va_G) (K : Nat → ClassId) (loc sh ln : Nat → Nat) (iv : wI) (rv : wJ) (sz : Nat) (a1 : Int32) (a2 : Int32) {sh' : (Nat → Nat)} {ln' : (Nat → Nat)} {iv' : wI} {rv' : wJ} (hf : fX4_init sh ln iv rv a1 a2 = some (sh', ln', iv', rv')) : Met l yX4_init wsX4_init ({ frames := 2, cells := 15, slots := 176, locals := 43 }) (wPc D K loc sh ln iv rv sz [wR loc 1, .int a1, .int a2]) (wQnv D K loc sh sh' ln' iv' rv' sz) 15 176 (wA loc sh sz) := by
  refine Met.ofW (cc := cX4_init) (maxL := 5) (ret := none) (by decide) rfl ?_
  intro p e s m args below meth c s₁ B hml hv
  obtain ⟨rfl, hsz, hH, hKn⟩ := hv
  have hx := B.exec
  have hb := B.bytes
  have hr := B.returns
  have hts := atoms_spec (ws := wsX4_init) B.pre
  have hown : s.vm.findClass RX4 = some m.cls := findClass_of_methodNamed B.named
  have hlocks := B.notSynchronized
  subst hsz
  have hA : ∀ q : Nat, s.heap.size ≤ q → wA loc sh s.heap.size q := fun q h => Or.inr h
  have hO : ∀ a, sh a ≠ 0 → wA loc sh s.heap.size (loc a) := fun a h => Or.inl ⟨a, h, rfl⟩
  have hS : va_S (wA loc sh s.heap.size) s.heap s.heap [] := va_S.rf
  obtain ⟨ls, hen, hl⟩ := wEntry m [wR loc 1, .int a1, .int a2] 5 (List.forall_mem_cons.mpr ⟨wR_cat _ _, List.forall_mem_cons.mpr ⟨rfl, List.forall_mem_cons.mpr ⟨rfl, fun _ h => absurd h List.not_mem_nil⟩⟩⟩) (Nat.le_of_ble_eq_true rfl)
  rw [hen]
  clear hen
  have hl : lv_has ls 5 [(0, wR loc 1), (1, .int a1), (2, .int a2)] := hl
  have hin : meth.name = "<init>" := (name_of_methodNamed B.named B.method).1
  have hkp : ∀ a, sh a ≠ 0 → loc a = loc a ∧ sh a ≠ 0 := fun a h => ⟨rfl, h⟩
  have k11 := hts (.fieldLink RX4 11 "CupByCup" "recipes" "[LCupByCup$Recipe;") (List.mem_of_getElem? (i := 5) rfl)
  have iX4 : ∀ w ∈ wsX40, w ∈ wsX4_init := fun w h => List.mem_cons_of_mem _ (List.mem_append_left _ (List.mem_append_left _ (List.mem_append_right _ h)))
  have k15 := hts (.fieldLink RX4 15 "CupByCup" "recipeCount" "I") (List.mem_of_getElem? (i := 6) rfl)
  have k21 := hts (.fieldLink RX4 21 "CupByCup" "cups" "[LCupByCup$Cup;") (List.mem_of_getElem? (i := 8) rfl)
  have k25 := hts (.fieldLink RX4 25 "CupByCup" "cupCount" "I") (List.mem_of_getElem? (i := 9) rfl)
  have k28 := hts (.fieldLink RX4 28 "CupByCup" "cupsThat" "[I") (List.mem_of_getElem? (i := 11) rfl)
  have k32 := hts (.fieldLink RX4 32 "CupByCup" "stores" "[I") (List.mem_of_getElem? (i := 12) rfl)
  have k35 := hts (.fieldLink RX4 35 "CupByCup" "inGrinder" "LCupByCup$Cup;") (List.mem_of_getElem? (i := 13) rfl)
  have k39 := hts (.fieldLink RX4 39 "CupByCup" "atWand" "LCupByCup$Cup;") (List.mem_of_getElem? (i := 14) rfl)
  have k42 := hts (.fieldLink RX4 42 "CupByCup" "heat" "I") (List.mem_of_getElem? (i := 15) rfl)
  have k45 := hts (.fieldLink RX4 45 "CupByCup" "now" "I") (List.mem_of_getElem? (i := 16) rfl)
  have k48 := hts (.fieldLink RX4 48 "CupByCup" "setting" "I") (List.mem_of_getElem? (i := 17) rfl)
  have k51 := hts (.fieldLink RX4 51 "CupByCup" "beansSpoilt" "I") (List.mem_of_getElem? (i := 18) rfl)
  have k54 := hts (.fieldLink RX4 54 "CupByCup" "rinsesDone" "I") (List.mem_of_getElem? (i := 19) rfl)
  have k57 := hts (.fieldLink RX4 57 "CupByCup" "longest" "I") (List.mem_of_getElem? (i := 20) rfl)
  have k66 := hts (.fieldLink RX4 66 "CupByCup" "groups" "[LCupByCup$Group;") (List.mem_of_getElem? (i := 22) rfl)
  have iX1 : ∀ w ∈ wsX10, w ∈ wsX4_init := fun w h => List.mem_cons_of_mem _ (List.mem_append_left _ (List.mem_append_right _ h))
  have k76 := hts (.fieldLink RX4 76 "CupByCup" "planner" "LCupByCup$Planner;") (List.mem_of_getElem? (i := 28) rfl)
  have k80 := hts (.fieldLink RX4 80 "CupByCup" "powerLimit" "I") (List.mem_of_getElem? (i := 29) rfl)
  have iX2 : ∀ w ∈ wsX20, w ∈ wsX4_init := fun w h => List.mem_cons_of_mem _ (List.mem_append_right _ h)
  unfold fX4_init at hf
  refine wald_n hx hb dX4_init_0 rfl (lv_at hl 0 rfl) ?_
  obtain ⟨g1, hq⟩ := wGd_e hf
  clear hf
  revert hq
  intro hf
  refine W.eq (g2 := F0 m 1 ls (.ref (loc 1) :: [])) (by rw [wR_ref (loc := loc) (c := 1) (hH.nz g1 (by decide))]) ?_
  refine W.objInit hx hb hown (hts (.methodLink RX4 1 objectInit) (List.mem_of_getElem? (i := 1) rfl)) (hts (.instanceMethod objectInit) (List.mem_of_getElem? (i := 2) rfl)) (hts (.code objectInit ⟨#[0xb1]⟩ 1 none) (List.mem_of_getElem? (i := 3) rfl)) rfl (by rw [hml]; exact hl.1) rfl dX4_init_1 (Nat.le_of_ble_eq_true rfl) (Nat.le_of_ble_eq_true rfl) ?_
  refine W.eq (g2 := F0 m 4 ls []) rfl ?_
  refine wald_n hx hb dX4_init_4 rfl (lv_at hl 0 rfl) ?_
  refine lv_bipush (v := 8) hx hb dX4_init_5 (by decide) ?_
  obtain ⟨g2, hq⟩ := wGd_e hf
  clear hf
  revert hq
  intro hf
  obtain ⟨sh3, e7, hq⟩ := wLt_e hf
  clear hf
  revert hq
  intro hf
  obtain ⟨ln4, e8, hq⟩ := wLt_e hf
  clear hf
  revert hq
  intro hf
  obtain ⟨iv5, e9, hq⟩ := wLt_e hf
  clear hf
  revert hq
  intro hf
  obtain ⟨rv6, e10, hq⟩ := wLt_e hf
  clear hf
  revert hq
  intro hf
  refine wnqE hx hb hown (hts (.classLink RX4 9 RX3) (List.mem_of_getElem? (i := 4) rfl)) hKn.2.2.2.1 hKn.1 hH hO hS hA 3 11 4 g2 (by decide) (fun _ _ => rfl) rfl (M := 8) (by decide) (Nat.le_of_ble_eq_true rfl) (by decide) (by show _ ≤ 15; omega) (by show _ ≤ 176; omega) dX4_init_7 e7 e8 e9 e10 (fun lo11 H hloc hH hO hS => ?_)
  replace hkp := wKpE (kd := 11) hkp g2.2.1 (by decide) hloc e7
  rw [wR_same (hloc 1 (wNe g1 (by decide) g2.2.1))] at hl
  refine W.eq (g2 := F0 m 10 ls [wR lo11 3, wR lo11 1]) (by rw [wR_same (hloc 1 (wNe g1 (by decide) g2.2.1))]) ?_
  obtain ⟨g12, hq⟩ := wGd_e hf
  clear hf
  revert hq
  intro hf
  obtain ⟨rv13, e14, hq⟩ := wLt_e hf
  clear hf
  revert hq
  intro hf
  refine wpF (C := RX4) (T := TX4) (N := 17) (v := wR lo11 3) (ty := tyX4 1) (iv' := iv5) (rv' := rv13) hx hb hts iX4 tyX4 tyX4_ok nmX4 hown hKn.1 hH hO hS (q := 1) g12 (by decide) rfl rfl 1 (by decide) k11 rfl hin rfl (tyX4_ok 1 (by decide)) (wR_nar _ _ _) (wR_fitA _ _ _) (Nat.le_of_ble_eq_true rfl) (by rw [e14, wV_self]; rfl) (fun _ _ => rfl) (fun a ha => by rw [e14]; exact wV_ne a ha) dX4_init_10 (fun H locs hH hS => ?_)
  refine wald_n hx hb dX4_init_13 rfl (lv_at hl 0 rfl) ?_
  refine lv_iconst (v := 0) hx hb dX4_init_14 (by decide) ?_
  obtain ⟨iv15, e16, hq⟩ := wLt_e hf
  clear hf
  revert hq
  intro hf
  refine wp (C := RX4) (T := TX4) (N := 17) (v := .int 0) (ty := tyX4 2) (iv' := iv15) (rv' := rv13) hx hb hts iX4 tyX4 tyX4_ok nmX4 hown hKn.1 hH hO hS (q := 1) g12 (by decide) rfl rfl 2 (by decide) k15 rfl (tyX4_ok 2 (by decide)) rfl rfl (Nat.le_of_ble_eq_true rfl) (by rw [e16, wU_self]; rfl) (fun a ha => by rw [e16]; exact wU_ne a ha) (fun _ _ => rfl) dX4_init_15 (fun H locs hH hS => ?_)
  refine wald_n hx hb dX4_init_18 rfl (lv_at hl 0 rfl) ?_
  refine lv_bipush (v := 100) hx hb dX4_init_19 (by decide) ?_
  obtain ⟨g17, hq⟩ := wGd_e hf
  clear hf
  revert hq
  intro hf
  obtain ⟨sh18, e22, hq⟩ := wLt_e hf
  clear hf
  revert hq
  intro hf
  obtain ⟨ln19, e23, hq⟩ := wLt_e hf
  clear hf
  revert hq
  intro hf
  obtain ⟨iv20, e24, hq⟩ := wLt_e hf
  clear hf
  revert hq
  intro hf
  obtain ⟨rv21, e25, hq⟩ := wLt_e hf
  clear hf
  revert hq
  intro hf
  refine wnqE hx hb hown (hts (.classLink RX4 19 RX0) (List.mem_of_getElem? (i := 7) rfl)) hKn.2.1 hKn.1 hH hO hS hA 4 9 2 g17 (by decide) (fun _ _ => rfl) rfl (M := 100) (by decide) (Nat.le_of_ble_eq_true rfl) (by decide) (by show _ ≤ 15; omega) (by show _ ≤ 176; omega) dX4_init_21 e22 e23 e24 e25 (fun lo26 H hloc hH hO hS => ?_)
  replace hkp := wKpE (kd := 9) hkp g17.2.1 (by decide) hloc e22
  rw [wR_same (hloc 1 (wNe g12 (by decide) g17.2.1))] at hl
  refine W.eq (g2 := F0 m 24 ls [wR lo26 4, wR lo26 1]) (by rw [wR_same (hloc 1 (wNe g12 (by decide) g17.2.1))]) ?_
  obtain ⟨g27, hq⟩ := wGd_e hf
  clear hf
  revert hq
  intro hf
  obtain ⟨rv28, e29, hq⟩ := wLt_e hf
  clear hf
  revert hq
  intro hf
  refine wpF (C := RX4) (T := TX4) (N := 17) (v := wR lo26 4) (ty := tyX4 3) (iv' := iv20) (rv' := rv28) hx hb hts iX4 tyX4 tyX4_ok nmX4 hown hKn.1 hH hO hS (q := 1) g27 (by decide) rfl rfl 3 (by decide) k21 rfl hin rfl (tyX4_ok 3 (by decide)) (wR_nar _ _ _) (wR_fitA _ _ _) (Nat.le_of_ble_eq_true rfl) (by rw [e29, wV_self]; rfl) (fun _ _ => rfl) (fun a ha => by rw [e29]; exact wV_ne a ha) dX4_init_24 (fun H locs hH hS => ?_)
  refine wald_n hx hb dX4_init_27 rfl (lv_at hl 0 rfl) ?_
  refine lv_iconst (v := 0) hx hb dX4_init_28 (by decide) ?_
  obtain ⟨iv30, e31, hq⟩ := wLt_e hf
  clear hf
  revert hq
  intro hf
  refine wp (C := RX4) (T := TX4) (N := 17) (v := .int 0) (ty := tyX4 4) (iv' := iv30) (rv' := rv28) hx hb hts iX4 tyX4 tyX4_ok nmX4 hown hKn.1 hH hO hS (q := 1) g27 (by decide) rfl rfl 4 (by decide) k25 rfl (tyX4_ok 4 (by decide)) rfl rfl (Nat.le_of_ble_eq_true rfl) (by rw [e31, wU_self]; rfl) (fun a ha => by rw [e31]; exact wU_ne a ha) (fun _ _ => rfl) dX4_init_29 (fun H locs hH hS => ?_)
  refine wald_n hx hb dX4_init_32 rfl (lv_at hl 0 rfl) ?_
  refine lv_bipush (v := 8) hx hb dX4_init_33 (by decide) ?_
  obtain ⟨g32, hq⟩ := wGd_e hf
  clear hf
  revert hq
  intro hf
  obtain ⟨sh33, e37, hq⟩ := wLt_e hf
  clear hf
  revert hq
  intro hf
  obtain ⟨ln34, e38, hq⟩ := wLt_e hf
  clear hf
  revert hq
  intro hf
  obtain ⟨iv35, e39, hq⟩ := wLt_e hf
  clear hf
  revert hq
  intro hf
  obtain ⟨rv36, e40, hq⟩ := wLt_e hf
  clear hf
  revert hq
  intro hf
  refine wnaE (atype := .int) (ty := .int) hx hb (hts (.arrayClass .int) (List.mem_of_getElem? (i := 10) rfl)) hKn.1 hH hO hS hA 5 7 0 g32 (by decide) rfl (fun _ _ => rfl) rfl rfl (fun h => h) (M := 8) (by decide) (Nat.le_of_ble_eq_true rfl) (by decide) (by decide) (by show _ ≤ 15; omega) (by show _ ≤ 176; omega) dX4_init_35 e37 e38 e39 e40 (fun lo41 H hloc hH hO hS => ?_)
  replace hkp := wKpE (kd := 7) hkp g32.2.1 (by decide) hloc e37
  rw [wR_same (hloc 1 (wNe g27 (by decide) g32.2.1))] at hl
  refine W.eq (g2 := F0 m 37 ls [wR lo41 5, wR lo41 1]) (by rw [wR_same (hloc 1 (wNe g27 (by decide) g32.2.1))]) ?_
  obtain ⟨g42, hq⟩ := wGd_e hf
  clear hf
  revert hq
  intro hf
  obtain ⟨rv43, e44, hq⟩ := wLt_e hf
  clear hf
  revert hq
  intro hf
  refine wpF (C := RX4) (T := TX4) (N := 17) (v := wR lo41 5) (ty := tyX4 5) (iv' := iv35) (rv' := rv43) hx hb hts iX4 tyX4 tyX4_ok nmX4 hown hKn.1 hH hO hS (q := 1) g42 (by decide) rfl rfl 5 (by decide) k28 rfl hin rfl (tyX4_ok 5 (by decide)) (wR_nar _ _ _) (wR_fitA _ _ _) (Nat.le_of_ble_eq_true rfl) (by rw [e44, wV_self]; rfl) (fun _ _ => rfl) (fun a ha => by rw [e44]; exact wV_ne a ha) dX4_init_37 (fun H locs hH hS => ?_)
  refine wald_n hx hb dX4_init_40 rfl (lv_at hl 0 rfl) ?_
  refine lv_iconst (v := 3) hx hb dX4_init_41 (by decide) ?_
  obtain ⟨g45, hq⟩ := wGd_e hf
  clear hf
  revert hq
  intro hf
  obtain ⟨sh46, e50, hq⟩ := wLt_e hf
  clear hf
  revert hq
  intro hf
  obtain ⟨ln47, e51, hq⟩ := wLt_e hf
  clear hf
  revert hq
  intro hf
  obtain ⟨iv48, e52, hq⟩ := wLt_e hf
  clear hf
  revert hq
  intro hf
  obtain ⟨rv49, e53, hq⟩ := wLt_e hf
  clear hf
  revert hq
  intro hf
  refine wnaE (atype := .int) (ty := .int) hx hb (hts (.arrayClass .int) (List.mem_of_getElem? (i := 10) rfl)) hKn.1 hH hO hS hA 6 7 0 g45 (by decide) rfl (fun _ _ => rfl) rfl rfl (fun h => h) (M := 3) (by decide) (Nat.le_of_ble_eq_true rfl) (by decide) (by decide) (by show _ ≤ 15; omega) (by show _ ≤ 176; omega) dX4_init_42 e50 e51 e52 e53 (fun lo54 H hloc hH hO hS => ?_)
  replace hkp := wKpE (kd := 7) hkp g45.2.1 (by decide) hloc e50
  rw [wR_same (hloc 1 (wNe g42 (by decide) g45.2.1))] at hl
  refine W.eq (g2 := F0 m 44 ls [wR lo54 6, wR lo54 1]) (by rw [wR_same (hloc 1 (wNe g42 (by decide) g45.2.1))]) ?_
  obtain ⟨g55, hq⟩ := wGd_e hf
  clear hf
  revert hq
  intro hf
  obtain ⟨rv56, e57, hq⟩ := wLt_e hf
  clear hf
  revert hq
  intro hf
  refine wpF (C := RX4) (T := TX4) (N := 17) (v := wR lo54 6) (ty := tyX4 6) (iv' := iv48) (rv' := rv56) hx hb hts iX4 tyX4 tyX4_ok nmX4 hown hKn.1 hH hO hS (q := 1) g55 (by decide) rfl rfl 6 (by decide) k32 rfl hin rfl (tyX4_ok 6 (by decide)) (wR_nar _ _ _) (wR_fitA _ _ _) (Nat.le_of_ble_eq_true rfl) (by rw [e57, wV_self]; rfl) (fun _ _ => rfl) (fun a ha => by rw [e57]; exact wV_ne a ha) dX4_init_44 (fun H locs hH hS => ?_)
  refine wald_n hx hb dX4_init_47 rfl (lv_at hl 0 rfl) ?_
  refine wnul hx hb lo54 dX4_init_48 ?_
  obtain ⟨rv58, e59, hq⟩ := wLt_e hf
  clear hf
  revert hq
  intro hf
  refine wp (C := RX4) (T := TX4) (N := 17) (v := wR lo54 0) (ty := tyX4 8) (iv' := iv48) (rv' := rv58) hx hb hts iX4 tyX4 tyX4_ok nmX4 hown hKn.1 hH hO hS (q := 1) g55 (by decide) rfl rfl 8 (by decide) k35 rfl (tyX4_ok 8 (by decide)) (wR_nar _ _ _) (wR_fit _ _ _) (Nat.le_of_ble_eq_true rfl) (by rw [e59, wV_self]; rfl) (fun _ _ => rfl) (fun a ha => by rw [e59]; exact wV_ne a ha) dX4_init_49 (fun H locs hH hS => ?_)
  refine wald_n hx hb dX4_init_52 rfl (lv_at hl 0 rfl) ?_
  refine wnul hx hb lo54 dX4_init_53 ?_
  obtain ⟨rv60, e61, hq⟩ := wLt_e hf
  clear hf
  revert hq
  intro hf
  refine wp (C := RX4) (T := TX4) (N := 17) (v := wR lo54 0) (ty := tyX4 9) (iv' := iv48) (rv' := rv60) hx hb hts iX4 tyX4 tyX4_ok nmX4 hown hKn.1 hH hO hS (q := 1) g55 (by decide) rfl rfl 9 (by decide) k39 rfl (tyX4_ok 9 (by decide)) (wR_nar _ _ _) (wR_fit _ _ _) (Nat.le_of_ble_eq_true rfl) (by rw [e61, wV_self]; rfl) (fun _ _ => rfl) (fun a ha => by rw [e61]; exact wV_ne a ha) dX4_init_54 (fun H locs hH hS => ?_)
  refine wald_n hx hb dX4_init_57 rfl (lv_at hl 0 rfl) ?_
  refine lv_sipush (v := 900) hx hb dX4_init_58 (by decide) ?_
  obtain ⟨iv62, e63, hq⟩ := wLt_e hf
  clear hf
  revert hq
  intro hf
  refine wp (C := RX4) (T := TX4) (N := 17) (v := .int 900) (ty := tyX4 11) (iv' := iv62) (rv' := rv60) hx hb hts iX4 tyX4 tyX4_ok nmX4 hown hKn.1 hH hO hS (q := 1) g55 (by decide) rfl rfl 11 (by decide) k42 rfl (tyX4_ok 11 (by decide)) rfl rfl (Nat.le_of_ble_eq_true rfl) (by rw [e63, wU_self]; rfl) (fun a ha => by rw [e63]; exact wU_ne a ha) (fun _ _ => rfl) dX4_init_61 (fun H locs hH hS => ?_)
  refine wald_n hx hb dX4_init_64 rfl (lv_at hl 0 rfl) ?_
  refine lv_iconst (v := 0) hx hb dX4_init_65 (by decide) ?_
  obtain ⟨iv64, e65, hq⟩ := wLt_e hf
  clear hf
  revert hq
  intro hf
  refine wp (C := RX4) (T := TX4) (N := 17) (v := .int 0) (ty := tyX4 12) (iv' := iv64) (rv' := rv60) hx hb hts iX4 tyX4 tyX4_ok nmX4 hown hKn.1 hH hO hS (q := 1) g55 (by decide) rfl rfl 12 (by decide) k45 rfl (tyX4_ok 12 (by decide)) rfl rfl (Nat.le_of_ble_eq_true rfl) (by rw [e65, wU_self]; rfl) (fun a ha => by rw [e65]; exact wU_ne a ha) (fun _ _ => rfl) dX4_init_66 (fun H locs hH hS => ?_)
  refine wald_n hx hb dX4_init_69 rfl (lv_at hl 0 rfl) ?_
  refine lv_bipush (v := 50) hx hb dX4_init_70 (by decide) ?_
  obtain ⟨iv66, e67, hq⟩ := wLt_e hf
  clear hf
  revert hq
  intro hf
  refine wp (C := RX4) (T := TX4) (N := 17) (v := .int 50) (ty := tyX4 13) (iv' := iv66) (rv' := rv60) hx hb hts iX4 tyX4 tyX4_ok nmX4 hown hKn.1 hH hO hS (q := 1) g55 (by decide) rfl rfl 13 (by decide) k48 rfl (tyX4_ok 13 (by decide)) rfl rfl (Nat.le_of_ble_eq_true rfl) (by rw [e67, wU_self]; rfl) (fun a ha => by rw [e67]; exact wU_ne a ha) (fun _ _ => rfl) dX4_init_72 (fun H locs hH hS => ?_)
  refine wald_n hx hb dX4_init_75 rfl (lv_at hl 0 rfl) ?_
  refine lv_iconst (v := 0) hx hb dX4_init_76 (by decide) ?_
  obtain ⟨iv68, e69, hq⟩ := wLt_e hf
  clear hf
  revert hq
  intro hf
  refine wp (C := RX4) (T := TX4) (N := 17) (v := .int 0) (ty := tyX4 14) (iv' := iv68) (rv' := rv60) hx hb hts iX4 tyX4 tyX4_ok nmX4 hown hKn.1 hH hO hS (q := 1) g55 (by decide) rfl rfl 14 (by decide) k51 rfl (tyX4_ok 14 (by decide)) rfl rfl (Nat.le_of_ble_eq_true rfl) (by rw [e69, wU_self]; rfl) (fun a ha => by rw [e69]; exact wU_ne a ha) (fun _ _ => rfl) dX4_init_77 (fun H locs hH hS => ?_)
  refine wald_n hx hb dX4_init_80 rfl (lv_at hl 0 rfl) ?_
  refine lv_iconst (v := 0) hx hb dX4_init_81 (by decide) ?_
  obtain ⟨iv70, e71, hq⟩ := wLt_e hf
  clear hf
  revert hq
  intro hf
  refine wp (C := RX4) (T := TX4) (N := 17) (v := .int 0) (ty := tyX4 15) (iv' := iv70) (rv' := rv60) hx hb hts iX4 tyX4 tyX4_ok nmX4 hown hKn.1 hH hO hS (q := 1) g55 (by decide) rfl rfl 15 (by decide) k54 rfl (tyX4_ok 15 (by decide)) rfl rfl (Nat.le_of_ble_eq_true rfl) (by rw [e71, wU_self]; rfl) (fun a ha => by rw [e71]; exact wU_ne a ha) (fun _ _ => rfl) dX4_init_82 (fun H locs hH hS => ?_)
  refine wald_n hx hb dX4_init_85 rfl (lv_at hl 0 rfl) ?_
  refine lv_iconst (v := 0) hx hb dX4_init_86 (by decide) ?_
  obtain ⟨iv72, e73, hq⟩ := wLt_e hf
  clear hf
  revert hq
  intro hf
  refine wp (C := RX4) (T := TX4) (N := 17) (v := .int 0) (ty := tyX4 16) (iv' := iv72) (rv' := rv60) hx hb hts iX4 tyX4 tyX4_ok nmX4 hown hKn.1 hH hO hS (q := 1) g55 (by decide) rfl rfl 16 (by decide) k57 rfl (tyX4_ok 16 (by decide)) rfl rfl (Nat.le_of_ble_eq_true rfl) (by rw [e73, wU_self]; rfl) (fun a ha => by rw [e73]; exact wU_ne a ha) (fun _ _ => rfl) dX4_init_87 (fun H locs hH hS => ?_)
  refine lv_iload_n hx hb dX4_init_90 rfl (lv_at hl 1 rfl) ?_
  refine lv_iconst (v := 1) hx hb dX4_init_91 (by decide) ?_
  refine lv_iconst (v := 3) hx hb dX4_init_92 (by decide) ?_
  obtain ⟨r74, h75, hq⟩ := wBd_e hf
  clear hf
  revert hq
  intro hf
  refine wci (va_runS (As := [.int a1, .int 1, .int 3]) (rest := []) ⟨hx, hb, hml, hown, hts⟩ (mtX4_within l D K lo54 sh46 ln47 iv72 rv60 _ 0 a1 1 3 h75) (va_cwS 3 hts gX4_init_X4_within rfl rfl rfl (by decide +kernel) ⟨Nat.le_of_ble_eq_true rfl, Nat.le_of_ble_eq_true rfl⟩) (wPreS hKn hH) rfl rfl hl.1 rfl (lv_room (Nat.le_of_ble_eq_true rfl)) dX4_init_93 ⟨by show _ ≤ 15; omega, by show _ ≤ 176; omega⟩) hS hO hA (fun H locs hH hS => ?_)
  refine lv_istore_n (lv' := [(3, .int r74), (0, wR lo54 1), (1, .int a1), (2, .int a2)]) hx hb dX4_init_96 rfl hl (by decide) rfl (fun ls hl => ?_)
  refine wald_n hx hb dX4_init_97 rfl (lv_at hl 1 rfl) ?_
  refine lv_iload_n hx hb dX4_init_98 rfl (lv_at hl 0 rfl) ?_
  obtain ⟨g77, hq⟩ := wGd_e hf
  clear hf
  revert hq
  intro hf
  obtain ⟨g76, hq⟩ := wGd_e hf
  clear hf
  revert hq
  intro hf
  obtain ⟨sh78, e82, hq⟩ := wLt_e hf
  clear hf
  revert hq
  intro hf
  obtain ⟨ln79, e83, hq⟩ := wLt_e hf
  clear hf
  revert hq
  intro hf
  obtain ⟨iv80, e84, hq⟩ := wLt_e hf
  clear hf
  revert hq
  intro hf
  obtain ⟨rv81, e85, hq⟩ := wLt_e hf
  clear hf
  revert hq
  intro hf
  refine wnqE hx hb hown (hts (.classLink RX4 64 RX1) (List.mem_of_getElem? (i := 21) rfl)) hKn.2.2.1 hKn.1 hH hO hS hA 2 10 3 g76 (by decide) (fun _ _ => rfl) rfl (M := 3) (fun h => g77 (Or.inl h)) (Nat.le_of_lt_succ (Nat.not_le.mp fun q => g77 (Or.inr q))) (by decide) (by show _ ≤ 15; omega) (by show _ ≤ 176; omega) dX4_init_99 e82 e83 e84 e85 (fun lo86 H hloc hH hO hS => ?_)
  replace hkp := wKpE (kd := 10) hkp g76.2.1 (by decide) hloc e82
  rw [wR_same (hloc 1 (wNe g55 (by decide) g76.2.1))] at hl
  refine W.eq (g2 := F0 m 102 ls [wR lo86 2, wR lo86 1]) (by rw [wR_same (hloc 1 (wNe g55 (by decide) g76.2.1))]) ?_
  obtain ⟨g87, hq⟩ := wGd_e hf
  clear hf
  revert hq
  intro hf
  obtain ⟨rv88, e89, hq⟩ := wLt_e hf
  clear hf
  revert hq
  intro hf
  refine wpF (C := RX4) (T := TX4) (N := 17) (v := wR lo86 2) (ty := tyX4 0) (iv' := iv80) (rv' := rv88) hx hb hts iX4 tyX4 tyX4_ok nmX4 hown hKn.1 hH hO hS (q := 1) g87 (by decide) rfl rfl 0 (by decide) k66 rfl hin rfl (tyX4_ok 0 (by decide)) (wR_nar _ _ _) (wR_fitA _ _ _) (Nat.le_of_ble_eq_true rfl) (by rw [e89, wV_self]; rfl) (fun _ _ => rfl) (fun a ha => by rw [e89]; exact wV_ne a ha) dX4_init_102 (fun H locs hH hS => ?_)
  refine lv_iconst (v := 0) hx hb dX4_init_105 (by decide) ?_
  refine lv_istore (lv' := [(4, .int 0), (3, .int r74), (0, wR lo86 1), (1, .int a1), (2, .int a2)]) hx hb dX4_init_106 hl (by decide) rfl (fun ls hl => ?_)
  obtain ⟨sh100, ln101, iv102, rv103, hL97, hq⟩ := wB4_e hf
  clear hf
  revert hq
  intro hf
  have hk98 : ∀ (lo104 : Nat → Nat) (H : Heap) (locs : List Loc) (ls : Array Slot), (∀ a, sh a ≠ 0 → lo104 a = loc a ∧ sh100 a ≠ 0) → (∀ a, sh100 a ≠ 0 → wA loc sh s.heap.size (lo104 a)) → wH D K lo104 sh100 ln101 iv102 rv103 H → va_S (wA loc sh s.heap.size) s.heap H locs → lv_has ls 5 [(0, wR lo104 1), (2, .int a2), (3, .int r74)] → W p l e (headSpec wsX4_init ({ frames := 2, cells := 15, slots := 176, locals := 43 })).room s m ([wR loc 1, .int a1, .int a2] : List Value).toArray below meth c H locs 9 146 (MQ below (wQnv D K loc sh sh' ln' iv' rv' s.heap.size) ([wR loc 1, .int a1, .int a2] : List Value).toArray s 15 176 (wA loc sh s.heap.size)) (F0 m 136 ls []) := by
    clear hL97 hl hS hH hkp hO
    intro lo104 H locs ls hkp hO hH hS hl
    refine wald_n hx hb dX4_init_136 rfl (lv_at hl 0 rfl) ?_
    obtain ⟨g125, hq⟩ := wGd_e hf
    clear hf
    revert hq
    intro hf
    obtain ⟨g126, hq⟩ := wGd_e hf
    clear hf
    revert hq
    intro hf
    obtain ⟨sh127, e131, hq⟩ := wLt_e hf
    clear hf
    revert hq
    intro hf
    obtain ⟨ln128, e132, hq⟩ := wLt_e hf
    clear hf
    revert hq
    intro hf
    obtain ⟨iv129, e133, hq⟩ := wLt_e hf
    clear hf
    revert hq
    intro hf
    obtain ⟨rv130, e134, hq⟩ := wLt_e hf
    clear hf
    revert hq
    intro hf
    refine wnoE (C := RX2) (T := TX2) (N := 7) (fs := [.null, .null, .null, .null, .null, .int 0, .int 0]) hx hb hts iX2 tyX2 tyX2_ok hown (hts (.classLink RX4 73 RX2) (List.mem_of_getElem? (i := 25) rfl)) (hts (.instantiable RX2 7) (List.mem_of_getElem? (i := 26) rfl)) (hts (.initialized RX2) (List.mem_of_getElem? (i := 27) rfl)) hKn.1 hH hO hS hA 7 12 0 g126 (by decide) (fun _ => rfl) rfl (fun j hj => by rcases (show j = 0 ∨ j = 1 ∨ j = 2 ∨ j = 3 ∨ j = 4 ∨ j = 5 ∨ j = 6 by omega) with rfl | rfl | rfl | rfl | rfl | rfl | rfl <;> rfl) (by show _ ≤ 15; omega) (by show _ ≤ 176; omega) dX4_init_137 e131 e132 e133 e134 (fun lo135 H hloc hH hO hS => ?_)
    replace hkp := wKpE (kd := 12) hkp g126.2.1 (by decide) hloc e131
    rw [wR_same (hloc 1 (wNe g125 (by decide) g126.2.1))] at hl
    refine W.eq (g2 := F0 m 140 ls [wR lo135 7, wR lo135 1]) (by rw [wR_same (hloc 1 (wNe g125 (by decide) g126.2.1))]) ?_
    refine lv_dup hx hb dX4_init_140 (wR_cat _ _) ?_
    refine lv_iload_n hx hb dX4_init_141 rfl (lv_at hl 2 rfl) ?_
    obtain ⟨g136, hq⟩ := wGd_e hf
    clear hf
    revert hq
    intro hf
    obtain ⟨sh137, ln138, iv139, rv140, h141, hq⟩ := wB4_e hf
    clear hf
    revert hq
    intro hf
    refine wcnv (va_runI (As := [.int r74]) (rest := [wR lo135 7, wR lo135 1]) ⟨hx, hb, hml, hown, hts⟩ (mtX2_init l D K lo135 sh127 ln128 iv129 rv130 _ r74 h141) (cwI 1 hts gX4_init_X2_init rfl rfl rfl (hts (.initialized RX2) (List.mem_of_getElem? (i := 27) rfl)) (hts (.methodLink RX4 75 yX2_init) (List.mem_of_getElem? (i := 51) rfl)) (hts (.instanceMethod yX2_init) (List.mem_of_getElem? (i := 52) rfl)) rfl (by decide +kernel) ⟨Nat.le_of_ble_eq_true rfl, Nat.le_of_ble_eq_true rfl⟩) (wPreI hKn hH (e131 ▸ va_up_self _ _ _) (by decide)) rfl rfl hl.1 rfl (lv_room (Nat.le_of_ble_eq_true rfl)) dX4_init_142 ⟨by show _ ≤ 15; omega, by show _ ≤ 176; omega⟩) hS hO hA (fun lo142 H locs hloc hH hO hS => ?_)
    replace hkp := wKq hkp hloc
    rw [wR_same (hloc 1 (wNz g136 (by decide))).1] at hl
    refine W.eq (g2 := F0 m 145 ls [wR lo142 7, wR lo142 1]) (by rw [wR_same (hloc 1 (wNz g136 (by decide))).1, wR_same (hloc 7 (wNz (e131 ▸ va_up_self _ _ _) (by decide))).1]) ?_
    obtain ⟨g143, hq⟩ := wGd_e hf
    clear hf
    revert hq
    intro hf
    obtain ⟨rv144, e145, hq⟩ := wLt_e hf
    clear hf
    revert hq
    intro hf
    refine wpF (C := RX4) (T := TX4) (N := 17) (v := wR lo142 7) (ty := tyX4 7) (iv' := iv139) (rv' := rv144) hx hb hts iX4 tyX4 tyX4_ok nmX4 hown hKn.1 hH hO hS (q := 1) g143 (by decide) rfl rfl 7 (by decide) k76 rfl hin rfl (tyX4_ok 7 (by decide)) (wR_nar _ _ _) (wR_fit _ _ _) (Nat.le_of_ble_eq_true rfl) (by rw [e145, wV_self]; rfl) (fun _ _ => rfl) (fun a ha => by rw [e145]; exact wV_ne a ha) dX4_init_145 (fun H locs hH hS => ?_)
    refine wald_n hx hb dX4_init_148 rfl (lv_at hl 0 rfl) ?_
    refine lv_iload_n hx hb dX4_init_149 rfl (lv_at hl 1 rfl) ?_
    refine lv_bipush (v := 6) hx hb dX4_init_150 (by decide) ?_
    refine lv_bipush (v := 30) hx hb dX4_init_152 (by decide) ?_
    obtain ⟨r146, h147, hq⟩ := wBd_e hf
    clear hf
    revert hq
    intro hf
    refine wci (va_runS (As := [.int a2, .int 6, .int 30]) (rest := [wR lo142 1]) ⟨hx, hb, hml, hown, hts⟩ (mtX4_within l D K lo142 sh137 ln138 iv139 rv144 _ 0 a2 6 30 h147) (va_cwS 3 hts gX4_init_X4_within rfl rfl rfl (by decide +kernel) ⟨Nat.le_of_ble_eq_true rfl, Nat.le_of_ble_eq_true rfl⟩) (wPreS hKn hH) rfl rfl hl.1 rfl (lv_room (Nat.le_of_ble_eq_true rfl)) dX4_init_154 ⟨by show _ ≤ 15; omega, by show _ ≤ 176; omega⟩) hS hO hA (fun H locs hH hS => ?_)
    obtain ⟨iv148, e149, hq⟩ := wLt_e hf
    clear hf
    revert hq
    intro hf
    refine wp (C := RX4) (T := TX4) (N := 17) (v := .int r146) (ty := tyX4 10) (iv' := iv148) (rv' := rv144) hx hb hts iX4 tyX4 tyX4_ok nmX4 hown hKn.1 hH hO hS (q := 1) g143 (by decide) rfl rfl 10 (by decide) k80 rfl (tyX4_ok 10 (by decide)) rfl rfl (Nat.le_of_ble_eq_true rfl) (by rw [e149, wU_self]; rfl) (fun a ha => by rw [e149]; exact wU_ne a ha) (fun _ _ => rfl) dX4_init_157 (fun H locs hH hS => ?_)
    cases hf
    refine W.widen (k := 15) (n := 176) (by omega) (by omega) ?_
    exact W.vret hx hb hr (fun t ht hW => ⟨⟨lo142, rfl, hkp, by show wH _ _ _ _ _ _ _ t.heap; rw [ht]; exact hH, hO⟩, hS.F ht⟩) hS.2.2 dX4_init_160
  have lp99 : ∀ (n90 : Nat) (hle : n90 ≤ 4) (lo93 : Nat → Nat) (sh94 : Nat → Nat) (ln95 : Nat → Nat) (iv91 : wI) (rv92 : wJ) (x96 : Int32) (H : Heap) (locs : List Loc) (ls : Array Slot), fX4_init_108 n90 sh94 ln95 iv91 rv92 a2 r74 x96 = some (sh100, ln101, iv102, rv103) → (∀ a, sh a ≠ 0 → lo93 a = loc a ∧ sh94 a ≠ 0) → (∀ a, sh94 a ≠ 0 → wA loc sh s.heap.size (lo93 a)) → wH D K lo93 sh94 ln95 iv91 rv92 H → va_S (wA loc sh s.heap.size) s.heap H locs → lv_has ls 5 [(0, wR lo93 1), (2, .int a2), (3, .int r74), (4, .int x96)] → W p l e (headSpec wsX4_init ({ frames := 2, cells := 15, slots := 176, locals := 43 })).room s m ([wR loc 1, .int a1, .int a2] : List Value).toArray below meth c H locs (5 + (4 - n90) * 1) (122 + (4 - n90) * 6) (MQ below (wQnv D K loc sh sh' ln' iv' rv' s.heap.size) ([wR loc 1, .int a1, .int a2] : List Value).toArray s 15 176 (wA loc sh s.heap.size)) (F0 m 108 ls []) := by
    clear hf hl hS hH hkp hO hL97
    intro n90
    induction n90 with
    | zero => intro hle lo93 sh94 ln95 iv91 rv92 x96 H locs ls hf; cases hf
    | succ n90 ih =>
      intro hle lo93 sh94 ln95 iv91 rv92 x96 H locs ls hf hkp hO hH hS hl
      rw [fX4_init_108.eq_2] at hf
      refine lv_iload hx hb dX4_init_108 (lv_at hl 3 rfl) ?_
      refine lv_iload_n hx hb dX4_init_110 rfl (lv_at hl 2 rfl) ?_
      refine lv_icmp_ge (tgt := 136) hx hb dX4_init_111 (by decide) (fun c105 => ?_) (fun c105 => ?_)
      · replace hf := wIt c105 hf
        cases hf
        refine W.widen (k := 9) (n := 146) (by omega) (by omega) ?_
        exact hk98 _ _ _ _ hkp hO hH hS (lv_sub hl [0, 1, 2] rfl)
      · replace hf := wIf c105 hf
        refine wald_n hx hb dX4_init_114 rfl (lv_at hl 0 rfl) ?_
        obtain ⟨g106, hq⟩ := wGd_e hf
        clear hf
        revert hq
        intro hf
        refine wg (C := RX4) (T := TX4) (N := 17) (v := wR lo93 (rv92 1 0)) hx hb hts iX4 hown hKn.1 hH (q := 1) g106 (by decide) rfl rfl 0 (by decide) k66 rfl dX4_init_115 ?_
        refine lv_iload hx hb dX4_init_118 (lv_at hl 3 rfl) ?_
        obtain ⟨g107, hq⟩ := wGd_e hf
        clear hf
        revert hq
        intro hf
        obtain ⟨g108, hq⟩ := wGd_e hf
        clear hf
        revert hq
        intro hf
        obtain ⟨sh109, e113, hq⟩ := wLt_e hf
        clear hf
        revert hq
        intro hf
        obtain ⟨ln110, e114, hq⟩ := wLt_e hf
        clear hf
        revert hq
        intro hf
        obtain ⟨iv111, e115, hq⟩ := wLt_e hf
        clear hf
        revert hq
        intro hf
        obtain ⟨rv112, e116, hq⟩ := wLt_e hf
        clear hf
        revert hq
        intro hf
        refine wnoE (C := RX1) (T := TX1) (N := 6) (fs := [.int 0, .int 0, .int 0, .int 0, .int 0, .null]) hx hb hts iX1 tyX1 tyX1_ok hown (hts (.classLink RX4 64 RX1) (List.mem_of_getElem? (i := 21) rfl)) (hts (.instantiable RX1 6) (List.mem_of_getElem? (i := 23) rfl)) (hts (.initialized RX1) (List.mem_of_getElem? (i := 24) rfl)) hKn.1 hH hO hS hA (x96.toNatClampNeg + 13) 2 0 g108 (by decide) (fun _ => rfl) rfl (fun j hj => by rcases (show j = 0 ∨ j = 1 ∨ j = 2 ∨ j = 3 ∨ j = 4 ∨ j = 5 by omega) with rfl | rfl | rfl | rfl | rfl | rfl <;> rfl) (by show _ ≤ 15; omega) (by show _ ≤ 176; omega) dX4_init_120 e113 e114 e115 e116 (fun lo117 H hloc hH hO hS => ?_)
        replace hkp := wKpE (kd := 2) hkp g108.2.1 (by decide) hloc e113
        rw [wR_same (hloc 1 (wNe g106 (by decide) g108.2.1))] at hl
        refine W.eq (g2 := F0 m 123 ls [wR lo117 (x96.toNatClampNeg + 13), .int x96, wR lo117 (rv92 1 0)]) (by rw [wR_same (hloc (rv92 1 0) (wNe g107 (by decide) g108.2.1))]) ?_
        refine lv_dup hx hb dX4_init_123 (wR_cat _ _) ?_
        refine lv_iload hx hb dX4_init_124 (lv_at hl 3 rfl) ?_
        obtain ⟨iv118, rv119, h120, hq⟩ := wB2_e hf
        clear hf
        revert hq
        intro hf
        refine W.eq (g2 := F0 m 126 ls ([.int x96] ++ .ref (lo117 (x96.toNatClampNeg + 13)) :: [wR lo117 (x96.toNatClampNeg + 13), .int x96, wR lo117 (rv92 1 0)])) (by rw [wR_ref (loc := lo117) (c := (x96.toNatClampNeg + 13)) (hH.nz (e113 ▸ va_up_self _ _ _) (by decide))]; rfl) ?_
        refine wcv (va_runI (As := [.int x96]) (rest := [wR lo117 (x96.toNatClampNeg + 13), .int x96, wR lo117 (rv92 1 0)]) ⟨hx, hb, hml, hown, hts⟩ (mtX1_init l D K lo117 sh109 ln110 iv111 rv112 _ 0 (x96.toNatClampNeg + 13) x96 (e113 ▸ va_up_self _ _ _) h120) (cwI 1 hts gX4_init_X1_init rfl rfl rfl (hts (.initialized RX1) (List.mem_of_getElem? (i := 24) rfl)) (hts (.methodLink RX4 70 yX1_init) (List.mem_of_getElem? (i := 41) rfl)) (hts (.instanceMethod yX1_init) (List.mem_of_getElem? (i := 42) rfl)) rfl (by decide +kernel) ⟨Nat.le_of_ble_eq_true rfl, Nat.le_of_ble_eq_true rfl⟩) (wPreI hKn hH (e113 ▸ va_up_self _ _ _) (by decide)) rfl rfl hl.1 rfl (lv_room (by simp [wR_cat, iCat])) dX4_init_126 ⟨by show _ ≤ 15; omega, by show _ ≤ 176; omega⟩) hS hO hA (fun H locs hH hS => ?_)
        obtain ⟨g121, hq⟩ := wGd_e hf
        clear hf
        revert hq
        intro hf
        obtain ⟨g122, hq⟩ := wGd_e hf
        clear hf
        revert hq
        intro hf
        obtain ⟨rv123, e124, hq⟩ := wLt_e hf
        clear hf
        revert hq
        intro hf
        refine was (kd := 10) (ki := 3) (kv := 2) hx hb hKn.1 hH hO hS g121 (by decide) (fun _ => rfl) rfl rfl (e113 ▸ va_up_self _ _ _) (by decide) rfl rfl g122 dX4_init_129 (fun H locs hH hS => ?_)
        rw [← e124] at hH
        refine lv_iinc (v := (x96 + 1)) (lv' := [(4, .int (x96 + 1)), (0, wR lo117 1), (2, .int a2), (3, .int r74)]) hx hb dX4_init_130 hl (k := 3) rfl rfl (by decide) rfl (fun ls hl => ?_)
        refine lv_goto (tgt := 108) hx hb dX4_init_133 (by decide) ?_
        refine W.widen (k := 5 + (4 - n90) * 1) (n := 122 + (4 - n90) * 6) (by omega) (by omega) ?_
        exact ih (by omega) _ _ _ _ _ _ _ _ _ hf hkp hO hH hS (lv_sub hl [1, 2, 3, 0] rfl)
  refine W.widen (k := 5 + (4 - 4) * 1) (n := 122 + (4 - 4) * 6) (by omega) (by omega) ?_
  exact lp99 4 (Nat.le_refl _) _ _ _ _ _ _ _ _ _ hL97 hkp hO hH hS (lv_sub hl [2, 4, 1, 0] rfl)
