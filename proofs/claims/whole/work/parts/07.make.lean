noncomputable def fX2_init  (sh : (Nat → Nat)) (ln : (Nat → Nat)) (iv : wI) (rv : wJ) (a1 : Int32) : Option ((Nat → Nat) × (Nat → Nat) × wI × wJ) := wGd (sh 7 = 12) (wGd (wFr sh rv 8) (wLt (va_up sh 8 9) (fun (sh3 : Nat → Nat) => wLt (va_up ln 8 (5 : Int32).toNatClampNeg) (fun (ln4 : Nat → Nat) => wLt (va_up iv 8 (fun _ => (0 : Int32))) (fun (iv5 : wI) => wLt (va_up rv 8 (fun _ => (0 : Nat))) (fun (rv6 : wJ) => wGd (sh3 7 = 12) (wLt (wV rv6 7 0 8) (fun (rv13 : wJ) => wGd (wFr sh3 rv13 9) (wLt (va_up sh3 9 7) (fun (sh16 : Nat → Nat) => wLt (va_up ln4 9 (5 : Int32).toNatClampNeg) (fun (ln17 : Nat → Nat) => wLt (va_up iv5 9 (fun _ => (0 : Int32))) (fun (iv18 : wI) => wLt (va_up rv13 9 (fun _ => (0 : Nat))) (fun (rv19 : wJ) => wGd (sh16 7 = 12) (wLt (wV rv19 7 1 9) (fun (rv26 : wJ) => wGd (wFr sh16 rv26 10) (wLt (va_up sh16 10 7) (fun (sh29 : Nat → Nat) => wLt (va_up ln17 10 (5 : Int32).toNatClampNeg) (fun (ln30 : Nat → Nat) => wLt (va_up iv18 10 (fun _ => (0 : Int32))) (fun (iv31 : wI) => wLt (va_up rv26 10 (fun _ => (0 : Nat))) (fun (rv32 : wJ) => wGd (sh29 7 = 12) (wLt (wV rv32 7 2 10) (fun (rv39 : wJ) => wGd (wFr sh29 rv39 11) (wLt (va_up sh29 11 8) (fun (sh42 : Nat → Nat) => wLt (va_up ln30 11 (5 : Int32).toNatClampNeg) (fun (ln43 : Nat → Nat) => wLt (va_up iv31 11 (fun _ => (0 : Int32))) (fun (iv44 : wI) => wLt (va_up rv39 11 (fun _ => (0 : Nat))) (fun (rv45 : wJ) => wGd (sh42 7 = 12) (wLt (wV rv45 7 3 11) (fun (rv52 : wJ) => wLt (wU iv44 7 5 0) (fun (iv54 : wI) => wLt (wU iv54 7 6 0) (fun (iv56 : wI) => wGd (vp_in a1 4) (wGd (wFr sh42 rv52 12) (wLt (va_up sh42 12 7) (fun (sh60 : Nat → Nat) => wLt (va_up ln43 12 a1.toNatClampNeg) (fun (ln61 : Nat → Nat) => wLt (va_up iv56 12 (fun _ => (0 : Int32))) (fun (iv62 : wI) => wLt (va_up rv52 12 (fun _ => (0 : Nat))) (fun (rv63 : wJ) => wGd (sh60 7 = 12) (wLt (wV rv63 7 4 12) (fun (rv70 : wJ) => some (sh60, ln61, iv62, rv70))))))))))))))))))))))))))))))))))))))))
set_option maxHeartbeats 4000000 in
set_option maxRecDepth 100000 in
theorem mtX2_init (l : Launch) (D : va_G) (K : Nat → ClassId) (loc sh ln : Nat → Nat) (iv : wI) (rv : wJ) (sz : Nat) (a1 : Int32) {sh' : (Nat → Nat)} {ln' : (Nat → Nat)} {iv' : wI} {rv' : wJ} (hf : fX2_init sh ln iv rv a1 = some (sh', ln', iv', rv')) : Met l yX2_init wsX2_init ({ frames := 1, cells := 5, slots := 23, locals := 20 }) (wPc D K loc sh ln iv rv sz [wR loc 7, .int a1]) (wQnv D K loc sh sh' ln' iv' rv' sz) 5 23 (wA loc sh sz) := by
  refine Met.ofW (cc := cX2_init) (maxL := 2) (ret := none) (by decide) rfl ?_
  intro p e s m args below meth c s₁ B hml hv
  obtain ⟨rfl, hsz, hH, hKn⟩ := hv
  have hx := B.exec
  have hb := B.bytes
  have hr := B.returns
  have hts := atoms_spec (ws := wsX2_init) B.pre
  have hown : s.vm.findClass RX2 = some m.cls := findClass_of_methodNamed B.named
  have hlocks := B.notSynchronized
  subst hsz
  have hA : ∀ q : Nat, s.heap.size ≤ q → wA loc sh s.heap.size q := fun q h => Or.inr h
  have hO : ∀ a, sh a ≠ 0 → wA loc sh s.heap.size (loc a) := fun a h => Or.inl ⟨a, h, rfl⟩
  have hS : va_S (wA loc sh s.heap.size) s.heap s.heap [] := va_S.rf
  obtain ⟨ls, hen, hl⟩ := wEntry m [wR loc 7, .int a1] 2 (List.forall_mem_cons.mpr ⟨wR_cat _ _, List.forall_mem_cons.mpr ⟨rfl, fun _ h => absurd h List.not_mem_nil⟩⟩) (Nat.le_of_ble_eq_true rfl)
  rw [hen]
  clear hen
  have hl : lv_has ls 2 [(0, wR loc 7), (1, .int a1)] := hl
  have hin : meth.name = "<init>" := (name_of_methodNamed B.named B.method).1
  have hkp : ∀ a, sh a ≠ 0 → loc a = loc a ∧ sh a ≠ 0 := fun a h => ⟨rfl, h⟩
  have k11 := hts (.fieldLink RX2 11 "CupByCup$Planner" "order" "[LCupByCup$Cup;") (List.mem_of_getElem? (i := 5) rfl)
  have iX2 : ∀ w ∈ wsX20, w ∈ wsX2_init := fun w h => List.mem_cons_of_mem _ (List.mem_append_right _ h)
  have k17 := hts (.fieldLink RX2 17 "CupByCup$Planner" "best" "[I") (List.mem_of_getElem? (i := 7) rfl)
  have k21 := hts (.fieldLink RX2 21 "CupByCup$Planner" "brewedAt" "[I") (List.mem_of_getElem? (i := 8) rfl)
  have k24 := hts (.fieldLink RX2 24 "CupByCup$Planner" "needsSteam" "[Z") (List.mem_of_getElem? (i := 10) rfl)
  have k28 := hts (.fieldLink RX2 28 "CupByCup$Planner" "size" "I") (List.mem_of_getElem? (i := 11) rfl)
  have k32 := hts (.fieldLink RX2 32 "CupByCup$Planner" "bestSum" "I") (List.mem_of_getElem? (i := 12) rfl)
  have k35 := hts (.fieldLink RX2 35 "CupByCup$Planner" "groupFreeAt" "[I") (List.mem_of_getElem? (i := 13) rfl)
  unfold fX2_init at hf
  refine wald_n hx hb dX2_init_0 rfl (lv_at hl 0 rfl) ?_
  obtain ⟨g1, hf⟩ := wGd_e hf
  refine W.eq (g2 := F0 m 1 ls (.ref (loc 7) :: [])) (by rw [wR_ref (hH.nz g1 (by decide))]) ?_
  refine W.objInit hx hb hown (hts (.methodLink RX2 3 objectInit) (List.mem_of_getElem? (i := 1) rfl)) (hts (.instanceMethod objectInit) (List.mem_of_getElem? (i := 2) rfl)) (hts (.code objectInit ⟨#[0xb1]⟩ 1 none) (List.mem_of_getElem? (i := 3) rfl)) rfl (by rw [hml]; exact hl.1) rfl dX2_init_1 (Nat.le_of_ble_eq_true rfl) (Nat.le_of_ble_eq_true rfl) ?_
  refine W.eq (g2 := F0 m 4 ls []) rfl ?_
  refine wald_n hx hb dX2_init_4 rfl (lv_at hl 0 rfl) ?_
  refine lv_iconst (v := 5) hx hb dX2_init_5 (by decide) ?_
  obtain ⟨g2, hf⟩ := wGd_e hf
  obtain ⟨sh3, e7, hf⟩ := wLt_e hf
  obtain ⟨ln4, e8, hf⟩ := wLt_e hf
  obtain ⟨iv5, e9, hf⟩ := wLt_e hf
  obtain ⟨rv6, e10, hf⟩ := wLt_e hf
  refine wnq hx hb hown (hts (.classLink RX2 9 RX0) (List.mem_of_getElem? (i := 4) rfl)) hKn.2.1 hKn.1 hH hO hS hA 8 9 2 g2 (by decide) (fun _ _ => rfl) rfl (M := 5) (by decide) (Nat.le_of_ble_eq_true rfl) (by decide) (by show _ ≤ 5; omega) (by show _ ≤ 23; omega) dX2_init_6 (fun lo11 H hloc hH hO hS => ?_)
  have hkp := wKp hkp g2.2.1 (by decide) hloc
  rw [← e7] at hkp hO
  rw [← e7, ← e8, ← e9, ← e10] at hH
  rw [wR_same (hloc 7 (wNe g1 (by decide) g2.2.1))] at hl
  refine W.eq (g2 := F0 m 9 ls [wR lo11 8, wR lo11 7]) (by rw [wR_same (hloc 7 (wNe g1 (by decide) g2.2.1))]) ?_
  obtain ⟨g12, hf⟩ := wGd_e hf
  obtain ⟨rv13, e14, hf⟩ := wLt_e hf
  refine wpF (C := RX2) (T := TX2) (N := 7) (v := wR lo11 8) (ty := tyX2 0) (iv' := iv5) (rv' := rv13) hx hb hts iX2 tyX2 tyX2_ok nmX2 hown hKn.1 hH hO hS (q := 7) g12 (by decide) rfl rfl 0 (by decide) k11 rfl hin rfl (tyX2_ok 0 (by decide)) (wR_nar _ _ _) (wR_fitA _ _ _) (Nat.le_of_ble_eq_true rfl) (by rw [e14, wV_self]; rfl) (fun _ _ => rfl) (fun a ha => by rw [e14]; exact wV_ne a ha) dX2_init_9 (fun H locs hH hS => ?_)
  refine wald_n hx hb dX2_init_12 rfl (lv_at hl 0 rfl) ?_
  refine lv_iconst (v := 5) hx hb dX2_init_13 (by decide) ?_
  obtain ⟨g15, hf⟩ := wGd_e hf
  obtain ⟨sh16, e20, hf⟩ := wLt_e hf
  obtain ⟨ln17, e21, hf⟩ := wLt_e hf
  obtain ⟨iv18, e22, hf⟩ := wLt_e hf
  obtain ⟨rv19, e23, hf⟩ := wLt_e hf
  refine wna hx hb (hts (.arrayClass .int) (List.mem_of_getElem? (i := 6) rfl)) hKn.1 hH hO hS hA 9 7 0 g15 (by decide) rfl (fun _ _ => rfl) rfl rfl (fun h => h) (M := 5) (by decide) (Nat.le_of_ble_eq_true rfl) (by decide) (by decide) (by show _ ≤ 5; omega) (by show _ ≤ 23; omega) dX2_init_14 (fun lo24 H hloc hH hO hS => ?_)
  have hkp := wKp hkp g15.2.1 (by decide) hloc
  rw [← e20] at hkp hO
  rw [← e20, ← e21, ← e22, ← e23] at hH
  rw [wR_same (hloc 7 (wNe g12 (by decide) g15.2.1))] at hl
  refine W.eq (g2 := F0 m 16 ls [wR lo24 9, wR lo24 7]) (by rw [wR_same (hloc 7 (wNe g12 (by decide) g15.2.1))]) ?_
  obtain ⟨g25, hf⟩ := wGd_e hf
  obtain ⟨rv26, e27, hf⟩ := wLt_e hf
  refine wpF (C := RX2) (T := TX2) (N := 7) (v := wR lo24 9) (ty := tyX2 1) (iv' := iv18) (rv' := rv26) hx hb hts iX2 tyX2 tyX2_ok nmX2 hown hKn.1 hH hO hS (q := 7) g25 (by decide) rfl rfl 1 (by decide) k17 rfl hin rfl (tyX2_ok 1 (by decide)) (wR_nar _ _ _) (wR_fitA _ _ _) (Nat.le_of_ble_eq_true rfl) (by rw [e27, wV_self]; rfl) (fun _ _ => rfl) (fun a ha => by rw [e27]; exact wV_ne a ha) dX2_init_16 (fun H locs hH hS => ?_)
  refine wald_n hx hb dX2_init_19 rfl (lv_at hl 0 rfl) ?_
  refine lv_iconst (v := 5) hx hb dX2_init_20 (by decide) ?_
  obtain ⟨g28, hf⟩ := wGd_e hf
  obtain ⟨sh29, e33, hf⟩ := wLt_e hf
  obtain ⟨ln30, e34, hf⟩ := wLt_e hf
  obtain ⟨iv31, e35, hf⟩ := wLt_e hf
  obtain ⟨rv32, e36, hf⟩ := wLt_e hf
  refine wna hx hb (hts (.arrayClass .int) (List.mem_of_getElem? (i := 6) rfl)) hKn.1 hH hO hS hA 10 7 0 g28 (by decide) rfl (fun _ _ => rfl) rfl rfl (fun h => h) (M := 5) (by decide) (Nat.le_of_ble_eq_true rfl) (by decide) (by decide) (by show _ ≤ 5; omega) (by show _ ≤ 23; omega) dX2_init_21 (fun lo37 H hloc hH hO hS => ?_)
  have hkp := wKp hkp g28.2.1 (by decide) hloc
  rw [← e33] at hkp hO
  rw [← e33, ← e34, ← e35, ← e36] at hH
  rw [wR_same (hloc 7 (wNe g25 (by decide) g28.2.1))] at hl
  refine W.eq (g2 := F0 m 23 ls [wR lo37 10, wR lo37 7]) (by rw [wR_same (hloc 7 (wNe g25 (by decide) g28.2.1))]) ?_
  obtain ⟨g38, hf⟩ := wGd_e hf
  obtain ⟨rv39, e40, hf⟩ := wLt_e hf
  refine wpF (C := RX2) (T := TX2) (N := 7) (v := wR lo37 10) (ty := tyX2 2) (iv' := iv31) (rv' := rv39) hx hb hts iX2 tyX2 tyX2_ok nmX2 hown hKn.1 hH hO hS (q := 7) g38 (by decide) rfl rfl 2 (by decide) k21 rfl hin rfl (tyX2_ok 2 (by decide)) (wR_nar _ _ _) (wR_fitA _ _ _) (Nat.le_of_ble_eq_true rfl) (by rw [e40, wV_self]; rfl) (fun _ _ => rfl) (fun a ha => by rw [e40]; exact wV_ne a ha) dX2_init_23 (fun H locs hH hS => ?_)
  refine wald_n hx hb dX2_init_26 rfl (lv_at hl 0 rfl) ?_
  refine lv_iconst (v := 5) hx hb dX2_init_27 (by decide) ?_
  obtain ⟨g41, hf⟩ := wGd_e hf
  obtain ⟨sh42, e46, hf⟩ := wLt_e hf
  obtain ⟨ln43, e47, hf⟩ := wLt_e hf
  obtain ⟨iv44, e48, hf⟩ := wLt_e hf
  obtain ⟨rv45, e49, hf⟩ := wLt_e hf
  refine wna hx hb (hts (.arrayClass .boolean) (List.mem_of_getElem? (i := 9) rfl)) hKn.1 hH hO hS hA 11 8 1 g41 (by decide) rfl (fun _ _ => rfl) rfl rfl (fun h => h) (M := 5) (by decide) (Nat.le_of_ble_eq_true rfl) (by decide) (by decide) (by show _ ≤ 5; omega) (by show _ ≤ 23; omega) dX2_init_28 (fun lo50 H hloc hH hO hS => ?_)
  have hkp := wKp hkp g41.2.1 (by decide) hloc
  rw [← e46] at hkp hO
  rw [← e46, ← e47, ← e48, ← e49] at hH
  rw [wR_same (hloc 7 (wNe g38 (by decide) g41.2.1))] at hl
  refine W.eq (g2 := F0 m 30 ls [wR lo50 11, wR lo50 7]) (by rw [wR_same (hloc 7 (wNe g38 (by decide) g41.2.1))]) ?_
  obtain ⟨g51, hf⟩ := wGd_e hf
  obtain ⟨rv52, e53, hf⟩ := wLt_e hf
  refine wpF (C := RX2) (T := TX2) (N := 7) (v := wR lo50 11) (ty := tyX2 3) (iv' := iv44) (rv' := rv52) hx hb hts iX2 tyX2 tyX2_ok nmX2 hown hKn.1 hH hO hS (q := 7) g51 (by decide) rfl rfl 3 (by decide) k24 rfl hin rfl (tyX2_ok 3 (by decide)) (wR_nar _ _ _) (wR_fitA _ _ _) (Nat.le_of_ble_eq_true rfl) (by rw [e53, wV_self]; rfl) (fun _ _ => rfl) (fun a ha => by rw [e53]; exact wV_ne a ha) dX2_init_30 (fun H locs hH hS => ?_)
  refine wald_n hx hb dX2_init_33 rfl (lv_at hl 0 rfl) ?_
  refine lv_iconst (v := 0) hx hb dX2_init_34 (by decide) ?_
  obtain ⟨iv54, e55, hf⟩ := wLt_e hf
  refine wp (C := RX2) (T := TX2) (N := 7) (v := .int 0) (ty := tyX2 5) (iv' := iv54) (rv' := rv52) hx hb hts iX2 tyX2 tyX2_ok nmX2 hown hKn.1 hH hO hS (q := 7) g51 (by decide) rfl rfl 5 (by decide) k28 rfl (tyX2_ok 5 (by decide)) rfl rfl (Nat.le_of_ble_eq_true rfl) (by rw [e55, wU_self]; rfl) (fun a ha => by rw [e55]; exact wU_ne a ha) (fun _ _ => rfl) dX2_init_35 (fun H locs hH hS => ?_)
  refine wald_n hx hb dX2_init_38 rfl (lv_at hl 0 rfl) ?_
  refine lv_iconst (v := 0) hx hb dX2_init_39 (by decide) ?_
  obtain ⟨iv56, e57, hf⟩ := wLt_e hf
  refine wp (C := RX2) (T := TX2) (N := 7) (v := .int 0) (ty := tyX2 6) (iv' := iv56) (rv' := rv52) hx hb hts iX2 tyX2 tyX2_ok nmX2 hown hKn.1 hH hO hS (q := 7) g51 (by decide) rfl rfl 6 (by decide) k32 rfl (tyX2_ok 6 (by decide)) rfl rfl (Nat.le_of_ble_eq_true rfl) (by rw [e57, wU_self]; rfl) (fun a ha => by rw [e57]; exact wU_ne a ha) (fun _ _ => rfl) dX2_init_40 (fun H locs hH hS => ?_)
  refine wald_n hx hb dX2_init_43 rfl (lv_at hl 0 rfl) ?_
  refine lv_iload_n hx hb dX2_init_44 rfl (lv_at hl 1 rfl) ?_
  obtain ⟨g59, hf⟩ := wGd_e hf
  obtain ⟨g58, hf⟩ := wGd_e hf
  obtain ⟨sh60, e64, hf⟩ := wLt_e hf
  obtain ⟨ln61, e65, hf⟩ := wLt_e hf
  obtain ⟨iv62, e66, hf⟩ := wLt_e hf
  obtain ⟨rv63, e67, hf⟩ := wLt_e hf
  refine wna hx hb (hts (.arrayClass .int) (List.mem_of_getElem? (i := 6) rfl)) hKn.1 hH hO hS hA 12 7 0 g58 (by decide) rfl (fun _ _ => rfl) rfl rfl (fun h => h) (M := 3) (fun h => g59 (Or.inl h)) (Nat.le_of_lt_succ (Nat.not_le.mp fun q => g59 (Or.inr q))) (by decide) (by decide) (by show _ ≤ 5; omega) (by show _ ≤ 23; omega) dX2_init_45 (fun lo68 H hloc hH hO hS => ?_)
  have hkp := wKp hkp g58.2.1 (by decide) hloc
  rw [← e64] at hkp hO
  rw [← e64, ← e65, ← e66, ← e67] at hH
  rw [wR_same (hloc 7 (wNe g51 (by decide) g58.2.1))] at hl
  refine W.eq (g2 := F0 m 47 ls [wR lo68 12, wR lo68 7]) (by rw [wR_same (hloc 7 (wNe g51 (by decide) g58.2.1))]) ?_
  obtain ⟨g69, hf⟩ := wGd_e hf
  obtain ⟨rv70, e71, hf⟩ := wLt_e hf
  refine wpF (C := RX2) (T := TX2) (N := 7) (v := wR lo68 12) (ty := tyX2 4) (iv' := iv62) (rv' := rv70) hx hb hts iX2 tyX2 tyX2_ok nmX2 hown hKn.1 hH hO hS (q := 7) g69 (by decide) rfl rfl 4 (by decide) k35 rfl hin rfl (tyX2_ok 4 (by decide)) (wR_nar _ _ _) (wR_fitA _ _ _) (Nat.le_of_ble_eq_true rfl) (by rw [e71, wV_self]; rfl) (fun _ _ => rfl) (fun a ha => by rw [e71]; exact wV_ne a ha) dX2_init_47 (fun H locs hH hS => ?_)
  cases hf
  refine W.widen (k := 5) (n := 23) (by omega) (by omega) ?_
  exact W.vret hx hb hr (fun t ht hW => ⟨⟨lo68, rfl, hkp, by show wH _ _ _ _ _ _ _ t.heap; rw [ht]; exact hH, hO⟩, hS.F ht⟩) hS.2.2 dX2_init_50
noncomputable def fX4_init_108  : Nat → (Nat → Nat) → (Nat → Nat) → wI → wJ → Int32 → Int32 → Int32 → Option ((Nat → Nat) × (Nat → Nat) × wI × wJ)
  | 0, _, _, _, _, _, _, _ => none
  | n + 1, sh, ln, iv, rv, x2, x3, x4 => if x3 ≤ x4 then some (sh, ln, iv, rv) else wGd (sh 1 = 13) (wGd (sh (rv 1 0) = 10) (wGd (wFr sh rv (x4.toNatClampNeg + 13)) (wLt (va_up sh (x4.toNatClampNeg + 13) 2) (fun (sh94 : Nat → Nat) => wLt (va_up ln (x4.toNatClampNeg + 13) 0) (fun (ln95 : Nat → Nat) => wLt (va_up iv (x4.toNatClampNeg + 13) (fun _ => (0 : Int32))) (fun (iv96 : wI) => wLt (va_up rv (x4.toNatClampNeg + 13) (fun _ => (0 : Nat))) (fun (rv97 : wJ) => wB2 (fX1_init 0 sh94 iv96 rv97 (x4.toNatClampNeg + 13) x4) (fun (iv103 : wI) (rv104 : wJ) => wGd (sh94 (rv 1 0) = 10) (wGd (vp_in x4 (ln95 (rv 1 0))) (wLt (wV rv104 (rv 1 0) x4.toNatClampNeg (x4.toNatClampNeg + 13)) (fun (rv108 : wJ) => fX4_init_108 n sh94 ln95 iv103 rv108 x2 x3 (x4 + 1))))))))))))
noncomputable def fX4_init  (sh : (Nat → Nat)) (ln : (Nat → Nat)) (iv : wI) (rv : wJ) (a1 : Int32) (a2 : Int32) : Option ((Nat → Nat) × (Nat → Nat) × wI × wJ) := wGd (sh 1 = 13) (wGd (wFr sh rv 3) (wLt (va_up sh 3 11) (fun (sh3 : Nat → Nat) => wLt (va_up ln 3 (8 : Int32).toNatClampNeg) (fun (ln4 : Nat → Nat) => wLt (va_up iv 3 (fun _ => (0 : Int32))) (fun (iv5 : wI) => wLt (va_up rv 3 (fun _ => (0 : Nat))) (fun (rv6 : wJ) => wGd (sh3 1 = 13) (wLt (wV rv6 1 1 3) (fun (rv13 : wJ) => wLt (wU iv5 1 2 0) (fun (iv15 : wI) => wGd (wFr sh3 rv13 4) (wLt (va_up sh3 4 9) (fun (sh18 : Nat → Nat) => wLt (va_up ln4 4 (100 : Int32).toNatClampNeg) (fun (ln19 : Nat → Nat) => wLt (va_up iv15 4 (fun _ => (0 : Int32))) (fun (iv20 : wI) => wLt (va_up rv13 4 (fun _ => (0 : Nat))) (fun (rv21 : wJ) => wGd (sh18 1 = 13) (wLt (wV rv21 1 3 4) (fun (rv28 : wJ) => wLt (wU iv20 1 4 0) (fun (iv30 : wI) => wGd (wFr sh18 rv28 5) (wLt (va_up sh18 5 7) (fun (sh33 : Nat → Nat) => wLt (va_up ln19 5 (8 : Int32).toNatClampNeg) (fun (ln34 : Nat → Nat) => wLt (va_up iv30 5 (fun _ => (0 : Int32))) (fun (iv35 : wI) => wLt (va_up rv28 5 (fun _ => (0 : Nat))) (fun (rv36 : wJ) => wGd (sh33 1 = 13) (wLt (wV rv36 1 5 5) (fun (rv43 : wJ) => wGd (wFr sh33 rv43 6) (wLt (va_up sh33 6 7) (fun (sh46 : Nat → Nat) => wLt (va_up ln34 6 (3 : Int32).toNatClampNeg) (fun (ln47 : Nat → Nat) => wLt (va_up iv35 6 (fun _ => (0 : Int32))) (fun (iv48 : wI) => wLt (va_up rv43 6 (fun _ => (0 : Nat))) (fun (rv49 : wJ) => wGd (sh46 1 = 13) (wLt (wV rv49 1 6 6) (fun (rv56 : wJ) => wLt (wV rv56 1 8 0) (fun (rv58 : wJ) => wLt (wV rv58 1 9 0) (fun (rv60 : wJ) => wLt (wU iv48 1 11 900) (fun (iv62 : wI) => wLt (wU iv62 1 12 0) (fun (iv64 : wI) => wLt (wU iv64 1 13 50) (fun (iv66 : wI) => wLt (wU iv66 1 14 0) (fun (iv68 : wI) => wLt (wU iv68 1 15 0) (fun (iv70 : wI) => wLt (wU iv70 1 16 0) (fun (iv72 : wI) => wBd (fX4_within a1 1 3) (fun (r74 : Int32) => wGd (vp_in r74 4) (wGd (wFr sh46 rv60 2) (wLt (va_up sh46 2 10) (fun (sh78 : Nat → Nat) => wLt (va_up ln47 2 r74.toNatClampNeg) (fun (ln79 : Nat → Nat) => wLt (va_up iv72 2 (fun _ => (0 : Int32))) (fun (iv80 : wI) => wLt (va_up rv60 2 (fun _ => (0 : Nat))) (fun (rv81 : wJ) => wGd (sh78 1 = 13) (wLt (wV rv81 1 0 2) (fun (rv88 : wJ) => wB4 (fX4_init_108 4 sh78 ln79 iv80 rv88 a2 r74 0) (fun (sh100 : (Nat → Nat)) (ln101 : (Nat → Nat)) (iv102 : wI) (rv103 : wJ) => wGd (sh100 1 = 13) (wGd (wFr sh100 rv103 7) (wLt (va_up sh100 7 12) (fun (sh127 : Nat → Nat) => wLt (va_up ln101 7 0) (fun (ln128 : Nat → Nat) => wLt (va_up iv102 7 (fun _ => (0 : Int32))) (fun (iv129 : wI) => wLt (va_up rv103 7 (fun _ => (0 : Nat))) (fun (rv130 : wJ) => wGd (sh127 1 = 13) (wB4 (fX2_init sh127 ln128 iv129 rv130 r74) (fun (sh137 : (Nat → Nat)) (ln138 : (Nat → Nat)) (iv139 : wI) (rv140 : wJ) => wGd (sh137 1 = 13) (wLt (wV rv140 1 7 7) (fun (rv144 : wJ) => wBd (fX4_within a2 6 30) (fun (r146 : Int32) => wLt (wU iv139 1 10 r146) (fun (iv148 : wI) => some (sh137, ln138, iv148, rv144))))))))))))))))))))))))))))))))))))))))))))))))))))))))))))))
set_option maxHeartbeats 4000000 in
set_option maxRecDepth 100000 in
theorem mtX4_init (l : Launch) (D : va_G) (K : Nat → ClassId) (loc sh ln : Nat → Nat) (iv : wI) (rv : wJ) (sz : Nat) (a1 : Int32) (a2 : Int32) {sh' : (Nat → Nat)} {ln' : (Nat → Nat)} {iv' : wI} {rv' : wJ} (hf : fX4_init sh ln iv rv a1 a2 = some (sh', ln', iv', rv')) : Met l yX4_init wsX4_init ({ frames := 2, cells := 15, slots := 176, locals := 43 }) (wPc D K loc sh ln iv rv sz [wR loc 1, .int a1, .int a2]) (wQnv D K loc sh sh' ln' iv' rv' sz) 15 176 (wA loc sh sz) := by
  refine Met.ofW (cc := cX4_init) (maxL := 5) (ret := none) (by decide) rfl ?_
  intro p e s m args below meth c s₁ B hml hv
  obtain ⟨rfl, hsz, hH, hKn⟩ := hv
  have hx := B.exec
  have hb := B.bytes
  have hr := B.returns
  have hts := atoms_spec (ws := wsX4_init) B.pre
  have hown : s.vm.findClass RX4 = some m.cls := findClass_of_methodNamed B.named
  have hlocks := B.notSynchronized
  subst hsz
  have hA : ∀ q : Nat, s.heap.size ≤ q → wA loc sh s.heap.size q := fun q h => Or.inr h
  have hO : ∀ a, sh a ≠ 0 → wA loc sh s.heap.size (loc a) := fun a h => Or.inl ⟨a, h, rfl⟩
  have hS : va_S (wA loc sh s.heap.size) s.heap s.heap [] := va_S.rf
  obtain ⟨ls, hen, hl⟩ := wEntry m [wR loc 1, .int a1, .int a2] 5 (List.forall_mem_cons.mpr ⟨wR_cat _ _, List.forall_mem_cons.mpr ⟨rfl, List.forall_mem_cons.mpr ⟨rfl, fun _ h => absurd h List.not_mem_nil⟩⟩⟩) (Nat.le_of_ble_eq_true rfl)
  rw [hen]
  clear hen
  have hl : lv_has ls 5 [(0, wR loc 1), (1, .int a1), (2, .int a2)] := hl
  have hin : meth.name = "<init>" := (name_of_methodNamed B.named B.method).1
  have hkp : ∀ a, sh a ≠ 0 → loc a = loc a ∧ sh a ≠ 0 := fun a h => ⟨rfl, h⟩
  have k11 := hts (.fieldLink RX4 11 "CupByCup" "recipes" "[LCupByCup$Recipe;") (List.mem_of_getElem? (i := 5) rfl)
  have iX4 : ∀ w ∈ wsX40, w ∈ wsX4_init := fun w h => List.mem_cons_of_mem _ (List.mem_append_left _ (List.mem_append_left _ (List.mem_append_right _ h)))
  have k15 := hts (.fieldLink RX4 15 "CupByCup" "recipeCount" "I") (List.mem_of_getElem? (i := 6) rfl)
  have k21 := hts (.fieldLink RX4 21 "CupByCup" "cups" "[LCupByCup$Cup;") (List.mem_of_getElem? (i := 8) rfl)
  have k25 := hts (.fieldLink RX4 25 "CupByCup" "cupCount" "I") (List.mem_of_getElem? (i := 9) rfl)
  have k28 := hts (.fieldLink RX4 28 "CupByCup" "cupsThat" "[I") (List.mem_of_getElem? (i := 11) rfl)
  have k32 := hts (.fieldLink RX4 32 "CupByCup" "stores" "[I") (List.mem_of_getElem? (i := 12) rfl)
  have k35 := hts (.fieldLink RX4 35 "CupByCup" "inGrinder" "LCupByCup$Cup;") (List.mem_of_getElem? (i := 13) rfl)
  have k39 := hts (.fieldLink RX4 39 "CupByCup" "atWand" "LCupByCup$Cup;") (List.mem_of_getElem? (i := 14) rfl)
  have k42 := hts (.fieldLink RX4 42 "CupByCup" "heat" "I") (List.mem_of_getElem? (i := 15) rfl)
  have k45 := hts (.fieldLink RX4 45 "CupByCup" "now" "I") (List.mem_of_getElem? (i := 16) rfl)
  have k48 := hts (.fieldLink RX4 48 "CupByCup" "setting" "I") (List.mem_of_getElem? (i := 17) rfl)
  have k51 := hts (.fieldLink RX4 51 "CupByCup" "beansSpoilt" "I") (List.mem_of_getElem? (i := 18) rfl)
  have k54 := hts (.fieldLink RX4 54 "CupByCup" "rinsesDone" "I") (List.mem_of_getElem? (i := 19) rfl)
  have k57 := hts (.fieldLink RX4 57 "CupByCup" "longest" "I") (List.mem_of_getElem? (i := 20) rfl)
  have k66 := hts (.fieldLink RX4 66 "CupByCup" "groups" "[LCupByCup$Group;") (List.mem_of_getElem? (i := 22) rfl)
  have iX1 : ∀ w ∈ wsX10, w ∈ wsX4_init := fun w h => List.mem_cons_of_mem _ (List.mem_append_left _ (List.mem_append_right _ h))
  have k76 := hts (.fieldLink RX4 76 "CupByCup" "planner" "LCupByCup$Planner;") (List.mem_of_getElem? (i := 28) rfl)
  have k80 := hts (.fieldLink RX4 80 "CupByCup" "powerLimit" "I") (List.mem_of_getElem? (i := 29) rfl)
  have iX2 : ∀ w ∈ wsX20, w ∈ wsX4_init := fun w h => List.mem_cons_of_mem _ (List.mem_append_right _ h)
  unfold fX4_init at hf
  refine wald_n hx hb dX4_init_0 rfl (lv_at hl 0 rfl) ?_
  obtain ⟨g1, hf⟩ := wGd_e hf
  refine W.eq (g2 := F0 m 1 ls (.ref (loc 1) :: [])) (by rw [wR_ref (hH.nz g1 (by decide))]) ?_
  refine W.objInit hx hb hown (hts (.methodLink RX4 1 objectInit) (List.mem_of_getElem? (i := 1) rfl)) (hts (.instanceMethod objectInit) (List.mem_of_getElem? (i := 2) rfl)) (hts (.code objectInit ⟨#[0xb1]⟩ 1 none) (List.mem_of_getElem? (i := 3) rfl)) rfl (by rw [hml]; exact hl.1) rfl dX4_init_1 (Nat.le_of_ble_eq_true rfl) (Nat.le_of_ble_eq_true rfl) ?_
  refine W.eq (g2 := F0 m 4 ls []) rfl ?_
  refine wald_n hx hb dX4_init_4 rfl (lv_at hl 0 rfl) ?_
  refine lv_bipush (v := 8) hx hb dX4_init_5 (by decide) ?_
  obtain ⟨g2, hf⟩ := wGd_e hf
  obtain ⟨sh3, e7, hf⟩ := wLt_e hf
  obtain ⟨ln4, e8, hf⟩ := wLt_e hf
  obtain ⟨iv5, e9, hf⟩ := wLt_e hf
  obtain ⟨rv6, e10, hf⟩ := wLt_e hf
  refine wnq hx hb hown (hts (.classLink RX4 9 RX3) (List.mem_of_getElem? (i := 4) rfl)) hKn.2.2.2.1 hKn.1 hH hO hS hA 3 11 4 g2 (by decide) (fun _ _ => rfl) rfl (M := 8) (by decide) (Nat.le_of_ble_eq_true rfl) (by decide) (by show _ ≤ 15; omega) (by show _ ≤ 176; omega) dX4_init_7 (fun lo11 H hloc hH hO hS => ?_)
  have hkp := wKp hkp g2.2.1 (by decide) hloc
  rw [← e7] at hkp hO
  rw [← e7, ← e8, ← e9, ← e10] at hH
  rw [wR_same (hloc 1 (wNe g1 (by decide) g2.2.1))] at hl
  refine W.eq (g2 := F0 m 10 ls [wR lo11 3, wR lo11 1]) (by rw [wR_same (hloc 1 (wNe g1 (by decide) g2.2.1))]) ?_
  obtain ⟨g12, hf⟩ := wGd_e hf
  obtain ⟨rv13, e14, hf⟩ := wLt_e hf
  refine wpF (C := RX4) (T := TX4) (N := 17) (v := wR lo11 3) (ty := tyX4 1) (iv' := iv5) (rv' := rv13) hx hb hts iX4 tyX4 tyX4_ok nmX4 hown hKn.1 hH hO hS (q := 1) g12 (by decide) rfl rfl 1 (by decide) k11 rfl hin rfl (tyX4_ok 1 (by decide)) (wR_nar _ _ _) (wR_fitA _ _ _) (Nat.le_of_ble_eq_true rfl) (by rw [e14, wV_self]; rfl) (fun _ _ => rfl) (fun a ha => by rw [e14]; exact wV_ne a ha) dX4_init_10 (fun H locs hH hS => ?_)
  refine wald_n hx hb dX4_init_13 rfl (lv_at hl 0 rfl) ?_
  refine lv_iconst (v := 0) hx hb dX4_init_14 (by decide) ?_
  obtain ⟨iv15, e16, hf⟩ := wLt_e hf
  refine wp (C := RX4) (T := TX4) (N := 17) (v := .int 0) (ty := tyX4 2) (iv' := iv15) (rv' := rv13) hx hb hts iX4 tyX4 tyX4_ok nmX4 hown hKn.1 hH hO hS (q := 1) g12 (by decide) rfl rfl 2 (by decide) k15 rfl (tyX4_ok 2 (by decide)) rfl rfl (Nat.le_of_ble_eq_true rfl) (by rw [e16, wU_self]; rfl) (fun a ha => by rw [e16]; exact wU_ne a ha) (fun _ _ => rfl) dX4_init_15 (fun H locs hH hS => ?_)
  refine wald_n hx hb dX4_init_18 rfl (lv_at hl 0 rfl) ?_
  refine lv_bipush (v := 100) hx hb dX4_init_19 (by decide) ?_
  obtain ⟨g17, hf⟩ := wGd_e hf
  obtain ⟨sh18, e22, hf⟩ := wLt_e hf
  obtain ⟨ln19, e23, hf⟩ := wLt_e hf
  obtain ⟨iv20, e24, hf⟩ := wLt_e hf
  obtain ⟨rv21, e25, hf⟩ := wLt_e hf
  refine wnq hx hb hown (hts (.classLink RX4 19 RX0) (List.mem_of_getElem? (i := 7) rfl)) hKn.2.1 hKn.1 hH hO hS hA 4 9 2 g17 (by decide) (fun _ _ => rfl) rfl (M := 100) (by decide) (Nat.le_of_ble_eq_true rfl) (by decide) (by show _ ≤ 15; omega) (by show _ ≤ 176; omega) dX4_init_21 (fun lo26 H hloc hH hO hS => ?_)
  have hkp := wKp hkp g17.2.1 (by decide) hloc
  rw [← e22] at hkp hO
  rw [← e22, ← e23, ← e24, ← e25] at hH
  rw [wR_same (hloc 1 (wNe g12 (by decide) g17.2.1))] at hl
  refine W.eq (g2 := F0 m 24 ls [wR lo26 4, wR lo26 1]) (by rw [wR_same (hloc 1 (wNe g12 (by decide) g17.2.1))]) ?_
  obtain ⟨g27, hf⟩ := wGd_e hf
  obtain ⟨rv28, e29, hf⟩ := wLt_e hf
  refine wpF (C := RX4) (T := TX4) (N := 17) (v := wR lo26 4) (ty := tyX4 3) (iv' := iv20) (rv' := rv28) hx hb hts iX4 tyX4 tyX4_ok nmX4 hown hKn.1 hH hO hS (q := 1) g27 (by decide) rfl rfl 3 (by decide) k21 rfl hin rfl (tyX4_ok 3 (by decide)) (wR_nar _ _ _) (wR_fitA _ _ _) (Nat.le_of_ble_eq_true rfl) (by rw [e29, wV_self]; rfl) (fun _ _ => rfl) (fun a ha => by rw [e29]; exact wV_ne a ha) dX4_init_24 (fun H locs hH hS => ?_)
  refine wald_n hx hb dX4_init_27 rfl (lv_at hl 0 rfl) ?_
  refine lv_iconst (v := 0) hx hb dX4_init_28 (by decide) ?_
  obtain ⟨iv30, e31, hf⟩ := wLt_e hf
  refine wp (C := RX4) (T := TX4) (N := 17) (v := .int 0) (ty := tyX4 4) (iv' := iv30) (rv' := rv28) hx hb hts iX4 tyX4 tyX4_ok nmX4 hown hKn.1 hH hO hS (q := 1) g27 (by decide) rfl rfl 4 (by decide) k25 rfl (tyX4_ok 4 (by decide)) rfl rfl (Nat.le_of_ble_eq_true rfl) (by rw [e31, wU_self]; rfl) (fun a ha => by rw [e31]; exact wU_ne a ha) (fun _ _ => rfl) dX4_init_29 (fun H locs hH hS => ?_)
  refine wald_n hx hb dX4_init_32 rfl (lv_at hl 0 rfl) ?_
  refine lv_bipush (v := 8) hx hb dX4_init_33 (by decide) ?_
  obtain ⟨g32, hf⟩ := wGd_e hf
  obtain ⟨sh33, e37, hf⟩ := wLt_e hf
  obtain ⟨ln34, e38, hf⟩ := wLt_e hf
  obtain ⟨iv35, e39, hf⟩ := wLt_e hf
  obtain ⟨rv36, e40, hf⟩ := wLt_e hf
  refine wna hx hb (hts (.arrayClass .int) (List.mem_of_getElem? (i := 10) rfl)) hKn.1 hH hO hS hA 5 7 0 g32 (by decide) rfl (fun _ _ => rfl) rfl rfl (fun h => h) (M := 8) (by decide) (Nat.le_of_ble_eq_true rfl) (by decide) (by decide) (by show _ ≤ 15; omega) (by show _ ≤ 176; omega) dX4_init_35 (fun lo41 H hloc hH hO hS => ?_)
  have hkp := wKp hkp g32.2.1 (by decide) hloc
  rw [← e37] at hkp hO
  rw [← e37, ← e38, ← e39, ← e40] at hH
  rw [wR_same (hloc 1 (wNe g27 (by decide) g32.2.1))] at hl
  refine W.eq (g2 := F0 m 37 ls [wR lo41 5, wR lo41 1]) (by rw [wR_same (hloc 1 (wNe g27 (by decide) g32.2.1))]) ?_
  obtain ⟨g42, hf⟩ := wGd_e hf
  obtain ⟨rv43, e44, hf⟩ := wLt_e hf
  refine wpF (C := RX4) (T := TX4) (N := 17) (v := wR lo41 5) (ty := tyX4 5) (iv' := iv35) (rv' := rv43) hx hb hts iX4 tyX4 tyX4_ok nmX4 hown hKn.1 hH hO hS (q := 1) g42 (by decide) rfl rfl 5 (by decide) k28 rfl hin rfl (tyX4_ok 5 (by decide)) (wR_nar _ _ _) (wR_fitA _ _ _) (Nat.le_of_ble_eq_true rfl) (by rw [e44, wV_self]; rfl) (fun _ _ => rfl) (fun a ha => by rw [e44]; exact wV_ne a ha) dX4_init_37 (fun H locs hH hS => ?_)
  refine wald_n hx hb dX4_init_40 rfl (lv_at hl 0 rfl) ?_
  refine lv_iconst (v := 3) hx hb dX4_init_41 (by decide) ?_
  obtain ⟨g45, hf⟩ := wGd_e hf
  obtain ⟨sh46, e50, hf⟩ := wLt_e hf
  obtain ⟨ln47, e51, hf⟩ := wLt_e hf
  obtain ⟨iv48, e52, hf⟩ := wLt_e hf
  obtain ⟨rv49, e53, hf⟩ := wLt_e hf
  refine wna hx hb (hts (.arrayClass .int) (List.mem_of_getElem? (i := 10) rfl)) hKn.1 hH hO hS hA 6 7 0 g45 (by decide) rfl (fun _ _ => rfl) rfl rfl (fun h => h) (M := 3) (by decide) (Nat.le_of_ble_eq_true rfl) (by decide) (by decide) (by show _ ≤ 15; omega) (by show _ ≤ 176; omega) dX4_init_42 (fun lo54 H hloc hH hO hS => ?_)
  have hkp := wKp hkp g45.2.1 (by decide) hloc
  rw [← e50] at hkp hO
  rw [← e50, ← e51, ← e52, ← e53] at hH
  rw [wR_same (hloc 1 (wNe g42 (by decide) g45.2.1))] at hl
  refine W.eq (g2 := F0 m 44 ls [wR lo54 6, wR lo54 1]) (by rw [wR_same (hloc 1 (wNe g42 (by decide) g45.2.1))]) ?_
  obtain ⟨g55, hf⟩ := wGd_e hf
  obtain ⟨rv56, e57, hf⟩ := wLt_e hf
  refine wpF (C := RX4) (T := TX4) (N := 17) (v := wR lo54 6) (ty := tyX4 6) (iv' := iv48) (rv' := rv56) hx hb hts iX4 tyX4 tyX4_ok nmX4 hown hKn.1 hH hO hS (q := 1) g55 (by decide) rfl rfl 6 (by decide) k32 rfl hin rfl (tyX4_ok 6 (by decide)) (wR_nar _ _ _) (wR_fitA _ _ _) (Nat.le_of_ble_eq_true rfl) (by rw [e57, wV_self]; rfl) (fun _ _ => rfl) (fun a ha => by rw [e57]; exact wV_ne a ha) dX4_init_44 (fun H locs hH hS => ?_)
  refine wald_n hx hb dX4_init_47 rfl (lv_at hl 0 rfl) ?_
  refine wnul hx hb lo54 dX4_init_48 ?_
  obtain ⟨rv58, e59, hf⟩ := wLt_e hf
  refine wp (C := RX4) (T := TX4) (N := 17) (v := wR lo54 0) (ty := tyX4 8) (iv' := iv48) (rv' := rv58) hx hb hts iX4 tyX4 tyX4_ok nmX4 hown hKn.1 hH hO hS (q := 1) g55 (by decide) rfl rfl 8 (by decide) k35 rfl (tyX4_ok 8 (by decide)) (wR_nar _ _ _) (wR_fit _ _ _) (Nat.le_of_ble_eq_true rfl) (by rw [e59, wV_self]; rfl) (fun _ _ => rfl) (fun a ha => by rw [e59]; exact wV_ne a ha) dX4_init_49 (fun H locs hH hS => ?_)
  refine wald_n hx hb dX4_init_52 rfl (lv_at hl 0 rfl) ?_
  refine wnul hx hb lo54 dX4_init_53 ?_
  obtain ⟨rv60, e61, hf⟩ := wLt_e hf
  refine wp (C := RX4) (T := TX4) (N := 17) (v := wR lo54 0) (ty := tyX4 9) (iv' := iv48) (rv' := rv60) hx hb hts iX4 tyX4 tyX4_ok nmX4 hown hKn.1 hH hO hS (q := 1) g55 (by decide) rfl rfl 9 (by decide) k39 rfl (tyX4_ok 9 (by decide)) (wR_nar _ _ _) (wR_fit _ _ _) (Nat.le_of_ble_eq_true rfl) (by rw [e61, wV_self]; rfl) (fun _ _ => rfl) (fun a ha => by rw [e61]; exact wV_ne a ha) dX4_init_54 (fun H locs hH hS => ?_)
  refine wald_n hx hb dX4_init_57 rfl (lv_at hl 0 rfl) ?_
  refine lv_sipush (v := 900) hx hb dX4_init_58 (by decide) ?_
  obtain ⟨iv62, e63, hf⟩ := wLt_e hf
  refine wp (C := RX4) (T := TX4) (N := 17) (v := .int 900) (ty := tyX4 11) (iv' := iv62) (rv' := rv60) hx hb hts iX4 tyX4 tyX4_ok nmX4 hown hKn.1 hH hO hS (q := 1) g55 (by decide) rfl rfl 11 (by decide) k42 rfl (tyX4_ok 11 (by decide)) rfl rfl (Nat.le_of_ble_eq_true rfl) (by rw [e63, wU_self]; rfl) (fun a ha => by rw [e63]; exact wU_ne a ha) (fun _ _ => rfl) dX4_init_61 (fun H locs hH hS => ?_)
  refine wald_n hx hb dX4_init_64 rfl (lv_at hl 0 rfl) ?_
  refine lv_iconst (v := 0) hx hb dX4_init_65 (by decide) ?_
  obtain ⟨iv64, e65, hf⟩ := wLt_e hf
  refine wp (C := RX4) (T := TX4) (N := 17) (v := .int 0) (ty := tyX4 12) (iv' := iv64) (rv' := rv60) hx hb hts iX4 tyX4 tyX4_ok nmX4 hown hKn.1 hH hO hS (q := 1) g55 (by decide) rfl rfl 12 (by decide) k45 rfl (tyX4_ok 12 (by decide)) rfl rfl (Nat.le_of_ble_eq_true rfl) (by rw [e65, wU_self]; rfl) (fun a ha => by rw [e65]; exact wU_ne a ha) (fun _ _ => rfl) dX4_init_66 (fun H locs hH hS => ?_)
  refine wald_n hx hb dX4_init_69 rfl (lv_at hl 0 rfl) ?_
  refine lv_bipush (v := 50) hx hb dX4_init_70 (by decide) ?_
  obtain ⟨iv66, e67, hf⟩ := wLt_e hf
  refine wp (C := RX4) (T := TX4) (N := 17) (v := .int 50) (ty := tyX4 13) (iv' := iv66) (rv' := rv60) hx hb hts iX4 tyX4 tyX4_ok nmX4 hown hKn.1 hH hO hS (q := 1) g55 (by decide) rfl rfl 13 (by decide) k48 rfl (tyX4_ok 13 (by decide)) rfl rfl (Nat.le_of_ble_eq_true rfl) (by rw [e67, wU_self]; rfl) (fun a ha => by rw [e67]; exact wU_ne a ha) (fun _ _ => rfl) dX4_init_72 (fun H locs hH hS => ?_)
  refine wald_n hx hb dX4_init_75 rfl (lv_at hl 0 rfl) ?_
  refine lv_iconst (v := 0) hx hb dX4_init_76 (by decide) ?_
  obtain ⟨iv68, e69, hf⟩ := wLt_e hf
  refine wp (C := RX4) (T := TX4) (N := 17) (v := .int 0) (ty := tyX4 14) (iv' := iv68) (rv' := rv60) hx hb hts iX4 tyX4 tyX4_ok nmX4 hown hKn.1 hH hO hS (q := 1) g55 (by decide) rfl rfl 14 (by decide) k51 rfl (tyX4_ok 14 (by decide)) rfl rfl (Nat.le_of_ble_eq_true rfl) (by rw [e69, wU_self]; rfl) (fun a ha => by rw [e69]; exact wU_ne a ha) (fun _ _ => rfl) dX4_init_77 (fun H locs hH hS => ?_)
  refine wald_n hx hb dX4_init_80 rfl (lv_at hl 0 rfl) ?_
  refine lv_iconst (v := 0) hx hb dX4_init_81 (by decide) ?_
  obtain ⟨iv70, e71, hf⟩ := wLt_e hf
  refine wp (C := RX4) (T := TX4) (N := 17) (v := .int 0) (ty := tyX4 15) (iv' := iv70) (rv' := rv60) hx hb hts iX4 tyX4 tyX4_ok nmX4 hown hKn.1 hH hO hS (q := 1) g55 (by decide) rfl rfl 15 (by decide) k54 rfl (tyX4_ok 15 (by decide)) rfl rfl (Nat.le_of_ble_eq_true rfl) (by rw [e71, wU_self]; rfl) (fun a ha => by rw [e71]; exact wU_ne a ha) (fun _ _ => rfl) dX4_init_82 (fun H locs hH hS => ?_)
  refine wald_n hx hb dX4_init_85 rfl (lv_at hl 0 rfl) ?_
  refine lv_iconst (v := 0) hx hb dX4_init_86 (by decide) ?_
  obtain ⟨iv72, e73, hf⟩ := wLt_e hf
  refine wp (C := RX4) (T := TX4) (N := 17) (v := .int 0) (ty := tyX4 16) (iv' := iv72) (rv' := rv60) hx hb hts iX4 tyX4 tyX4_ok nmX4 hown hKn.1 hH hO hS (q := 1) g55 (by decide) rfl rfl 16 (by decide) k57 rfl (tyX4_ok 16 (by decide)) rfl rfl (Nat.le_of_ble_eq_true rfl) (by rw [e73, wU_self]; rfl) (fun a ha => by rw [e73]; exact wU_ne a ha) (fun _ _ => rfl) dX4_init_87 (fun H locs hH hS => ?_)
  refine lv_iload_n hx hb dX4_init_90 rfl (lv_at hl 1 rfl) ?_
  refine lv_iconst (v := 1) hx hb dX4_init_91 (by decide) ?_
  refine lv_iconst (v := 3) hx hb dX4_init_92 (by decide) ?_
  obtain ⟨r74, h75, hf⟩ := wBd_e hf
  refine wci (va_runS (As := [.int a1, .int 1, .int 3]) (rest := []) ⟨hx, hb, hml, hown, hts⟩ (mtX4_within l D K lo54 sh46 ln47 iv72 rv60 _ 0 a1 1 3 h75) (va_cwS 3 hts gX4_init_X4_within rfl rfl rfl (by decide +kernel) ⟨Nat.le_of_ble_eq_true rfl, Nat.le_of_ble_eq_true rfl⟩) (wPreS hKn hH) rfl rfl hl.1 rfl (lv_room (Nat.le_of_ble_eq_true rfl)) dX4_init_93 ⟨by show _ ≤ 15; omega, by show _ ≤ 176; omega⟩) hS hO hA (fun H locs hH hS => ?_)
  refine lv_istore_n (lv' := [(3, .int r74), (0, wR lo54 1), (1, .int a1), (2, .int a2)]) hx hb dX4_init_96 rfl hl (by decide) rfl (fun ls hl => ?_)
  refine wald_n hx hb dX4_init_97 rfl (lv_at hl 1 rfl) ?_
  refine lv_iload_n hx hb dX4_init_98 rfl (lv_at hl 0 rfl) ?_
  obtain ⟨g77, hf⟩ := wGd_e hf
  obtain ⟨g76, hf⟩ := wGd_e hf
  obtain ⟨sh78, e82, hf⟩ := wLt_e hf
  obtain ⟨ln79, e83, hf⟩ := wLt_e hf
  obtain ⟨iv80, e84, hf⟩ := wLt_e hf
  obtain ⟨rv81, e85, hf⟩ := wLt_e hf
  refine wnq hx hb hown (hts (.classLink RX4 64 RX1) (List.mem_of_getElem? (i := 21) rfl)) hKn.2.2.1 hKn.1 hH hO hS hA 2 10 3 g76 (by decide) (fun _ _ => rfl) rfl (M := 3) (fun h => g77 (Or.inl h)) (Nat.le_of_lt_succ (Nat.not_le.mp fun q => g77 (Or.inr q))) (by decide) (by show _ ≤ 15; omega) (by show _ ≤ 176; omega) dX4_init_99 (fun lo86 H hloc hH hO hS => ?_)
  have hkp := wKp hkp g76.2.1 (by decide) hloc
  rw [← e82] at hkp hO
  rw [← e82, ← e83, ← e84, ← e85] at hH
  rw [wR_same (hloc 1 (wNe g55 (by decide) g76.2.1))] at hl
  refine W.eq (g2 := F0 m 102 ls [wR lo86 2, wR lo86 1]) (by rw [wR_same (hloc 1 (wNe g55 (by decide) g76.2.1))]) ?_
  obtain ⟨g87, hf⟩ := wGd_e hf
  obtain ⟨rv88, e89, hf⟩ := wLt_e hf
  refine wpF (C := RX4) (T := TX4) (N := 17) (v := wR lo86 2) (ty := tyX4 0) (iv' := iv80) (rv' := rv88) hx hb hts iX4 tyX4 tyX4_ok nmX4 hown hKn.1 hH hO hS (q := 1) g87 (by decide) rfl rfl 0 (by decide) k66 rfl hin rfl (tyX4_ok 0 (by decide)) (wR_nar _ _ _) (wR_fitA _ _ _) (Nat.le_of_ble_eq_true rfl) (by rw [e89, wV_self]; rfl) (fun _ _ => rfl) (fun a ha => by rw [e89]; exact wV_ne a ha) dX4_init_102 (fun H locs hH hS => ?_)
  refine lv_iconst (v := 0) hx hb dX4_init_105 (by decide) ?_
  refine lv_istore (lv' := [(4, .int 0), (3, .int r74), (0, wR lo86 1), (1, .int a1), (2, .int a2)]) hx hb dX4_init_106 hl (by decide) rfl (fun ls hl => ?_)
  obtain ⟨sh100, ln101, iv102, rv103, hL97, hf⟩ := wB4_e hf
  have hk98 : ∀ (lo104 : Nat → Nat) (H : Heap) (locs : List Loc) (ls : Array Slot), (∀ a, sh a ≠ 0 → lo104 a = loc a ∧ sh100 a ≠ 0) → (∀ a, sh100 a ≠ 0 → wA loc sh s.heap.size (lo104 a)) → wH D K lo104 sh100 ln101 iv102 rv103 H → va_S (wA loc sh s.heap.size) s.heap H locs → lv_has ls 5 [(0, wR lo104 1), (2, .int a2), (3, .int r74)] → W p l e (headSpec wsX4_init ({ frames := 2, cells := 15, slots := 176, locals := 43 })).room s m ([wR loc 1, .int a1, .int a2] : List Value).toArray below meth c H locs 9 146 (MQ below (wQnv D K loc sh sh' ln' iv' rv' s.heap.size) ([wR loc 1, .int a1, .int a2] : List Value).toArray s 15 176 (wA loc sh s.heap.size)) (F0 m 136 ls []) := by
    clear hL97 hl hS hH hkp hO
    intro lo104 H locs ls hkp hO hH hS hl
    refine wald_n hx hb dX4_init_136 rfl (lv_at hl 0 rfl) ?_
    obtain ⟨g125, hf⟩ := wGd_e hf
    obtain ⟨g126, hf⟩ := wGd_e hf
    obtain ⟨sh127, e131, hf⟩ := wLt_e hf
    obtain ⟨ln128, e132, hf⟩ := wLt_e hf
    obtain ⟨iv129, e133, hf⟩ := wLt_e hf
    obtain ⟨rv130, e134, hf⟩ := wLt_e hf
    refine wno (C := RX2) (T := TX2) (N := 7) hx hb hts iX2 tyX2 tyX2_ok hown (hts (.classLink RX4 73 RX2) (List.mem_of_getElem? (i := 25) rfl)) (hts (.instantiable RX2 7) (List.mem_of_getElem? (i := 26) rfl)) (hts (.initialized RX2) (List.mem_of_getElem? (i := 27) rfl)) hKn.1 hH hO hS hA 7 12 0 g126 (by decide) (fun _ => rfl) rfl (fun j hj => by rcases (show j = 0 ∨ j = 1 ∨ j = 2 ∨ j = 3 ∨ j = 4 ∨ j = 5 ∨ j = 6 by omega) with rfl | rfl | rfl | rfl | rfl | rfl | rfl <;> rfl) (by show _ ≤ 15; omega) (by show _ ≤ 176; omega) dX4_init_137 (fun lo135 H hloc hH hO hS => ?_)
    have hkp := wKp hkp g126.2.1 (by decide) hloc
    rw [← e131] at hkp hO
    rw [← e131, ← e132, ← e133, ← e134] at hH
    rw [wR_same (hloc 1 (wNe g125 (by decide) g126.2.1))] at hl
    refine W.eq (g2 := F0 m 140 ls [wR lo135 7, wR lo135 1]) (by rw [wR_same (hloc 1 (wNe g125 (by decide) g126.2.1))]) ?_
    refine lv_dup hx hb dX4_init_140 (wR_cat _ _) ?_
    refine lv_iload_n hx hb dX4_init_141 rfl (lv_at hl 2 rfl) ?_
    obtain ⟨g136, hf⟩ := wGd_e hf
    obtain ⟨sh137, ln138, iv139, rv140, h141, hf⟩ := wB4_e hf
    refine wcnv (va_runI (As := [.int r74]) (rest := [wR lo135 7, wR lo135 1]) ⟨hx, hb, hml, hown, hts⟩ (mtX2_init l D K lo135 sh127 ln128 iv129 rv130 _ r74 h141) (cwI 1 hts gX4_init_X2_init rfl rfl rfl (hts (.initialized RX2) (List.mem_of_getElem? (i := 27) rfl)) (hts (.methodLink RX4 75 yX2_init) (List.mem_of_getElem? (i := 51) rfl)) (hts (.instanceMethod yX2_init) (List.mem_of_getElem? (i := 52) rfl)) rfl (by decide +kernel) ⟨Nat.le_of_ble_eq_true rfl, Nat.le_of_ble_eq_true rfl⟩) (wPreI hKn hH (e131 ▸ va_up_self _ _ _) (by decide)) rfl rfl hl.1 rfl (lv_room (Nat.le_of_ble_eq_true rfl)) dX4_init_142 ⟨by show _ ≤ 15; omega, by show _ ≤ 176; omega⟩) hS hO hA (fun lo142 H locs hloc hH hO hS => ?_)
    have hkp := wKq hkp hloc
    rw [wR_same (hloc 1 (wNz g136 (by decide))).1] at hl
    refine W.eq (g2 := F0 m 145 ls [wR lo142 7, wR lo142 1]) (by rw [wR_same (hloc 1 (wNz g136 (by decide))).1, wR_same (hloc 7 (wNz (e131 ▸ va_up_self _ _ _) (by decide))).1]) ?_
    obtain ⟨g143, hf⟩ := wGd_e hf
    obtain ⟨rv144, e145, hf⟩ := wLt_e hf
    refine wpF (C := RX4) (T := TX4) (N := 17) (v := wR lo142 7) (ty := tyX4 7) (iv' := iv139) (rv' := rv144) hx hb hts iX4 tyX4 tyX4_ok nmX4 hown hKn.1 hH hO hS (q := 1) g143 (by decide) rfl rfl 7 (by decide) k76 rfl hin rfl (tyX4_ok 7 (by decide)) (wR_nar _ _ _) (wR_fit _ _ _) (Nat.le_of_ble_eq_true rfl) (by rw [e145, wV_self]; rfl) (fun _ _ => rfl) (fun a ha => by rw [e145]; exact wV_ne a ha) dX4_init_145 (fun H locs hH hS => ?_)
    refine wald_n hx hb dX4_init_148 rfl (lv_at hl 0 rfl) ?_
    refine lv_iload_n hx hb dX4_init_149 rfl (lv_at hl 1 rfl) ?_
    refine lv_bipush (v := 6) hx hb dX4_init_150 (by decide) ?_
    refine lv_bipush (v := 30) hx hb dX4_init_152 (by decide) ?_
    obtain ⟨r146, h147, hf⟩ := wBd_e hf
    refine wci (va_runS (As := [.int a2, .int 6, .int 30]) (rest := [wR lo142 1]) ⟨hx, hb, hml, hown, hts⟩ (mtX4_within l D K lo142 sh137 ln138 iv139 rv144 _ 0 a2 6 30 h147) (va_cwS 3 hts gX4_init_X4_within rfl rfl rfl (by decide +kernel) ⟨Nat.le_of_ble_eq_true rfl, Nat.le_of_ble_eq_true rfl⟩) (wPreS hKn hH) rfl rfl hl.1 rfl (lv_room (Nat.le_of_ble_eq_true rfl)) dX4_init_154 ⟨by show _ ≤ 15; omega, by show _ ≤ 176; omega⟩) hS hO hA (fun H locs hH hS => ?_)
    obtain ⟨iv148, e149, hf⟩ := wLt_e hf
    refine wp (C := RX4) (T := TX4) (N := 17) (v := .int r146) (ty := tyX4 10) (iv' := iv148) (rv' := rv144) hx hb hts iX4 tyX4 tyX4_ok nmX4 hown hKn.1 hH hO hS (q := 1) g143 (by decide) rfl rfl 10 (by decide) k80 rfl (tyX4_ok 10 (by decide)) rfl rfl (Nat.le_of_ble_eq_true rfl) (by rw [e149, wU_self]; rfl) (fun a ha => by rw [e149]; exact wU_ne a ha) (fun _ _ => rfl) dX4_init_157 (fun H locs hH hS => ?_)
    cases hf
    refine W.widen (k := 15) (n := 176) (by omega) (by omega) ?_
    exact W.vret hx hb hr (fun t ht hW => ⟨⟨lo142, rfl, hkp, by show wH _ _ _ _ _ _ _ t.heap; rw [ht]; exact hH, hO⟩, hS.F ht⟩) hS.2.2 dX4_init_160
  have lp99 : ∀ (n90 : Nat) (hle : n90 ≤ 4) (lo93 : Nat → Nat) (sh94 : Nat → Nat) (ln95 : Nat → Nat) (iv91 : wI) (rv92 : wJ) (x96 : Int32) (H : Heap) (locs : List Loc) (ls : Array Slot), fX4_init_108 n90 sh94 ln95 iv91 rv92 a2 r74 x96 = some (sh100, ln101, iv102, rv103) → (∀ a, sh a ≠ 0 → lo93 a = loc a ∧ sh94 a ≠ 0) → (∀ a, sh94 a ≠ 0 → wA loc sh s.heap.size (lo93 a)) → wH D K lo93 sh94 ln95 iv91 rv92 H → va_S (wA loc sh s.heap.size) s.heap H locs → lv_has ls 5 [(0, wR lo93 1), (2, .int a2), (3, .int r74), (4, .int x96)] → W p l e (headSpec wsX4_init ({ frames := 2, cells := 15, slots := 176, locals := 43 })).room s m ([wR loc 1, .int a1, .int a2] : List Value).toArray below meth c H locs (5 + (4 - n90) * 1) (122 + (4 - n90) * 6) (MQ below (wQnv D K loc sh sh' ln' iv' rv' s.heap.size) ([wR loc 1, .int a1, .int a2] : List Value).toArray s 15 176 (wA loc sh s.heap.size)) (F0 m 108 ls []) := by
    clear hf hl hS hH hkp hO hL97
    intro n90
    induction n90 with
    | zero => intro hle lo93 sh94 ln95 iv91 rv92 x96 H locs ls hf; cases hf
    | succ n90 ih =>
      intro hle lo93 sh94 ln95 iv91 rv92 x96 H locs ls hf hkp hO hH hS hl
      rw [fX4_init_108.eq_2] at hf
      refine lv_iload hx hb dX4_init_108 (lv_at hl 3 rfl) ?_
      refine lv_iload_n hx hb dX4_init_110 rfl (lv_at hl 2 rfl) ?_
      refine lv_icmp_ge (tgt := 136) hx hb dX4_init_111 (by decide) (fun c105 => ?_) (fun c105 => ?_)
      · have hf := wIt c105 hf
        cases hf
        refine W.widen (k := 9) (n := 146) (by omega) (by omega) ?_
        exact hk98 _ _ _ _ hkp hO hH hS (lv_sub hl [0, 1, 2] rfl)
      · have hf := wIf c105 hf
        refine wald_n hx hb dX4_init_114 rfl (lv_at hl 0 rfl) ?_
        obtain ⟨g106, hf⟩ := wGd_e hf
        refine wg (C := RX4) (T := TX4) (N := 17) (v := wR lo93 (rv92 1 0)) hx hb hts iX4 hown hKn.1 hH (q := 1) g106 (by decide) rfl rfl 0 (by decide) k66 rfl dX4_init_115 ?_
        refine lv_iload hx hb dX4_init_118 (lv_at hl 3 rfl) ?_
        obtain ⟨g107, hf⟩ := wGd_e hf
        obtain ⟨g108, hf⟩ := wGd_e hf
        obtain ⟨sh109, e113, hf⟩ := wLt_e hf
        obtain ⟨ln110, e114, hf⟩ := wLt_e hf
        obtain ⟨iv111, e115, hf⟩ := wLt_e hf
        obtain ⟨rv112, e116, hf⟩ := wLt_e hf
        refine wno (C := RX1) (T := TX1) (N := 6) hx hb hts iX1 tyX1 tyX1_ok hown (hts (.classLink RX4 64 RX1) (List.mem_of_getElem? (i := 21) rfl)) (hts (.instantiable RX1 6) (List.mem_of_getElem? (i := 23) rfl)) (hts (.initialized RX1) (List.mem_of_getElem? (i := 24) rfl)) hKn.1 hH hO hS hA (x96.toNatClampNeg + 13) 2 0 g108 (by decide) (fun _ => rfl) rfl (fun j hj => by rcases (show j = 0 ∨ j = 1 ∨ j = 2 ∨ j = 3 ∨ j = 4 ∨ j = 5 by omega) with rfl | rfl | rfl | rfl | rfl | rfl <;> rfl) (by show _ ≤ 15; omega) (by show _ ≤ 176; omega) dX4_init_120 (fun lo117 H hloc hH hO hS => ?_)
        have hkp := wKp hkp g108.2.1 (by decide) hloc
        rw [← e113] at hkp hO
        rw [← e113, ← e114, ← e115, ← e116] at hH
        rw [wR_same (hloc 1 (wNe g106 (by decide) g108.2.1))] at hl
        refine W.eq (g2 := F0 m 123 ls [wR lo117 (x96.toNatClampNeg + 13), .int x96, wR lo117 (rv92 1 0)]) (by rw [wR_same (hloc (rv92 1 0) (wNe g107 (by decide) g108.2.1))]) ?_
        refine lv_dup hx hb dX4_init_123 (wR_cat _ _) ?_
        refine lv_iload hx hb dX4_init_124 (lv_at hl 3 rfl) ?_
        obtain ⟨iv118, rv119, h120, hf⟩ := wB2_e hf
        refine W.eq (g2 := F0 m 126 ls ([.int x96] ++ .ref (lo117 (x96.toNatClampNeg + 13)) :: [wR lo117 (x96.toNatClampNeg + 13), .int x96, wR lo117 (rv92 1 0)])) (by rw [wR_ref (hH.nz (e113 ▸ va_up_self _ _ _) (by decide))]; rfl) ?_
        refine wcv (va_runI (As := [.int x96]) (rest := [wR lo117 (x96.toNatClampNeg + 13), .int x96, wR lo117 (rv92 1 0)]) ⟨hx, hb, hml, hown, hts⟩ (mtX1_init l D K lo117 sh109 ln110 iv111 rv112 _ 0 (x96.toNatClampNeg + 13) x96 (e113 ▸ va_up_self _ _ _) h120) (cwI 1 hts gX4_init_X1_init rfl rfl rfl (hts (.initialized RX1) (List.mem_of_getElem? (i := 24) rfl)) (hts (.methodLink RX4 70 yX1_init) (List.mem_of_getElem? (i := 41) rfl)) (hts (.instanceMethod yX1_init) (List.mem_of_getElem? (i := 42) rfl)) rfl (by decide +kernel) ⟨Nat.le_of_ble_eq_true rfl, Nat.le_of_ble_eq_true rfl⟩) (wPreI hKn hH (e113 ▸ va_up_self _ _ _) (by decide)) rfl rfl hl.1 rfl (lv_room (by simp [wR_cat, iCat])) dX4_init_126 ⟨by show _ ≤ 15; omega, by show _ ≤ 176; omega⟩) hS hO hA (fun H locs hH hS => ?_)
        obtain ⟨g121, hf⟩ := wGd_e hf
        obtain ⟨g122, hf⟩ := wGd_e hf
        obtain ⟨rv123, e124, hf⟩ := wLt_e hf
        refine was (kd := 10) (ki := 3) (kv := 2) hx hb hKn.1 hH hO hS g121 (by decide) (fun _ => rfl) rfl rfl (e113 ▸ va_up_self _ _ _) (by decide) rfl rfl g122 dX4_init_129 (fun H locs hH hS => ?_)
        rw [← e124] at hH
        refine lv_iinc (v := (x96 + 1)) (lv' := [(4, .int (x96 + 1)), (0, wR lo117 1), (2, .int a2), (3, .int r74)]) hx hb dX4_init_130 hl (k := 3) rfl rfl (by decide) rfl (fun ls hl => ?_)
        refine lv_goto (tgt := 108) hx hb dX4_init_133 (by decide) ?_
        refine W.widen (k := 5 + (4 - n90) * 1) (n := 122 + (4 - n90) * 6) (by omega) (by omega) ?_
        exact ih (by omega) _ _ _ _ _ _ _ _ _ hf hkp hO hH hS (lv_sub hl [1, 2, 3, 0] rfl)
  refine W.widen (k := 5 + (4 - 4) * 1) (n := 122 + (4 - 4) * 6) (by omega) (by omega) ?_
  exact lp99 4 (Nat.le_refl _) _ _ _ _ _ _ _ _ _ hL97 hkp hO hH hS (lv_sub hl [2, 4, 1, 0] rfl)
noncomputable def fX4_readRecipe (nx : Nat) (sh : (Nat → Nat)) (ln : (Nat → Nat)) (iv : wI) (rv : wJ) (a0 : Int32) (a1 : Int32) : Option ((Nat → Nat) × (Nat → Nat) × wI × wJ × Nat) := if a0 < 0 then some (sh, ln, iv, rv, 0) else if a1 < 0 then some (sh, ln, iv, rv, 0) else if (a0 - a0 / 10 * 10) = 0 then wGd (wFr sh rv nx) (wLt (va_up sh nx 4) (fun (sh5 : Nat → Nat) => wLt (va_up ln nx 0) (fun (ln6 : Nat → Nat) => wLt (va_up iv nx (fun _ => (0 : Int32))) (fun (iv7 : wI) => wLt (va_up rv nx (fun _ => (0 : Nat))) (fun (rv8 : wJ) => wBd (fX3_init 0 sh5 iv7 rv8 nx (a0 / 1000000) ((a0 / 100000) - (a0 / 100000) / 10 * 10) ((a0 / 1000) - (a0 / 1000) / 100 * 100) ((a0 / 10) - (a0 / 10) / 100 * 100) (a1 / 1000) (a1 - a1 / 1000 * 1000)) (fun (iv14 : wI) => wBd (fX3_canBe 0 sh5 iv14 rv8 nx) (fun (r16 : Int32) => if r16 = 0 then some (sh5, ln6, iv14, rv8, 0) else some (sh5, ln6, iv14, rv8, nx)))))))) else some (sh, ln, iv, rv, 0)
set_option maxHeartbeats 4000000 in
set_option maxRecDepth 100000 in
theorem mtX4_readRecipe (l : Launch) (D : va_G) (K : Nat → ClassId) (loc sh ln : Nat → Nat) (iv : wI) (rv : wJ) (sz : Nat) (nx : Nat) (a0 : Int32) (a1 : Int32) {sh' : (Nat → Nat)} {ln' : (Nat → Nat)} {iv' : wI} {rv' : wJ} {r' : Nat} (hf : fX4_readRecipe nx sh ln iv rv a0 a1 = some (sh', ln', iv', rv', r')) : Met l yX4_readRecipe wsX4_readRecipe ({ frames := 2, cells := 1, slots := 6, locals := 46 }) (wPc D K loc sh ln iv rv sz [.int a0, .int a1]) (wQnr D K loc sh sh' ln' iv' rv' sz r') 1 6 (wA loc sh sz) := by
  refine Met.ofW (cc := cX4_readRecipe) (maxL := 3) (ret := (some (.object "CupByCup$Recipe"))) (by decide) rfl ?_
  intro p e s m args below meth c s₁ B hml hv
  obtain ⟨rfl, hsz, hH, hKn⟩ := hv
  have hx := B.exec
  have hb := B.bytes
  have hr := B.returns
  have hts := atoms_spec (ws := wsX4_readRecipe) B.pre
  have hown : s.vm.findClass RX4 = some m.cls := findClass_of_methodNamed B.named
  have hlocks := B.notSynchronized
  subst hsz
  have hA : ∀ q : Nat, s.heap.size ≤ q → wA loc sh s.heap.size q := fun q h => Or.inr h
  have hO : ∀ a, sh a ≠ 0 → wA loc sh s.heap.size (loc a) := fun a h => Or.inl ⟨a, h, rfl⟩
  have hS : va_S (wA loc sh s.heap.size) s.heap s.heap [] := va_S.rf
  obtain ⟨ls, hen, hl⟩ := wEntry m [.int a0, .int a1] 3 (List.forall_mem_cons.mpr ⟨rfl, List.forall_mem_cons.mpr ⟨rfl, fun _ h => absurd h List.not_mem_nil⟩⟩) (Nat.le_of_ble_eq_true rfl)
  rw [hen]
  clear hen
  have hl : lv_has ls 3 [(0, .int a0), (1, .int a1)] := hl
  have hkp : ∀ a, sh a ≠ 0 → loc a = loc a ∧ sh a ≠ 0 := fun a h => ⟨rfl, h⟩
  have iX3 : ∀ w ∈ wsX30, w ∈ wsX4_readRecipe := fun w h => List.mem_cons_of_mem _ (List.mem_append_right _ h)
  unfold fX4_readRecipe at hf
  refine lv_iload_n hx hb dX4_readRecipe_0 rfl (lv_at hl 0 rfl) ?_
  refine lv_if_lt (tgt := 15) hx hb dX4_readRecipe_1 (by decide) (fun c1 => ?_) (fun c1 => ?_)
  · have hf := wIt c1 hf
    refine wnul hx hb loc dX4_readRecipe_15 ?_
    cases hf
    refine W.widen (k := 1) (n := 6) (by omega) (by omega) ?_
    exact W.aret hx hb hr (Or.inl ⟨_, rfl⟩) (wR_or _ _) (fun t ht hW => ⟨⟨_, loc, by rw [wR_rf], ⟨rfl, hkp⟩, by show wH _ _ _ _ _ _ _ t.heap; rw [ht]; exact hH, hO⟩, hS.F ht⟩) hS.2.2 dX4_readRecipe_16
  · have hf := wIf c1 hf
    refine lv_iload_n hx hb dX4_readRecipe_4 rfl (lv_at hl 1 rfl) ?_
    refine lv_if_lt (tgt := 15) hx hb dX4_readRecipe_5 (by decide) (fun c2 => ?_) (fun c2 => ?_)
    · have hf := wIt c2 hf
      refine wnul hx hb loc dX4_readRecipe_15 ?_
      cases hf
      refine W.widen (k := 1) (n := 6) (by omega) (by omega) ?_
      exact W.aret hx hb hr (Or.inl ⟨_, rfl⟩) (wR_or _ _) (fun t ht hW => ⟨⟨_, loc, by rw [wR_rf], ⟨rfl, hkp⟩, by show wH _ _ _ _ _ _ _ t.heap; rw [ht]; exact hH, hO⟩, hS.F ht⟩) hS.2.2 dX4_readRecipe_16
    · have hf := wIf c2 hf
      refine lv_iload_n hx hb dX4_readRecipe_8 rfl (lv_at hl 0 rfl) ?_
      refine lv_bipush (v := 10) hx hb dX4_readRecipe_9 (by decide) ?_
      refine lv_irem hx hb dX4_readRecipe_11 (by decide) ?_
      refine lv_if_eq (tgt := 17) hx hb dX4_readRecipe_12 (by decide) (fun c3 => ?_) (fun c3 => ?_)
      · have hf := wIt c3 hf
        obtain ⟨g4, hf⟩ := wGd_e hf
        obtain ⟨sh5, e9, hf⟩ := wLt_e hf
        obtain ⟨ln6, e10, hf⟩ := wLt_e hf
        obtain ⟨iv7, e11, hf⟩ := wLt_e hf
        obtain ⟨rv8, e12, hf⟩ := wLt_e hf
        refine wno (C := RX3) (T := TX3) (N := 6) hx hb hts iX3 tyX3 tyX3_ok hown (hts (.classLink RX4 9 RX3) (List.mem_of_getElem? (i := 1) rfl)) (hts (.instantiable RX3 6) (List.mem_of_getElem? (i := 2) rfl)) (hts (.initialized RX3) (List.mem_of_getElem? (i := 3) rfl)) hKn.1 hH hO hS hA nx 4 0 g4 (by decide) (fun _ => rfl) rfl (fun j hj => by rcases (show j = 0 ∨ j = 1 ∨ j = 2 ∨ j = 3 ∨ j = 4 ∨ j = 5 by omega) with rfl | rfl | rfl | rfl | rfl | rfl <;> rfl) (by show _ ≤ 1; omega) (by show _ ≤ 6; omega) dX4_readRecipe_17 (fun lo13 H hloc hH hO hS => ?_)
        have hkp := wKp hkp g4.2.1 (by decide) hloc
        rw [← e9] at hkp hO
        rw [← e9, ← e10, ← e11, ← e12] at hH
        refine lv_dup hx hb dX4_readRecipe_20 (wR_cat _ _) ?_
        refine lv_iload_n hx hb dX4_readRecipe_21 rfl (lv_at hl 0 rfl) ?_
        refine lv_ldc (v := 1000000) hx hb hown (hts (.constant RX4 182 (1000000)) (List.mem_of_getElem? (i := 4) rfl)) dX4_readRecipe_22 ?_
        refine lv_idiv hx hb dX4_readRecipe_24 (by decide) ?_
        refine lv_iload_n hx hb dX4_readRecipe_25 rfl (lv_at hl 0 rfl) ?_
        refine lv_ldc (v := 100000) hx hb hown (hts (.constant RX4 91 (100000)) (List.mem_of_getElem? (i := 5) rfl)) dX4_readRecipe_26 ?_
        refine lv_idiv hx hb dX4_readRecipe_28 (by decide) ?_
        refine lv_bipush (v := 10) hx hb dX4_readRecipe_29 (by decide) ?_
        refine lv_irem hx hb dX4_readRecipe_31 (by decide) ?_
        refine lv_iload_n hx hb dX4_readRecipe_32 rfl (lv_at hl 0 rfl) ?_
        refine lv_sipush (v := 1000) hx hb dX4_readRecipe_33 (by decide) ?_
        refine lv_idiv hx hb dX4_readRecipe_36 (by decide) ?_
        refine lv_bipush (v := 100) hx hb dX4_readRecipe_37 (by decide) ?_
        refine lv_irem hx hb dX4_readRecipe_39 (by decide) ?_
        refine lv_iload_n hx hb dX4_readRecipe_40 rfl (lv_at hl 0 rfl) ?_
        refine lv_bipush (v := 10) hx hb dX4_readRecipe_41 (by decide) ?_
        refine lv_idiv hx hb dX4_readRecipe_43 (by decide) ?_
        refine lv_bipush (v := 100) hx hb dX4_readRecipe_44 (by decide) ?_
        refine lv_irem hx hb dX4_readRecipe_46 (by decide) ?_
        refine lv_iload_n hx hb dX4_readRecipe_47 rfl (lv_at hl 1 rfl) ?_
        refine lv_sipush (v := 1000) hx hb dX4_readRecipe_48 (by decide) ?_
        refine lv_idiv hx hb dX4_readRecipe_51 (by decide) ?_
        refine lv_iload_n hx hb dX4_readRecipe_52 rfl (lv_at hl 1 rfl) ?_
        refine lv_sipush (v := 1000) hx hb dX4_readRecipe_53 (by decide) ?_
        refine lv_irem hx hb dX4_readRecipe_56 (by decide) ?_
        obtain ⟨iv14, h15, hf⟩ := wBd_e hf
        refine W.eq (g2 := F0 m 57 ls ([.int (a1 - a1 / 1000 * 1000), .int (a1 / 1000), .int ((a0 / 10) - (a0 / 10) / 100 * 100), .int ((a0 / 1000) - (a0 / 1000) / 100 * 100), .int ((a0 / 100000) - (a0 / 100000) / 10 * 10), .int (a0 / 1000000)] ++ .ref (lo13 nx) :: [wR lo13 nx])) (by rw [wR_ref (hH.nz (e9 ▸ va_up_self _ _ _) (by decide))]; rfl) ?_
        refine wcv (va_runI (As := [.int (a0 / 1000000), .int ((a0 / 100000) - (a0 / 100000) / 10 * 10), .int ((a0 / 1000) - (a0 / 1000) / 100 * 100), .int ((a0 / 10) - (a0 / 10) / 100 * 100), .int (a1 / 1000), .int (a1 - a1 / 1000 * 1000)]) (rest := [wR lo13 nx]) ⟨hx, hb, hml, hown, hts⟩ (mtX3_init l D K lo13 sh5 ln6 iv7 rv8 _ 0 nx (a0 / 1000000) ((a0 / 100000) - (a0 / 100000) / 10 * 10) ((a0 / 1000) - (a0 / 1000) / 100 * 100) ((a0 / 10) - (a0 / 10) / 100 * 100) (a1 / 1000) (a1 - a1 / 1000 * 1000) (e9 ▸ va_up_self _ _ _) h15) (cwI 6 hts gX4_readRecipe_X3_init rfl rfl rfl (hts (.initialized RX3) (List.mem_of_getElem? (i := 3) rfl)) (hts (.methodLink RX4 183 yX3_init) (List.mem_of_getElem? (i := 6) rfl)) (hts (.instanceMethod yX3_init) (List.mem_of_getElem? (i := 7) rfl)) rfl (by decide +kernel) ⟨Nat.le_of_ble_eq_true rfl, Nat.le_of_ble_eq_true rfl⟩) (wPreI hKn hH (e9 ▸ va_up_self _ _ _) (by decide)) rfl rfl hl.1 rfl (lv_room (by simp [wR_cat, iCat])) dX4_readRecipe_57 ⟨by show _ ≤ 1; omega, by show _ ≤ 6; omega⟩) hS hO hA (fun H locs hH hS => ?_)
        refine wast_n (lv' := [(2, wR lo13 nx), (0, .int a0), (1, .int a1)]) hx hb dX4_readRecipe_60 rfl hl (by decide) rfl (fun ls hl => ?_)
        refine wald_n hx hb dX4_readRecipe_61 rfl (lv_at hl 0 rfl) ?_
        obtain ⟨r16, h17, hf⟩ := wBd_e hf
        refine W.eq (g2 := F0 m 62 ls ([] ++ .ref (lo13 nx) :: [])) (by rw [wR_ref (hH.nz (e9 ▸ va_up_self _ _ _) (by decide))]; rfl) ?_
        refine wci (va_runV (As := []) (rest := []) ⟨hx, hb, hml, hown, hts⟩ (mtX3_canBe l D K lo13 sh5 ln6 iv14 rv8 _ 0 nx (e9 ▸ va_up_self _ _ _) h17) (cwV 0 hts gX4_readRecipe_X3_canBe rfl rfl rfl (by decide +kernel) ⟨Nat.le_of_ble_eq_true rfl, Nat.le_of_ble_eq_true rfl⟩) (wPreV hKn hH (e9 ▸ va_up_self _ _ _) (by decide) rfl rfl) rfl rfl hl.1 rfl (lv_room (Nat.le_of_ble_eq_true rfl)) dX4_readRecipe_62 ⟨by show _ ≤ 1; omega, by show _ ≤ 6; omega⟩) hS hO hA (fun H locs hH hS => ?_)
        refine lv_if_eq (tgt := 72) hx hb dX4_readRecipe_65 (by decide) (fun c18 => ?_) (fun c18 => ?_)
        · have hf := wIt c18 hf
          refine wnul hx hb lo13 dX4_readRecipe_72 ?_
          cases hf
          refine W.widen (k := 1) (n := 6) (by omega) (by omega) ?_
          exact W.aret hx hb hr (Or.inl ⟨_, rfl⟩) (wR_or _ _) (fun t ht hW => ⟨⟨_, lo13, by rw [wR_rf], ⟨rfl, hkp⟩, by show wH _ _ _ _ _ _ _ t.heap; rw [ht]; exact hH, hO⟩, hS.F ht⟩) hS.2.2 dX4_readRecipe_73
        · have hf := wIf c18 hf
          refine wald_n hx hb dX4_readRecipe_68 rfl (lv_at hl 0 rfl) ?_
          refine lv_goto (tgt := 73) hx hb dX4_readRecipe_69 (by decide) ?_
          cases hf
          refine W.widen (k := 1) (n := 6) (by omega) (by omega) ?_
          exact W.aret hx hb hr (Or.inl ⟨_, rfl⟩) (wR_or _ _) (fun t ht hW => ⟨⟨_, lo13, by rw [wR_rf], ⟨rfl, hkp⟩, by show wH _ _ _ _ _ _ _ t.heap; rw [ht]; exact hH, hO⟩, hS.F ht⟩) hS.2.2 dX4_readRecipe_73
      · have hf := wIf c3 hf
        refine wnul hx hb loc dX4_readRecipe_15 ?_
        cases hf
        refine W.widen (k := 1) (n := 6) (by omega) (by omega) ?_
        exact W.aret hx hb hr (Or.inl ⟨_, rfl⟩) (wR_or _ _) (fun t ht hW => ⟨⟨_, loc, by rw [wR_rf], ⟨rfl, hkp⟩, by show wH _ _ _ _ _ _ _ t.heap; rw [ht]; exact hH, hO⟩, hS.F ht⟩) hS.2.2 dX4_readRecipe_16
noncomputable def fX4_recipe (nx : Nat) (sh : (Nat → Nat)) (ln : (Nat → Nat)) (iv : wI) (rv : wJ) (a1 : Int32) (a2 : Int32) : Option ((Nat → Nat) × (Nat → Nat) × wI × wJ × Int32) := wGd (sh 1 = 5) (if (iv 1 2) < 8 then wB5 (fX4_readRecipe nx sh ln iv rv a1 a2) (fun (sh3 : (Nat → Nat)) (ln4 : (Nat → Nat)) (iv5 : wI) (rv6 : wJ) (q7 : Nat) => if q7 = 0 then some (sh3, ln4, iv5, rv6, ((-1) : Int32)) else wGd (sh3 1 = 5) (wGd (sh3 3 = 11) (wGd (vp_in (iv5 1 2) (ln4 3)) (wGd (sh3 q7 = 4) (wLt (wV rv6 3 (iv5 1 2).toNatClampNeg q7) (fun (rv15 : wJ) => wLt (wU iv5 1 2 ((iv5 1 2) + 1)) (fun (iv17 : wI) => some (sh3, ln4, iv17, rv15, ((iv17 1 2) - 1))))))))) else some (sh, ln, iv, rv, ((-1) : Int32)))
set_option maxHeartbeats 4000000 in
set_option maxRecDepth 100000 in
theorem mtX4_recipe (l : Launch) (D : va_G) (K : Nat → ClassId) (loc sh ln : Nat → Nat) (iv : wI) (rv : wJ) (sz : Nat) (nx : Nat) (a1 : Int32) (a2 : Int32) {sh' : (Nat → Nat)} {ln' : (Nat → Nat)} {iv' : wI} {rv' : wJ} {r' : Int32} (hf : fX4_recipe nx sh ln iv rv a1 a2 = some (sh', ln', iv', rv', r')) : Met l yX4_recipe wsX4_recipe ({ frames := 3, cells := 1, slots := 6, locals := 68 }) (wPc D K loc sh ln iv rv sz [wR loc 1, .int a1, .int a2]) (wQni D K loc sh sh' ln' iv' rv' sz r') 1 6 (wA loc sh sz) := by
  refine Met.ofW (cc := cX4_recipe) (maxL := 4) (ret := (some .int)) (by decide) rfl ?_
  intro p e s m args below meth c s₁ B hml hv
  obtain ⟨rfl, hsz, hH, hKn⟩ := hv
  have hx := B.exec
  have hb := B.bytes
  have hr := B.returns
  have hts := atoms_spec (ws := wsX4_recipe) B.pre
  have hown : s.vm.findClass RX4 = some m.cls := findClass_of_methodNamed B.named
  have hlocks := B.notSynchronized
  subst hsz
  have hA : ∀ q : Nat, s.heap.size ≤ q → wA loc sh s.heap.size q := fun q h => Or.inr h
  have hO : ∀ a, sh a ≠ 0 → wA loc sh s.heap.size (loc a) := fun a h => Or.inl ⟨a, h, rfl⟩
  have hS : va_S (wA loc sh s.heap.size) s.heap s.heap [] := va_S.rf
  obtain ⟨ls, hen, hl⟩ := wEntry m [wR loc 1, .int a1, .int a2] 4 (List.forall_mem_cons.mpr ⟨wR_cat _ _, List.forall_mem_cons.mpr ⟨rfl, List.forall_mem_cons.mpr ⟨rfl, fun _ h => absurd h List.not_mem_nil⟩⟩⟩) (Nat.le_of_ble_eq_true rfl)
  rw [hen]
  clear hen
  have hl : lv_has ls 4 [(0, wR loc 1), (1, .int a1), (2, .int a2)] := hl
  have hkp : ∀ a, sh a ≠ 0 → loc a = loc a ∧ sh a ≠ 0 := fun a h => ⟨rfl, h⟩
  have k15 := hts (.fieldLink RX4 15 "CupByCup" "recipeCount" "I") (List.mem_of_getElem? (i := 1) rfl)
  have iX4 : ∀ w ∈ wsX40, w ∈ wsX4_recipe := fun w h => List.mem_cons_of_mem _ (List.mem_append_left _ (List.mem_append_right _ h))
  have k11 := hts (.fieldLink RX4 11 "CupByCup" "recipes" "[LCupByCup$Recipe;") (List.mem_of_getElem? (i := 2) rfl)
  unfold fX4_recipe at hf
  refine wald_n hx hb dX4_recipe_0 rfl (lv_at hl 0 rfl) ?_
  obtain ⟨g1, hf⟩ := wGd_e hf
  refine wg (C := RX4) (T := TX4) (N := 17) (v := .int (iv 1 2)) hx hb hts iX4 hown hKn.1 hH (q := 1) g1 (by decide) rfl rfl 2 (by decide) k15 rfl dX4_recipe_1 ?_
  refine lv_bipush (v := 8) hx hb dX4_recipe_4 (by decide) ?_
  refine lv_icmp_lt (tgt := 11) hx hb dX4_recipe_6 (by decide) (fun c2 => ?_) (fun c2 => ?_)
  · have hf := wIt c2 hf
    refine lv_iload_n hx hb dX4_recipe_11 rfl (lv_at hl 1 rfl) ?_
    refine lv_iload_n hx hb dX4_recipe_12 rfl (lv_at hl 2 rfl) ?_
    obtain ⟨sh3, ln4, iv5, rv6, q7, h8, hf⟩ := wB5_e hf
    refine wcnr (va_runS (As := [.int a1, .int a2]) (rest := []) ⟨hx, hb, hml, hown, hts⟩ (mtX4_readRecipe l D K loc sh ln iv rv _ nx a1 a2 h8) (va_cwS 2 hts gX4_recipe_X4_readRecipe rfl rfl rfl (by decide +kernel) ⟨Nat.le_of_ble_eq_true rfl, Nat.le_of_ble_eq_true rfl⟩) (wPreS hKn hH) rfl rfl hl.1 rfl (lv_room (Nat.le_of_ble_eq_true rfl)) dX4_recipe_13 ⟨by show _ ≤ 1; omega, by show _ ≤ 6; omega⟩) hS hO hA (fun lo9 H locs hloc hH hO hS => ?_)
    have hkp := wKq hkp hloc
    rw [wR_same (hloc 1 (wNz g1 (by decide))).1] at hl
    refine wast_n (lv' := [(3, wR lo9 q7), (0, wR lo9 1), (1, .int a1), (2, .int a2)]) hx hb dX4_recipe_16 rfl hl (by decide) rfl (fun ls hl => ?_)
    refine wald_n hx hb dX4_recipe_17 rfl (lv_at hl 0 rfl) ?_
    refine wifnon (tgt := 23) hx hb dX4_recipe_18 (by decide) (fun c10 => ?_) (fun c10 => ?_)
    · have hf := wIf c10 hf
      refine wald_n hx hb dX4_recipe_23 rfl (lv_at hl 1 rfl) ?_
      obtain ⟨g11, hf⟩ := wGd_e hf
      refine wg (C := RX4) (T := TX4) (N := 17) (v := wR lo9 3) hx hb hts iX4 hown hKn.1 hH (q := 1) g11 (by decide) rfl rfl 1 (by decide) k11 rfl dX4_recipe_24 ?_
      refine wald_n hx hb dX4_recipe_27 rfl (lv_at hl 1 rfl) ?_
      refine wg (C := RX4) (T := TX4) (N := 17) (v := .int (iv5 1 2)) hx hb hts iX4 hown hKn.1 hH (q := 1) g11 (by decide) rfl rfl 2 (by decide) k15 rfl dX4_recipe_28 ?_
      refine wald_n hx hb dX4_recipe_31 rfl (lv_at hl 0 rfl) ?_
      obtain ⟨g12, hf⟩ := wGd_e hf
      obtain ⟨g13, hf⟩ := wGd_e hf
      obtain ⟨g14, hf⟩ := wGd_e hf
      obtain ⟨rv15, e16, hf⟩ := wLt_e hf
      refine was (kd := 11) (ki := 4) (kv := 4) hx hb hKn.1 hH hO hS g12 (by decide) (fun _ => rfl) rfl rfl g14 (by decide) rfl rfl g13 dX4_recipe_32 (fun H locs hH hS => ?_)
      rw [← e16] at hH
      refine wald_n hx hb dX4_recipe_33 rfl (lv_at hl 1 rfl) ?_
      refine lv_dup hx hb dX4_recipe_34 (wR_cat _ _) ?_
      refine wg (C := RX4) (T := TX4) (N := 17) (v := .int (iv5 1 2)) hx hb hts iX4 hown hKn.1 hH (q := 1) g11 (by decide) rfl rfl 2 (by decide) k15 rfl dX4_recipe_35 ?_
      refine lv_iconst (v := 1) hx hb dX4_recipe_38 (by decide) ?_
      refine lv_iadd hx hb dX4_recipe_39 ?_
      obtain ⟨iv17, e18, hf⟩ := wLt_e hf
      refine wp (C := RX4) (T := TX4) (N := 17) (v := .int ((iv5 1 2) + 1)) (ty := tyX4 2) (iv' := iv17) (rv' := rv15) hx hb hts iX4 tyX4 tyX4_ok nmX4 hown hKn.1 hH hO hS (q := 1) g11 (by decide) rfl rfl 2 (by decide) k15 rfl (tyX4_ok 2 (by decide)) rfl rfl (Nat.le_of_ble_eq_true rfl) (by rw [e18, wU_self]; rfl) (fun a ha => by rw [e18]; exact wU_ne a ha) (fun _ _ => rfl) dX4_recipe_40 (fun H locs hH hS => ?_)
      refine wald_n hx hb dX4_recipe_43 rfl (lv_at hl 1 rfl) ?_
      refine wg (C := RX4) (T := TX4) (N := 17) (v := .int (iv17 1 2)) hx hb hts iX4 hown hKn.1 hH (q := 1) g11 (by decide) rfl rfl 2 (by decide) k15 rfl dX4_recipe_44 ?_
      refine lv_iconst (v := 1) hx hb dX4_recipe_47 (by decide) ?_
      refine lv_isub hx hb dX4_recipe_48 ?_
      cases hf
      refine W.widen (k := 1) (n := 6) (by omega) (by omega) ?_
      exact W.iret hx hb hr (fun t ht hW => ⟨⟨_, lo9, rfl, ⟨rfl, hkp⟩, by show wH _ _ _ _ _ _ _ t.heap; rw [ht]; exact hH, hO⟩, hS.F ht⟩) hS.2.2 dX4_recipe_49
    · have hf := wIt c10 hf
      refine lv_iconst (v := (-1)) hx hb dX4_recipe_21 (by decide) ?_
      cases hf
      refine W.widen (k := 1) (n := 6) (by omega) (by omega) ?_
      exact W.iret hx hb hr (fun t ht hW => ⟨⟨_, lo9, rfl, ⟨rfl, hkp⟩, by show wH _ _ _ _ _ _ _ t.heap; rw [ht]; exact hH, hO⟩, hS.F ht⟩) hS.2.2 dX4_recipe_22
  · have hf := wIf c2 hf
    refine lv_iconst (v := (-1)) hx hb dX4_recipe_9 (by decide) ?_
    cases hf
    refine W.widen (k := 1) (n := 6) (by omega) (by omega) ?_
    exact W.iret hx hb hr (fun t ht hW => ⟨⟨_, loc, rfl, ⟨rfl, hkp⟩, by show wH _ _ _ _ _ _ _ t.heap; rw [ht]; exact hH, hO⟩, hS.F ht⟩) hS.2.2 dX4_recipe_10
noncomputable def fX4_alter (nx : Nat) (sh : (Nat → Nat)) (ln : (Nat → Nat)) (iv : wI) (rv : wJ) (a1 : Int32) (a2 : Int32) (a3 : Int32) : Option ((Nat → Nat) × (Nat → Nat) × wI × wJ × Int32) := wGd (sh 1 = 5) (wBd (fX4_isAmong a1 (iv 1 2)) (fun (r2 : Int32) => if r2 = 0 then some (sh, ln, iv, rv, (0 : Int32)) else wB5 (fX4_readRecipe nx sh ln iv rv a2 a3) (fun (sh5 : (Nat → Nat)) (ln6 : (Nat → Nat)) (iv7 : wI) (rv8 : wJ) (q9 : Nat) => if q9 = 0 then some (sh5, ln6, iv7, rv8, (0 : Int32)) else wGd (sh5 1 = 5) (wGd (sh5 3 = 11) (wGd (vp_in a1 (ln6 3)) (wGd (sh5 q9 = 4) (wLt (wV rv8 3 a1.toNatClampNeg q9) (fun (rv17 : wJ) => some (sh5, ln6, iv7, rv17, (1 : Int32))))))))))
set_option maxHeartbeats 4000000 in
set_option maxRecDepth 100000 in
theorem mtX4_alter (l : Launch) (D : va_G) (K : Nat → ClassId) (loc sh ln : Nat → Nat) (iv : wI) (rv : wJ) (sz : Nat) (nx : Nat) (a1 : Int32) (a2 : Int32) (a3 : Int32) {sh' : (Nat → Nat)} {ln' : (Nat → Nat)} {iv' : wI} {rv' : wJ} {r' : Int32} (hf : fX4_alter nx sh ln iv rv a1 a2 a3 = some (sh', ln', iv', rv', r')) : Met l yX4_alter wsX4_alter ({ frames := 3, cells := 1, slots := 6, locals := 68 }) (wPc D K loc sh ln iv rv sz [wR loc 1, .int a1, .int a2, .int a3]) (wQni D K loc sh sh' ln' iv' rv' sz r') 1 6 (wA loc sh sz) := by
  refine Met.ofW (cc := cX4_alter) (maxL := 5) (ret := (some .boolean)) (by decide) rfl ?_
  intro p e s m args below meth c s₁ B hml hv
  obtain ⟨rfl, hsz, hH, hKn⟩ := hv
  have hx := B.exec
  have hb := B.bytes
  have hr := B.returns
  have hts := atoms_spec (ws := wsX4_alter) B.pre
  have hown : s.vm.findClass RX4 = some m.cls := findClass_of_methodNamed B.named
  have hlocks := B.notSynchronized
  subst hsz
  have hA : ∀ q : Nat, s.heap.size ≤ q → wA loc sh s.heap.size q := fun q h => Or.inr h
  have hO : ∀ a, sh a ≠ 0 → wA loc sh s.heap.size (loc a) := fun a h => Or.inl ⟨a, h, rfl⟩
  have hS : va_S (wA loc sh s.heap.size) s.heap s.heap [] := va_S.rf
  obtain ⟨ls, hen, hl⟩ := wEntry m [wR loc 1, .int a1, .int a2, .int a3] 5 (List.forall_mem_cons.mpr ⟨wR_cat _ _, List.forall_mem_cons.mpr ⟨rfl, List.forall_mem_cons.mpr ⟨rfl, List.forall_mem_cons.mpr ⟨rfl, fun _ h => absurd h List.not_mem_nil⟩⟩⟩⟩) (Nat.le_of_ble_eq_true rfl)
  rw [hen]
  clear hen
  have hl : lv_has ls 5 [(0, wR loc 1), (1, .int a1), (2, .int a2), (3, .int a3)] := hl
  have hkp : ∀ a, sh a ≠ 0 → loc a = loc a ∧ sh a ≠ 0 := fun a h => ⟨rfl, h⟩
  have k15 := hts (.fieldLink RX4 15 "CupByCup" "recipeCount" "I") (List.mem_of_getElem? (i := 1) rfl)
  have iX4 : ∀ w ∈ wsX40, w ∈ wsX4_alter := fun w h => List.mem_cons_of_mem _ (List.mem_append_left _ (List.mem_append_right _ h))
  have k11 := hts (.fieldLink RX4 11 "CupByCup" "recipes" "[LCupByCup$Recipe;") (List.mem_of_getElem? (i := 2) rfl)
  unfold fX4_alter at hf
  refine lv_iload_n hx hb dX4_alter_0 rfl (lv_at hl 1 rfl) ?_
  refine wald_n hx hb dX4_alter_1 rfl (lv_at hl 0 rfl) ?_
  obtain ⟨g1, hf⟩ := wGd_e hf
  refine wg (C := RX4) (T := TX4) (N := 17) (v := .int (iv 1 2)) hx hb hts iX4 hown hKn.1 hH (q := 1) g1 (by decide) rfl rfl 2 (by decide) k15 rfl dX4_alter_2 ?_
  obtain ⟨r2, h3, hf⟩ := wBd_e hf
  refine wci (va_runS (As := [.int a1, .int (iv 1 2)]) (rest := []) ⟨hx, hb, hml, hown, hts⟩ (mtX4_isAmong l D K loc sh ln iv rv _ 0 a1 (iv 1 2) h3) (va_cwS 2 hts gX4_alter_X4_isAmong rfl rfl rfl (by decide +kernel) ⟨Nat.le_of_ble_eq_true rfl, Nat.le_of_ble_eq_true rfl⟩) (wPreS hKn hH) rfl rfl hl.1 rfl (lv_room (Nat.le_of_ble_eq_true rfl)) dX4_alter_5 ⟨by show _ ≤ 1; omega, by show _ ≤ 6; omega⟩) hS hO hA (fun H locs hH hS => ?_)
  refine lv_if_ne (tgt := 13) hx hb dX4_alter_8 (by decide) (fun c4 => ?_) (fun c4 => ?_)
  · have hf := wIf c4 hf
    refine lv_iload_n hx hb dX4_alter_13 rfl (lv_at hl 2 rfl) ?_
    refine lv_iload_n hx hb dX4_alter_14 rfl (lv_at hl 3 rfl) ?_
    obtain ⟨sh5, ln6, iv7, rv8, q9, h10, hf⟩ := wB5_e hf
    refine wcnr (va_runS (As := [.int a2, .int a3]) (rest := []) ⟨hx, hb, hml, hown, hts⟩ (mtX4_readRecipe l D K loc sh ln iv rv _ nx a2 a3 h10) (va_cwS 2 hts gX4_alter_X4_readRecipe rfl rfl rfl (by decide +kernel) ⟨Nat.le_of_ble_eq_true rfl, Nat.le_of_ble_eq_true rfl⟩) (wPreS hKn hH) rfl rfl hl.1 rfl (lv_room (Nat.le_of_ble_eq_true rfl)) dX4_alter_15 ⟨by show _ ≤ 1; omega, by show _ ≤ 6; omega⟩) hS hO hA (fun lo11 H locs hloc hH hO hS => ?_)
    have hkp := wKq hkp hloc
    rw [wR_same (hloc 1 (wNz g1 (by decide))).1] at hl
    refine wast (lv' := [(4, wR lo11 q9), (0, wR lo11 1), (1, .int a1), (2, .int a2), (3, .int a3)]) hx hb dX4_alter_18 hl (by decide) rfl (fun ls hl => ?_)
    refine wald hx hb dX4_alter_20 (lv_at hl 0 rfl) ?_
    refine wifnon (tgt := 27) hx hb dX4_alter_22 (by decide) (fun c12 => ?_) (fun c12 => ?_)
    · have hf := wIf c12 hf
      refine wald_n hx hb dX4_alter_27 rfl (lv_at hl 1 rfl) ?_
      obtain ⟨g13, hf⟩ := wGd_e hf
      refine wg (C := RX4) (T := TX4) (N := 17) (v := wR lo11 3) hx hb hts iX4 hown hKn.1 hH (q := 1) g13 (by decide) rfl rfl 1 (by decide) k11 rfl dX4_alter_28 ?_
      refine lv_iload_n hx hb dX4_alter_31 rfl (lv_at hl 2 rfl) ?_
      refine wald hx hb dX4_alter_32 (lv_at hl 0 rfl) ?_
      obtain ⟨g14, hf⟩ := wGd_e hf
      obtain ⟨g15, hf⟩ := wGd_e hf
      obtain ⟨g16, hf⟩ := wGd_e hf
      obtain ⟨rv17, e18, hf⟩ := wLt_e hf
      refine was (kd := 11) (ki := 4) (kv := 4) hx hb hKn.1 hH hO hS g14 (by decide) (fun _ => rfl) rfl rfl g16 (by decide) rfl rfl g15 dX4_alter_34 (fun H locs hH hS => ?_)
      rw [← e18] at hH
      refine lv_iconst (v := 1) hx hb dX4_alter_35 (by decide) ?_
      cases hf
      refine W.widen (k := 1) (n := 6) (by omega) (by omega) ?_
      exact W.zret hx hb hr rfl (fun t ht hW => ⟨⟨_, lo11, rfl, ⟨rfl, hkp⟩, by show wH _ _ _ _ _ _ _ t.heap; rw [ht]; exact hH, hO⟩, hS.F ht⟩) hS.2.2 dX4_alter_36
    · have hf := wIt c12 hf
      refine lv_iconst (v := 0) hx hb dX4_alter_25 (by decide) ?_
      cases hf
      refine W.widen (k := 1) (n := 6) (by omega) (by omega) ?_
      exact W.zret hx hb hr rfl (fun t ht hW => ⟨⟨_, lo11, rfl, ⟨rfl, hkp⟩, by show wH _ _ _ _ _ _ _ t.heap; rw [ht]; exact hH, hO⟩, hS.F ht⟩) hS.2.2 dX4_alter_26
  · have hf := wIt c4 hf
    refine lv_iconst (v := 0) hx hb dX4_alter_11 (by decide) ?_
    cases hf
    refine W.widen (k := 1) (n := 6) (by omega) (by omega) ?_
    exact W.zret hx hb hr rfl (fun t ht hW => ⟨⟨_, loc, rfl, ⟨rfl, hkp⟩, by show wH _ _ _ _ _ _ _ t.heap; rw [ht]; exact hH, hO⟩, hS.F ht⟩) hS.2.2 dX4_alter_12
noncomputable def fX4_order_54  : Nat → (Nat → Nat) → (Nat → Nat) → wI → wJ → Int32 → Int32 → Int32 → Int32 → Int32 → Option ((Nat → Nat) × (Nat → Nat) × wI × wJ)
  | 0, _, _, _, _, _, _, _, _, _ => none
  | n + 1, sh, ln, iv, rv, x1, x2, x3, x4, x5 => if x2 ≤ x5 then some (sh, ln, iv, rv) else wGd (sh 1 = 5) (wGd (sh 4 = 9) (wGd (wFr sh rv ((x4 + x5).toNatClampNeg + 100)) (wLt (va_up sh ((x4 + x5).toNatClampNeg + 100) 1) (fun (sh15 : Nat → Nat) => wLt (va_up ln ((x4 + x5).toNatClampNeg + 100) 0) (fun (ln16 : Nat → Nat) => wLt (va_up iv ((x4 + x5).toNatClampNeg + 100) (fun _ => (0 : Int32))) (fun (iv17 : wI) => wLt (va_up rv ((x4 + x5).toNatClampNeg + 100) (fun _ => (0 : Nat))) (fun (rv18 : wJ) => wGd (sh15 1 = 5) (wGd (sh15 3 = 11) (wGd (vp_in x1 (ln16 3)) (wB2 (fX0_init 0 sh15 iv17 rv18 ((x4 + x5).toNatClampNeg + 100) (x4 + x5) (rv18 3 x1.toNatClampNeg) x4 x3 (iv17 1 12)) (fun (iv27 : wI) (rv28 : wJ) => wGd (sh15 4 = 9) (wGd (vp_in (x4 + x5) (ln16 4)) (wLt (wV rv28 4 (x4 + x5).toNatClampNeg ((x4 + x5).toNatClampNeg + 100)) (fun (rv32 : wJ) => fX4_order_54 n sh15 ln16 iv27 rv32 x1 x2 x3 x4 (x5 + 1)))))))))))))))
noncomputable def fX4_order  (sh : (Nat → Nat)) (ln : (Nat → Nat)) (iv : wI) (rv : wJ) (a1 : Int32) (a2 : Int32) (a3 : Int32) : Option ((Nat → Nat) × (Nat → Nat) × wI × wJ × Int32) := wGd (sh 1 = 5) (wBd (fX4_isAmong a1 (iv 1 2)) (fun (r2 : Int32) => if r2 = 0 then some (sh, ln, iv, rv, ((-1) : Int32)) else wBd (fX4_isAmong a3 2) (fun (r5 : Int32) => if r5 = 0 then some (sh, ln, iv, rv, ((-1) : Int32)) else if a2 < 1 then some (sh, ln, iv, rv, ((-1) : Int32)) else if 6 < a2 then some (sh, ln, iv, rv, ((-1) : Int32)) else if a2 ≤ (100 - (iv 1 4)) then wB4 (fX4_order_54 7 sh ln iv rv a1 a2 a3 (iv 1 4) 0) (fun (sh21 : (Nat → Nat)) (ln22 : (Nat → Nat)) (iv23 : wI) (rv24 : wJ) => wGd (sh21 1 = 5) (wLt (wU iv23 1 4 ((iv23 1 4) + a2)) (fun (iv50 : wI) => wGd (sh21 5 = 7) (wGd (vp_in 0 (ln22 5)) (wLt (wU iv50 5 (0 : Int32).toNatClampNeg ((iv50 5 (0 : Int32).toNatClampNeg) + a2)) (fun (iv54 : wI) => some (sh21, ln22, iv54, rv24, (iv 1 4)))))))) else some (sh, ln, iv, rv, ((-1) : Int32)))))
set_option maxHeartbeats 4000000 in
set_option maxRecDepth 100000 in
theorem mtX4_order (l : Launch) (D : va_G) (K : Nat → ClassId) (loc sh ln : Nat → Nat) (iv : wI) (rv : wJ) (sz : Nat) (a1 : Int32) (a2 : Int32) (a3 : Int32) {sh' : (Nat → Nat)} {ln' : (Nat → Nat)} {iv' : wI} {rv' : wJ} {r' : Int32} (hf : fX4_order sh ln iv rv a1 a2 a3 = some (sh', ln', iv', rv', r')) : Met l yX4_order wsX4_order ({ frames := 2, cells := 7, slots := 77, locals := 45 }) (wPc D K loc sh ln iv rv sz [wR loc 1, .int a1, .int a2, .int a3]) (wQni D K loc sh sh' ln' iv' rv' sz r') 7 77 (wA loc sh sz) := by
  refine Met.ofW (cc := cX4_order) (maxL := 6) (ret := (some .int)) (by decide) rfl ?_
  intro p e s m args below meth c s₁ B hml hv
  obtain ⟨rfl, hsz, hH, hKn⟩ := hv
  have hx := B.exec
  have hb := B.bytes
  have hr := B.returns
  have hts := atoms_spec (ws := wsX4_order) B.pre
  have hown : s.vm.findClass RX4 = some m.cls := findClass_of_methodNamed B.named
  have hlocks := B.notSynchronized
  subst hsz
  have hA : ∀ q : Nat, s.heap.size ≤ q → wA loc sh s.heap.size q := fun q h => Or.inr h
  have hO : ∀ a, sh a ≠ 0 → wA loc sh s.heap.size (loc a) := fun a h => Or.inl ⟨a, h, rfl⟩
  have hS : va_S (wA loc sh s.heap.size) s.heap s.heap [] := va_S.rf
  obtain ⟨ls, hen, hl⟩ := wEntry m [wR loc 1, .int a1, .int a2, .int a3] 6 (List.forall_mem_cons.mpr ⟨wR_cat _ _, List.forall_mem_cons.mpr ⟨rfl, List.forall_mem_cons.mpr ⟨rfl, List.forall_mem_cons.mpr ⟨rfl, fun _ h => absurd h List.not_mem_nil⟩⟩⟩⟩) (Nat.le_of_ble_eq_true rfl)
  rw [hen]
  clear hen
  have hl : lv_has ls 6 [(0, wR loc 1), (1, .int a1), (2, .int a2), (3, .int a3)] := hl
  have hkp : ∀ a, sh a ≠ 0 → loc a = loc a ∧ sh a ≠ 0 := fun a h => ⟨rfl, h⟩
  have k15 := hts (.fieldLink RX4 15 "CupByCup" "recipeCount" "I") (List.mem_of_getElem? (i := 1) rfl)
  have iX4 : ∀ w ∈ wsX40, w ∈ wsX4_order := fun w h => List.mem_cons_of_mem _ (List.mem_append_left _ (List.mem_append_right _ h))
  have k25 := hts (.fieldLink RX4 25 "CupByCup" "cupCount" "I") (List.mem_of_getElem? (i := 2) rfl)
  have k21 := hts (.fieldLink RX4 21 "CupByCup" "cups" "[LCupByCup$Cup;") (List.mem_of_getElem? (i := 3) rfl)
  have k11 := hts (.fieldLink RX4 11 "CupByCup" "recipes" "[LCupByCup$Recipe;") (List.mem_of_getElem? (i := 7) rfl)
  have k45 := hts (.fieldLink RX4 45 "CupByCup" "now" "I") (List.mem_of_getElem? (i := 8) rfl)
  have iX0 : ∀ w ∈ wsX00, w ∈ wsX4_order := fun w h => List.mem_cons_of_mem _ (List.mem_append_right _ h)
  have k28 := hts (.fieldLink RX4 28 "CupByCup" "cupsThat" "[I") (List.mem_of_getElem? (i := 9) rfl)
  unfold fX4_order at hf
  refine lv_iload_n hx hb dX4_order_0 rfl (lv_at hl 1 rfl) ?_
  refine wald_n hx hb dX4_order_1 rfl (lv_at hl 0 rfl) ?_
  obtain ⟨g1, hf⟩ := wGd_e hf
  refine wg (C := RX4) (T := TX4) (N := 17) (v := .int (iv 1 2)) hx hb hts iX4 hown hKn.1 hH (q := 1) g1 (by decide) rfl rfl 2 (by decide) k15 rfl dX4_order_2 ?_
  obtain ⟨r2, h3, hf⟩ := wBd_e hf
  refine wci (va_runS (As := [.int a1, .int (iv 1 2)]) (rest := []) ⟨hx, hb, hml, hown, hts⟩ (mtX4_isAmong l D K loc sh ln iv rv _ 0 a1 (iv 1 2) h3) (va_cwS 2 hts gX4_order_X4_isAmong rfl rfl rfl (by decide +kernel) ⟨Nat.le_of_ble_eq_true rfl, Nat.le_of_ble_eq_true rfl⟩) (wPreS hKn hH) rfl rfl hl.1 rfl (lv_room (Nat.le_of_ble_eq_true rfl)) dX4_order_5 ⟨by show _ ≤ 7; omega, by show _ ≤ 77; omega⟩) hS hO hA (fun H locs hH hS => ?_)
  refine lv_if_eq (tgt := 19) hx hb dX4_order_8 (by decide) (fun c4 => ?_) (fun c4 => ?_)
  · have hf := wIt c4 hf
    refine lv_iconst (v := (-1)) hx hb dX4_order_19 (by decide) ?_
    cases hf
    refine W.widen (k := 7) (n := 77) (by omega) (by omega) ?_
    exact W.iret hx hb hr (fun t ht hW => ⟨⟨_, loc, rfl, ⟨rfl, hkp⟩, by show wH _ _ _ _ _ _ _ t.heap; rw [ht]; exact hH, hO⟩, hS.F ht⟩) hS.2.2 dX4_order_20
  · have hf := wIf c4 hf
    refine lv_iload_n hx hb dX4_order_11 rfl (lv_at hl 3 rfl) ?_
    refine lv_iconst (v := 2) hx hb dX4_order_12 (by decide) ?_
    obtain ⟨r5, h6, hf⟩ := wBd_e hf
    refine wci (va_runS (As := [.int a3, .int 2]) (rest := []) ⟨hx, hb, hml, hown, hts⟩ (mtX4_isAmong l D K loc sh ln iv rv _ 0 a3 2 h6) (va_cwS 2 hts gX4_order_X4_isAmong rfl rfl rfl (by decide +kernel) ⟨Nat.le_of_ble_eq_true rfl, Nat.le_of_ble_eq_true rfl⟩) (wPreS hKn hH) rfl rfl hl.1 rfl (lv_room (Nat.le_of_ble_eq_true rfl)) dX4_order_13 ⟨by show _ ≤ 7; omega, by show _ ≤ 77; omega⟩) hS hO hA (fun H locs hH hS => ?_)
    refine lv_if_ne (tgt := 21) hx hb dX4_order_16 (by decide) (fun c7 => ?_) (fun c7 => ?_)
    · have hf := wIf c7 hf
      refine lv_iload_n hx hb dX4_order_21 rfl (lv_at hl 2 rfl) ?_
      refine lv_iconst (v := 1) hx hb dX4_order_22 (by decide) ?_
      refine lv_icmp_lt (tgt := 43) hx hb dX4_order_23 (by decide) (fun c8 => ?_) (fun c8 => ?_)
      · have hf := wIt c8 hf
        refine lv_iconst (v := (-1)) hx hb dX4_order_43 (by decide) ?_
        cases hf
        refine W.widen (k := 7) (n := 77) (by omega) (by omega) ?_
        exact W.iret hx hb hr (fun t ht hW => ⟨⟨_, loc, rfl, ⟨rfl, hkp⟩, by show wH _ _ _ _ _ _ _ t.heap; rw [ht]; exact hH, hO⟩, hS.F ht⟩) hS.2.2 dX4_order_44
      · have hf := wIf c8 hf
        refine lv_iload_n hx hb dX4_order_26 rfl (lv_at hl 2 rfl) ?_
        refine lv_bipush (v := 6) hx hb dX4_order_27 (by decide) ?_
        refine lv_icmp_gt (tgt := 43) hx hb dX4_order_29 (by decide) (fun c9 => ?_) (fun c9 => ?_)
        · have hf := wIt c9 hf
          refine lv_iconst (v := (-1)) hx hb dX4_order_43 (by decide) ?_
          cases hf
          refine W.widen (k := 7) (n := 77) (by omega) (by omega) ?_
          exact W.iret hx hb hr (fun t ht hW => ⟨⟨_, loc, rfl, ⟨rfl, hkp⟩, by show wH _ _ _ _ _ _ _ t.heap; rw [ht]; exact hH, hO⟩, hS.F ht⟩) hS.2.2 dX4_order_44
        · have hf := wIf c9 hf
          refine lv_iload_n hx hb dX4_order_32 rfl (lv_at hl 2 rfl) ?_
          refine lv_bipush (v := 100) hx hb dX4_order_33 (by decide) ?_
          refine wald_n hx hb dX4_order_35 rfl (lv_at hl 0 rfl) ?_
          refine wg (C := RX4) (T := TX4) (N := 17) (v := .int (iv 1 4)) hx hb hts iX4 hown hKn.1 hH (q := 1) g1 (by decide) rfl rfl 4 (by decide) k25 rfl dX4_order_36 ?_
          refine lv_isub hx hb dX4_order_39 ?_
          refine lv_icmp_le (tgt := 45) hx hb dX4_order_40 (by decide) (fun c10 => ?_) (fun c10 => ?_)
          · have hf := wIt c10 hf
            refine wald_n hx hb dX4_order_45 rfl (lv_at hl 0 rfl) ?_
            refine wg (C := RX4) (T := TX4) (N := 17) (v := .int (iv 1 4)) hx hb hts iX4 hown hKn.1 hH (q := 1) g1 (by decide) rfl rfl 4 (by decide) k25 rfl dX4_order_46 ?_
            refine lv_istore (lv' := [(4, .int (iv 1 4)), (0, wR loc 1), (1, .int a1), (2, .int a2), (3, .int a3)]) hx hb dX4_order_49 hl (by decide) rfl (fun ls hl => ?_)
            refine lv_iconst (v := 0) hx hb dX4_order_51 (by decide) ?_
            refine lv_istore (lv' := [(5, .int 0), (4, .int (iv 1 4)), (0, wR loc 1), (1, .int a1), (2, .int a2), (3, .int a3)]) hx hb dX4_order_52 hl (by decide) rfl (fun ls hl => ?_)
            obtain ⟨sh21, ln22, iv23, rv24, hL18, hf⟩ := wB4_e hf
            have hk19 : ∀ (lo25 : Nat → Nat) (H : Heap) (locs : List Loc) (ls : Array Slot), (∀ a, sh a ≠ 0 → lo25 a = loc a ∧ sh21 a ≠ 0) → (∀ a, sh21 a ≠ 0 → wA loc sh s.heap.size (lo25 a)) → wH D K lo25 sh21 ln22 iv23 rv24 H → va_S (wA loc sh s.heap.size) s.heap H locs → lv_has ls 6 [(0, wR lo25 1), (2, .int a2), (4, .int (iv 1 4))] → W p l e (headSpec wsX4_order ({ frames := 2, cells := 7, slots := 77, locals := 45 })).room s m ([wR loc 1, .int a1, .int a2, .int a3] : List Value).toArray below meth c H locs 7 77 (MQ below (wQni D K loc sh sh' ln' iv' rv' s.heap.size r') ([wR loc 1, .int a1, .int a2, .int a3] : List Value).toArray s 7 77 (wA loc sh s.heap.size)) (F0 m 101 ls []) := by
              clear hL18 hl hS hH hkp hO
              intro lo25 H locs ls hkp hO hH hS hl
              refine wald_n hx hb dX4_order_101 rfl (lv_at hl 0 rfl) ?_
              refine lv_dup hx hb dX4_order_102 (wR_cat _ _) ?_
              obtain ⟨g49, hf⟩ := wGd_e hf
              refine wg (C := RX4) (T := TX4) (N := 17) (v := .int (iv23 1 4)) hx hb hts iX4 hown hKn.1 hH (q := 1) g49 (by decide) rfl rfl 4 (by decide) k25 rfl dX4_order_103 ?_
              refine lv_iload_n hx hb dX4_order_106 rfl (lv_at hl 1 rfl) ?_
              refine lv_iadd hx hb dX4_order_107 ?_
              obtain ⟨iv50, e51, hf⟩ := wLt_e hf
              refine wp (C := RX4) (T := TX4) (N := 17) (v := .int ((iv23 1 4) + a2)) (ty := tyX4 4) (iv' := iv50) (rv' := rv24) hx hb hts iX4 tyX4 tyX4_ok nmX4 hown hKn.1 hH hO hS (q := 1) g49 (by decide) rfl rfl 4 (by decide) k25 rfl (tyX4_ok 4 (by decide)) rfl rfl (Nat.le_of_ble_eq_true rfl) (by rw [e51, wU_self]; rfl) (fun a ha => by rw [e51]; exact wU_ne a ha) (fun _ _ => rfl) dX4_order_108 (fun H locs hH hS => ?_)
              refine wald_n hx hb dX4_order_111 rfl (lv_at hl 0 rfl) ?_
              refine wg (C := RX4) (T := TX4) (N := 17) (v := wR lo25 5) hx hb hts iX4 hown hKn.1 hH (q := 1) g49 (by decide) rfl rfl 5 (by decide) k28 rfl dX4_order_112 ?_
              refine lv_iconst (v := 0) hx hb dX4_order_115 (by decide) ?_
              refine lv_dup2_11 hx hb dX4_order_116 rfl (wR_cat _ _) ?_
              obtain ⟨g52, hf⟩ := wGd_e hf
              obtain ⟨g53, hf⟩ := wGd_e hf
              refine wia hx hb hKn.1 hH g52 rfl g53 dX4_order_117 ?_
              refine lv_iload_n hx hb dX4_order_118 rfl (lv_at hl 1 rfl) ?_
              refine lv_iadd hx hb dX4_order_119 ?_
              obtain ⟨iv54, e55, hf⟩ := wLt_e hf
              refine wis hx hb hKn.1 hH hO hS g52 rfl g53 dX4_order_120 (fun H locs hH hS => ?_)
              rw [← e55] at hH
              refine lv_iload hx hb dX4_order_121 (lv_at hl 2 rfl) ?_
              cases hf
              refine W.widen (k := 7) (n := 77) (by omega) (by omega) ?_
              exact W.iret hx hb hr (fun t ht hW => ⟨⟨_, lo25, rfl, ⟨rfl, hkp⟩, by show wH _ _ _ _ _ _ _ t.heap; rw [ht]; exact hH, hO⟩, hS.F ht⟩) hS.2.2 dX4_order_123
            have lp20 : ∀ (n11 : Nat) (hle : n11 ≤ 7) (lo14 : Nat → Nat) (sh15 : Nat → Nat) (ln16 : Nat → Nat) (iv12 : wI) (rv13 : wJ) (x17 : Int32) (H : Heap) (locs : List Loc) (ls : Array Slot), fX4_order_54 n11 sh15 ln16 iv12 rv13 a1 a2 a3 (iv 1 4) x17 = some (sh21, ln22, iv23, rv24) → (∀ a, sh a ≠ 0 → lo14 a = loc a ∧ sh15 a ≠ 0) → (∀ a, sh15 a ≠ 0 → wA loc sh s.heap.size (lo14 a)) → wH D K lo14 sh15 ln16 iv12 rv13 H → va_S (wA loc sh s.heap.size) s.heap H locs → lv_has ls 6 [(0, wR lo14 1), (1, .int a1), (2, .int a2), (3, .int a3), (4, .int (iv 1 4)), (5, .int x17)] → W p l e (headSpec wsX4_order ({ frames := 2, cells := 7, slots := 77, locals := 45 })).room s m ([wR loc 1, .int a1, .int a2, .int a3] : List Value).toArray below meth c H locs (0 + (7 - n11) * 1) (0 + (7 - n11) * 11) (MQ below (wQni D K loc sh sh' ln' iv' rv' s.heap.size r') ([wR loc 1, .int a1, .int a2, .int a3] : List Value).toArray s 7 77 (wA loc sh s.heap.size)) (F0 m 54 ls []) := by
              clear hf hl hS hH hkp hO hL18
              intro n11
              induction n11 with
              | zero => intro hle lo14 sh15 ln16 iv12 rv13 x17 H locs ls hf; cases hf
              | succ n11 ih =>
                intro hle lo14 sh15 ln16 iv12 rv13 x17 H locs ls hf hkp hO hH hS hl
                rw [fX4_order_54.eq_2] at hf
                refine lv_iload hx hb dX4_order_54 (lv_at hl 5 rfl) ?_
                refine lv_iload_n hx hb dX4_order_56 rfl (lv_at hl 2 rfl) ?_
                refine lv_icmp_ge (tgt := 101) hx hb dX4_order_57 (by decide) (fun c26 => ?_) (fun c26 => ?_)
                · have hf := wIt c26 hf
                  cases hf
                  refine W.widen (k := 7) (n := 77) (by omega) (by omega) ?_
                  exact hk19 _ _ _ _ hkp hO hH hS (lv_sub hl [0, 2, 4] rfl)
                · have hf := wIf c26 hf
                  refine wald_n hx hb dX4_order_60 rfl (lv_at hl 0 rfl) ?_
                  obtain ⟨g27, hf⟩ := wGd_e hf
                  refine wg (C := RX4) (T := TX4) (N := 17) (v := wR lo14 4) hx hb hts iX4 hown hKn.1 hH (q := 1) g27 (by decide) rfl rfl 3 (by decide) k21 rfl dX4_order_61 ?_
                  refine lv_iload hx hb dX4_order_64 (lv_at hl 4 rfl) ?_
                  refine lv_iload hx hb dX4_order_66 (lv_at hl 5 rfl) ?_
                  refine lv_iadd hx hb dX4_order_68 ?_
                  obtain ⟨g28, hf⟩ := wGd_e hf
                  obtain ⟨g29, hf⟩ := wGd_e hf
                  obtain ⟨sh30, e34, hf⟩ := wLt_e hf
                  obtain ⟨ln31, e35, hf⟩ := wLt_e hf
                  obtain ⟨iv32, e36, hf⟩ := wLt_e hf
                  obtain ⟨rv33, e37, hf⟩ := wLt_e hf
                  refine wno (C := RX0) (T := TX0) (N := 11) hx hb hts iX0 tyX0 tyX0_ok hown (hts (.classLink RX4 19 RX0) (List.mem_of_getElem? (i := 4) rfl)) (hts (.instantiable RX0 11) (List.mem_of_getElem? (i := 5) rfl)) (hts (.initialized RX0) (List.mem_of_getElem? (i := 6) rfl)) hKn.1 hH hO hS hA (((iv 1 4) + x17).toNatClampNeg + 100) 1 0 g29 (by decide) (fun _ => rfl) rfl (fun j hj => by rcases (show j = 0 ∨ j = 1 ∨ j = 2 ∨ j = 3 ∨ j = 4 ∨ j = 5 ∨ j = 6 ∨ j = 7 ∨ j = 8 ∨ j = 9 ∨ j = 10 by omega) with rfl | rfl | rfl | rfl | rfl | rfl | rfl | rfl | rfl | rfl | rfl <;> rfl) (by show _ ≤ 7; omega) (by show _ ≤ 77; omega) dX4_order_69 (fun lo38 H hloc hH hO hS => ?_)
                  have hkp := wKp hkp g29.2.1 (by decide) hloc
                  rw [← e34] at hkp hO
                  rw [← e34, ← e35, ← e36, ← e37] at hH
                  rw [wR_same (hloc 1 (wNe g27 (by decide) g29.2.1))] at hl
                  refine W.eq (g2 := F0 m 72 ls [wR lo38 (((iv 1 4) + x17).toNatClampNeg + 100), .int ((iv 1 4) + x17), wR lo38 4]) (by rw [wR_same (hloc 4 (wNe g28 (by decide) g29.2.1))]) ?_
                  refine lv_dup hx hb dX4_order_72 (wR_cat _ _) ?_
                  refine lv_iload hx hb dX4_order_73 (lv_at hl 4 rfl) ?_
                  refine lv_iload hx hb dX4_order_75 (lv_at hl 5 rfl) ?_
                  refine lv_iadd hx hb dX4_order_77 ?_
                  refine wald_n hx hb dX4_order_78 rfl (lv_at hl 0 rfl) ?_
                  obtain ⟨g39, hf⟩ := wGd_e hf
                  refine wg (C := RX4) (T := TX4) (N := 17) (v := wR lo38 3) hx hb hts iX4 hown hKn.1 hH (q := 1) g39 (by decide) rfl rfl 1 (by decide) k11 rfl dX4_order_79 ?_
                  refine lv_iload_n hx hb dX4_order_82 rfl (lv_at hl 1 rfl) ?_
                  obtain ⟨g40, hf⟩ := wGd_e hf
                  obtain ⟨g41, hf⟩ := wGd_e hf
                  refine waa (kd := 11) (ki := 4) hx hb hKn.1 hH g40 (by decide) rfl rfl rfl g41 dX4_order_83 ?_
                  refine lv_iload hx hb dX4_order_84 (lv_at hl 4 rfl) ?_
                  refine lv_iload_n hx hb dX4_order_86 rfl (lv_at hl 3 rfl) ?_
                  refine wald_n hx hb dX4_order_87 rfl (lv_at hl 0 rfl) ?_
                  refine wg (C := RX4) (T := TX4) (N := 17) (v := .int (iv32 1 12)) hx hb hts iX4 hown hKn.1 hH (q := 1) g39 (by decide) rfl rfl 12 (by decide) k45 rfl dX4_order_88 ?_
                  obtain ⟨iv42, rv43, h44, hf⟩ := wB2_e hf
                  refine W.eq (g2 := F0 m 91 ls ([.int (iv32 1 12), .int a3, .int (iv 1 4), wR lo38 (rv33 3 a1.toNatClampNeg), .int ((iv 1 4) + x17)] ++ .ref (lo38 (((iv 1 4) + x17).toNatClampNeg + 100)) :: [wR lo38 (((iv 1 4) + x17).toNatClampNeg + 100), .int ((iv 1 4) + x17), wR lo38 4])) (by rw [wR_ref (hH.nz (e34 ▸ va_up_self _ _ _) (by decide))]; rfl) ?_
                  refine wcv (va_runI (As := [.int ((iv 1 4) + x17), wR lo38 (rv33 3 a1.toNatClampNeg), .int (iv 1 4), .int a3, .int (iv32 1 12)]) (rest := [wR lo38 (((iv 1 4) + x17).toNatClampNeg + 100), .int ((iv 1 4) + x17), wR lo38 4]) ⟨hx, hb, hml, hown, hts⟩ (mtX0_init l D K lo38 sh30 ln31 iv32 rv33 _ 0 (((iv 1 4) + x17).toNatClampNeg + 100) ((iv 1 4) + x17) (rv33 3 a1.toNatClampNeg) (iv 1 4) a3 (iv32 1 12) (e34 ▸ va_up_self _ _ _) h44) (cwI 5 hts gX4_order_X0_init rfl rfl rfl (hts (.initialized RX0) (List.mem_of_getElem? (i := 6) rfl)) (hts (.methodLink RX4 92 yX0_init) (List.mem_of_getElem? (i := 14) rfl)) (hts (.instanceMethod yX0_init) (List.mem_of_getElem? (i := 15) rfl)) rfl (by decide +kernel) ⟨Nat.le_of_ble_eq_true rfl, Nat.le_of_ble_eq_true rfl⟩) (wPreI hKn hH (e34 ▸ va_up_self _ _ _) (by decide)) rfl rfl hl.1 rfl (lv_room (by simp [wR_cat, iCat])) dX4_order_91 ⟨by show _ ≤ 7; omega, by show _ ≤ 77; omega⟩) hS hO hA (fun H locs hH hS => ?_)
                  obtain ⟨g45, hf⟩ := wGd_e hf
                  obtain ⟨g46, hf⟩ := wGd_e hf
                  obtain ⟨rv47, e48, hf⟩ := wLt_e hf
                  refine was (kd := 9) (ki := 2) (kv := 1) hx hb hKn.1 hH hO hS g45 (by decide) (fun _ => rfl) rfl rfl (e34 ▸ va_up_self _ _ _) (by decide) rfl rfl g46 dX4_order_94 (fun H locs hH hS => ?_)
                  rw [← e48] at hH
                  refine lv_iinc (v := (x17 + 1)) (lv' := [(5, .int (x17 + 1)), (0, wR lo38 1), (1, .int a1), (2, .int a2), (3, .int a3), (4, .int (iv 1 4))]) hx hb dX4_order_95 hl (k := 5) rfl rfl (by decide) rfl (fun ls hl => ?_)
                  refine lv_goto (tgt := 54) hx hb dX4_order_98 (by decide) ?_
                  refine W.widen (k := 0 + (7 - n11) * 1) (n := 0 + (7 - n11) * 11) (by omega) (by omega) ?_
                  exact ih (by omega) _ _ _ _ _ _ _ _ _ hf hkp hO hH hS (lv_sub hl [1, 2, 3, 4, 5, 0] rfl)
            refine W.widen (k := 0 + (7 - 7) * 1) (n := 0 + (7 - 7) * 11) (by omega) (by omega) ?_
            exact lp20 7 (Nat.le_refl _) _ _ _ _ _ _ _ _ _ hL18 hkp hO hH hS (lv_sub hl [2, 3, 4, 5, 1, 0] rfl)
          · have hf := wIf c10 hf
            refine lv_iconst (v := (-1)) hx hb dX4_order_43 (by decide) ?_
            cases hf
            refine W.widen (k := 7) (n := 77) (by omega) (by omega) ?_
            exact W.iret hx hb hr (fun t ht hW => ⟨⟨_, loc, rfl, ⟨rfl, hkp⟩, by show wH _ _ _ _ _ _ _ t.heap; rw [ht]; exact hH, hO⟩, hS.F ht⟩) hS.2.2 dX4_order_44
    · have hf := wIt c7 hf
      refine lv_iconst (v := (-1)) hx hb dX4_order_19 (by decide) ?_
      cases hf
      refine W.widen (k := 7) (n := 77) (by omega) (by omega) ?_
      exact W.iret hx hb hr (fun t ht hW => ⟨⟨_, loc, rfl, ⟨rfl, hkp⟩, by show wH _ _ _ _ _ _ _ t.heap; rw [ht]; exact hH, hO⟩, hS.F ht⟩) hS.2.2 dX4_order_20
noncomputable def fX5_init  (sh : (Nat → Nat)) (ln : (Nat → Nat)) (iv : wI) (rv : wJ) (a1 : Int32) (a2 : Int32) : Option ((Nat → Nat) × (Nat → Nat) × wI × wJ) := wGd (sh 1 = 14) (wLt (wU iv 1 3 900) (fun (iv2 : wI) => wGd (wFr sh rv 15) (wLt (va_up sh 15 7) (fun (sh5 : Nat → Nat) => wLt (va_up ln 15 (8 : Int32).toNatClampNeg) (fun (ln6 : Nat → Nat) => wLt (va_up iv2 15 (fun _ => (0 : Int32))) (fun (iv7 : wI) => wLt (va_up rv 15 (fun _ => (0 : Nat))) (fun (rv8 : wJ) => wGd (sh5 1 = 14) (wLt (wV rv8 1 5 15) (fun (rv15 : wJ) => wGd (wFr sh5 rv15 16) (wLt (va_up sh5 16 7) (fun (sh18 : Nat → Nat) => wLt (va_up ln6 16 (8 : Int32).toNatClampNeg) (fun (ln19 : Nat → Nat) => wLt (va_up iv7 16 (fun _ => (0 : Int32))) (fun (iv20 : wI) => wLt (va_up rv15 16 (fun _ => (0 : Nat))) (fun (rv21 : wJ) => wGd (sh18 1 = 14) (wLt (wV rv21 1 6 16) (fun (rv28 : wJ) => wGd (wFr sh18 rv28 17) (wLt (va_up sh18 17 7) (fun (sh31 : Nat → Nat) => wLt (va_up ln19 17 (3 : Int32).toNatClampNeg) (fun (ln32 : Nat → Nat) => wLt (va_up iv20 17 (fun _ => (0 : Int32))) (fun (iv33 : wI) => wLt (va_up rv28 17 (fun _ => (0 : Nat))) (fun (rv34 : wJ) => wGd (sh31 1 = 14) (wLt (wV rv34 1 7 17) (fun (rv41 : wJ) => wGd (wFr sh31 rv41 19) (wLt (va_up sh31 19 7) (fun (sh44 : Nat → Nat) => wLt (va_up ln32 19 (100 : Int32).toNatClampNeg) (fun (ln45 : Nat → Nat) => wLt (va_up iv33 19 (fun _ => (0 : Int32))) (fun (iv46 : wI) => wLt (va_up rv41 19 (fun _ => (0 : Nat))) (fun (rv47 : wJ) => wGd (sh44 1 = 14) (wLt (wV rv47 1 9 19) (fun (rv54 : wJ) => wGd (wFr sh44 rv54 20) (wLt (va_up sh44 20 7) (fun (sh57 : Nat → Nat) => wLt (va_up ln45 20 (100 : Int32).toNatClampNeg) (fun (ln58 : Nat → Nat) => wLt (va_up iv46 20 (fun _ => (0 : Int32))) (fun (iv59 : wI) => wLt (va_up rv54 20 (fun _ => (0 : Nat))) (fun (rv60 : wJ) => wGd (sh57 1 = 14) (wLt (wV rv60 1 10 20) (fun (rv67 : wJ) => wGd (wFr sh57 rv67 21) (wLt (va_up sh57 21 7) (fun (sh70 : Nat → Nat) => wLt (va_up ln58 21 (100 : Int32).toNatClampNeg) (fun (ln71 : Nat → Nat) => wLt (va_up iv59 21 (fun _ => (0 : Int32))) (fun (iv72 : wI) => wLt (va_up rv67 21 (fun _ => (0 : Nat))) (fun (rv73 : wJ) => wGd (sh70 1 = 14) (wLt (wV rv73 1 11 21) (fun (rv80 : wJ) => wGd (wFr sh70 rv80 22) (wLt (va_up sh70 22 7) (fun (sh83 : Nat → Nat) => wLt (va_up ln71 22 (100 : Int32).toNatClampNeg) (fun (ln84 : Nat → Nat) => wLt (va_up iv72 22 (fun _ => (0 : Int32))) (fun (iv85 : wI) => wLt (va_up rv80 22 (fun _ => (0 : Nat))) (fun (rv86 : wJ) => wGd (sh83 1 = 14) (wLt (wV rv86 1 12 22) (fun (rv93 : wJ) => wGd (wFr sh83 rv93 23) (wLt (va_up sh83 23 7) (fun (sh96 : Nat → Nat) => wLt (va_up ln84 23 (100 : Int32).toNatClampNeg) (fun (ln97 : Nat → Nat) => wLt (va_up iv85 23 (fun _ => (0 : Int32))) (fun (iv98 : wI) => wLt (va_up rv93 23 (fun _ => (0 : Nat))) (fun (rv99 : wJ) => wGd (sh96 1 = 14) (wLt (wV rv99 1 13 23) (fun (rv106 : wJ) => wGd (wFr sh96 rv106 24) (wLt (va_up sh96 24 7) (fun (sh109 : Nat → Nat) => wLt (va_up ln97 24 (100 : Int32).toNatClampNeg) (fun (ln110 : Nat → Nat) => wLt (va_up iv98 24 (fun _ => (0 : Int32))) (fun (iv111 : wI) => wLt (va_up rv106 24 (fun _ => (0 : Nat))) (fun (rv112 : wJ) => wGd (sh109 1 = 14) (wLt (wV rv112 1 14 24) (fun (rv119 : wJ) => wGd (wFr sh109 rv119 25) (wLt (va_up sh109 25 7) (fun (sh122 : Nat → Nat) => wLt (va_up ln110 25 (100 : Int32).toNatClampNeg) (fun (ln123 : Nat → Nat) => wLt (va_up iv111 25 (fun _ => (0 : Int32))) (fun (iv124 : wI) => wLt (va_up rv119 25 (fun _ => (0 : Nat))) (fun (rv125 : wJ) => wGd (sh122 1 = 14) (wLt (wV rv125 1 15 25) (fun (rv132 : wJ) => wGd (wFr sh122 rv132 26) (wLt (va_up sh122 26 7) (fun (sh135 : Nat → Nat) => wLt (va_up ln123 26 (100 : Int32).toNatClampNeg) (fun (ln136 : Nat → Nat) => wLt (va_up iv124 26 (fun _ => (0 : Int32))) (fun (iv137 : wI) => wLt (va_up rv132 26 (fun _ => (0 : Nat))) (fun (rv138 : wJ) => wGd (sh135 1 = 14) (wLt (wV rv138 1 16 26) (fun (rv145 : wJ) => wGd (wFr sh135 rv145 27) (wLt (va_up sh135 27 7) (fun (sh148 : Nat → Nat) => wLt (va_up ln136 27 (100 : Int32).toNatClampNeg) (fun (ln149 : Nat → Nat) => wLt (va_up iv137 27 (fun _ => (0 : Int32))) (fun (iv150 : wI) => wLt (va_up rv145 27 (fun _ => (0 : Nat))) (fun (rv151 : wJ) => wGd (sh148 1 = 14) (wLt (wV rv151 1 17 27) (fun (rv158 : wJ) => wGd (wFr sh148 rv158 28) (wLt (va_up sh148 28 7) (fun (sh161 : Nat → Nat) => wLt (va_up ln149 28 (100 : Int32).toNatClampNeg) (fun (ln162 : Nat → Nat) => wLt (va_up iv150 28 (fun _ => (0 : Int32))) (fun (iv163 : wI) => wLt (va_up rv158 28 (fun _ => (0 : Nat))) (fun (rv164 : wJ) => wGd (sh161 1 = 14) (wLt (wV rv164 1 18 28) (fun (rv171 : wJ) => wGd (wFr sh161 rv171 29) (wLt (va_up sh161 29 7) (fun (sh174 : Nat → Nat) => wLt (va_up ln162 29 (100 : Int32).toNatClampNeg) (fun (ln175 : Nat → Nat) => wLt (va_up iv163 29 (fun _ => (0 : Int32))) (fun (iv176 : wI) => wLt (va_up rv171 29 (fun _ => (0 : Nat))) (fun (rv177 : wJ) => wGd (sh174 1 = 14) (wLt (wV rv177 1 19 29) (fun (rv184 : wJ) => wGd (wFr sh174 rv184 30) (wLt (va_up sh174 30 7) (fun (sh187 : Nat → Nat) => wLt (va_up ln175 30 (3 : Int32).toNatClampNeg) (fun (ln188 : Nat → Nat) => wLt (va_up iv176 30 (fun _ => (0 : Int32))) (fun (iv189 : wI) => wLt (va_up rv184 30 (fun _ => (0 : Nat))) (fun (rv190 : wJ) => wGd (sh187 1 = 14) (wLt (wV rv190 1 20 30) (fun (rv197 : wJ) => wGd (wFr sh187 rv197 31) (wLt (va_up sh187 31 7) (fun (sh200 : Nat → Nat) => wLt (va_up ln188 31 (3 : Int32).toNatClampNeg) (fun (ln201 : Nat → Nat) => wLt (va_up iv189 31 (fun _ => (0 : Int32))) (fun (iv202 : wI) => wLt (va_up rv197 31 (fun _ => (0 : Nat))) (fun (rv203 : wJ) => wGd (sh200 1 = 14) (wLt (wV rv203 1 21 31) (fun (rv210 : wJ) => wGd (wFr sh200 rv210 32) (wLt (va_up sh200 32 7) (fun (sh213 : Nat → Nat) => wLt (va_up ln201 32 (3 : Int32).toNatClampNeg) (fun (ln214 : Nat → Nat) => wLt (va_up iv202 32 (fun _ => (0 : Int32))) (fun (iv215 : wI) => wLt (va_up rv210 32 (fun _ => (0 : Nat))) (fun (rv216 : wJ) => wGd (sh213 1 = 14) (wLt (wV rv216 1 22 32) (fun (rv223 : wJ) => wLt (wU iv215 1 25 50) (fun (iv225 : wI) => wGd (wFr sh213 rv223 36) (wLt (va_up sh213 36 7) (fun (sh228 : Nat → Nat) => wLt (va_up ln214 36 (5 : Int32).toNatClampNeg) (fun (ln229 : Nat → Nat) => wLt (va_up iv225 36 (fun _ => (0 : Int32))) (fun (iv230 : wI) => wLt (va_up rv223 36 (fun _ => (0 : Nat))) (fun (rv231 : wJ) => wGd (sh228 1 = 14) (wLt (wV rv231 1 26 36) (fun (rv238 : wJ) => wGd (wFr sh228 rv238 37) (wLt (va_up sh228 37 7) (fun (sh241 : Nat → Nat) => wLt (va_up ln229 37 (5 : Int32).toNatClampNeg) (fun (ln242 : Nat → Nat) => wLt (va_up iv230 37 (fun _ => (0 : Int32))) (fun (iv243 : wI) => wLt (va_up rv238 37 (fun _ => (0 : Nat))) (fun (rv244 : wJ) => wGd (sh241 1 = 14) (wLt (wV rv244 1 27 37) (fun (rv251 : wJ) => wGd (wFr sh241 rv251 38) (wLt (va_up sh241 38 7) (fun (sh254 : Nat → Nat) => wLt (va_up ln242 38 (5 : Int32).toNatClampNeg) (fun (ln255 : Nat → Nat) => wLt (va_up iv243 38 (fun _ => (0 : Int32))) (fun (iv256 : wI) => wLt (va_up rv251 38 (fun _ => (0 : Nat))) (fun (rv257 : wJ) => wGd (sh254 1 = 14) (wLt (wV rv257 1 28 38) (fun (rv264 : wJ) => wGd (wFr sh254 rv264 39) (wLt (va_up sh254 39 7) (fun (sh267 : Nat → Nat) => wLt (va_up ln255 39 (5 : Int32).toNatClampNeg) (fun (ln268 : Nat → Nat) => wLt (va_up iv256 39 (fun _ => (0 : Int32))) (fun (iv269 : wI) => wLt (va_up rv264 39 (fun _ => (0 : Nat))) (fun (rv270 : wJ) => wGd (sh267 1 = 14) (wLt (wV rv270 1 29 39) (fun (rv277 : wJ) => wBd (if 1 ≤ a1 then if a1 ≤ 3 then some a1 else some (3 : Int32) else some (1 : Int32)) (fun (z280 : Int32) => wLt (wU iv269 1 0 z280) (fun (iv284 : wI) => if 6 ≤ a2 then if a2 ≤ 30 then wLt (wU iv284 1 1 a2) (fun (iv288 : wI) => some (sh267, ln268, iv288, rv277)) else wLt (wU iv284 1 1 30) (fun (iv290 : wI) => some (sh267, ln268, iv290, rv277)) else wLt (wU iv284 1 1 6) (fun (iv292 : wI) => some (sh267, ln268, iv292, rv277))))))))))))))))))))))))))))))))))))))))))))))))))))))))))))))))))))))))))))))))))))))))))))))))))))))))))))))))))))))))))))))))))))))))))))))))))))))))))
set_option maxHeartbeats 4000000 in
set_option maxRecDepth 100000 in
theorem mtX5_init (l : Launch) (D : va_G) (K : Nat → ClassId) (loc sh ln : Nat → Nat) (iv : wI) (rv : wJ) (sz : Nat) (a1 : Int32) (a2 : Int32) {sh' : (Nat → Nat)} {ln' : (Nat → Nat)} {iv' : wI} {rv' : wJ} (hf : fX5_init sh ln iv rv a1 a2 = some (sh', ln', iv', rv')) : Met l yX5_init wsX5_init ({ frames := 1, cells := 21, slots := 1148, locals := 20 }) (wPc D K loc sh ln iv rv sz [wR loc 1, .int a1, .int a2]) (wQnv D K loc sh sh' ln' iv' rv' sz) 21 1148 (wA loc sh sz) := by
  refine Met.ofW (cc := cX5_init) (maxL := 3) (ret := none) (by decide) rfl ?_
  intro p e s m args below meth c s₁ B hml hv
  obtain ⟨rfl, hsz, hH, hKn⟩ := hv
  have hx := B.exec
  have hb := B.bytes
  have hr := B.returns
  have hts := atoms_spec (ws := wsX5_init) B.pre
  have hown : s.vm.findClass RX5 = some m.cls := findClass_of_methodNamed B.named
  have hlocks := B.notSynchronized
  subst hsz
  have hA : ∀ q : Nat, s.heap.size ≤ q → wA loc sh s.heap.size q := fun q h => Or.inr h
  have hO : ∀ a, sh a ≠ 0 → wA loc sh s.heap.size (loc a) := fun a h => Or.inl ⟨a, h, rfl⟩
  have hS : va_S (wA loc sh s.heap.size) s.heap s.heap [] := va_S.rf
  obtain ⟨ls, hen, hl⟩ := wEntry m [wR loc 1, .int a1, .int a2] 3 (List.forall_mem_cons.mpr ⟨wR_cat _ _, List.forall_mem_cons.mpr ⟨rfl, List.forall_mem_cons.mpr ⟨rfl, fun _ h => absurd h List.not_mem_nil⟩⟩⟩) (Nat.le_of_ble_eq_true rfl)
  rw [hen]
  clear hen
  have hl : lv_has ls 3 [(0, wR loc 1), (1, .int a1), (2, .int a2)] := hl
  have hin : meth.name = "<init>" := (name_of_methodNamed B.named B.method).1
  have hkp : ∀ a, sh a ≠ 0 → loc a = loc a ∧ sh a ≠ 0 := fun a h => ⟨rfl, h⟩
  have k7 := hts (.fieldLink RX5 7 "CupByCupModel" "heat" "I") (List.mem_of_getElem? (i := 4) rfl)
  have iX5 : ∀ w ∈ wsX50, w ∈ wsX5_init := fun w h => List.mem_cons_of_mem _ (List.mem_append_right _ h)
  have k13 := hts (.fieldLink RX5 13 "CupByCupModel" "recipeWhat" "[I") (List.mem_of_getElem? (i := 6) rfl)
  have k17 := hts (.fieldLink RX5 17 "CupByCupModel" "recipeWet" "[I") (List.mem_of_getElem? (i := 7) rfl)
  have k20 := hts (.fieldLink RX5 20 "CupByCupModel" "stores" "[I") (List.mem_of_getElem? (i := 8) rfl)
  have k23 := hts (.fieldLink RX5 23 "CupByCupModel" "what" "[I") (List.mem_of_getElem? (i := 9) rfl)
  have k26 := hts (.fieldLink RX5 26 "CupByCupModel" "wet" "[I") (List.mem_of_getElem? (i := 10) rfl)
  have k29 := hts (.fieldLink RX5 29 "CupByCupModel" "orderOf" "[I") (List.mem_of_getElem? (i := 11) rfl)
  have k32 := hts (.fieldLink RX5 32 "CupByCupModel" "lane" "[I") (List.mem_of_getElem? (i := 12) rfl)
  have k35 := hts (.fieldLink RX5 35 "CupByCupModel" "came" "[I") (List.mem_of_getElem? (i := 13) rfl)
  have k38 := hts (.fieldLink RX5 38 "CupByCupModel" "state" "[I") (List.mem_of_getElem? (i := 14) rfl)
  have k41 := hts (.fieldLink RX5 41 "CupByCupModel" "left" "[I") (List.mem_of_getElem? (i := 15) rfl)
  have k44 := hts (.fieldLink RX5 44 "CupByCupModel" "at" "[I") (List.mem_of_getElem? (i := 16) rfl)
  have k47 := hts (.fieldLink RX5 47 "CupByCupModel" "since" "[I") (List.mem_of_getElem? (i := 17) rfl)
  have k50 := hts (.fieldLink RX5 50 "CupByCupModel" "doneIn" "[I") (List.mem_of_getElem? (i := 18) rfl)
  have k53 := hts (.fieldLink RX5 53 "CupByCupModel" "anew" "[I") (List.mem_of_getElem? (i := 19) rfl)
  have k56 := hts (.fieldLink RX5 56 "CupByCupModel" "rinses" "[I") (List.mem_of_getElem? (i := 20) rfl)
  have k59 := hts (.fieldLink RX5 59 "CupByCupModel" "due" "[I") (List.mem_of_getElem? (i := 21) rfl)
  have k62 := hts (.fieldLink RX5 62 "CupByCupModel" "faults" "[I") (List.mem_of_getElem? (i := 22) rfl)
  have k65 := hts (.fieldLink RX5 65 "CupByCupModel" "setting" "I") (List.mem_of_getElem? (i := 23) rfl)
  have k68 := hts (.fieldLink RX5 68 "CupByCupModel" "waiting" "[I") (List.mem_of_getElem? (i := 24) rfl)
  have k71 := hts (.fieldLink RX5 71 "CupByCupModel" "row" "[I") (List.mem_of_getElem? (i := 25) rfl)
  have k74 := hts (.fieldLink RX5 74 "CupByCupModel" "brewedAt" "[I") (List.mem_of_getElem? (i := 26) rfl)
  have k77 := hts (.fieldLink RX5 77 "CupByCupModel" "best" "[I") (List.mem_of_getElem? (i := 27) rfl)
  have k80 := hts (.fieldLink RX5 80 "CupByCupModel" "groups" "I") (List.mem_of_getElem? (i := 28) rfl)
  have k83 := hts (.fieldLink RX5 83 "CupByCupModel" "limit" "I") (List.mem_of_getElem? (i := 29) rfl)
  unfold fX5_init at hf
  refine wald_n hx hb dX5_init_0 rfl (lv_at hl 0 rfl) ?_
  obtain ⟨g1, hf⟩ := wGd_e hf
  refine W.eq (g2 := F0 m 1 ls (.ref (loc 1) :: [])) (by rw [wR_ref (hH.nz g1 (by decide))]) ?_
  refine W.objInit hx hb hown (hts (.methodLink RX5 1 objectInit) (List.mem_of_getElem? (i := 1) rfl)) (hts (.instanceMethod objectInit) (List.mem_of_getElem? (i := 2) rfl)) (hts (.code objectInit ⟨#[0xb1]⟩ 1 none) (List.mem_of_getElem? (i := 3) rfl)) rfl (by rw [hml]; exact hl.1) rfl dX5_init_1 (Nat.le_of_ble_eq_true rfl) (Nat.le_of_ble_eq_true rfl) ?_
  refine W.eq (g2 := F0 m 4 ls []) rfl ?_
  refine wald_n hx hb dX5_init_4 rfl (lv_at hl 0 rfl) ?_
  refine lv_sipush (v := 900) hx hb dX5_init_5 (by decide) ?_
  obtain ⟨iv2, e3, hf⟩ := wLt_e hf
  refine wp (C := RX5) (T := TX5) (N := 31) (v := .int 900) (ty := tyX5 3) (iv' := iv2) (rv' := rv) hx hb hts iX5 tyX5 tyX5_ok nmX5 hown hKn.1 hH hO hS (q := 1) g1 (by decide) rfl rfl 3 (by decide) k7 rfl (tyX5_ok 3 (by decide)) rfl rfl (Nat.le_of_ble_eq_true rfl) (by rw [e3, wU_self]; rfl) (fun a ha => by rw [e3]; exact wU_ne a ha) (fun _ _ => rfl) dX5_init_8 (fun H locs hH hS => ?_)
  refine wald_n hx hb dX5_init_11 rfl (lv_at hl 0 rfl) ?_
  refine lv_bipush (v := 8) hx hb dX5_init_12 (by decide) ?_
  obtain ⟨g4, hf⟩ := wGd_e hf
  obtain ⟨sh5, e9, hf⟩ := wLt_e hf
  obtain ⟨ln6, e10, hf⟩ := wLt_e hf
  obtain ⟨iv7, e11, hf⟩ := wLt_e hf
  obtain ⟨rv8, e12, hf⟩ := wLt_e hf
  refine wna hx hb (hts (.arrayClass .int) (List.mem_of_getElem? (i := 5) rfl)) hKn.1 hH hO hS hA 15 7 0 g4 (by decide) rfl (fun _ _ => rfl) rfl rfl (fun h => h) (M := 8) (by decide) (Nat.le_of_ble_eq_true rfl) (by decide) (by decide) (by show _ ≤ 21; omega) (by show _ ≤ 1148; omega) dX5_init_14 (fun lo13 H hloc hH hO hS => ?_)
  have hkp := wKp hkp g4.2.1 (by decide) hloc
  rw [← e9] at hkp hO
  rw [← e9, ← e10, ← e11, ← e12] at hH
  rw [wR_same (hloc 1 (wNe g1 (by decide) g4.2.1))] at hl
  refine W.eq (g2 := F0 m 16 ls [wR lo13 15, wR lo13 1]) (by rw [wR_same (hloc 1 (wNe g1 (by decide) g4.2.1))]) ?_
  obtain ⟨g14, hf⟩ := wGd_e hf
  obtain ⟨rv15, e16, hf⟩ := wLt_e hf
  refine wpF (C := RX5) (T := TX5) (N := 31) (v := wR lo13 15) (ty := tyX5 5) (iv' := iv7) (rv' := rv15) hx hb hts iX5 tyX5 tyX5_ok nmX5 hown hKn.1 hH hO hS (q := 1) g14 (by decide) rfl rfl 5 (by decide) k13 rfl hin rfl (tyX5_ok 5 (by decide)) (wR_nar _ _ _) (wR_fitA _ _ _) (Nat.le_of_ble_eq_true rfl) (by rw [e16, wV_self]; rfl) (fun _ _ => rfl) (fun a ha => by rw [e16]; exact wV_ne a ha) dX5_init_16 (fun H locs hH hS => ?_)
  refine wald_n hx hb dX5_init_19 rfl (lv_at hl 0 rfl) ?_
  refine lv_bipush (v := 8) hx hb dX5_init_20 (by decide) ?_
  obtain ⟨g17, hf⟩ := wGd_e hf
  obtain ⟨sh18, e22, hf⟩ := wLt_e hf
  obtain ⟨ln19, e23, hf⟩ := wLt_e hf
  obtain ⟨iv20, e24, hf⟩ := wLt_e hf
  obtain ⟨rv21, e25, hf⟩ := wLt_e hf
  refine wna hx hb (hts (.arrayClass .int) (List.mem_of_getElem? (i := 5) rfl)) hKn.1 hH hO hS hA 16 7 0 g17 (by decide) rfl (fun _ _ => rfl) rfl rfl (fun h => h) (M := 8) (by decide) (Nat.le_of_ble_eq_true rfl) (by decide) (by decide) (by show _ ≤ 21; omega) (by show _ ≤ 1148; omega) dX5_init_22 (fun lo26 H hloc hH hO hS => ?_)
  have hkp := wKp hkp g17.2.1 (by decide) hloc
  rw [← e22] at hkp hO
  rw [← e22, ← e23, ← e24, ← e25] at hH
  rw [wR_same (hloc 1 (wNe g14 (by decide) g17.2.1))] at hl
  refine W.eq (g2 := F0 m 24 ls [wR lo26 16, wR lo26 1]) (by rw [wR_same (hloc 1 (wNe g14 (by decide) g17.2.1))]) ?_
  obtain ⟨g27, hf⟩ := wGd_e hf
  obtain ⟨rv28, e29, hf⟩ := wLt_e hf
  refine wpF (C := RX5) (T := TX5) (N := 31) (v := wR lo26 16) (ty := tyX5 6) (iv' := iv20) (rv' := rv28) hx hb hts iX5 tyX5 tyX5_ok nmX5 hown hKn.1 hH hO hS (q := 1) g27 (by decide) rfl rfl 6 (by decide) k17 rfl hin rfl (tyX5_ok 6 (by decide)) (wR_nar _ _ _) (wR_fitA _ _ _) (Nat.le_of_ble_eq_true rfl) (by rw [e29, wV_self]; rfl) (fun _ _ => rfl) (fun a ha => by rw [e29]; exact wV_ne a ha) dX5_init_24 (fun H locs hH hS => ?_)
  refine wald_n hx hb dX5_init_27 rfl (lv_at hl 0 rfl) ?_
  refine lv_iconst (v := 3) hx hb dX5_init_28 (by decide) ?_
  obtain ⟨g30, hf⟩ := wGd_e hf
  obtain ⟨sh31, e35, hf⟩ := wLt_e hf
  obtain ⟨ln32, e36, hf⟩ := wLt_e hf
  obtain ⟨iv33, e37, hf⟩ := wLt_e hf
  obtain ⟨rv34, e38, hf⟩ := wLt_e hf
  refine wna hx hb (hts (.arrayClass .int) (List.mem_of_getElem? (i := 5) rfl)) hKn.1 hH hO hS hA 17 7 0 g30 (by decide) rfl (fun _ _ => rfl) rfl rfl (fun h => h) (M := 3) (by decide) (Nat.le_of_ble_eq_true rfl) (by decide) (by decide) (by show _ ≤ 21; omega) (by show _ ≤ 1148; omega) dX5_init_29 (fun lo39 H hloc hH hO hS => ?_)
  have hkp := wKp hkp g30.2.1 (by decide) hloc
  rw [← e35] at hkp hO
  rw [← e35, ← e36, ← e37, ← e38] at hH
  rw [wR_same (hloc 1 (wNe g27 (by decide) g30.2.1))] at hl
  refine W.eq (g2 := F0 m 31 ls [wR lo39 17, wR lo39 1]) (by rw [wR_same (hloc 1 (wNe g27 (by decide) g30.2.1))]) ?_
  obtain ⟨g40, hf⟩ := wGd_e hf
  obtain ⟨rv41, e42, hf⟩ := wLt_e hf
  refine wpF (C := RX5) (T := TX5) (N := 31) (v := wR lo39 17) (ty := tyX5 7) (iv' := iv33) (rv' := rv41) hx hb hts iX5 tyX5 tyX5_ok nmX5 hown hKn.1 hH hO hS (q := 1) g40 (by decide) rfl rfl 7 (by decide) k20 rfl hin rfl (tyX5_ok 7 (by decide)) (wR_nar _ _ _) (wR_fitA _ _ _) (Nat.le_of_ble_eq_true rfl) (by rw [e42, wV_self]; rfl) (fun _ _ => rfl) (fun a ha => by rw [e42]; exact wV_ne a ha) dX5_init_31 (fun H locs hH hS => ?_)
  refine wald_n hx hb dX5_init_34 rfl (lv_at hl 0 rfl) ?_
  refine lv_bipush (v := 100) hx hb dX5_init_35 (by decide) ?_
  obtain ⟨g43, hf⟩ := wGd_e hf
  obtain ⟨sh44, e48, hf⟩ := wLt_e hf
  obtain ⟨ln45, e49, hf⟩ := wLt_e hf
  obtain ⟨iv46, e50, hf⟩ := wLt_e hf
  obtain ⟨rv47, e51, hf⟩ := wLt_e hf
  refine wna hx hb (hts (.arrayClass .int) (List.mem_of_getElem? (i := 5) rfl)) hKn.1 hH hO hS hA 19 7 0 g43 (by decide) rfl (fun _ _ => rfl) rfl rfl (fun h => h) (M := 100) (by decide) (Nat.le_of_ble_eq_true rfl) (by decide) (by decide) (by show _ ≤ 21; omega) (by show _ ≤ 1148; omega) dX5_init_37 (fun lo52 H hloc hH hO hS => ?_)
  have hkp := wKp hkp g43.2.1 (by decide) hloc
  rw [← e48] at hkp hO
  rw [← e48, ← e49, ← e50, ← e51] at hH
  rw [wR_same (hloc 1 (wNe g40 (by decide) g43.2.1))] at hl
  refine W.eq (g2 := F0 m 39 ls [wR lo52 19, wR lo52 1]) (by rw [wR_same (hloc 1 (wNe g40 (by decide) g43.2.1))]) ?_
  obtain ⟨g53, hf⟩ := wGd_e hf
  obtain ⟨rv54, e55, hf⟩ := wLt_e hf
  refine wpF (C := RX5) (T := TX5) (N := 31) (v := wR lo52 19) (ty := tyX5 9) (iv' := iv46) (rv' := rv54) hx hb hts iX5 tyX5 tyX5_ok nmX5 hown hKn.1 hH hO hS (q := 1) g53 (by decide) rfl rfl 9 (by decide) k23 rfl hin rfl (tyX5_ok 9 (by decide)) (wR_nar _ _ _) (wR_fitA _ _ _) (Nat.le_of_ble_eq_true rfl) (by rw [e55, wV_self]; rfl) (fun _ _ => rfl) (fun a ha => by rw [e55]; exact wV_ne a ha) dX5_init_39 (fun H locs hH hS => ?_)
  refine wald_n hx hb dX5_init_42 rfl (lv_at hl 0 rfl) ?_
  refine lv_bipush (v := 100) hx hb dX5_init_43 (by decide) ?_
  obtain ⟨g56, hf⟩ := wGd_e hf
  obtain ⟨sh57, e61, hf⟩ := wLt_e hf
  obtain ⟨ln58, e62, hf⟩ := wLt_e hf
  obtain ⟨iv59, e63, hf⟩ := wLt_e hf
  obtain ⟨rv60, e64, hf⟩ := wLt_e hf
  refine wna hx hb (hts (.arrayClass .int) (List.mem_of_getElem? (i := 5) rfl)) hKn.1 hH hO hS hA 20 7 0 g56 (by decide) rfl (fun _ _ => rfl) rfl rfl (fun h => h) (M := 100) (by decide) (Nat.le_of_ble_eq_true rfl) (by decide) (by decide) (by show _ ≤ 21; omega) (by show _ ≤ 1148; omega) dX5_init_45 (fun lo65 H hloc hH hO hS => ?_)
  have hkp := wKp hkp g56.2.1 (by decide) hloc
  rw [← e61] at hkp hO
  rw [← e61, ← e62, ← e63, ← e64] at hH
  rw [wR_same (hloc 1 (wNe g53 (by decide) g56.2.1))] at hl
  refine W.eq (g2 := F0 m 47 ls [wR lo65 20, wR lo65 1]) (by rw [wR_same (hloc 1 (wNe g53 (by decide) g56.2.1))]) ?_
  obtain ⟨g66, hf⟩ := wGd_e hf
  obtain ⟨rv67, e68, hf⟩ := wLt_e hf
  refine wpF (C := RX5) (T := TX5) (N := 31) (v := wR lo65 20) (ty := tyX5 10) (iv' := iv59) (rv' := rv67) hx hb hts iX5 tyX5 tyX5_ok nmX5 hown hKn.1 hH hO hS (q := 1) g66 (by decide) rfl rfl 10 (by decide) k26 rfl hin rfl (tyX5_ok 10 (by decide)) (wR_nar _ _ _) (wR_fitA _ _ _) (Nat.le_of_ble_eq_true rfl) (by rw [e68, wV_self]; rfl) (fun _ _ => rfl) (fun a ha => by rw [e68]; exact wV_ne a ha) dX5_init_47 (fun H locs hH hS => ?_)
  refine wald_n hx hb dX5_init_50 rfl (lv_at hl 0 rfl) ?_
  refine lv_bipush (v := 100) hx hb dX5_init_51 (by decide) ?_
  obtain ⟨g69, hf⟩ := wGd_e hf
  obtain ⟨sh70, e74, hf⟩ := wLt_e hf
  obtain ⟨ln71, e75, hf⟩ := wLt_e hf
  obtain ⟨iv72, e76, hf⟩ := wLt_e hf
  obtain ⟨rv73, e77, hf⟩ := wLt_e hf
  refine wna hx hb (hts (.arrayClass .int) (List.mem_of_getElem? (i := 5) rfl)) hKn.1 hH hO hS hA 21 7 0 g69 (by decide) rfl (fun _ _ => rfl) rfl rfl (fun h => h) (M := 100) (by decide) (Nat.le_of_ble_eq_true rfl) (by decide) (by decide) (by show _ ≤ 21; omega) (by show _ ≤ 1148; omega) dX5_init_53 (fun lo78 H hloc hH hO hS => ?_)
  have hkp := wKp hkp g69.2.1 (by decide) hloc
  rw [← e74] at hkp hO
  rw [← e74, ← e75, ← e76, ← e77] at hH
  rw [wR_same (hloc 1 (wNe g66 (by decide) g69.2.1))] at hl
  refine W.eq (g2 := F0 m 55 ls [wR lo78 21, wR lo78 1]) (by rw [wR_same (hloc 1 (wNe g66 (by decide) g69.2.1))]) ?_
  obtain ⟨g79, hf⟩ := wGd_e hf
  obtain ⟨rv80, e81, hf⟩ := wLt_e hf
  refine wpF (C := RX5) (T := TX5) (N := 31) (v := wR lo78 21) (ty := tyX5 11) (iv' := iv72) (rv' := rv80) hx hb hts iX5 tyX5 tyX5_ok nmX5 hown hKn.1 hH hO hS (q := 1) g79 (by decide) rfl rfl 11 (by decide) k29 rfl hin rfl (tyX5_ok 11 (by decide)) (wR_nar _ _ _) (wR_fitA _ _ _) (Nat.le_of_ble_eq_true rfl) (by rw [e81, wV_self]; rfl) (fun _ _ => rfl) (fun a ha => by rw [e81]; exact wV_ne a ha) dX5_init_55 (fun H locs hH hS => ?_)
  refine wald_n hx hb dX5_init_58 rfl (lv_at hl 0 rfl) ?_
  refine lv_bipush (v := 100) hx hb dX5_init_59 (by decide) ?_
  obtain ⟨g82, hf⟩ := wGd_e hf
  obtain ⟨sh83, e87, hf⟩ := wLt_e hf
  obtain ⟨ln84, e88, hf⟩ := wLt_e hf
  obtain ⟨iv85, e89, hf⟩ := wLt_e hf
  obtain ⟨rv86, e90, hf⟩ := wLt_e hf
  refine wna hx hb (hts (.arrayClass .int) (List.mem_of_getElem? (i := 5) rfl)) hKn.1 hH hO hS hA 22 7 0 g82 (by decide) rfl (fun _ _ => rfl) rfl rfl (fun h => h) (M := 100) (by decide) (Nat.le_of_ble_eq_true rfl) (by decide) (by decide) (by show _ ≤ 21; omega) (by show _ ≤ 1148; omega) dX5_init_61 (fun lo91 H hloc hH hO hS => ?_)
  have hkp := wKp hkp g82.2.1 (by decide) hloc
  rw [← e87] at hkp hO
  rw [← e87, ← e88, ← e89, ← e90] at hH
  rw [wR_same (hloc 1 (wNe g79 (by decide) g82.2.1))] at hl
  refine W.eq (g2 := F0 m 63 ls [wR lo91 22, wR lo91 1]) (by rw [wR_same (hloc 1 (wNe g79 (by decide) g82.2.1))]) ?_
  obtain ⟨g92, hf⟩ := wGd_e hf
  obtain ⟨rv93, e94, hf⟩ := wLt_e hf
  refine wpF (C := RX5) (T := TX5) (N := 31) (v := wR lo91 22) (ty := tyX5 12) (iv' := iv85) (rv' := rv93) hx hb hts iX5 tyX5 tyX5_ok nmX5 hown hKn.1 hH hO hS (q := 1) g92 (by decide) rfl rfl 12 (by decide) k32 rfl hin rfl (tyX5_ok 12 (by decide)) (wR_nar _ _ _) (wR_fitA _ _ _) (Nat.le_of_ble_eq_true rfl) (by rw [e94, wV_self]; rfl) (fun _ _ => rfl) (fun a ha => by rw [e94]; exact wV_ne a ha) dX5_init_63 (fun H locs hH hS => ?_)
  refine wald_n hx hb dX5_init_66 rfl (lv_at hl 0 rfl) ?_
  refine lv_bipush (v := 100) hx hb dX5_init_67 (by decide) ?_
  obtain ⟨g95, hf⟩ := wGd_e hf
  obtain ⟨sh96, e100, hf⟩ := wLt_e hf
  obtain ⟨ln97, e101, hf⟩ := wLt_e hf
  obtain ⟨iv98, e102, hf⟩ := wLt_e hf
  obtain ⟨rv99, e103, hf⟩ := wLt_e hf
  refine wna hx hb (hts (.arrayClass .int) (List.mem_of_getElem? (i := 5) rfl)) hKn.1 hH hO hS hA 23 7 0 g95 (by decide) rfl (fun _ _ => rfl) rfl rfl (fun h => h) (M := 100) (by decide) (Nat.le_of_ble_eq_true rfl) (by decide) (by decide) (by show _ ≤ 21; omega) (by show _ ≤ 1148; omega) dX5_init_69 (fun lo104 H hloc hH hO hS => ?_)
  have hkp := wKp hkp g95.2.1 (by decide) hloc
  rw [← e100] at hkp hO
  rw [← e100, ← e101, ← e102, ← e103] at hH
  rw [wR_same (hloc 1 (wNe g92 (by decide) g95.2.1))] at hl
  refine W.eq (g2 := F0 m 71 ls [wR lo104 23, wR lo104 1]) (by rw [wR_same (hloc 1 (wNe g92 (by decide) g95.2.1))]) ?_
  obtain ⟨g105, hf⟩ := wGd_e hf
  obtain ⟨rv106, e107, hf⟩ := wLt_e hf
  refine wpF (C := RX5) (T := TX5) (N := 31) (v := wR lo104 23) (ty := tyX5 13) (iv' := iv98) (rv' := rv106) hx hb hts iX5 tyX5 tyX5_ok nmX5 hown hKn.1 hH hO hS (q := 1) g105 (by decide) rfl rfl 13 (by decide) k35 rfl hin rfl (tyX5_ok 13 (by decide)) (wR_nar _ _ _) (wR_fitA _ _ _) (Nat.le_of_ble_eq_true rfl) (by rw [e107, wV_self]; rfl) (fun _ _ => rfl) (fun a ha => by rw [e107]; exact wV_ne a ha) dX5_init_71 (fun H locs hH hS => ?_)
  refine wald_n hx hb dX5_init_74 rfl (lv_at hl 0 rfl) ?_
  refine lv_bipush (v := 100) hx hb dX5_init_75 (by decide) ?_
  obtain ⟨g108, hf⟩ := wGd_e hf
  obtain ⟨sh109, e113, hf⟩ := wLt_e hf
  obtain ⟨ln110, e114, hf⟩ := wLt_e hf
  obtain ⟨iv111, e115, hf⟩ := wLt_e hf
  obtain ⟨rv112, e116, hf⟩ := wLt_e hf
  refine wna hx hb (hts (.arrayClass .int) (List.mem_of_getElem? (i := 5) rfl)) hKn.1 hH hO hS hA 24 7 0 g108 (by decide) rfl (fun _ _ => rfl) rfl rfl (fun h => h) (M := 100) (by decide) (Nat.le_of_ble_eq_true rfl) (by decide) (by decide) (by show _ ≤ 21; omega) (by show _ ≤ 1148; omega) dX5_init_77 (fun lo117 H hloc hH hO hS => ?_)
  have hkp := wKp hkp g108.2.1 (by decide) hloc
  rw [← e113] at hkp hO
  rw [← e113, ← e114, ← e115, ← e116] at hH
  rw [wR_same (hloc 1 (wNe g105 (by decide) g108.2.1))] at hl
  refine W.eq (g2 := F0 m 79 ls [wR lo117 24, wR lo117 1]) (by rw [wR_same (hloc 1 (wNe g105 (by decide) g108.2.1))]) ?_
  obtain ⟨g118, hf⟩ := wGd_e hf
  obtain ⟨rv119, e120, hf⟩ := wLt_e hf
  refine wpF (C := RX5) (T := TX5) (N := 31) (v := wR lo117 24) (ty := tyX5 14) (iv' := iv111) (rv' := rv119) hx hb hts iX5 tyX5 tyX5_ok nmX5 hown hKn.1 hH hO hS (q := 1) g118 (by decide) rfl rfl 14 (by decide) k38 rfl hin rfl (tyX5_ok 14 (by decide)) (wR_nar _ _ _) (wR_fitA _ _ _) (Nat.le_of_ble_eq_true rfl) (by rw [e120, wV_self]; rfl) (fun _ _ => rfl) (fun a ha => by rw [e120]; exact wV_ne a ha) dX5_init_79 (fun H locs hH hS => ?_)
  refine wald_n hx hb dX5_init_82 rfl (lv_at hl 0 rfl) ?_
  refine lv_bipush (v := 100) hx hb dX5_init_83 (by decide) ?_
  obtain ⟨g121, hf⟩ := wGd_e hf
  obtain ⟨sh122, e126, hf⟩ := wLt_e hf
  obtain ⟨ln123, e127, hf⟩ := wLt_e hf
  obtain ⟨iv124, e128, hf⟩ := wLt_e hf
  obtain ⟨rv125, e129, hf⟩ := wLt_e hf
  refine wna hx hb (hts (.arrayClass .int) (List.mem_of_getElem? (i := 5) rfl)) hKn.1 hH hO hS hA 25 7 0 g121 (by decide) rfl (fun _ _ => rfl) rfl rfl (fun h => h) (M := 100) (by decide) (Nat.le_of_ble_eq_true rfl) (by decide) (by decide) (by show _ ≤ 21; omega) (by show _ ≤ 1148; omega) dX5_init_85 (fun lo130 H hloc hH hO hS => ?_)
  have hkp := wKp hkp g121.2.1 (by decide) hloc
  rw [← e126] at hkp hO
  rw [← e126, ← e127, ← e128, ← e129] at hH
  rw [wR_same (hloc 1 (wNe g118 (by decide) g121.2.1))] at hl
  refine W.eq (g2 := F0 m 87 ls [wR lo130 25, wR lo130 1]) (by rw [wR_same (hloc 1 (wNe g118 (by decide) g121.2.1))]) ?_
  obtain ⟨g131, hf⟩ := wGd_e hf
  obtain ⟨rv132, e133, hf⟩ := wLt_e hf
  refine wpF (C := RX5) (T := TX5) (N := 31) (v := wR lo130 25) (ty := tyX5 15) (iv' := iv124) (rv' := rv132) hx hb hts iX5 tyX5 tyX5_ok nmX5 hown hKn.1 hH hO hS (q := 1) g131 (by decide) rfl rfl 15 (by decide) k41 rfl hin rfl (tyX5_ok 15 (by decide)) (wR_nar _ _ _) (wR_fitA _ _ _) (Nat.le_of_ble_eq_true rfl) (by rw [e133, wV_self]; rfl) (fun _ _ => rfl) (fun a ha => by rw [e133]; exact wV_ne a ha) dX5_init_87 (fun H locs hH hS => ?_)
  refine wald_n hx hb dX5_init_90 rfl (lv_at hl 0 rfl) ?_
  refine lv_bipush (v := 100) hx hb dX5_init_91 (by decide) ?_
  obtain ⟨g134, hf⟩ := wGd_e hf
  obtain ⟨sh135, e139, hf⟩ := wLt_e hf
  obtain ⟨ln136, e140, hf⟩ := wLt_e hf
  obtain ⟨iv137, e141, hf⟩ := wLt_e hf
  obtain ⟨rv138, e142, hf⟩ := wLt_e hf
  refine wna hx hb (hts (.arrayClass .int) (List.mem_of_getElem? (i := 5) rfl)) hKn.1 hH hO hS hA 26 7 0 g134 (by decide) rfl (fun _ _ => rfl) rfl rfl (fun h => h) (M := 100) (by decide) (Nat.le_of_ble_eq_true rfl) (by decide) (by decide) (by show _ ≤ 21; omega) (by show _ ≤ 1148; omega) dX5_init_93 (fun lo143 H hloc hH hO hS => ?_)
  have hkp := wKp hkp g134.2.1 (by decide) hloc
  rw [← e139] at hkp hO
  rw [← e139, ← e140, ← e141, ← e142] at hH
  rw [wR_same (hloc 1 (wNe g131 (by decide) g134.2.1))] at hl
  refine W.eq (g2 := F0 m 95 ls [wR lo143 26, wR lo143 1]) (by rw [wR_same (hloc 1 (wNe g131 (by decide) g134.2.1))]) ?_
  obtain ⟨g144, hf⟩ := wGd_e hf
  obtain ⟨rv145, e146, hf⟩ := wLt_e hf
  refine wpF (C := RX5) (T := TX5) (N := 31) (v := wR lo143 26) (ty := tyX5 16) (iv' := iv137) (rv' := rv145) hx hb hts iX5 tyX5 tyX5_ok nmX5 hown hKn.1 hH hO hS (q := 1) g144 (by decide) rfl rfl 16 (by decide) k44 rfl hin rfl (tyX5_ok 16 (by decide)) (wR_nar _ _ _) (wR_fitA _ _ _) (Nat.le_of_ble_eq_true rfl) (by rw [e146, wV_self]; rfl) (fun _ _ => rfl) (fun a ha => by rw [e146]; exact wV_ne a ha) dX5_init_95 (fun H locs hH hS => ?_)
  refine wald_n hx hb dX5_init_98 rfl (lv_at hl 0 rfl) ?_
  refine lv_bipush (v := 100) hx hb dX5_init_99 (by decide) ?_
  obtain ⟨g147, hf⟩ := wGd_e hf
  obtain ⟨sh148, e152, hf⟩ := wLt_e hf
  obtain ⟨ln149, e153, hf⟩ := wLt_e hf
  obtain ⟨iv150, e154, hf⟩ := wLt_e hf
  obtain ⟨rv151, e155, hf⟩ := wLt_e hf
  refine wna hx hb (hts (.arrayClass .int) (List.mem_of_getElem? (i := 5) rfl)) hKn.1 hH hO hS hA 27 7 0 g147 (by decide) rfl (fun _ _ => rfl) rfl rfl (fun h => h) (M := 100) (by decide) (Nat.le_of_ble_eq_true rfl) (by decide) (by decide) (by show _ ≤ 21; omega) (by show _ ≤ 1148; omega) dX5_init_101 (fun lo156 H hloc hH hO hS => ?_)
  have hkp := wKp hkp g147.2.1 (by decide) hloc
  rw [← e152] at hkp hO
  rw [← e152, ← e153, ← e154, ← e155] at hH
  rw [wR_same (hloc 1 (wNe g144 (by decide) g147.2.1))] at hl
  refine W.eq (g2 := F0 m 103 ls [wR lo156 27, wR lo156 1]) (by rw [wR_same (hloc 1 (wNe g144 (by decide) g147.2.1))]) ?_
  obtain ⟨g157, hf⟩ := wGd_e hf
  obtain ⟨rv158, e159, hf⟩ := wLt_e hf
  refine wpF (C := RX5) (T := TX5) (N := 31) (v := wR lo156 27) (ty := tyX5 17) (iv' := iv150) (rv' := rv158) hx hb hts iX5 tyX5 tyX5_ok nmX5 hown hKn.1 hH hO hS (q := 1) g157 (by decide) rfl rfl 17 (by decide) k47 rfl hin rfl (tyX5_ok 17 (by decide)) (wR_nar _ _ _) (wR_fitA _ _ _) (Nat.le_of_ble_eq_true rfl) (by rw [e159, wV_self]; rfl) (fun _ _ => rfl) (fun a ha => by rw [e159]; exact wV_ne a ha) dX5_init_103 (fun H locs hH hS => ?_)
  refine wald_n hx hb dX5_init_106 rfl (lv_at hl 0 rfl) ?_
  refine lv_bipush (v := 100) hx hb dX5_init_107 (by decide) ?_
  obtain ⟨g160, hf⟩ := wGd_e hf
  obtain ⟨sh161, e165, hf⟩ := wLt_e hf
  obtain ⟨ln162, e166, hf⟩ := wLt_e hf
  obtain ⟨iv163, e167, hf⟩ := wLt_e hf
  obtain ⟨rv164, e168, hf⟩ := wLt_e hf
  refine wna hx hb (hts (.arrayClass .int) (List.mem_of_getElem? (i := 5) rfl)) hKn.1 hH hO hS hA 28 7 0 g160 (by decide) rfl (fun _ _ => rfl) rfl rfl (fun h => h) (M := 100) (by decide) (Nat.le_of_ble_eq_true rfl) (by decide) (by decide) (by show _ ≤ 21; omega) (by show _ ≤ 1148; omega) dX5_init_109 (fun lo169 H hloc hH hO hS => ?_)
  have hkp := wKp hkp g160.2.1 (by decide) hloc
  rw [← e165] at hkp hO
  rw [← e165, ← e166, ← e167, ← e168] at hH
  rw [wR_same (hloc 1 (wNe g157 (by decide) g160.2.1))] at hl
  refine W.eq (g2 := F0 m 111 ls [wR lo169 28, wR lo169 1]) (by rw [wR_same (hloc 1 (wNe g157 (by decide) g160.2.1))]) ?_
  obtain ⟨g170, hf⟩ := wGd_e hf
  obtain ⟨rv171, e172, hf⟩ := wLt_e hf
  refine wpF (C := RX5) (T := TX5) (N := 31) (v := wR lo169 28) (ty := tyX5 18) (iv' := iv163) (rv' := rv171) hx hb hts iX5 tyX5 tyX5_ok nmX5 hown hKn.1 hH hO hS (q := 1) g170 (by decide) rfl rfl 18 (by decide) k50 rfl hin rfl (tyX5_ok 18 (by decide)) (wR_nar _ _ _) (wR_fitA _ _ _) (Nat.le_of_ble_eq_true rfl) (by rw [e172, wV_self]; rfl) (fun _ _ => rfl) (fun a ha => by rw [e172]; exact wV_ne a ha) dX5_init_111 (fun H locs hH hS => ?_)
  refine wald_n hx hb dX5_init_114 rfl (lv_at hl 0 rfl) ?_
  refine lv_bipush (v := 100) hx hb dX5_init_115 (by decide) ?_
  obtain ⟨g173, hf⟩ := wGd_e hf
  obtain ⟨sh174, e178, hf⟩ := wLt_e hf
  obtain ⟨ln175, e179, hf⟩ := wLt_e hf
  obtain ⟨iv176, e180, hf⟩ := wLt_e hf
  obtain ⟨rv177, e181, hf⟩ := wLt_e hf
  refine wna hx hb (hts (.arrayClass .int) (List.mem_of_getElem? (i := 5) rfl)) hKn.1 hH hO hS hA 29 7 0 g173 (by decide) rfl (fun _ _ => rfl) rfl rfl (fun h => h) (M := 100) (by decide) (Nat.le_of_ble_eq_true rfl) (by decide) (by decide) (by show _ ≤ 21; omega) (by show _ ≤ 1148; omega) dX5_init_117 (fun lo182 H hloc hH hO hS => ?_)
  have hkp := wKp hkp g173.2.1 (by decide) hloc
  rw [← e178] at hkp hO
  rw [← e178, ← e179, ← e180, ← e181] at hH
  rw [wR_same (hloc 1 (wNe g170 (by decide) g173.2.1))] at hl
  refine W.eq (g2 := F0 m 119 ls [wR lo182 29, wR lo182 1]) (by rw [wR_same (hloc 1 (wNe g170 (by decide) g173.2.1))]) ?_
  obtain ⟨g183, hf⟩ := wGd_e hf
  obtain ⟨rv184, e185, hf⟩ := wLt_e hf
  refine wpF (C := RX5) (T := TX5) (N := 31) (v := wR lo182 29) (ty := tyX5 19) (iv' := iv176) (rv' := rv184) hx hb hts iX5 tyX5 tyX5_ok nmX5 hown hKn.1 hH hO hS (q := 1) g183 (by decide) rfl rfl 19 (by decide) k53 rfl hin rfl (tyX5_ok 19 (by decide)) (wR_nar _ _ _) (wR_fitA _ _ _) (Nat.le_of_ble_eq_true rfl) (by rw [e185, wV_self]; rfl) (fun _ _ => rfl) (fun a ha => by rw [e185]; exact wV_ne a ha) dX5_init_119 (fun H locs hH hS => ?_)
  refine wald_n hx hb dX5_init_122 rfl (lv_at hl 0 rfl) ?_
  refine lv_iconst (v := 3) hx hb dX5_init_123 (by decide) ?_
  obtain ⟨g186, hf⟩ := wGd_e hf
  obtain ⟨sh187, e191, hf⟩ := wLt_e hf
  obtain ⟨ln188, e192, hf⟩ := wLt_e hf
  obtain ⟨iv189, e193, hf⟩ := wLt_e hf
  obtain ⟨rv190, e194, hf⟩ := wLt_e hf
  refine wna hx hb (hts (.arrayClass .int) (List.mem_of_getElem? (i := 5) rfl)) hKn.1 hH hO hS hA 30 7 0 g186 (by decide) rfl (fun _ _ => rfl) rfl rfl (fun h => h) (M := 3) (by decide) (Nat.le_of_ble_eq_true rfl) (by decide) (by decide) (by show _ ≤ 21; omega) (by show _ ≤ 1148; omega) dX5_init_124 (fun lo195 H hloc hH hO hS => ?_)
  have hkp := wKp hkp g186.2.1 (by decide) hloc
  rw [← e191] at hkp hO
  rw [← e191, ← e192, ← e193, ← e194] at hH
  rw [wR_same (hloc 1 (wNe g183 (by decide) g186.2.1))] at hl
  refine W.eq (g2 := F0 m 126 ls [wR lo195 30, wR lo195 1]) (by rw [wR_same (hloc 1 (wNe g183 (by decide) g186.2.1))]) ?_
  obtain ⟨g196, hf⟩ := wGd_e hf
  obtain ⟨rv197, e198, hf⟩ := wLt_e hf
  refine wpF (C := RX5) (T := TX5) (N := 31) (v := wR lo195 30) (ty := tyX5 20) (iv' := iv189) (rv' := rv197) hx hb hts iX5 tyX5 tyX5_ok nmX5 hown hKn.1 hH hO hS (q := 1) g196 (by decide) rfl rfl 20 (by decide) k56 rfl hin rfl (tyX5_ok 20 (by decide)) (wR_nar _ _ _) (wR_fitA _ _ _) (Nat.le_of_ble_eq_true rfl) (by rw [e198, wV_self]; rfl) (fun _ _ => rfl) (fun a ha => by rw [e198]; exact wV_ne a ha) dX5_init_126 (fun H locs hH hS => ?_)
  refine wald_n hx hb dX5_init_129 rfl (lv_at hl 0 rfl) ?_
  refine lv_iconst (v := 3) hx hb dX5_init_130 (by decide) ?_
  obtain ⟨g199, hf⟩ := wGd_e hf
  obtain ⟨sh200, e204, hf⟩ := wLt_e hf
  obtain ⟨ln201, e205, hf⟩ := wLt_e hf
  obtain ⟨iv202, e206, hf⟩ := wLt_e hf
  obtain ⟨rv203, e207, hf⟩ := wLt_e hf
  refine wna hx hb (hts (.arrayClass .int) (List.mem_of_getElem? (i := 5) rfl)) hKn.1 hH hO hS hA 31 7 0 g199 (by decide) rfl (fun _ _ => rfl) rfl rfl (fun h => h) (M := 3) (by decide) (Nat.le_of_ble_eq_true rfl) (by decide) (by decide) (by show _ ≤ 21; omega) (by show _ ≤ 1148; omega) dX5_init_131 (fun lo208 H hloc hH hO hS => ?_)
  have hkp := wKp hkp g199.2.1 (by decide) hloc
  rw [← e204] at hkp hO
  rw [← e204, ← e205, ← e206, ← e207] at hH
  rw [wR_same (hloc 1 (wNe g196 (by decide) g199.2.1))] at hl
  refine W.eq (g2 := F0 m 133 ls [wR lo208 31, wR lo208 1]) (by rw [wR_same (hloc 1 (wNe g196 (by decide) g199.2.1))]) ?_
  obtain ⟨g209, hf⟩ := wGd_e hf
  obtain ⟨rv210, e211, hf⟩ := wLt_e hf
  refine wpF (C := RX5) (T := TX5) (N := 31) (v := wR lo208 31) (ty := tyX5 21) (iv' := iv202) (rv' := rv210) hx hb hts iX5 tyX5 tyX5_ok nmX5 hown hKn.1 hH hO hS (q := 1) g209 (by decide) rfl rfl 21 (by decide) k59 rfl hin rfl (tyX5_ok 21 (by decide)) (wR_nar _ _ _) (wR_fitA _ _ _) (Nat.le_of_ble_eq_true rfl) (by rw [e211, wV_self]; rfl) (fun _ _ => rfl) (fun a ha => by rw [e211]; exact wV_ne a ha) dX5_init_133 (fun H locs hH hS => ?_)
  refine wald_n hx hb dX5_init_136 rfl (lv_at hl 0 rfl) ?_
  refine lv_iconst (v := 3) hx hb dX5_init_137 (by decide) ?_
  obtain ⟨g212, hf⟩ := wGd_e hf
  obtain ⟨sh213, e217, hf⟩ := wLt_e hf
  obtain ⟨ln214, e218, hf⟩ := wLt_e hf
  obtain ⟨iv215, e219, hf⟩ := wLt_e hf
  obtain ⟨rv216, e220, hf⟩ := wLt_e hf
  refine wna hx hb (hts (.arrayClass .int) (List.mem_of_getElem? (i := 5) rfl)) hKn.1 hH hO hS hA 32 7 0 g212 (by decide) rfl (fun _ _ => rfl) rfl rfl (fun h => h) (M := 3) (by decide) (Nat.le_of_ble_eq_true rfl) (by decide) (by decide) (by show _ ≤ 21; omega) (by show _ ≤ 1148; omega) dX5_init_138 (fun lo221 H hloc hH hO hS => ?_)
  have hkp := wKp hkp g212.2.1 (by decide) hloc
  rw [← e217] at hkp hO
  rw [← e217, ← e218, ← e219, ← e220] at hH
  rw [wR_same (hloc 1 (wNe g209 (by decide) g212.2.1))] at hl
  refine W.eq (g2 := F0 m 140 ls [wR lo221 32, wR lo221 1]) (by rw [wR_same (hloc 1 (wNe g209 (by decide) g212.2.1))]) ?_
  obtain ⟨g222, hf⟩ := wGd_e hf
  obtain ⟨rv223, e224, hf⟩ := wLt_e hf
  refine wpF (C := RX5) (T := TX5) (N := 31) (v := wR lo221 32) (ty := tyX5 22) (iv' := iv215) (rv' := rv223) hx hb hts iX5 tyX5 tyX5_ok nmX5 hown hKn.1 hH hO hS (q := 1) g222 (by decide) rfl rfl 22 (by decide) k62 rfl hin rfl (tyX5_ok 22 (by decide)) (wR_nar _ _ _) (wR_fitA _ _ _) (Nat.le_of_ble_eq_true rfl) (by rw [e224, wV_self]; rfl) (fun _ _ => rfl) (fun a ha => by rw [e224]; exact wV_ne a ha) dX5_init_140 (fun H locs hH hS => ?_)
  refine wald_n hx hb dX5_init_143 rfl (lv_at hl 0 rfl) ?_
  refine lv_bipush (v := 50) hx hb dX5_init_144 (by decide) ?_
  obtain ⟨iv225, e226, hf⟩ := wLt_e hf
  refine wp (C := RX5) (T := TX5) (N := 31) (v := .int 50) (ty := tyX5 25) (iv' := iv225) (rv' := rv223) hx hb hts iX5 tyX5 tyX5_ok nmX5 hown hKn.1 hH hO hS (q := 1) g222 (by decide) rfl rfl 25 (by decide) k65 rfl (tyX5_ok 25 (by decide)) rfl rfl (Nat.le_of_ble_eq_true rfl) (by rw [e226, wU_self]; rfl) (fun a ha => by rw [e226]; exact wU_ne a ha) (fun _ _ => rfl) dX5_init_146 (fun H locs hH hS => ?_)
  refine wald_n hx hb dX5_init_149 rfl (lv_at hl 0 rfl) ?_
  refine lv_iconst (v := 5) hx hb dX5_init_150 (by decide) ?_
  obtain ⟨g227, hf⟩ := wGd_e hf
  obtain ⟨sh228, e232, hf⟩ := wLt_e hf
  obtain ⟨ln229, e233, hf⟩ := wLt_e hf
  obtain ⟨iv230, e234, hf⟩ := wLt_e hf
  obtain ⟨rv231, e235, hf⟩ := wLt_e hf
  refine wna hx hb (hts (.arrayClass .int) (List.mem_of_getElem? (i := 5) rfl)) hKn.1 hH hO hS hA 36 7 0 g227 (by decide) rfl (fun _ _ => rfl) rfl rfl (fun h => h) (M := 5) (by decide) (Nat.le_of_ble_eq_true rfl) (by decide) (by decide) (by show _ ≤ 21; omega) (by show _ ≤ 1148; omega) dX5_init_151 (fun lo236 H hloc hH hO hS => ?_)
  have hkp := wKp hkp g227.2.1 (by decide) hloc
  rw [← e232] at hkp hO
  rw [← e232, ← e233, ← e234, ← e235] at hH
  rw [wR_same (hloc 1 (wNe g222 (by decide) g227.2.1))] at hl
  refine W.eq (g2 := F0 m 153 ls [wR lo236 36, wR lo236 1]) (by rw [wR_same (hloc 1 (wNe g222 (by decide) g227.2.1))]) ?_
  obtain ⟨g237, hf⟩ := wGd_e hf
  obtain ⟨rv238, e239, hf⟩ := wLt_e hf
  refine wpF (C := RX5) (T := TX5) (N := 31) (v := wR lo236 36) (ty := tyX5 26) (iv' := iv230) (rv' := rv238) hx hb hts iX5 tyX5 tyX5_ok nmX5 hown hKn.1 hH hO hS (q := 1) g237 (by decide) rfl rfl 26 (by decide) k68 rfl hin rfl (tyX5_ok 26 (by decide)) (wR_nar _ _ _) (wR_fitA _ _ _) (Nat.le_of_ble_eq_true rfl) (by rw [e239, wV_self]; rfl) (fun _ _ => rfl) (fun a ha => by rw [e239]; exact wV_ne a ha) dX5_init_153 (fun H locs hH hS => ?_)
  refine wald_n hx hb dX5_init_156 rfl (lv_at hl 0 rfl) ?_
  refine lv_iconst (v := 5) hx hb dX5_init_157 (by decide) ?_
  obtain ⟨g240, hf⟩ := wGd_e hf
  obtain ⟨sh241, e245, hf⟩ := wLt_e hf
  obtain ⟨ln242, e246, hf⟩ := wLt_e hf
  obtain ⟨iv243, e247, hf⟩ := wLt_e hf
  obtain ⟨rv244, e248, hf⟩ := wLt_e hf
  refine wna hx hb (hts (.arrayClass .int) (List.mem_of_getElem? (i := 5) rfl)) hKn.1 hH hO hS hA 37 7 0 g240 (by decide) rfl (fun _ _ => rfl) rfl rfl (fun h => h) (M := 5) (by decide) (Nat.le_of_ble_eq_true rfl) (by decide) (by decide) (by show _ ≤ 21; omega) (by show _ ≤ 1148; omega) dX5_init_158 (fun lo249 H hloc hH hO hS => ?_)
  have hkp := wKp hkp g240.2.1 (by decide) hloc
  rw [← e245] at hkp hO
  rw [← e245, ← e246, ← e247, ← e248] at hH
  rw [wR_same (hloc 1 (wNe g237 (by decide) g240.2.1))] at hl
  refine W.eq (g2 := F0 m 160 ls [wR lo249 37, wR lo249 1]) (by rw [wR_same (hloc 1 (wNe g237 (by decide) g240.2.1))]) ?_
  obtain ⟨g250, hf⟩ := wGd_e hf
  obtain ⟨rv251, e252, hf⟩ := wLt_e hf
  refine wpF (C := RX5) (T := TX5) (N := 31) (v := wR lo249 37) (ty := tyX5 27) (iv' := iv243) (rv' := rv251) hx hb hts iX5 tyX5 tyX5_ok nmX5 hown hKn.1 hH hO hS (q := 1) g250 (by decide) rfl rfl 27 (by decide) k71 rfl hin rfl (tyX5_ok 27 (by decide)) (wR_nar _ _ _) (wR_fitA _ _ _) (Nat.le_of_ble_eq_true rfl) (by rw [e252, wV_self]; rfl) (fun _ _ => rfl) (fun a ha => by rw [e252]; exact wV_ne a ha) dX5_init_160 (fun H locs hH hS => ?_)
  refine wald_n hx hb dX5_init_163 rfl (lv_at hl 0 rfl) ?_
  refine lv_iconst (v := 5) hx hb dX5_init_164 (by decide) ?_
  obtain ⟨g253, hf⟩ := wGd_e hf
  obtain ⟨sh254, e258, hf⟩ := wLt_e hf
  obtain ⟨ln255, e259, hf⟩ := wLt_e hf
  obtain ⟨iv256, e260, hf⟩ := wLt_e hf
  obtain ⟨rv257, e261, hf⟩ := wLt_e hf
  refine wna hx hb (hts (.arrayClass .int) (List.mem_of_getElem? (i := 5) rfl)) hKn.1 hH hO hS hA 38 7 0 g253 (by decide) rfl (fun _ _ => rfl) rfl rfl (fun h => h) (M := 5) (by decide) (Nat.le_of_ble_eq_true rfl) (by decide) (by decide) (by show _ ≤ 21; omega) (by show _ ≤ 1148; omega) dX5_init_165 (fun lo262 H hloc hH hO hS => ?_)
  have hkp := wKp hkp g253.2.1 (by decide) hloc
  rw [← e258] at hkp hO
  rw [← e258, ← e259, ← e260, ← e261] at hH
  rw [wR_same (hloc 1 (wNe g250 (by decide) g253.2.1))] at hl
  refine W.eq (g2 := F0 m 167 ls [wR lo262 38, wR lo262 1]) (by rw [wR_same (hloc 1 (wNe g250 (by decide) g253.2.1))]) ?_
  obtain ⟨g263, hf⟩ := wGd_e hf
  obtain ⟨rv264, e265, hf⟩ := wLt_e hf
  refine wpF (C := RX5) (T := TX5) (N := 31) (v := wR lo262 38) (ty := tyX5 28) (iv' := iv256) (rv' := rv264) hx hb hts iX5 tyX5 tyX5_ok nmX5 hown hKn.1 hH hO hS (q := 1) g263 (by decide) rfl rfl 28 (by decide) k74 rfl hin rfl (tyX5_ok 28 (by decide)) (wR_nar _ _ _) (wR_fitA _ _ _) (Nat.le_of_ble_eq_true rfl) (by rw [e265, wV_self]; rfl) (fun _ _ => rfl) (fun a ha => by rw [e265]; exact wV_ne a ha) dX5_init_167 (fun H locs hH hS => ?_)
  refine wald_n hx hb dX5_init_170 rfl (lv_at hl 0 rfl) ?_
  refine lv_iconst (v := 5) hx hb dX5_init_171 (by decide) ?_
  obtain ⟨g266, hf⟩ := wGd_e hf
  obtain ⟨sh267, e271, hf⟩ := wLt_e hf
  obtain ⟨ln268, e272, hf⟩ := wLt_e hf
  obtain ⟨iv269, e273, hf⟩ := wLt_e hf
  obtain ⟨rv270, e274, hf⟩ := wLt_e hf
  refine wna hx hb (hts (.arrayClass .int) (List.mem_of_getElem? (i := 5) rfl)) hKn.1 hH hO hS hA 39 7 0 g266 (by decide) rfl (fun _ _ => rfl) rfl rfl (fun h => h) (M := 5) (by decide) (Nat.le_of_ble_eq_true rfl) (by decide) (by decide) (by show _ ≤ 21; omega) (by show _ ≤ 1148; omega) dX5_init_172 (fun lo275 H hloc hH hO hS => ?_)
  have hkp := wKp hkp g266.2.1 (by decide) hloc
  rw [← e271] at hkp hO
  rw [← e271, ← e272, ← e273, ← e274] at hH
  rw [wR_same (hloc 1 (wNe g263 (by decide) g266.2.1))] at hl
  refine W.eq (g2 := F0 m 174 ls [wR lo275 39, wR lo275 1]) (by rw [wR_same (hloc 1 (wNe g263 (by decide) g266.2.1))]) ?_
  obtain ⟨g276, hf⟩ := wGd_e hf
  obtain ⟨rv277, e278, hf⟩ := wLt_e hf
  refine wpF (C := RX5) (T := TX5) (N := 31) (v := wR lo275 39) (ty := tyX5 29) (iv' := iv269) (rv' := rv277) hx hb hts iX5 tyX5 tyX5_ok nmX5 hown hKn.1 hH hO hS (q := 1) g276 (by decide) rfl rfl 29 (by decide) k77 rfl hin rfl (tyX5_ok 29 (by decide)) (wR_nar _ _ _) (wR_fitA _ _ _) (Nat.le_of_ble_eq_true rfl) (by rw [e278, wV_self]; rfl) (fun _ _ => rfl) (fun a ha => by rw [e278]; exact wV_ne a ha) dX5_init_174 (fun H locs hH hS => ?_)
  refine wald_n hx hb dX5_init_177 rfl (lv_at hl 0 rfl) ?_
  refine lv_iload_n hx hb dX5_init_178 rfl (lv_at hl 1 rfl) ?_
  refine lv_iconst (v := 1) hx hb dX5_init_179 (by decide) ?_
  obtain ⟨z280, hv281, hf⟩ := wBd_e hf
  have hj282 : ∀ (H : Heap) (locs : List Loc) (ls : Array Slot), wH D K lo275 sh267 ln268 iv269 rv277 H → va_S (wA loc sh s.heap.size) s.heap H locs → lv_has ls 3 [(0, wR lo275 1), (2, .int a2)] → W p l e (headSpec wsX5_init ({ frames := 1, cells := 21, slots := 1148, locals := 20 })).room s m ([wR loc 1, .int a1, .int a2] : List Value).toArray below meth c H locs 21 1148 (MQ below (wQnv D K loc sh sh' ln' iv' rv' s.heap.size) ([wR loc 1, .int a1, .int a2] : List Value).toArray s 21 1148 (wA loc sh s.heap.size)) (F0 m 197 ls [.int z280, wR lo275 1]) := by
    intro H locs ls hH hS hl
    obtain ⟨iv284, e285, hf⟩ := wLt_e hf
    refine wpF (C := RX5) (T := TX5) (N := 31) (v := .int z280) (ty := tyX5 0) (iv' := iv284) (rv' := rv277) hx hb hts iX5 tyX5 tyX5_ok nmX5 hown hKn.1 hH hO hS (q := 1) g276 (by decide) rfl rfl 0 (by decide) k80 rfl hin rfl (tyX5_ok 0 (by decide)) rfl rfl (Nat.le_of_ble_eq_true rfl) (by rw [e285, wU_self]; rfl) (fun a ha => by rw [e285]; exact wU_ne a ha) (fun _ _ => rfl) dX5_init_197 (fun H locs hH hS => ?_)
    refine wald_n hx hb dX5_init_200 rfl (lv_at hl 0 rfl) ?_
    refine lv_iload_n hx hb dX5_init_201 rfl (lv_at hl 1 rfl) ?_
    refine lv_bipush (v := 6) hx hb dX5_init_202 (by decide) ?_
    refine lv_icmp_ge (tgt := 212) hx hb dX5_init_204 (by decide) (fun c286 => ?_) (fun c286 => ?_)
    · have hf := wIt c286 hf
      refine lv_iload_n hx hb dX5_init_212 rfl (lv_at hl 1 rfl) ?_
      refine lv_bipush (v := 30) hx hb dX5_init_213 (by decide) ?_
      refine lv_icmp_le (tgt := 223) hx hb dX5_init_215 (by decide) (fun c287 => ?_) (fun c287 => ?_)
      · have hf := wIt c287 hf
        refine lv_iload_n hx hb dX5_init_223 rfl (lv_at hl 1 rfl) ?_
        obtain ⟨iv288, e289, hf⟩ := wLt_e hf
        refine wp (C := RX5) (T := TX5) (N := 31) (v := .int a2) (ty := tyX5 1) (iv' := iv288) (rv' := rv277) hx hb hts iX5 tyX5 tyX5_ok nmX5 hown hKn.1 hH hO hS (q := 1) g276 (by decide) rfl rfl 1 (by decide) k83 rfl (tyX5_ok 1 (by decide)) rfl rfl (Nat.le_of_ble_eq_true rfl) (by rw [e289, wU_self]; rfl) (fun a ha => by rw [e289]; exact wU_ne a ha) (fun _ _ => rfl) dX5_init_224 (fun H locs hH hS => ?_)
        cases hf
        refine W.widen (k := 21) (n := 1148) (by omega) (by omega) ?_
        exact W.vret hx hb hr (fun t ht hW => ⟨⟨lo275, rfl, hkp, by show wH _ _ _ _ _ _ _ t.heap; rw [ht]; exact hH, hO⟩, hS.F ht⟩) hS.2.2 dX5_init_227
      · have hf := wIf c287 hf
        refine lv_bipush (v := 30) hx hb dX5_init_218 (by decide) ?_
        refine lv_goto (tgt := 224) hx hb dX5_init_220 (by decide) ?_
        obtain ⟨iv290, e291, hf⟩ := wLt_e hf
        refine wp (C := RX5) (T := TX5) (N := 31) (v := .int 30) (ty := tyX5 1) (iv' := iv290) (rv' := rv277) hx hb hts iX5 tyX5 tyX5_ok nmX5 hown hKn.1 hH hO hS (q := 1) g276 (by decide) rfl rfl 1 (by decide) k83 rfl (tyX5_ok 1 (by decide)) rfl rfl (Nat.le_of_ble_eq_true rfl) (by rw [e291, wU_self]; rfl) (fun a ha => by rw [e291]; exact wU_ne a ha) (fun _ _ => rfl) dX5_init_224 (fun H locs hH hS => ?_)
        cases hf
        refine W.widen (k := 21) (n := 1148) (by omega) (by omega) ?_
        exact W.vret hx hb hr (fun t ht hW => ⟨⟨lo275, rfl, hkp, by show wH _ _ _ _ _ _ _ t.heap; rw [ht]; exact hH, hO⟩, hS.F ht⟩) hS.2.2 dX5_init_227
    · have hf := wIf c286 hf
      refine lv_bipush (v := 6) hx hb dX5_init_207 (by decide) ?_
      refine lv_goto (tgt := 224) hx hb dX5_init_209 (by decide) ?_
      obtain ⟨iv292, e293, hf⟩ := wLt_e hf
      refine wp (C := RX5) (T := TX5) (N := 31) (v := .int 6) (ty := tyX5 1) (iv' := iv292) (rv' := rv277) hx hb hts iX5 tyX5 tyX5_ok nmX5 hown hKn.1 hH hO hS (q := 1) g276 (by decide) rfl rfl 1 (by decide) k83 rfl (tyX5_ok 1 (by decide)) rfl rfl (Nat.le_of_ble_eq_true rfl) (by rw [e293, wU_self]; rfl) (fun a ha => by rw [e293]; exact wU_ne a ha) (fun _ _ => rfl) dX5_init_224 (fun H locs hH hS => ?_)
      cases hf
      refine W.widen (k := 21) (n := 1148) (by omega) (by omega) ?_
      exact W.vret hx hb hr (fun t ht hW => ⟨⟨lo275, rfl, hkp, by show wH _ _ _ _ _ _ _ t.heap; rw [ht]; exact hH, hO⟩, hS.F ht⟩) hS.2.2 dX5_init_227
  clear hf
  have hf := hv281
  clear hv281
  refine lv_icmp_ge (tgt := 187) hx hb dX5_init_180 (by decide) (fun c279 => ?_) (fun c279 => ?_)
  · have hf := wIt c279 hf
    refine lv_iload_n hx hb dX5_init_187 rfl (lv_at hl 1 rfl) ?_
    refine lv_iconst (v := 3) hx hb dX5_init_188 (by decide) ?_
    refine lv_icmp_le (tgt := 196) hx hb dX5_init_189 (by decide) (fun c283 => ?_) (fun c283 => ?_)
    · have hf := wIt c283 hf
      refine lv_iload_n hx hb dX5_init_196 rfl (lv_at hl 1 rfl) ?_
      cases hf
      exact hj282 _ _ _ hH hS (lv_sub hl [0, 2] rfl)
    · have hf := wIf c283 hf
      refine lv_iconst (v := 3) hx hb dX5_init_192 (by decide) ?_
      refine lv_goto (tgt := 197) hx hb dX5_init_193 (by decide) ?_
      cases hf
      exact hj282 _ _ _ hH hS (lv_sub hl [0, 2] rfl)
  · have hf := wIf c279 hf
    refine lv_iconst (v := 1) hx hb dX5_init_183 (by decide) ?_
    refine lv_goto (tgt := 197) hx hb dX5_init_184 (by decide) ?_
    cases hf
    exact hj282 _ _ _ hH hS (lv_sub hl [0, 2] rfl)
