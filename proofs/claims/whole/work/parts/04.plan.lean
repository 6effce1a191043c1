noncomputable def fX0_init (ng : Nat) (sh : Nat → Nat) (iv : wI) (rv : wJ) (g0 : Nat) (a1 : Int32) (b2 : Nat) (a3 : Int32) (a4 : Int32) (a5 : Int32) : Option (wI × wJ) := wLt (wU iv g0 5 0) (fun (iv1 : wI) => wLt (wU iv1 g0 6 (-1)) (fun (iv3 : wI) => wLt (wU iv3 g0 7 0) (fun (iv5 : wI) => wLt (wU iv5 g0 8 0) (fun (iv7 : wI) => wLt (wU iv7 g0 9 0) (fun (iv9 : wI) => wLt (wV rv g0 10 0) (fun (rv11 : wJ) => wLt (wU iv9 g0 0 a1) (fun (iv13 : wI) => wLt (wV rv11 g0 1 b2) (fun (rv15 : wJ) => wLt (wU iv13 g0 2 a3) (fun (iv17 : wI) => wLt (wU iv17 g0 3 a4) (fun (iv19 : wI) => wLt (wU iv19 g0 4 a5) (fun (iv21 : wI) => some (iv21, rv15))))))))))))
set_option maxHeartbeats 4000000 in
set_option maxRecDepth 100000 in
theorem mtX0_init (l : Launch) (D : va_G) (K : Nat → ClassId) (loc sh ln : Nat → Nat) (iv : wI) (rv : wJ) (sz : Nat) (ng : Nat) (g0 : Nat) (a1 : Int32) (b2 : Nat) (a3 : Int32) (a4 : Int32) (a5 : Int32) {iv' : wI} {rv' : wJ} (hg0 : sh g0 = 1) (hf : fX0_init ng sh iv rv g0 a1 b2 a3 a4 a5 = some (iv', rv')) : Met l yX0_init wsX0_init ({ frames := 1, cells := 0, slots := 0, locals := 20 }) (wPc D K loc sh ln iv rv sz [wR loc g0, .int a1, wR loc b2, .int a3, .int a4, .int a5]) (wQv D K loc sh ln iv' rv' sz) 0 0 (wA loc sh sz) := by
  refine Met.ofW (cc := cX0_init) (maxL := 6) (ret := none) (by decide) rfl ?_
  intro p e s m args below meth c s₁ B hml hv
  obtain ⟨rfl, hsz, hH, hKn⟩ := hv
  have hx := B.exec
  have hb := B.bytes
  have hr := B.returns
  have hts := atoms_spec (ws := wsX0_init) B.pre
  have hown : s.vm.findClass RX0 = some m.cls := findClass_of_methodNamed B.named
  have hlocks := B.notSynchronized
  subst hsz
  have hA : ∀ q : Nat, s.heap.size ≤ q → wA loc sh s.heap.size q := fun q h => Or.inr h
  have hO : ∀ a, sh a ≠ 0 → wA loc sh s.heap.size (loc a) := fun a h => Or.inl ⟨a, h, rfl⟩
  have hS : va_S (wA loc sh s.heap.size) s.heap s.heap [] := va_S.rf
  obtain ⟨ls, hen, hl⟩ := wEntry m [wR loc g0, .int a1, wR loc b2, .int a3, .int a4, .int a5] 6 (List.forall_mem_cons.mpr ⟨wR_cat _ _, List.forall_mem_cons.mpr ⟨rfl, List.forall_mem_cons.mpr ⟨wR_cat _ _, List.forall_mem_cons.mpr ⟨rfl, List.forall_mem_cons.mpr ⟨rfl, List.forall_mem_cons.mpr ⟨rfl, fun _ h => absurd h List.not_mem_nil⟩⟩⟩⟩⟩⟩) (Nat.le_of_ble_eq_true rfl)
  rw [hen]
  clear hen
  have hl : lv_has ls 6 [(0, wR loc g0), (1, .int a1), (2, wR loc b2), (3, .int a3), (4, .int a4), (5, .int a5)] := hl
  have hin : meth.name = "<init>" := (name_of_methodNamed B.named B.method).1
  have k9 := hts (.fieldLink RX0 9 "CupByCup$Cup" "state" "I") (List.mem_of_getElem? (i := 4) rfl)
  have iX0 : ∀ w ∈ wsX00, w ∈ wsX0_init := fun w h => List.mem_cons_of_mem _ (List.mem_append_right _ h)
  have k15 := hts (.fieldLink RX0 15 "CupByCup$Cup" "doneAt" "I") (List.mem_of_getElem? (i := 5) rfl)
  have k18 := hts (.fieldLink RX0 18 "CupByCup$Cup" "toGo" "I") (List.mem_of_getElem? (i := 6) rfl)
  have k21 := hts (.fieldLink RX0 21 "CupByCup$Cup" "liesSince" "I") (List.mem_of_getElem? (i := 7) rfl)
  have k24 := hts (.fieldLink RX0 24 "CupByCup$Cup" "timesLost" "I") (List.mem_of_getElem? (i := 8) rfl)
  have k27 := hts (.fieldLink RX0 27 "CupByCup$Cup" "brewsIn" "LCupByCup$Group;") (List.mem_of_getElem? (i := 9) rfl)
  have k31 := hts (.fieldLink RX0 31 "CupByCup$Cup" "number" "I") (List.mem_of_getElem? (i := 10) rfl)
  have k34 := hts (.fieldLink RX0 34 "CupByCup$Cup" "recipe" "LCupByCup$Recipe;") (List.mem_of_getElem? (i := 11) rfl)
  have k38 := hts (.fieldLink RX0 38 "CupByCup$Cup" "firstOfOrder" "I") (List.mem_of_getElem? (i := 12) rfl)
  have k41 := hts (.fieldLink RX0 41 "CupByCup$Cup" "lane" "I") (List.mem_of_getElem? (i := 13) rfl)
  have k44 := hts (.fieldLink RX0 44 "CupByCup$Cup" "cameAt" "I") (List.mem_of_getElem? (i := 14) rfl)
  unfold fX0_init at hf
  refine wald_n hx hb dX0_init_0 rfl (lv_at hl 0 rfl) ?_
  refine W.eq (g2 := F0 m 1 ls (.ref (loc g0) :: [])) (by rw [wR_ref (hH.nz hg0 (by decide))]) ?_
  refine W.objInit hx hb hown (hts (.methodLink RX0 3 objectInit) (List.mem_of_getElem? (i := 1) rfl)) (hts (.instanceMethod objectInit) (List.mem_of_getElem? (i := 2) rfl)) (hts (.code objectInit ⟨#[0xb1]⟩ 1 none) (List.mem_of_getElem? (i := 3) rfl)) rfl (by rw [hml]; exact hl.1) rfl dX0_init_1 (Nat.le_of_ble_eq_true rfl) (Nat.le_of_ble_eq_true rfl) ?_
  refine W.eq (g2 := F0 m 4 ls []) rfl ?_
  refine wald_n hx hb dX0_init_4 rfl (lv_at hl 0 rfl) ?_
  refine lv_iconst (v := 0) hx hb dX0_init_5 (by decide) ?_
  obtain ⟨iv1, e2, hf⟩ := wLt_e hf
  refine wp (C := RX0) (T := TX0) (N := 11) (v := .int 0) (ty := tyX0 5) (iv' := iv1) (rv' := rv) hx hb hts iX0 tyX0 tyX0_ok nmX0 hown hKn.1 hH hO hS (q := g0) hg0 (by decide) rfl rfl 5 (by decide) k9 rfl (tyX0_ok 5 (by decide)) rfl rfl (Nat.le_of_ble_eq_true rfl) (by rw [e2, wU_self]; rfl) (fun a ha => by rw [e2]; exact wU_ne a ha) (fun _ _ => rfl) dX0_init_6 (fun H locs hH hS => ?_)
  refine wald_n hx hb dX0_init_9 rfl (lv_at hl 0 rfl) ?_
  refine lv_iconst (v := (-1)) hx hb dX0_init_10 (by decide) ?_
  obtain ⟨iv3, e4, hf⟩ := wLt_e hf
  refine wp (C := RX0) (T := TX0) (N := 11) (v := .int (-1)) (ty := tyX0 6) (iv' := iv3) (rv' := rv) hx hb hts iX0 tyX0 tyX0_ok nmX0 hown hKn.1 hH hO hS (q := g0) hg0 (by decide) rfl rfl 6 (by decide) k15 rfl (tyX0_ok 6 (by decide)) rfl rfl (Nat.le_of_ble_eq_true rfl) (by rw [e4, wU_self]; rfl) (fun a ha => by rw [e4]; exact wU_ne a ha) (fun _ _ => rfl) dX0_init_11 (fun H locs hH hS => ?_)
  refine wald_n hx hb dX0_init_14 rfl (lv_at hl 0 rfl) ?_
  refine lv_iconst (v := 0) hx hb dX0_init_15 (by decide) ?_
  obtain ⟨iv5, e6, hf⟩ := wLt_e hf
  refine wp (C := RX0) (T := TX0) (N := 11) (v := .int 0) (ty := tyX0 7) (iv' := iv5) (rv' := rv) hx hb hts iX0 tyX0 tyX0_ok nmX0 hown hKn.1 hH hO hS (q := g0) hg0 (by decide) rfl rfl 7 (by decide) k18 rfl (tyX0_ok 7 (by decide)) rfl rfl (Nat.le_of_ble_eq_true rfl) (by rw [e6, wU_self]; rfl) (fun a ha => by rw [e6]; exact wU_ne a ha) (fun _ _ => rfl) dX0_init_16 (fun H locs hH hS => ?_)
  refine wald_n hx hb dX0_init_19 rfl (lv_at hl 0 rfl) ?_
  refine lv_iconst (v := 0) hx hb dX0_init_20 (by decide) ?_
  obtain ⟨iv7, e8, hf⟩ := wLt_e hf
  refine wp (C := RX0) (T := TX0) (N := 11) (v := .int 0) (ty := tyX0 8) (iv' := iv7) (rv' := rv) hx hb hts iX0 tyX0 tyX0_ok nmX0 hown hKn.1 hH hO hS (q := g0) hg0 (by decide) rfl rfl 8 (by decide) k21 rfl (tyX0_ok 8 (by decide)) rfl rfl (Nat.le_of_ble_eq_true rfl) (by rw [e8, wU_self]; rfl) (fun a ha => by rw [e8]; exact wU_ne a ha) (fun _ _ => rfl) dX0_init_21 (fun H locs hH hS => ?_)
  refine wald_n hx hb dX0_init_24 rfl (lv_at hl 0 rfl) ?_
  refine lv_iconst (v := 0) hx hb dX0_init_25 (by decide) ?_
  obtain ⟨iv9, e10, hf⟩ := wLt_e hf
  refine wp (C := RX0) (T := TX0) (N := 11) (v := .int 0) (ty := tyX0 9) (iv' := iv9) (rv' := rv) hx hb hts iX0 tyX0 tyX0_ok nmX0 hown hKn.1 hH hO hS (q := g0) hg0 (by decide) rfl rfl 9 (by decide) k24 rfl (tyX0_ok 9 (by decide)) rfl rfl (Nat.le_of_ble_eq_true rfl) (by rw [e10, wU_self]; rfl) (fun a ha => by rw [e10]; exact wU_ne a ha) (fun _ _ => rfl) dX0_init_26 (fun H locs hH hS => ?_)
  refine wald_n hx hb dX0_init_29 rfl (lv_at hl 0 rfl) ?_
  refine wnul hx hb loc dX0_init_30 ?_
  obtain ⟨rv11, e12, hf⟩ := wLt_e hf
  refine wp (C := RX0) (T := TX0) (N := 11) (v := wR loc 0) (ty := tyX0 10) (iv' := iv9) (rv' := rv11) hx hb hts iX0 tyX0 tyX0_ok nmX0 hown hKn.1 hH hO hS (q := g0) hg0 (by decide) rfl rfl 10 (by decide) k27 rfl (tyX0_ok 10 (by decide)) (wR_nar _ _ _) (wR_fit _ _ _) (Nat.le_of_ble_eq_true rfl) (by rw [e12, wV_self]; rfl) (fun _ _ => rfl) (fun a ha => by rw [e12]; exact wV_ne a ha) dX0_init_31 (fun H locs hH hS => ?_)
  refine wald_n hx hb dX0_init_34 rfl (lv_at hl 0 rfl) ?_
  refine lv_iload_n hx hb dX0_init_35 rfl (lv_at hl 1 rfl) ?_
  obtain ⟨iv13, e14, hf⟩ := wLt_e hf
  refine wpF (C := RX0) (T := TX0) (N := 11) (v := .int a1) (ty := tyX0 0) (iv' := iv13) (rv' := rv11) hx hb hts iX0 tyX0 tyX0_ok nmX0 hown hKn.1 hH hO hS (q := g0) hg0 (by decide) rfl rfl 0 (by decide) k31 rfl hin rfl (tyX0_ok 0 (by decide)) rfl rfl (Nat.le_of_ble_eq_true rfl) (by rw [e14, wU_self]; rfl) (fun a ha => by rw [e14]; exact wU_ne a ha) (fun _ _ => rfl) dX0_init_36 (fun H locs hH hS => ?_)
  refine wald_n hx hb dX0_init_39 rfl (lv_at hl 0 rfl) ?_
  refine wald_n hx hb dX0_init_40 rfl (lv_at hl 2 rfl) ?_
  obtain ⟨rv15, e16, hf⟩ := wLt_e hf
  refine wpF (C := RX0) (T := TX0) (N := 11) (v := wR loc b2) (ty := tyX0 1) (iv' := iv13) (rv' := rv15) hx hb hts iX0 tyX0 tyX0_ok nmX0 hown hKn.1 hH hO hS (q := g0) hg0 (by decide) rfl rfl 1 (by decide) k34 rfl hin rfl (tyX0_ok 1 (by decide)) (wR_nar _ _ _) (wR_fit _ _ _) (Nat.le_of_ble_eq_true rfl) (by rw [e16, wV_self]; rfl) (fun _ _ => rfl) (fun a ha => by rw [e16]; exact wV_ne a ha) dX0_init_41 (fun H locs hH hS => ?_)
  refine wald_n hx hb dX0_init_44 rfl (lv_at hl 0 rfl) ?_
  refine lv_iload_n hx hb dX0_init_45 rfl (lv_at hl 3 rfl) ?_
  obtain ⟨iv17, e18, hf⟩ := wLt_e hf
  refine wpF (C := RX0) (T := TX0) (N := 11) (v := .int a3) (ty := tyX0 2) (iv' := iv17) (rv' := rv15) hx hb hts iX0 tyX0 tyX0_ok nmX0 hown hKn.1 hH hO hS (q := g0) hg0 (by decide) rfl rfl 2 (by decide) k38 rfl hin rfl (tyX0_ok 2 (by decide)) rfl rfl (Nat.le_of_ble_eq_true rfl) (by rw [e18, wU_self]; rfl) (fun a ha => by rw [e18]; exact wU_ne a ha) (fun _ _ => rfl) dX0_init_46 (fun H locs hH hS => ?_)
  refine wald_n hx hb dX0_init_49 rfl (lv_at hl 0 rfl) ?_
  refine lv_iload hx hb dX0_init_50 (lv_at hl 4 rfl) ?_
  obtain ⟨iv19, e20, hf⟩ := wLt_e hf
  refine wpF (C := RX0) (T := TX0) (N := 11) (v := .int a4) (ty := tyX0 3) (iv' := iv19) (rv' := rv15) hx hb hts iX0 tyX0 tyX0_ok nmX0 hown hKn.1 hH hO hS (q := g0) hg0 (by decide) rfl rfl 3 (by decide) k41 rfl hin rfl (tyX0_ok 3 (by decide)) rfl rfl (Nat.le_of_ble_eq_true rfl) (by rw [e20, wU_self]; rfl) (fun a ha => by rw [e20]; exact wU_ne a ha) (fun _ _ => rfl) dX0_init_52 (fun H locs hH hS => ?_)
  refine wald_n hx hb dX0_init_55 rfl (lv_at hl 0 rfl) ?_
  refine lv_iload hx hb dX0_init_56 (lv_at hl 5 rfl) ?_
  obtain ⟨iv21, e22, hf⟩ := wLt_e hf
  refine wpF (C := RX0) (T := TX0) (N := 11) (v := .int a5) (ty := tyX0 4) (iv' := iv21) (rv' := rv15) hx hb hts iX0 tyX0 tyX0_ok nmX0 hown hKn.1 hH hO hS (q := g0) hg0 (by decide) rfl rfl 4 (by decide) k44 rfl hin rfl (tyX0_ok 4 (by decide)) rfl rfl (Nat.le_of_ble_eq_true rfl) (by rw [e22, wU_self]; rfl) (fun a ha => by rw [e22]; exact wU_ne a ha) (fun _ _ => rfl) dX0_init_58 (fun H locs hH hS => ?_)
  cases hf
  exact W.vret hx hb hr (fun t ht hW => ⟨⟨(), rfl, trivial, by show wH _ _ _ _ _ _ _ t.heap; rw [ht]; exact hH⟩, hS.F ht⟩) hS.2.2 dX0_init_61
noncomputable def fX1_init (ng : Nat) (sh : Nat → Nat) (iv : wI) (rv : wJ) (g0 : Nat) (a1 : Int32) : Option (wI × wJ) := wLt (wU iv g0 1 0) (fun (iv1 : wI) => wLt (wU iv1 g0 2 0) (fun (iv3 : wI) => wLt (wU iv3 g0 3 0) (fun (iv5 : wI) => wLt (wU iv5 g0 4 0) (fun (iv7 : wI) => wLt (wV rv g0 5 0) (fun (rv9 : wJ) => wLt (wU iv7 g0 0 a1) (fun (iv11 : wI) => some (iv11, rv9)))))))
set_option maxHeartbeats 4000000 in
set_option maxRecDepth 100000 in
theorem mtX1_init (l : Launch) (D : va_G) (K : Nat → ClassId) (loc sh ln : Nat → Nat) (iv : wI) (rv : wJ) (sz : Nat) (ng : Nat) (g0 : Nat) (a1 : Int32) {iv' : wI} {rv' : wJ} (hg0 : sh g0 = 2) (hf : fX1_init ng sh iv rv g0 a1 = some (iv', rv')) : Met l yX1_init wsX1_init ({ frames := 1, cells := 0, slots := 0, locals := 20 }) (wPc D K loc sh ln iv rv sz [wR loc g0, .int a1]) (wQv D K loc sh ln iv' rv' sz) 0 0 (wA loc sh sz) := by
  refine Met.ofW (cc := cX1_init) (maxL := 2) (ret := none) (by decide) rfl ?_
  intro p e s m args below meth c s₁ B hml hv
  obtain ⟨rfl, hsz, hH, hKn⟩ := hv
  have hx := B.exec
  have hb := B.bytes
  have hr := B.returns
  have hts := atoms_spec (ws := wsX1_init) B.pre
  have hown : s.vm.findClass RX1 = some m.cls := findClass_of_methodNamed B.named
  have hlocks := B.notSynchronized
  subst hsz
  have hA : ∀ q : Nat, s.heap.size ≤ q → wA loc sh s.heap.size q := fun q h => Or.inr h
  have hO : ∀ a, sh a ≠ 0 → wA loc sh s.heap.size (loc a) := fun a h => Or.inl ⟨a, h, rfl⟩
  have hS : va_S (wA loc sh s.heap.size) s.heap s.heap [] := va_S.rf
  obtain ⟨ls, hen, hl⟩ := wEntry m [wR loc g0, .int a1] 2 (List.forall_mem_cons.mpr ⟨wR_cat _ _, List.forall_mem_cons.mpr ⟨rfl, fun _ h => absurd h List.not_mem_nil⟩⟩) (Nat.le_of_ble_eq_true rfl)
  rw [hen]
  clear hen
  have hl : lv_has ls 2 [(0, wR loc g0), (1, .int a1)] := hl
  have hin : meth.name = "<init>" := (name_of_methodNamed B.named B.method).1
  have k9 := hts (.fieldLink RX1 9 "CupByCup$Group" "state" "I") (List.mem_of_getElem? (i := 4) rfl)
  have iX1 : ∀ w ∈ wsX10, w ∈ wsX1_init := fun w h => List.mem_cons_of_mem _ (List.mem_append_right _ h)
  have k13 := hts (.fieldLink RX1 13 "CupByCup$Group" "toGo" "I") (List.mem_of_getElem? (i := 5) rfl)
  have k16 := hts (.fieldLink RX1 16 "CupByCup$Group" "due" "I") (List.mem_of_getElem? (i := 6) rfl)
  have k19 := hts (.fieldLink RX1 19 "CupByCup$Group" "faultLeft" "I") (List.mem_of_getElem? (i := 7) rfl)
  have k22 := hts (.fieldLink RX1 22 "CupByCup$Group" "brewing" "LCupByCup$Cup;") (List.mem_of_getElem? (i := 8) rfl)
  have k26 := hts (.fieldLink RX1 26 "CupByCup$Group" "number" "I") (List.mem_of_getElem? (i := 9) rfl)
  unfold fX1_init at hf
  refine wald_n hx hb dX1_init_0 rfl (lv_at hl 0 rfl) ?_
  refine W.eq (g2 := F0 m 1 ls (.ref (loc g0) :: [])) (by rw [wR_ref (hH.nz hg0 (by decide))]) ?_
  refine W.objInit hx hb hown (hts (.methodLink RX1 1 objectInit) (List.mem_of_getElem? (i := 1) rfl)) (hts (.instanceMethod objectInit) (List.mem_of_getElem? (i := 2) rfl)) (hts (.code objectInit ⟨#[0xb1]⟩ 1 none) (List.mem_of_getElem? (i := 3) rfl)) rfl (by rw [hml]; exact hl.1) rfl dX1_init_1 (Nat.le_of_ble_eq_true rfl) (Nat.le_of_ble_eq_true rfl) ?_
  refine W.eq (g2 := F0 m 4 ls []) rfl ?_
  refine wald_n hx hb dX1_init_4 rfl (lv_at hl 0 rfl) ?_
  refine lv_iconst (v := 0) hx hb dX1_init_5 (by decide) ?_
  obtain ⟨iv1, e2, hf⟩ := wLt_e hf
  refine wp (C := RX1) (T := TX1) (N := 6) (v := .int 0) (ty := tyX1 1) (iv' := iv1) (rv' := rv) hx hb hts iX1 tyX1 tyX1_ok nmX1 hown hKn.1 hH hO hS (q := g0) hg0 (by decide) rfl rfl 1 (by decide) k9 rfl (tyX1_ok 1 (by decide)) rfl rfl (Nat.le_of_ble_eq_true rfl) (by rw [e2, wU_self]; rfl) (fun a ha => by rw [e2]; exact wU_ne a ha) (fun _ _ => rfl) dX1_init_6 (fun H locs hH hS => ?_)
  refine wald_n hx hb dX1_init_9 rfl (lv_at hl 0 rfl) ?_
  refine lv_iconst (v := 0) hx hb dX1_init_10 (by decide) ?_
  obtain ⟨iv3, e4, hf⟩ := wLt_e hf
  refine wp (C := RX1) (T := TX1) (N := 6) (v := .int 0) (ty := tyX1 2) (iv' := iv3) (rv' := rv) hx hb hts iX1 tyX1 tyX1_ok nmX1 hown hKn.1 hH hO hS (q := g0) hg0 (by decide) rfl rfl 2 (by decide) k13 rfl (tyX1_ok 2 (by decide)) rfl rfl (Nat.le_of_ble_eq_true rfl) (by rw [e4, wU_self]; rfl) (fun a ha => by rw [e4]; exact wU_ne a ha) (fun _ _ => rfl) dX1_init_11 (fun H locs hH hS => ?_)
  refine wald_n hx hb dX1_init_14 rfl (lv_at hl 0 rfl) ?_
  refine lv_iconst (v := 0) hx hb dX1_init_15 (by decide) ?_
  obtain ⟨iv5, e6, hf⟩ := wLt_e hf
  refine wp (C := RX1) (T := TX1) (N := 6) (v := .int 0) (ty := tyX1 3) (iv' := iv5) (rv' := rv) hx hb hts iX1 tyX1 tyX1_ok nmX1 hown hKn.1 hH hO hS (q := g0) hg0 (by decide) rfl rfl 3 (by decide) k16 rfl (tyX1_ok 3 (by decide)) rfl rfl (Nat.le_of_ble_eq_true rfl) (by rw [e6, wU_self]; rfl) (fun a ha => by rw [e6]; exact wU_ne a ha) (fun _ _ => rfl) dX1_init_16 (fun H locs hH hS => ?_)
  refine wald_n hx hb dX1_init_19 rfl (lv_at hl 0 rfl) ?_
  refine lv_iconst (v := 0) hx hb dX1_init_20 (by decide) ?_
  obtain ⟨iv7, e8, hf⟩ := wLt_e hf
  refine wp (C := RX1) (T := TX1) (N := 6) (v := .int 0) (ty := tyX1 4) (iv' := iv7) (rv' := rv) hx hb hts iX1 tyX1 tyX1_ok nmX1 hown hKn.1 hH hO hS (q := g0) hg0 (by decide) rfl rfl 4 (by decide) k19 rfl (tyX1_ok 4 (by decide)) rfl rfl (Nat.le_of_ble_eq_true rfl) (by rw [e8, wU_self]; rfl) (fun a ha => by rw [e8]; exact wU_ne a ha) (fun _ _ => rfl) dX1_init_21 (fun H locs hH hS => ?_)
  refine wald_n hx hb dX1_init_24 rfl (lv_at hl 0 rfl) ?_
  refine wnul hx hb loc dX1_init_25 ?_
  obtain ⟨rv9, e10, hf⟩ := wLt_e hf
  refine wp (C := RX1) (T := TX1) (N := 6) (v := wR loc 0) (ty := tyX1 5) (iv' := iv7) (rv' := rv9) hx hb hts iX1 tyX1 tyX1_ok nmX1 hown hKn.1 hH hO hS (q := g0) hg0 (by decide) rfl rfl 5 (by decide) k22 rfl (tyX1_ok 5 (by decide)) (wR_nar _ _ _) (wR_fit _ _ _) (Nat.le_of_ble_eq_true rfl) (by rw [e10, wV_self]; rfl) (fun _ _ => rfl) (fun a ha => by rw [e10]; exact wV_ne a ha) dX1_init_26 (fun H locs hH hS => ?_)
  refine wald_n hx hb dX1_init_29 rfl (lv_at hl 0 rfl) ?_
  refine lv_iload_n hx hb dX1_init_30 rfl (lv_at hl 1 rfl) ?_
  obtain ⟨iv11, e12, hf⟩ := wLt_e hf
  refine wpF (C := RX1) (T := TX1) (N := 6) (v := .int a1) (ty := tyX1 0) (iv' := iv11) (rv' := rv9) hx hb hts iX1 tyX1 tyX1_ok nmX1 hown hKn.1 hH hO hS (q := g0) hg0 (by decide) rfl rfl 0 (by decide) k26 rfl hin rfl (tyX1_ok 0 (by decide)) rfl rfl (Nat.le_of_ble_eq_true rfl) (by rw [e12, wU_self]; rfl) (fun a ha => by rw [e12]; exact wU_ne a ha) (fun _ _ => rfl) dX1_init_31 (fun H locs hH hS => ?_)
  cases hf
  exact W.vret hx hb hr (fun t ht hW => ⟨⟨(), rfl, trivial, by show wH _ _ _ _ _ _ _ t.heap; rw [ht]; exact hH⟩, hS.F ht⟩) hS.2.2 dX1_init_34
noncomputable def fX1_canBegin (ng : Nat) (sh : Nat → Nat) (iv : wI) (rv : wJ) (g0 : Nat) : Option (Int32) := if (iv g0 1) = 0 then if (iv g0 4) = 0 then some (1 : Int32) else some (0 : Int32) else some (0 : Int32)
set_option maxHeartbeats 4000000 in
set_option maxRecDepth 100000 in
theorem mtX1_canBegin (l : Launch) (D : va_G) (K : Nat → ClassId) (loc sh ln : Nat → Nat) (iv : wI) (rv : wJ) (sz : Nat) (ng : Nat) (g0 : Nat) {r' : Int32} (hg0 : sh g0 = 2) (hf : fX1_canBegin ng sh iv rv g0 = some r') : Met l yX1_canBegin wsX1_canBegin ({ frames := 0, cells := 0, slots := 0, locals := 0 }) (wPc D K loc sh ln iv rv sz [wR loc g0]) (wQi D K loc sh ln iv rv sz r') 0 0 (wA loc sh sz) := by
  refine Met.ofW (cc := cX1_canBegin) (maxL := 1) (ret := (some .boolean)) (by decide) rfl ?_
  intro p e s m args below meth c s₁ B hml hv
  obtain ⟨rfl, hsz, hH, hKn⟩ := hv
  have hx := B.exec
  have hb := B.bytes
  have hr := B.returns
  have hts := atoms_spec (ws := wsX1_canBegin) B.pre
  have hown : s.vm.findClass RX1 = some m.cls := findClass_of_methodNamed B.named
  have hlocks := B.notSynchronized
  subst hsz
  have hA : ∀ q : Nat, s.heap.size ≤ q → wA loc sh s.heap.size q := fun q h => Or.inr h
  have hO : ∀ a, sh a ≠ 0 → wA loc sh s.heap.size (loc a) := fun a h => Or.inl ⟨a, h, rfl⟩
  have hS : va_S (wA loc sh s.heap.size) s.heap s.heap [] := va_S.rf
  obtain ⟨ls, hen, hl⟩ := wEntry m [wR loc g0] 1 (List.forall_mem_cons.mpr ⟨wR_cat _ _, fun _ h => absurd h List.not_mem_nil⟩) (Nat.le_of_ble_eq_true rfl)
  rw [hen]
  clear hen
  have hl : lv_has ls 1 [(0, wR loc g0)] := hl
  have k9 := hts (.fieldLink RX1 9 "CupByCup$Group" "state" "I") (List.mem_of_getElem? (i := 1) rfl)
  have iX1 : ∀ w ∈ wsX10, w ∈ wsX1_canBegin := fun w h => List.mem_cons_of_mem _ (List.mem_append_right _ h)
  have k19 := hts (.fieldLink RX1 19 "CupByCup$Group" "faultLeft" "I") (List.mem_of_getElem? (i := 2) rfl)
  unfold fX1_canBegin at hf
  refine wald_n hx hb dX1_canBegin_0 rfl (lv_at hl 0 rfl) ?_
  refine wg (C := RX1) (T := TX1) (N := 6) (v := .int (iv g0 1)) hx hb hts iX1 hown hKn.1 hH (q := g0) hg0 (by decide) rfl rfl 1 (by decide) k9 rfl dX1_canBegin_1 ?_
  refine lv_if_ne (tgt := 18) hx hb dX1_canBegin_4 (by decide) (fun c1 => ?_) (fun c1 => ?_)
  · have hf := wIf c1 hf
    refine lv_iconst (v := 0) hx hb dX1_canBegin_18 (by decide) ?_
    cases hf
    exact W.zret hx hb hr rfl (fun t ht hW => ⟨⟨_, (), rfl, rfl, by show wH _ _ _ _ _ _ _ t.heap; rw [ht]; exact hH⟩, hS.F ht⟩) hS.2.2 dX1_canBegin_19
  · have hf := wIt c1 hf
    refine wald_n hx hb dX1_canBegin_7 rfl (lv_at hl 0 rfl) ?_
    refine wg (C := RX1) (T := TX1) (N := 6) (v := .int (iv g0 4)) hx hb hts iX1 hown hKn.1 hH (q := g0) hg0 (by decide) rfl rfl 4 (by decide) k19 rfl dX1_canBegin_8 ?_
    refine lv_if_ne (tgt := 18) hx hb dX1_canBegin_11 (by decide) (fun c2 => ?_) (fun c2 => ?_)
    · have hf := wIf c2 hf
      refine lv_iconst (v := 0) hx hb dX1_canBegin_18 (by decide) ?_
      cases hf
      exact W.zret hx hb hr rfl (fun t ht hW => ⟨⟨_, (), rfl, rfl, by show wH _ _ _ _ _ _ _ t.heap; rw [ht]; exact hH⟩, hS.F ht⟩) hS.2.2 dX1_canBegin_19
    · have hf := wIt c2 hf
      refine lv_iconst (v := 1) hx hb dX1_canBegin_14 (by decide) ?_
      refine lv_goto (tgt := 19) hx hb dX1_canBegin_15 (by decide) ?_
      cases hf
      exact W.zret hx hb hr rfl (fun t ht hW => ⟨⟨_, (), rfl, rfl, by show wH _ _ _ _ _ _ _ t.heap; rw [ht]; exact hH⟩, hS.F ht⟩) hS.2.2 dX1_canBegin_19
noncomputable def fX1_begin (ng : Nat) (sh : Nat → Nat) (iv : wI) (rv : wJ) (g0 : Nat) (a1 : Int32) (a2 : Int32) : Option (wI) := wLt (wU iv g0 1 a1) (fun (iv1 : wI) => wLt (wU iv1 g0 2 a2) (fun (iv3 : wI) => some iv3))
set_option maxHeartbeats 4000000 in
set_option maxRecDepth 100000 in
theorem mtX1_begin (l : Launch) (D : va_G) (K : Nat → ClassId) (loc sh ln : Nat → Nat) (iv : wI) (rv : wJ) (sz : Nat) (ng : Nat) (g0 : Nat) (a1 : Int32) (a2 : Int32) {iv' : wI} (hg0 : sh g0 = 2) (hf : fX1_begin ng sh iv rv g0 a1 a2 = some iv') : Met l yX1_begin wsX1_begin ({ frames := 0, cells := 0, slots := 0, locals := 0 }) (wPc D K loc sh ln iv rv sz [wR loc g0, .int a1, .int a2]) (wQv D K loc sh ln iv' rv sz) 0 0 (wA loc sh sz) := by
  refine Met.ofW (cc := cX1_begin) (maxL := 3) (ret := none) (by decide) rfl ?_
  intro p e s m args below meth c s₁ B hml hv
  obtain ⟨rfl, hsz, hH, hKn⟩ := hv
  have hx := B.exec
  have hb := B.bytes
  have hr := B.returns
  have hts := atoms_spec (ws := wsX1_begin) B.pre
  have hown : s.vm.findClass RX1 = some m.cls := findClass_of_methodNamed B.named
  have hlocks := B.notSynchronized
  subst hsz
  have hA : ∀ q : Nat, s.heap.size ≤ q → wA loc sh s.heap.size q := fun q h => Or.inr h
  have hO : ∀ a, sh a ≠ 0 → wA loc sh s.heap.size (loc a) := fun a h => Or.inl ⟨a, h, rfl⟩
  have hS : va_S (wA loc sh s.heap.size) s.heap s.heap [] := va_S.rf
  obtain ⟨ls, hen, hl⟩ := wEntry m [wR loc g0, .int a1, .int a2] 3 (List.forall_mem_cons.mpr ⟨wR_cat _ _, List.forall_mem_cons.mpr ⟨rfl, List.forall_mem_cons.mpr ⟨rfl, fun _ h => absurd h List.not_mem_nil⟩⟩⟩) (Nat.le_of_ble_eq_true rfl)
  rw [hen]
  clear hen
  have hl : lv_has ls 3 [(0, wR loc g0), (1, .int a1), (2, .int a2)] := hl
  have k9 := hts (.fieldLink RX1 9 "CupByCup$Group" "state" "I") (List.mem_of_getElem? (i := 1) rfl)
  have iX1 : ∀ w ∈ wsX10, w ∈ wsX1_begin := fun w h => List.mem_cons_of_mem _ (List.mem_append_right _ h)
  have k13 := hts (.fieldLink RX1 13 "CupByCup$Group" "toGo" "I") (List.mem_of_getElem? (i := 2) rfl)
  unfold fX1_begin at hf
  refine wald_n hx hb dX1_begin_0 rfl (lv_at hl 0 rfl) ?_
  refine lv_iload_n hx hb dX1_begin_1 rfl (lv_at hl 1 rfl) ?_
  obtain ⟨iv1, e2, hf⟩ := wLt_e hf
  refine wp (C := RX1) (T := TX1) (N := 6) (v := .int a1) (ty := tyX1 1) (iv' := iv1) (rv' := rv) hx hb hts iX1 tyX1 tyX1_ok nmX1 hown hKn.1 hH hO hS (q := g0) hg0 (by decide) rfl rfl 1 (by decide) k9 rfl (tyX1_ok 1 (by decide)) rfl rfl (Nat.le_of_ble_eq_true rfl) (by rw [e2, wU_self]; rfl) (fun a ha => by rw [e2]; exact wU_ne a ha) (fun _ _ => rfl) dX1_begin_2 (fun H locs hH hS => ?_)
  refine wald_n hx hb dX1_begin_5 rfl (lv_at hl 0 rfl) ?_
  refine lv_iload_n hx hb dX1_begin_6 rfl (lv_at hl 2 rfl) ?_
  obtain ⟨iv3, e4, hf⟩ := wLt_e hf
  refine wp (C := RX1) (T := TX1) (N := 6) (v := .int a2) (ty := tyX1 2) (iv' := iv3) (rv' := rv) hx hb hts iX1 tyX1 tyX1_ok nmX1 hown hKn.1 hH hO hS (q := g0) hg0 (by decide) rfl rfl 2 (by decide) k13 rfl (tyX1_ok 2 (by decide)) rfl rfl (Nat.le_of_ble_eq_true rfl) (by rw [e4, wU_self]; rfl) (fun a ha => by rw [e4]; exact wU_ne a ha) (fun _ _ => rfl) dX1_begin_7 (fun H locs hH hS => ?_)
  cases hf
  exact W.vret hx hb hr (fun t ht hW => ⟨⟨(), rfl, trivial, by show wH _ _ _ _ _ _ _ t.heap; rw [ht]; exact hH⟩, hS.F ht⟩) hS.2.2 dX1_begin_10
noncomputable def fX1_becomeFree (ng : Nat) (sh : Nat → Nat) (iv : wI) (rv : wJ) (g0 : Nat) : Option (wI × wJ) := wLt (wU iv g0 1 0) (fun (iv1 : wI) => wLt (wU iv1 g0 2 0) (fun (iv3 : wI) => wLt (wV rv g0 5 0) (fun (rv5 : wJ) => some (iv3, rv5))))
set_option maxHeartbeats 4000000 in
set_option maxRecDepth 100000 in
theorem mtX1_becomeFree (l : Launch) (D : va_G) (K : Nat → ClassId) (loc sh ln : Nat → Nat) (iv : wI) (rv : wJ) (sz : Nat) (ng : Nat) (g0 : Nat) {iv' : wI} {rv' : wJ} (hg0 : sh g0 = 2) (hf : fX1_becomeFree ng sh iv rv g0 = some (iv', rv')) : Met l yX1_becomeFree wsX1_becomeFree ({ frames := 0, cells := 0, slots := 0, locals := 0 }) (wPc D K loc sh ln iv rv sz [wR loc g0]) (wQv D K loc sh ln iv' rv' sz) 0 0 (wA loc sh sz) := by
  refine Met.ofW (cc := cX1_becomeFree) (maxL := 1) (ret := none) (by decide) rfl ?_
  intro p e s m args below meth c s₁ B hml hv
  obtain ⟨rfl, hsz, hH, hKn⟩ := hv
  have hx := B.exec
  have hb := B.bytes
  have hr := B.returns
  have hts := atoms_spec (ws := wsX1_becomeFree) B.pre
  have hown : s.vm.findClass RX1 = some m.cls := findClass_of_methodNamed B.named
  have hlocks := B.notSynchronized
  subst hsz
  have hA : ∀ q : Nat, s.heap.size ≤ q → wA loc sh s.heap.size q := fun q h => Or.inr h
  have hO : ∀ a, sh a ≠ 0 → wA loc sh s.heap.size (loc a) := fun a h => Or.inl ⟨a, h, rfl⟩
  have hS : va_S (wA loc sh s.heap.size) s.heap s.heap [] := va_S.rf
  obtain ⟨ls, hen, hl⟩ := wEntry m [wR loc g0] 1 (List.forall_mem_cons.mpr ⟨wR_cat _ _, fun _ h => absurd h List.not_mem_nil⟩) (Nat.le_of_ble_eq_true rfl)
  rw [hen]
  clear hen
  have hl : lv_has ls 1 [(0, wR loc g0)] := hl
  have k9 := hts (.fieldLink RX1 9 "CupByCup$Group" "state" "I") (List.mem_of_getElem? (i := 1) rfl)
  have iX1 : ∀ w ∈ wsX10, w ∈ wsX1_becomeFree := fun w h => List.mem_cons_of_mem _ (List.mem_append_right _ h)
  have k13 := hts (.fieldLink RX1 13 "CupByCup$Group" "toGo" "I") (List.mem_of_getElem? (i := 2) rfl)
  have k22 := hts (.fieldLink RX1 22 "CupByCup$Group" "brewing" "LCupByCup$Cup;") (List.mem_of_getElem? (i := 3) rfl)
  unfold fX1_becomeFree at hf
  refine wald_n hx hb dX1_becomeFree_0 rfl (lv_at hl 0 rfl) ?_
  refine lv_iconst (v := 0) hx hb dX1_becomeFree_1 (by decide) ?_
  obtain ⟨iv1, e2, hf⟩ := wLt_e hf
  refine wp (C := RX1) (T := TX1) (N := 6) (v := .int 0) (ty := tyX1 1) (iv' := iv1) (rv' := rv) hx hb hts iX1 tyX1 tyX1_ok nmX1 hown hKn.1 hH hO hS (q := g0) hg0 (by decide) rfl rfl 1 (by decide) k9 rfl (tyX1_ok 1 (by decide)) rfl rfl (Nat.le_of_ble_eq_true rfl) (by rw [e2, wU_self]; rfl) (fun a ha => by rw [e2]; exact wU_ne a ha) (fun _ _ => rfl) dX1_becomeFree_2 (fun H locs hH hS => ?_)
  refine wald_n hx hb dX1_becomeFree_5 rfl (lv_at hl 0 rfl) ?_
  refine lv_iconst (v := 0) hx hb dX1_becomeFree_6 (by decide) ?_
  obtain ⟨iv3, e4, hf⟩ := wLt_e hf
  refine wp (C := RX1) (T := TX1) (N := 6) (v := .int 0) (ty := tyX1 2) (iv' := iv3) (rv' := rv) hx hb hts iX1 tyX1 tyX1_ok nmX1 hown hKn.1 hH hO hS (q := g0) hg0 (by decide) rfl rfl 2 (by decide) k13 rfl (tyX1_ok 2 (by decide)) rfl rfl (Nat.le_of_ble_eq_true rfl) (by rw [e4, wU_self]; rfl) (fun a ha => by rw [e4]; exact wU_ne a ha) (fun _ _ => rfl) dX1_becomeFree_7 (fun H locs hH hS => ?_)
  refine wald_n hx hb dX1_becomeFree_10 rfl (lv_at hl 0 rfl) ?_
  refine wnul hx hb loc dX1_becomeFree_11 ?_
  obtain ⟨rv5, e6, hf⟩ := wLt_e hf
  refine wp (C := RX1) (T := TX1) (N := 6) (v := wR loc 0) (ty := tyX1 5) (iv' := iv3) (rv' := rv5) hx hb hts iX1 tyX1 tyX1_ok nmX1 hown hKn.1 hH hO hS (q := g0) hg0 (by decide) rfl rfl 5 (by decide) k22 rfl (tyX1_ok 5 (by decide)) (wR_nar _ _ _) (wR_fit _ _ _) (Nat.le_of_ble_eq_true rfl) (by rw [e6, wV_self]; rfl) (fun _ _ => rfl) (fun a ha => by rw [e6]; exact wV_ne a ha) dX1_becomeFree_12 (fun H locs hH hS => ?_)
  cases hf
  exact W.vret hx hb hr (fun t ht hW => ⟨⟨(), rfl, trivial, by show wH _ _ _ _ _ _ _ t.heap; rw [ht]; exact hH⟩, hS.F ht⟩) hS.2.2 dX1_becomeFree_15
noncomputable def fX2_clear (ng : Nat) (sh : Nat → Nat) (iv : wI) (rv : wJ) : Option (wI) := wLt (wU iv 7 5 0) (fun (iv1 : wI) => some iv1)
set_option maxHeartbeats 4000000 in
set_option maxRecDepth 100000 in
theorem mtX2_clear (l : Launch) (D : va_G) (K : Nat → ClassId) (loc sh ln : Nat → Nat) (iv : wI) (rv : wJ) (sz : Nat) (ng : Nat) {iv' : wI} (hB : wBx ng sh ln) (hf : fX2_clear ng sh iv rv = some iv') : Met l yX2_clear wsX2_clear ({ frames := 0, cells := 0, slots := 0, locals := 0 }) (wPc D K loc sh ln iv rv sz [wR loc 7]) (wQv D K loc sh ln iv' rv sz) 0 0 (wA loc sh sz) := by
  refine Met.ofW (cc := cX2_clear) (maxL := 1) (ret := none) (by decide) rfl ?_
  intro p e s m args below meth c s₁ B hml hv
  obtain ⟨rfl, hsz, hH, hKn⟩ := hv
  have hx := B.exec
  have hb := B.bytes
  have hr := B.returns
  have hts := atoms_spec (ws := wsX2_clear) B.pre
  have hown : s.vm.findClass RX2 = some m.cls := findClass_of_methodNamed B.named
  have hlocks := B.notSynchronized
  subst hsz
  have hA : ∀ q : Nat, s.heap.size ≤ q → wA loc sh s.heap.size q := fun q h => Or.inr h
  have hO : ∀ a, sh a ≠ 0 → wA loc sh s.heap.size (loc a) := fun a h => Or.inl ⟨a, h, rfl⟩
  have hS : va_S (wA loc sh s.heap.size) s.heap s.heap [] := va_S.rf
  obtain ⟨ls, hen, hl⟩ := wEntry m [wR loc 7] 1 (List.forall_mem_cons.mpr ⟨wR_cat _ _, fun _ h => absurd h List.not_mem_nil⟩) (Nat.le_of_ble_eq_true rfl)
  rw [hen]
  clear hen
  have hl : lv_has ls 1 [(0, wR loc 7)] := hl
  have k28 := hts (.fieldLink RX2 28 "CupByCup$Planner" "size" "I") (List.mem_of_getElem? (i := 1) rfl)
  have iX2 : ∀ w ∈ wsX20, w ∈ wsX2_clear := fun w h => List.mem_cons_of_mem _ (List.mem_append_right _ h)
  unfold fX2_clear at hf
  refine wald_n hx hb dX2_clear_0 rfl (lv_at hl 0 rfl) ?_
  refine lv_iconst (v := 0) hx hb dX2_clear_1 (by decide) ?_
  obtain ⟨iv1, e2, hf⟩ := wLt_e hf
  refine wp (C := RX2) (T := TX2) (N := 7) (v := .int 0) (ty := tyX2 5) (iv' := iv1) (rv' := rv) hx hb hts iX2 tyX2 tyX2_ok nmX2 hown hKn.1 hH hO hS (q := 7) (hB.1 7 3 (by decide)) (by decide) rfl rfl 5 (by decide) k28 rfl (tyX2_ok 5 (by decide)) rfl rfl (Nat.le_of_ble_eq_true rfl) (by rw [e2, wU_self]; rfl) (fun a ha => by rw [e2]; exact wU_ne a ha) (fun _ _ => rfl) dX2_clear_2 (fun H locs hH hS => ?_)
  cases hf
  exact W.vret hx hb hr (fun t ht hW => ⟨⟨(), rfl, trivial, by show wH _ _ _ _ _ _ _ t.heap; rw [ht]; exact hH⟩, hS.F ht⟩) hS.2.2 dX2_clear_5
noncomputable def fX2_add (ng : Nat) (sh : Nat → Nat) (iv : wI) (rv : wJ) (b1 : Nat) : Option (wI × wJ) := if 5 ≤ (iv 7 5) then some (iv, rv) else wGd (vp_in (iv 7 5) 5) (wGd (sh b1 = 1) (wLt (wV rv 8 (iv 7 5).toNatClampNeg b1) (fun (rv4 : wJ) => wLt (wU iv 7 5 ((iv 7 5) + 1)) (fun (iv6 : wI) => some (iv6, rv4)))))
set_option maxHeartbeats 4000000 in
set_option maxRecDepth 100000 in
theorem mtX2_add (l : Launch) (D : va_G) (K : Nat → ClassId) (loc sh ln : Nat → Nat) (iv : wI) (rv : wJ) (sz : Nat) (ng : Nat) (b1 : Nat) {iv' : wI} {rv' : wJ} (hB : wBx ng sh ln) (hf : fX2_add ng sh iv rv b1 = some (iv', rv')) : Met l yX2_add wsX2_add ({ frames := 0, cells := 0, slots := 0, locals := 0 }) (wPc D K loc sh ln iv rv sz [wR loc 7, wR loc b1]) (wQv D K loc sh ln iv' rv' sz) 0 0 (wA loc sh sz) := by
  refine Met.ofW (cc := cX2_add) (maxL := 2) (ret := none) (by decide) rfl ?_
  intro p e s m args below meth c s₁ B hml hv
  obtain ⟨rfl, hsz, hH, hKn⟩ := hv
  have hx := B.exec
  have hb := B.bytes
  have hr := B.returns
  have hts := atoms_spec (ws := wsX2_add) B.pre
  have hown : s.vm.findClass RX2 = some m.cls := findClass_of_methodNamed B.named
  have hlocks := B.notSynchronized
  subst hsz
  have hA : ∀ q : Nat, s.heap.size ≤ q → wA loc sh s.heap.size q := fun q h => Or.inr h
  have hO : ∀ a, sh a ≠ 0 → wA loc sh s.heap.size (loc a) := fun a h => Or.inl ⟨a, h, rfl⟩
  have hS : va_S (wA loc sh s.heap.size) s.heap s.heap [] := va_S.rf
  obtain ⟨ls, hen, hl⟩ := wEntry m [wR loc 7, wR loc b1] 2 (List.forall_mem_cons.mpr ⟨wR_cat _ _, List.forall_mem_cons.mpr ⟨wR_cat _ _, fun _ h => absurd h List.not_mem_nil⟩⟩) (Nat.le_of_ble_eq_true rfl)
  rw [hen]
  clear hen
  have hl : lv_has ls 2 [(0, wR loc 7), (1, wR loc b1)] := hl
  have k28 := hts (.fieldLink RX2 28 "CupByCup$Planner" "size" "I") (List.mem_of_getElem? (i := 1) rfl)
  have iX2 : ∀ w ∈ wsX20, w ∈ wsX2_add := fun w h => List.mem_cons_of_mem _ (List.mem_append_right _ h)
  have k11 := hts (.fieldLink RX2 11 "CupByCup$Planner" "order" "[LCupByCup$Cup;") (List.mem_of_getElem? (i := 2) rfl)
  unfold fX2_add at hf
  refine wald_n hx hb dX2_add_0 rfl (lv_at hl 0 rfl) ?_
  refine wg (C := RX2) (T := TX2) (N := 7) (v := .int (iv 7 5)) hx hb hts iX2 hown hKn.1 hH (q := 7) (hB.1 7 3 (by decide)) (by decide) rfl rfl 5 (by decide) k28 rfl dX2_add_1 ?_
  refine lv_iconst (v := 5) hx hb dX2_add_4 (by decide) ?_
  refine lv_icmp_ge (tgt := 28) hx hb dX2_add_5 (by decide) (fun c1 => ?_) (fun c1 => ?_)
  · have hf := wIt c1 hf
    cases hf
    exact W.vret hx hb hr (fun t ht hW => ⟨⟨(), rfl, trivial, by show wH _ _ _ _ _ _ _ t.heap; rw [ht]; exact hH⟩, hS.F ht⟩) hS.2.2 dX2_add_28
  · have hf := wIf c1 hf
    refine wald_n hx hb dX2_add_8 rfl (lv_at hl 0 rfl) ?_
    refine wg (C := RX2) (T := TX2) (N := 7) (v := wR loc 8) hx hb hts iX2 hown hKn.1 hH (q := 7) (hB.1 7 3 (by decide)) (by decide) rfl rfl 0 (by decide) k11 rfl dX2_add_9 ?_
    refine wald_n hx hb dX2_add_12 rfl (lv_at hl 0 rfl) ?_
    refine wg (C := RX2) (T := TX2) (N := 7) (v := .int (iv 7 5)) hx hb hts iX2 hown hKn.1 hH (q := 7) (hB.1 7 3 (by decide)) (by decide) rfl rfl 5 (by decide) k28 rfl dX2_add_13 ?_
    refine wald_n hx hb dX2_add_16 rfl (lv_at hl 1 rfl) ?_
    obtain ⟨g2, hf⟩ := wGd_e hf
    obtain ⟨g3, hf⟩ := wGd_e hf
    obtain ⟨rv4, e5, hf⟩ := wLt_e hf
    refine was (kd := 9) (ki := 2) (kv := 1) hx hb hKn.1 hH hO hS (hB.1 8 9 (by decide)) (by decide) (fun _ => rfl) rfl (hB.2.1 8 _ (by decide)) g3 (by decide) rfl rfl g2 dX2_add_17 (fun H locs hH hS => ?_)
    rw [← e5] at hH
    refine wald_n hx hb dX2_add_18 rfl (lv_at hl 0 rfl) ?_
    refine lv_dup hx hb dX2_add_19 (wR_cat _ _) ?_
    refine wg (C := RX2) (T := TX2) (N := 7) (v := .int (iv 7 5)) hx hb hts iX2 hown hKn.1 hH (q := 7) (hB.1 7 3 (by decide)) (by decide) rfl rfl 5 (by decide) k28 rfl dX2_add_20 ?_
    refine lv_iconst (v := 1) hx hb dX2_add_23 (by decide) ?_
    refine lv_iadd hx hb dX2_add_24 ?_
    obtain ⟨iv6, e7, hf⟩ := wLt_e hf
    refine wp (C := RX2) (T := TX2) (N := 7) (v := .int ((iv 7 5) + 1)) (ty := tyX2 5) (iv' := iv6) (rv' := rv4) hx hb hts iX2 tyX2 tyX2_ok nmX2 hown hKn.1 hH hO hS (q := 7) (hB.1 7 3 (by decide)) (by decide) rfl rfl 5 (by decide) k28 rfl (tyX2_ok 5 (by decide)) rfl rfl (Nat.le_of_ble_eq_true rfl) (by rw [e7, wU_self]; rfl) (fun a ha => by rw [e7]; exact wU_ne a ha) (fun _ _ => rfl) dX2_add_25 (fun H locs hH hS => ?_)
    cases hf
    exact W.vret hx hb hr (fun t ht hW => ⟨⟨(), rfl, trivial, by show wH _ _ _ _ _ _ _ t.heap; rw [ht]; exact hH⟩, hS.F ht⟩) hS.2.2 dX2_add_28
noncomputable def fX2_groupFreeFirst_4 (ng : Nat) (sh : Nat → Nat) : Nat → wI → wJ → Int32 → Int32 → Option (Int32)
  | 0, _, _, _, _ => none
  | n + 1, iv, rv, x1, x2 => if (nI ng) ≤ x2 then some x1 else wGd (vp_in x2 ng) (wGd (vp_in x1 ng) (if (iv 12 x1.toNatClampNeg) ≤ (iv 12 x2.toNatClampNeg) then fX2_groupFreeFirst_4 ng sh n iv rv x1 (x2 + 1) else fX2_groupFreeFirst_4 ng sh n iv rv x2 (x2 + 1)))
noncomputable def fX2_groupFreeFirst (ng : Nat) (sh : Nat → Nat) (iv : wI) (rv : wJ) : Option (Int32) := wBd (fX2_groupFreeFirst_4 ng sh wN iv rv 0 1) (fun (z7 : Int32) => some z7)
set_option maxHeartbeats 4000000 in
set_option maxRecDepth 100000 in
theorem mtX2_groupFreeFirst (l : Launch) (D : va_G) (K : Nat → ClassId) (loc sh ln : Nat → Nat) (iv : wI) (rv : wJ) (sz : Nat) (ng : Nat) {r' : Int32} (hB : wBx ng sh ln) (hf : fX2_groupFreeFirst ng sh iv rv = some r') : Met l yX2_groupFreeFirst wsX2_groupFreeFirst ({ frames := 0, cells := 0, slots := 0, locals := 0 }) (wPc D K loc sh ln iv rv sz [wR loc 7]) (wQi D K loc sh ln iv rv sz r') 0 0 (wA loc sh sz) := by
  refine Met.ofW (cc := cX2_groupFreeFirst) (maxL := 3) (ret := (some .int)) (by decide) rfl ?_
  intro p e s m args below meth c s₁ B hml hv
  obtain ⟨rfl, hsz, hH, hKn⟩ := hv
  have hx := B.exec
  have hb := B.bytes
  have hr := B.returns
  have hts := atoms_spec (ws := wsX2_groupFreeFirst) B.pre
  have hown : s.vm.findClass RX2 = some m.cls := findClass_of_methodNamed B.named
  have hlocks := B.notSynchronized
  subst hsz
  have hA : ∀ q : Nat, s.heap.size ≤ q → wA loc sh s.heap.size q := fun q h => Or.inr h
  have hO : ∀ a, sh a ≠ 0 → wA loc sh s.heap.size (loc a) := fun a h => Or.inl ⟨a, h, rfl⟩
  have hS : va_S (wA loc sh s.heap.size) s.heap s.heap [] := va_S.rf
  obtain ⟨ls, hen, hl⟩ := wEntry m [wR loc 7] 3 (List.forall_mem_cons.mpr ⟨wR_cat _ _, fun _ h => absurd h List.not_mem_nil⟩) (Nat.le_of_ble_eq_true rfl)
  rw [hen]
  clear hen
  have hl : lv_has ls 3 [(0, wR loc 7)] := hl
  have k35 := hts (.fieldLink RX2 35 "CupByCup$Planner" "groupFreeAt" "[I") (List.mem_of_getElem? (i := 1) rfl)
  have iX2 : ∀ w ∈ wsX20, w ∈ wsX2_groupFreeFirst := fun w h => List.mem_cons_of_mem _ (List.mem_append_right _ h)
  unfold fX2_groupFreeFirst at hf
  refine lv_iconst (v := 0) hx hb dX2_groupFreeFirst_0 (by decide) ?_
  refine lv_istore_n (lv' := [(1, .int 0), (0, wR loc 7)]) hx hb dX2_groupFreeFirst_1 rfl hl (by decide) rfl (fun ls hl => ?_)
  refine lv_iconst (v := 1) hx hb dX2_groupFreeFirst_2 (by decide) ?_
  refine lv_istore_n (lv' := [(2, .int 1), (1, .int 0), (0, wR loc 7)]) hx hb dX2_groupFreeFirst_3 rfl hl (by decide) rfl (fun ls hl => ?_)
  obtain ⟨z7, hL4, hf⟩ := wBd_e hf
  have hk5 : ∀ (H : Heap) (locs : List Loc) (ls : Array Slot), wH D K loc sh ln iv rv H → va_S (wA loc sh s.heap.size) s.heap H locs → lv_has ls 3 [(1, .int z7)] → W p l e (headSpec wsX2_groupFreeFirst ({ frames := 0, cells := 0, slots := 0, locals := 0 })).room s m ([wR loc 7] : List Value).toArray below meth c H locs 0 0 (MQ below (wQi D K loc sh ln iv rv s.heap.size r') ([wR loc 7] : List Value).toArray s 0 0 (wA loc sh s.heap.size)) (F0 m 36 ls []) := by
    clear hL4 hl hS hH
    intro H locs ls hH hS hl
    refine lv_iload_n hx hb dX2_groupFreeFirst_36 rfl (lv_at hl 0 rfl) ?_
    cases hf
    exact W.iret hx hb hr (fun t ht hW => ⟨⟨_, (), rfl, rfl, by show wH _ _ _ _ _ _ _ t.heap; rw [ht]; exact hH⟩, hS.F ht⟩) hS.2.2 dX2_groupFreeFirst_37
  have lp6 : ∀ (n1 : Nat) (x2 : Int32) (x3 : Int32) (H : Heap) (locs : List Loc) (ls : Array Slot), fX2_groupFreeFirst_4 ng sh n1 iv rv x2 x3 = some z7 → wH D K loc sh ln iv rv H → va_S (wA loc sh s.heap.size) s.heap H locs → lv_has ls 3 [(0, wR loc 7), (1, .int x2), (2, .int x3)] → W p l e (headSpec wsX2_groupFreeFirst ({ frames := 0, cells := 0, slots := 0, locals := 0 })).room s m ([wR loc 7] : List Value).toArray below meth c H locs 0 0 (MQ below (wQi D K loc sh ln iv rv s.heap.size r') ([wR loc 7] : List Value).toArray s 0 0 (wA loc sh s.heap.size)) (F0 m 4 ls []) := by
    clear hf hl hS hH hL4
    intro n1
    induction n1 with
    | zero => intro x2 x3 H locs ls hf; cases hf
    | succ n1 ih =>
      intro x2 x3 H locs ls hf hH hS hl
      rw [fX2_groupFreeFirst_4.eq_2] at hf
      refine lv_iload_n hx hb dX2_groupFreeFirst_4 rfl (lv_at hl 2 rfl) ?_
      refine wald_n hx hb dX2_groupFreeFirst_5 rfl (lv_at hl 0 rfl) ?_
      refine wg (C := RX2) (T := TX2) (N := 7) (v := wR loc 12) hx hb hts iX2 hown hKn.1 hH (q := 7) (hB.1 7 3 (by decide)) (by decide) rfl rfl 4 (by decide) k35 rfl dX2_groupFreeFirst_6 ?_
      refine wal (kd := 7) (ki := 0) hx hb hKn.1 hH (hB.1 12 7 (by decide)) (by decide) rfl rfl rfl hB.2.2.2 dX2_groupFreeFirst_9 ?_
      refine lv_icmp_ge (tgt := 36) hx hb dX2_groupFreeFirst_10 (by decide) (fun c8 => ?_) (fun c8 => ?_)
      · have hf := wIt c8 hf
        cases hf
        exact hk5 _ _ _ hH hS (lv_sub hl [1] rfl)
      · have hf := wIf c8 hf
        refine wald_n hx hb dX2_groupFreeFirst_13 rfl (lv_at hl 0 rfl) ?_
        refine wg (C := RX2) (T := TX2) (N := 7) (v := wR loc 12) hx hb hts iX2 hown hKn.1 hH (q := 7) (hB.1 7 3 (by decide)) (by decide) rfl rfl 4 (by decide) k35 rfl dX2_groupFreeFirst_14 ?_
        refine lv_iload_n hx hb dX2_groupFreeFirst_17 rfl (lv_at hl 2 rfl) ?_
        obtain ⟨g9, hf⟩ := wGd_e hf
        refine wia hx hb hKn.1 hH (hB.1 12 7 (by decide)) hB.2.2.2 g9 dX2_groupFreeFirst_18 ?_
        refine wald_n hx hb dX2_groupFreeFirst_19 rfl (lv_at hl 0 rfl) ?_
        refine wg (C := RX2) (T := TX2) (N := 7) (v := wR loc 12) hx hb hts iX2 hown hKn.1 hH (q := 7) (hB.1 7 3 (by decide)) (by decide) rfl rfl 4 (by decide) k35 rfl dX2_groupFreeFirst_20 ?_
        refine lv_iload_n hx hb dX2_groupFreeFirst_23 rfl (lv_at hl 1 rfl) ?_
        obtain ⟨g10, hf⟩ := wGd_e hf
        refine wia hx hb hKn.1 hH (hB.1 12 7 (by decide)) hB.2.2.2 g10 dX2_groupFreeFirst_24 ?_
        refine lv_icmp_ge (tgt := 30) hx hb dX2_groupFreeFirst_25 (by decide) (fun c11 => ?_) (fun c11 => ?_)
        · have hf := wIt c11 hf
          refine lv_iinc (v := (x3 + 1)) (lv' := [(2, .int (x3 + 1)), (0, wR loc 7), (1, .int x2)]) hx hb dX2_groupFreeFirst_30 hl (k := 2) rfl rfl (by decide) rfl (fun ls hl => ?_)
          refine lv_goto (tgt := 4) hx hb dX2_groupFreeFirst_33 (by decide) ?_
          exact ih _ _ _ _ _ hf hH hS (lv_sub hl [1, 2, 0] rfl)
        · have hf := wIf c11 hf
          refine lv_iload_n hx hb dX2_groupFreeFirst_28 rfl (lv_at hl 2 rfl) ?_
          refine lv_istore_n (lv' := [(1, .int x3), (0, wR loc 7), (2, .int x3)]) hx hb dX2_groupFreeFirst_29 rfl hl (by decide) rfl (fun ls hl => ?_)
          refine lv_iinc (v := (x3 + 1)) (lv' := [(2, .int (x3 + 1)), (1, .int x3), (0, wR loc 7)]) hx hb dX2_groupFreeFirst_30 hl (k := 2) rfl rfl (by decide) rfl (fun ls hl => ?_)
          refine lv_goto (tgt := 4) hx hb dX2_groupFreeFirst_33 (by decide) ?_
          exact ih _ _ _ _ _ hf hH hS (lv_sub hl [2, 1, 0] rfl)
  exact lp6 wN _ _ _ _ _ hL4 hH hS (lv_sub hl [2, 1, 0] rfl)
noncomputable def fX2_nextToSteam_4 (ng : Nat) (sh : Nat → Nat) : Nat → wI → wJ → Int32 → Int32 → Option (Int32)
  | 0, _, _, _, _ => none
  | n + 1, iv, rv, x1, x2 => if (iv 7 5) ≤ x2 then some x1 else wGd (vp_in x2 5) (if (iv 11 x2.toNatClampNeg) = 0 then fX2_nextToSteam_4 ng sh n iv rv x1 (x2 + 1) else if x1 = (-1) then fX2_nextToSteam_4 ng sh n iv rv x2 (x2 + 1) else wGd (vp_in x1 5) (if (iv 10 x1.toNatClampNeg) ≤ (iv 10 x2.toNatClampNeg) then fX2_nextToSteam_4 ng sh n iv rv x1 (x2 + 1) else fX2_nextToSteam_4 ng sh n iv rv x2 (x2 + 1)))
noncomputable def fX2_nextToSteam (ng : Nat) (sh : Nat → Nat) (iv : wI) (rv : wJ) : Option (Int32) := wBd (fX2_nextToSteam_4 ng sh wN iv rv (-1) 0) (fun (z7 : Int32) => some z7)
set_option maxHeartbeats 4000000 in
set_option maxRecDepth 100000 in
theorem mtX2_nextToSteam (l : Launch) (D : va_G) (K : Nat → ClassId) (loc sh ln : Nat → Nat) (iv : wI) (rv : wJ) (sz : Nat) (ng : Nat) {r' : Int32} (hB : wBx ng sh ln) (hf : fX2_nextToSteam ng sh iv rv = some r') : Met l yX2_nextToSteam wsX2_nextToSteam ({ frames := 0, cells := 0, slots := 0, locals := 0 }) (wPc D K loc sh ln iv rv sz [wR loc 7]) (wQi D K loc sh ln iv rv sz r') 0 0 (wA loc sh sz) := by
  refine Met.ofW (cc := cX2_nextToSteam) (maxL := 3) (ret := (some .int)) (by decide) rfl ?_
  intro p e s m args below meth c s₁ B hml hv
  obtain ⟨rfl, hsz, hH, hKn⟩ := hv
  have hx := B.exec
  have hb := B.bytes
  have hr := B.returns
  have hts := atoms_spec (ws := wsX2_nextToSteam) B.pre
  have hown : s.vm.findClass RX2 = some m.cls := findClass_of_methodNamed B.named
  have hlocks := B.notSynchronized
  subst hsz
  have hA : ∀ q : Nat, s.heap.size ≤ q → wA loc sh s.heap.size q := fun q h => Or.inr h
  have hO : ∀ a, sh a ≠ 0 → wA loc sh s.heap.size (loc a) := fun a h => Or.inl ⟨a, h, rfl⟩
  have hS : va_S (wA loc sh s.heap.size) s.heap s.heap [] := va_S.rf
  obtain ⟨ls, hen, hl⟩ := wEntry m [wR loc 7] 3 (List.forall_mem_cons.mpr ⟨wR_cat _ _, fun _ h => absurd h List.not_mem_nil⟩) (Nat.le_of_ble_eq_true rfl)
  rw [hen]
  clear hen
  have hl : lv_has ls 3 [(0, wR loc 7)] := hl
  have k28 := hts (.fieldLink RX2 28 "CupByCup$Planner" "size" "I") (List.mem_of_getElem? (i := 1) rfl)
  have iX2 : ∀ w ∈ wsX20, w ∈ wsX2_nextToSteam := fun w h => List.mem_cons_of_mem _ (List.mem_append_right _ h)
  have k24 := hts (.fieldLink RX2 24 "CupByCup$Planner" "needsSteam" "[Z") (List.mem_of_getElem? (i := 2) rfl)
  have k21 := hts (.fieldLink RX2 21 "CupByCup$Planner" "brewedAt" "[I") (List.mem_of_getElem? (i := 3) rfl)
  unfold fX2_nextToSteam at hf
  refine lv_iconst (v := (-1)) hx hb dX2_nextToSteam_0 (by decide) ?_
  refine lv_istore_n (lv' := [(1, .int (-1)), (0, wR loc 7)]) hx hb dX2_nextToSteam_1 rfl hl (by decide) rfl (fun ls hl => ?_)
  refine lv_iconst (v := 0) hx hb dX2_nextToSteam_2 (by decide) ?_
  refine lv_istore_n (lv' := [(2, .int 0), (1, .int (-1)), (0, wR loc 7)]) hx hb dX2_nextToSteam_3 rfl hl (by decide) rfl (fun ls hl => ?_)
  obtain ⟨z7, hL4, hf⟩ := wBd_e hf
  have hk5 : ∀ (H : Heap) (locs : List Loc) (ls : Array Slot), wH D K loc sh ln iv rv H → va_S (wA loc sh s.heap.size) s.heap H locs → lv_has ls 3 [(1, .int z7)] → W p l e (headSpec wsX2_nextToSteam ({ frames := 0, cells := 0, slots := 0, locals := 0 })).room s m ([wR loc 7] : List Value).toArray below meth c H locs 0 0 (MQ below (wQi D K loc sh ln iv rv s.heap.size r') ([wR loc 7] : List Value).toArray s 0 0 (wA loc sh s.heap.size)) (F0 m 49 ls []) := by
    clear hL4 hl hS hH
    intro H locs ls hH hS hl
    refine lv_iload_n hx hb dX2_nextToSteam_49 rfl (lv_at hl 0 rfl) ?_
    cases hf
    exact W.iret hx hb hr (fun t ht hW => ⟨⟨_, (), rfl, rfl, by show wH _ _ _ _ _ _ _ t.heap; rw [ht]; exact hH⟩, hS.F ht⟩) hS.2.2 dX2_nextToSteam_50
  have lp6 : ∀ (n1 : Nat) (x2 : Int32) (x3 : Int32) (H : Heap) (locs : List Loc) (ls : Array Slot), fX2_nextToSteam_4 ng sh n1 iv rv x2 x3 = some z7 → wH D K loc sh ln iv rv H → va_S (wA loc sh s.heap.size) s.heap H locs → lv_has ls 3 [(0, wR loc 7), (1, .int x2), (2, .int x3)] → W p l e (headSpec wsX2_nextToSteam ({ frames := 0, cells := 0, slots := 0, locals := 0 })).room s m ([wR loc 7] : List Value).toArray below meth c H locs 0 0 (MQ below (wQi D K loc sh ln iv rv s.heap.size r') ([wR loc 7] : List Value).toArray s 0 0 (wA loc sh s.heap.size)) (F0 m 4 ls []) := by
    clear hf hl hS hH hL4
    intro n1
    induction n1 with
    | zero => intro x2 x3 H locs ls hf; cases hf
    | succ n1 ih =>
      intro x2 x3 H locs ls hf hH hS hl
      rw [fX2_nextToSteam_4.eq_2] at hf
      refine lv_iload_n hx hb dX2_nextToSteam_4 rfl (lv_at hl 2 rfl) ?_
      refine wald_n hx hb dX2_nextToSteam_5 rfl (lv_at hl 0 rfl) ?_
      refine wg (C := RX2) (T := TX2) (N := 7) (v := .int (iv 7 5)) hx hb hts iX2 hown hKn.1 hH (q := 7) (hB.1 7 3 (by decide)) (by decide) rfl rfl 5 (by decide) k28 rfl dX2_nextToSteam_6 ?_
      refine lv_icmp_ge (tgt := 49) hx hb dX2_nextToSteam_9 (by decide) (fun c8 => ?_) (fun c8 => ?_)
      · have hf := wIt c8 hf
        cases hf
        exact hk5 _ _ _ hH hS (lv_sub hl [1] rfl)
      · have hf := wIf c8 hf
        refine wald_n hx hb dX2_nextToSteam_12 rfl (lv_at hl 0 rfl) ?_
        refine wg (C := RX2) (T := TX2) (N := 7) (v := wR loc 11) hx hb hts iX2 hown hKn.1 hH (q := 7) (hB.1 7 3 (by decide)) (by decide) rfl rfl 3 (by decide) k24 rfl dX2_nextToSteam_13 ?_
        refine lv_iload_n hx hb dX2_nextToSteam_16 rfl (lv_at hl 2 rfl) ?_
        obtain ⟨g9, hf⟩ := wGd_e hf
        refine wza hx hb hKn.1 hH (hB.1 11 8 (by decide)) (hB.2.1 11 _ (by decide)) g9 dX2_nextToSteam_17 ?_
        refine lv_if_eq (tgt := 43) hx hb dX2_nextToSteam_18 (by decide) (fun c10 => ?_) (fun c10 => ?_)
        · have hf := wIt c10 hf
          refine lv_iinc (v := (x3 + 1)) (lv' := [(2, .int (x3 + 1)), (0, wR loc 7), (1, .int x2)]) hx hb dX2_nextToSteam_43 hl (k := 2) rfl rfl (by decide) rfl (fun ls hl => ?_)
          refine lv_goto (tgt := 4) hx hb dX2_nextToSteam_46 (by decide) ?_
          exact ih _ _ _ _ _ hf hH hS (lv_sub hl [1, 2, 0] rfl)
        · have hf := wIf c10 hf
          refine lv_iload_n hx hb dX2_nextToSteam_21 rfl (lv_at hl 1 rfl) ?_
          refine lv_iconst (v := (-1)) hx hb dX2_nextToSteam_22 (by decide) ?_
          refine lv_icmp_eq (tgt := 41) hx hb dX2_nextToSteam_23 (by decide) (fun c11 => ?_) (fun c11 => ?_)
          · have hf := wIt c11 hf
            refine lv_iload_n hx hb dX2_nextToSteam_41 rfl (lv_at hl 2 rfl) ?_
            refine lv_istore_n (lv' := [(1, .int x3), (0, wR loc 7), (2, .int x3)]) hx hb dX2_nextToSteam_42 rfl hl (by decide) rfl (fun ls hl => ?_)
            refine lv_iinc (v := (x3 + 1)) (lv' := [(2, .int (x3 + 1)), (1, .int x3), (0, wR loc 7)]) hx hb dX2_nextToSteam_43 hl (k := 2) rfl rfl (by decide) rfl (fun ls hl => ?_)
            refine lv_goto (tgt := 4) hx hb dX2_nextToSteam_46 (by decide) ?_
            exact ih _ _ _ _ _ hf hH hS (lv_sub hl [2, 1, 0] rfl)
          · have hf := wIf c11 hf
            refine wald_n hx hb dX2_nextToSteam_26 rfl (lv_at hl 0 rfl) ?_
            refine wg (C := RX2) (T := TX2) (N := 7) (v := wR loc 10) hx hb hts iX2 hown hKn.1 hH (q := 7) (hB.1 7 3 (by decide)) (by decide) rfl rfl 2 (by decide) k21 rfl dX2_nextToSteam_27 ?_
            refine lv_iload_n hx hb dX2_nextToSteam_30 rfl (lv_at hl 2 rfl) ?_
            refine wia hx hb hKn.1 hH (hB.1 10 7 (by decide)) (hB.2.1 10 _ (by decide)) g9 dX2_nextToSteam_31 ?_
            refine wald_n hx hb dX2_nextToSteam_32 rfl (lv_at hl 0 rfl) ?_
            refine wg (C := RX2) (T := TX2) (N := 7) (v := wR loc 10) hx hb hts iX2 hown hKn.1 hH (q := 7) (hB.1 7 3 (by decide)) (by decide) rfl rfl 2 (by decide) k21 rfl dX2_nextToSteam_33 ?_
            refine lv_iload_n hx hb dX2_nextToSteam_36 rfl (lv_at hl 1 rfl) ?_
            obtain ⟨g12, hf⟩ := wGd_e hf
            refine wia hx hb hKn.1 hH (hB.1 10 7 (by decide)) (hB.2.1 10 _ (by decide)) g12 dX2_nextToSteam_37 ?_
            refine lv_icmp_ge (tgt := 43) hx hb dX2_nextToSteam_38 (by decide) (fun c13 => ?_) (fun c13 => ?_)
            · have hf := wIt c13 hf
              refine lv_iinc (v := (x3 + 1)) (lv' := [(2, .int (x3 + 1)), (0, wR loc 7), (1, .int x2)]) hx hb dX2_nextToSteam_43 hl (k := 2) rfl rfl (by decide) rfl (fun ls hl => ?_)
              refine lv_goto (tgt := 4) hx hb dX2_nextToSteam_46 (by decide) ?_
              exact ih _ _ _ _ _ hf hH hS (lv_sub hl [1, 2, 0] rfl)
            · have hf := wIf c13 hf
              refine lv_iload_n hx hb dX2_nextToSteam_41 rfl (lv_at hl 2 rfl) ?_
              refine lv_istore_n (lv' := [(1, .int x3), (0, wR loc 7), (2, .int x3)]) hx hb dX2_nextToSteam_42 rfl hl (by decide) rfl (fun ls hl => ?_)
              refine lv_iinc (v := (x3 + 1)) (lv' := [(2, .int (x3 + 1)), (1, .int x3), (0, wR loc 7)]) hx hb dX2_nextToSteam_43 hl (k := 2) rfl rfl (by decide) rfl (fun ls hl => ?_)
              refine lv_goto (tgt := 4) hx hb dX2_nextToSteam_46 (by decide) ?_
              exact ih _ _ _ _ _ hf hH hS (lv_sub hl [2, 1, 0] rfl)
  exact lp6 wN _ _ _ _ _ hL4 hH hS (lv_sub hl [2, 1, 0] rfl)
noncomputable def fX2_sumOfSteamed_6 (ng : Nat) (sh : Nat → Nat) : Nat → wI → wJ → Int32 → Int32 → Int32 → Option (wI × Int32)
  | 0, _, _, _, _, _ => none
  | n + 1, iv, rv, x1, x2, x3 => if (iv 7 5) ≤ x3 then some (iv, x2) else wBd (fX2_nextToSteam ng sh iv rv) (fun (r2 : Int32) => if 0 ≤ r2 then wGd (vp_in r2 5) (wLt (wU iv 11 r2.toNatClampNeg (vp_nar .boolean 0)) (fun (iv6 : wI) => wGd (sh (rv 8 r2.toNatClampNeg) = 1) (wGd (sh (rv (rv 8 r2.toNatClampNeg) 1) = 4) (wLt (((if x1 < (iv6 10 r2.toNatClampNeg) then (iv6 10 r2.toNatClampNeg) else x1) + (iv6 (rv (rv 8 r2.toNatClampNeg) 1) 3))) (fun (y10 : Int32) => fX2_sumOfSteamed_6 ng sh n iv6 rv y10 (x2 + y10) (x3 + 1)))))) else some (iv, x2))
noncomputable def fX2_sumOfSteamed (ng : Nat) (sh : Nat → Nat) (iv : wI) (rv : wJ) : Option (wI × Int32) := fX2_sumOfSteamed_6 ng sh wN iv rv 0 0 0
set_option maxHeartbeats 4000000 in
set_option maxRecDepth 100000 in
theorem mtX2_sumOfSteamed (l : Launch) (D : va_G) (K : Nat → ClassId) (loc sh ln : Nat → Nat) (iv : wI) (rv : wJ) (sz : Nat) (ng : Nat) {iv' : wI} {r' : Int32} (hB : wBx ng sh ln) (hf : fX2_sumOfSteamed ng sh iv rv = some (iv', r')) : Met l yX2_sumOfSteamed wsX2_sumOfSteamed ({ frames := 1, cells := 0, slots := 0, locals := 22 }) (wPc D K loc sh ln iv rv sz [wR loc 7]) (wQi D K loc sh ln iv' rv sz r') 0 0 (wA loc sh sz) := by
  refine Met.ofW (cc := cX2_sumOfSteamed) (maxL := 5) (ret := (some .int)) (by decide) rfl ?_
  intro p e s m args below meth c s₁ B hml hv
  obtain ⟨rfl, hsz, hH, hKn⟩ := hv
  have hx := B.exec
  have hb := B.bytes
  have hr := B.returns
  have hts := atoms_spec (ws := wsX2_sumOfSteamed) B.pre
  have hown : s.vm.findClass RX2 = some m.cls := findClass_of_methodNamed B.named
  have hlocks := B.notSynchronized
  subst hsz
  have hA : ∀ q : Nat, s.heap.size ≤ q → wA loc sh s.heap.size q := fun q h => Or.inr h
  have hO : ∀ a, sh a ≠ 0 → wA loc sh s.heap.size (loc a) := fun a h => Or.inl ⟨a, h, rfl⟩
  have hS : va_S (wA loc sh s.heap.size) s.heap s.heap [] := va_S.rf
  obtain ⟨ls, hen, hl⟩ := wEntry m [wR loc 7] 5 (List.forall_mem_cons.mpr ⟨wR_cat _ _, fun _ h => absurd h List.not_mem_nil⟩) (Nat.le_of_ble_eq_true rfl)
  rw [hen]
  clear hen
  have hl : lv_has ls 5 [(0, wR loc 7)] := hl
  have k28 := hts (.fieldLink RX2 28 "CupByCup$Planner" "size" "I") (List.mem_of_getElem? (i := 1) rfl)
  have iX2 : ∀ w ∈ wsX20, w ∈ wsX2_sumOfSteamed := fun w h => List.mem_cons_of_mem _ (List.mem_append_left _ (List.mem_append_left _ (List.mem_append_right _ h)))
  have k24 := hts (.fieldLink RX2 24 "CupByCup$Planner" "needsSteam" "[Z") (List.mem_of_getElem? (i := 2) rfl)
  have k21 := hts (.fieldLink RX2 21 "CupByCup$Planner" "brewedAt" "[I") (List.mem_of_getElem? (i := 3) rfl)
  have k11 := hts (.fieldLink RX2 11 "CupByCup$Planner" "order" "[LCupByCup$Cup;") (List.mem_of_getElem? (i := 8) rfl)
  have k60 := hts (.fieldLink RX2 60 "CupByCup$Cup" "recipe" "LCupByCup$Recipe;") (List.mem_of_getElem? (i := 9) rfl)
  have iX0 : ∀ w ∈ wsX00, w ∈ wsX2_sumOfSteamed := fun w h => List.mem_cons_of_mem _ (List.mem_append_left _ (List.mem_append_right _ h))
  have k81 := hts (.fieldLink RX2 81 "CupByCup$Recipe" "steam" "I") (List.mem_of_getElem? (i := 10) rfl)
  have iX3 : ∀ w ∈ wsX30, w ∈ wsX2_sumOfSteamed := fun w h => List.mem_cons_of_mem _ (List.mem_append_right _ h)
  unfold fX2_sumOfSteamed at hf
  refine lv_iconst (v := 0) hx hb dX2_sumOfSteamed_0 (by decide) ?_
  refine lv_istore_n (lv' := [(1, .int 0), (0, wR loc 7)]) hx hb dX2_sumOfSteamed_1 rfl hl (by decide) rfl (fun ls hl => ?_)
  refine lv_iconst (v := 0) hx hb dX2_sumOfSteamed_2 (by decide) ?_
  refine lv_istore_n (lv' := [(2, .int 0), (1, .int 0), (0, wR loc 7)]) hx hb dX2_sumOfSteamed_3 rfl hl (by decide) rfl (fun ls hl => ?_)
  refine lv_iconst (v := 0) hx hb dX2_sumOfSteamed_4 (by decide) ?_
  refine lv_istore_n (lv' := [(3, .int 0), (2, .int 0), (1, .int 0), (0, wR loc 7)]) hx hb dX2_sumOfSteamed_5 rfl hl (by decide) rfl (fun ls hl => ?_)
  have lp8 : ∀ (n1 : Nat) (iv2 : wI) (x3 : Int32) (x4 : Int32) (x5 : Int32) (H : Heap) (locs : List Loc) (ls : Array Slot), fX2_sumOfSteamed_6 ng sh n1 iv2 rv x3 x4 x5 = some (iv', r') → wH D K loc sh ln iv2 rv H → va_S (wA loc sh s.heap.size) s.heap H locs → lv_has ls 5 [(0, wR loc 7), (1, .int x3), (2, .int x4), (3, .int x5)] → W p l e (headSpec wsX2_sumOfSteamed ({ frames := 1, cells := 0, slots := 0, locals := 22 })).room s m ([wR loc 7] : List Value).toArray below meth c H locs 0 0 (MQ below (wQi D K loc sh ln iv' rv s.heap.size r') ([wR loc 7] : List Value).toArray s 0 0 (wA loc sh s.heap.size)) (F0 m 6 ls []) := by
    clear hf hl hS hH
    intro n1
    induction n1 with
    | zero => intro iv2 x3 x4 x5 H locs ls hf; cases hf
    | succ n1 ih =>
      intro iv2 x3 x4 x5 H locs ls hf hH hS hl
      rw [fX2_sumOfSteamed_6.eq_2] at hf
      refine lv_iload_n hx hb dX2_sumOfSteamed_6 rfl (lv_at hl 3 rfl) ?_
      refine wald_n hx hb dX2_sumOfSteamed_7 rfl (lv_at hl 0 rfl) ?_
      refine wg (C := RX2) (T := TX2) (N := 7) (v := .int (iv2 7 5)) hx hb hts iX2 hown hKn.1 hH (q := 7) (hB.1 7 3 (by decide)) (by decide) rfl rfl 5 (by decide) k28 rfl dX2_sumOfSteamed_8 ?_
      refine lv_icmp_ge (tgt := 72) hx hb dX2_sumOfSteamed_11 (by decide) (fun c9 => ?_) (fun c9 => ?_)
      · have hf := wIt c9 hf
        refine lv_iload_n hx hb dX2_sumOfSteamed_72 rfl (lv_at hl 2 rfl) ?_
        cases hf
        exact W.iret hx hb hr (fun t ht hW => ⟨⟨_, (), rfl, rfl, by show wH _ _ _ _ _ _ _ t.heap; rw [ht]; exact hH⟩, hS.F ht⟩) hS.2.2 dX2_sumOfSteamed_73
      · have hf := wIf c9 hf
        refine wald_n hx hb dX2_sumOfSteamed_14 rfl (lv_at hl 0 rfl) ?_
        obtain ⟨r10, h11, hf⟩ := wBd_e hf
        refine wci (va_runV (As := []) (rest := []) ⟨hx, hb, hml, hown, hts⟩ (mtX2_nextToSteam l D K loc sh ln iv2 rv _ ng hB h11) (cwV 0 hts gX2_sumOfSteamed_X2_nextToSteam rfl rfl rfl (by decide +kernel) ⟨Nat.le_of_ble_eq_true rfl, Nat.le_of_ble_eq_true rfl⟩) (wPreV hKn hH (hB.1 7 3 (by decide)) (by decide) rfl rfl) rfl rfl hl.1 rfl (lv_room (Nat.le_of_ble_eq_true rfl)) dX2_sumOfSteamed_15 ⟨Nat.zero_le _, Nat.zero_le _⟩) hS hO hA (fun H locs hH hS => ?_)
        refine lv_istore (lv' := [(4, .int r10), (0, wR loc 7), (1, .int x3), (2, .int x4), (3, .int x5)]) hx hb dX2_sumOfSteamed_18 hl (by decide) rfl (fun ls hl => ?_)
        refine lv_iload hx hb dX2_sumOfSteamed_20 (lv_at hl 0 rfl) ?_
        refine lv_if_ge (tgt := 28) hx hb dX2_sumOfSteamed_22 (by decide) (fun c12 => ?_) (fun c12 => ?_)
        · have hf := wIt c12 hf
          refine wald_n hx hb dX2_sumOfSteamed_28 rfl (lv_at hl 1 rfl) ?_
          refine wg (C := RX2) (T := TX2) (N := 7) (v := wR loc 11) hx hb hts iX2 hown hKn.1 hH (q := 7) (hB.1 7 3 (by decide)) (by decide) rfl rfl 3 (by decide) k24 rfl dX2_sumOfSteamed_29 ?_
          refine lv_iload hx hb dX2_sumOfSteamed_32 (lv_at hl 0 rfl) ?_
          refine lv_iconst (v := 0) hx hb dX2_sumOfSteamed_34 (by decide) ?_
          obtain ⟨g13, hf⟩ := wGd_e hf
          obtain ⟨iv14, e15, hf⟩ := wLt_e hf
          refine wzs hx hb hKn.1 hH hO hS (hB.1 11 8 (by decide)) (hB.2.1 11 _ (by decide)) g13 dX2_sumOfSteamed_35 (fun H locs hH hS => ?_)
          rw [← e15] at hH
          refine lv_iload_n hx hb dX2_sumOfSteamed_36 rfl (lv_at hl 2 rfl) ?_
          refine wald_n hx hb dX2_sumOfSteamed_37 rfl (lv_at hl 1 rfl) ?_
          refine wg (C := RX2) (T := TX2) (N := 7) (v := wR loc 10) hx hb hts iX2 hown hKn.1 hH (q := 7) (hB.1 7 3 (by decide)) (by decide) rfl rfl 2 (by decide) k21 rfl dX2_sumOfSteamed_38 ?_
          refine lv_iload hx hb dX2_sumOfSteamed_41 (lv_at hl 0 rfl) ?_
          refine wia hx hb hKn.1 hH (hB.1 10 7 (by decide)) (hB.2.1 10 _ (by decide)) g13 dX2_sumOfSteamed_43 ?_
          refine va_mmax hx hb (hml.trans hl.1.symm) hown (hts (.methodLink RX2 72 Lib.Math.max.name) (List.mem_of_getElem? (i := 4) rfl)) (hts (.static Lib.Math.max.name) (List.mem_of_getElem? (i := 5) rfl)) (hts (.initialized "java/lang/Math") (List.mem_of_getElem? (i := 6) rfl)) (hts (.code Lib.Math.max.name Lib.Math.max.code 2 (some .int)) (List.mem_of_getElem? (i := 7) rfl)) (Nat.le_of_ble_eq_true rfl) (Nat.le_of_ble_eq_true rfl) (Nat.zero_le _) (Nat.zero_le _) dX2_sumOfSteamed_44 ?_
          refine wald_n hx hb dX2_sumOfSteamed_47 rfl (lv_at hl 1 rfl) ?_
          refine wg (C := RX2) (T := TX2) (N := 7) (v := wR loc 8) hx hb hts iX2 hown hKn.1 hH (q := 7) (hB.1 7 3 (by decide)) (by decide) rfl rfl 0 (by decide) k11 rfl dX2_sumOfSteamed_48 ?_
          refine lv_iload hx hb dX2_sumOfSteamed_51 (lv_at hl 0 rfl) ?_
          refine waa (kd := 9) (ki := 2) hx hb hKn.1 hH (hB.1 8 9 (by decide)) (by decide) rfl rfl (hB.2.1 8 _ (by decide)) g13 dX2_sumOfSteamed_53 ?_
          obtain ⟨g16, hf⟩ := wGd_e hf
          refine wg (C := RX0) (T := TX0) (N := 11) (v := wR loc (rv (rv 8 r10.toNatClampNeg) 1)) hx hb hts iX0 hown hKn.1 hH (q := (rv 8 r10.toNatClampNeg)) g16 (by decide) rfl rfl 1 (by decide) k60 rfl dX2_sumOfSteamed_54 ?_
          obtain ⟨g17, hf⟩ := wGd_e hf
          refine wg (C := RX3) (T := TX3) (N := 6) (v := .int (iv14 (rv (rv 8 r10.toNatClampNeg) 1) 3)) hx hb hts iX3 hown hKn.1 hH (q := (rv (rv 8 r10.toNatClampNeg) 1)) g17 (by decide) rfl rfl 3 (by decide) k81 rfl dX2_sumOfSteamed_57 ?_
          refine lv_iadd hx hb dX2_sumOfSteamed_60 ?_
          obtain ⟨y18, e19, hf⟩ := wLt_e hf
          refine wInt e19 ?_
          refine lv_istore_n (lv' := [(1, .int y18), (4, .int r10), (0, wR loc 7), (2, .int x4), (3, .int x5)]) hx hb dX2_sumOfSteamed_61 rfl hl (by decide) rfl (fun ls hl => ?_)
          refine lv_iload_n hx hb dX2_sumOfSteamed_62 rfl (lv_at hl 3 rfl) ?_
          refine lv_iload_n hx hb dX2_sumOfSteamed_63 rfl (lv_at hl 0 rfl) ?_
          refine lv_iadd hx hb dX2_sumOfSteamed_64 ?_
          refine lv_istore_n (lv' := [(2, .int (x4 + y18)), (1, .int y18), (4, .int r10), (0, wR loc 7), (3, .int x5)]) hx hb dX2_sumOfSteamed_65 rfl hl (by decide) rfl (fun ls hl => ?_)
          refine lv_iinc (v := (x5 + 1)) (lv' := [(3, .int (x5 + 1)), (2, .int (x4 + y18)), (1, .int y18), (4, .int r10), (0, wR loc 7)]) hx hb dX2_sumOfSteamed_66 hl (k := 4) rfl rfl (by decide) rfl (fun ls hl => ?_)
          refine lv_goto (tgt := 6) hx hb dX2_sumOfSteamed_69 (by decide) ?_
          exact ih _ _ _ _ _ _ _ hf hH hS (lv_sub hl [4, 2, 1, 0] rfl)
        · have hf := wIf c12 hf
          refine lv_goto (tgt := 72) hx hb dX2_sumOfSteamed_25 (by decide) ?_
          refine lv_iload_n hx hb dX2_sumOfSteamed_72 rfl (lv_at hl 3 rfl) ?_
          cases hf
          exact W.iret hx hb hr (fun t ht hW => ⟨⟨_, (), rfl, rfl, by show wH _ _ _ _ _ _ _ t.heap; rw [ht]; exact hH⟩, hS.F ht⟩) hS.2.2 dX2_sumOfSteamed_73
  exact lp8 wN _ _ _ _ _ _ _ hf hH hS (lv_sub hl [3, 2, 1, 0] rfl)
noncomputable def fX2_sumOfOrder_2 (ng : Nat) (sh : Nat → Nat) : Nat → wI → wJ → Int32 → Option (wI)
  | 0, _, _, _ => none
  | n + 1, iv, rv, x1 => if (nI ng) ≤ x1 then some iv else wGd (vp_in x1 ng) (wLt (wU iv 12 x1.toNatClampNeg 0) (fun (iv3 : wI) => fX2_sumOfOrder_2 ng sh n iv3 rv (x1 + 1)))
noncomputable def fX2_sumOfOrder_30 (ng : Nat) (sh : Nat → Nat) : Nat → wI → wJ → Int32 → Int32 → Int32 → Option (wI × Int32)
  | 0, _, _, _, _, _ => none
  | n + 1, iv, rv, x1, x2, x3 => if (iv 7 5) ≤ x3 then some (iv, x2) else wGd (vp_in x3 5) (wGd (sh (rv 8 x3.toNatClampNeg) = 1) (wGd (sh (rv (rv 8 x3.toNatClampNeg) 1) = 4) (wLt ((x1 + (iv (rv (rv 8 x3.toNatClampNeg) 1) 1))) (fun (y16 : Int32) => wBd (fX2_groupFreeFirst ng sh iv rv) (fun (r18 : Int32) => wGd (vp_in r18 ng) (wLt (wU iv 10 x3.toNatClampNeg ((if y16 < (iv 12 r18.toNatClampNeg) then (iv 12 r18.toNatClampNeg) else y16) + (iv (rv (rv 8 x3.toNatClampNeg) 1) 2))) (fun (iv21 : wI) => wLt (wU iv21 12 r18.toNatClampNeg (iv21 10 x3.toNatClampNeg)) (fun (iv23 : wI) => wBd (if (iv23 (rv (rv 8 x3.toNatClampNeg) 1) 3) ≤ 0 then some (0 : Int32) else some (1 : Int32)) (fun (z26 : Int32) => wLt (wU iv23 11 x3.toNatClampNeg (vp_nar .boolean z26)) (fun (iv29 : wI) => if (iv29 11 x3.toNatClampNeg) = 0 then wLt ((x2 + (iv29 10 x3.toNatClampNeg))) (fun (y32 : Int32) => fX2_sumOfOrder_30 ng sh n iv29 rv y16 y32 (x3 + 1)) else fX2_sumOfOrder_30 ng sh n iv29 rv y16 x2 (x3 + 1)))))))))))
noncomputable def fX2_sumOfOrder (ng : Nat) (sh : Nat → Nat) (iv : wI) (rv : wJ) : Option (wI × Int32) := wBd (fX2_sumOfOrder_2 ng sh wN iv rv 0) (fun (iv7 : wI) => wB2 (fX2_sumOfOrder_30 ng sh wN iv7 rv 0 0 0) (fun (iv20 : wI) (z21 : Int32) => wB2 (fX2_sumOfSteamed ng sh iv20 rv) (fun (iv44 : wI) (r45 : Int32) => some (iv44, (z21 + r45)))))
set_option maxHeartbeats 4000000 in
set_option maxRecDepth 100000 in
theorem mtX2_sumOfOrder (l : Launch) (D : va_G) (K : Nat → ClassId) (loc sh ln : Nat → Nat) (iv : wI) (rv : wJ) (sz : Nat) (ng : Nat) {iv' : wI} {r' : Int32} (hB : wBx ng sh ln) (hf : fX2_sumOfOrder ng sh iv rv = some (iv', r')) : Met l yX2_sumOfOrder wsX2_sumOfOrder ({ frames := 2, cells := 0, slots := 0, locals := 46 }) (wPc D K loc sh ln iv rv sz [wR loc 7]) (wQi D K loc sh ln iv' rv sz r') 0 0 (wA loc sh sz) := by
  refine Met.ofW (cc := cX2_sumOfOrder) (maxL := 6) (ret := (some .int)) (by decide) rfl ?_
  intro p e s m args below meth c s₁ B hml hv
  obtain ⟨rfl, hsz, hH, hKn⟩ := hv
  have hx := B.exec
  have hb := B.bytes
  have hr := B.returns
  have hts := atoms_spec (ws := wsX2_sumOfOrder) B.pre
  have hown : s.vm.findClass RX2 = some m.cls := findClass_of_methodNamed B.named
  have hlocks := B.notSynchronized
  subst hsz
  have hA : ∀ q : Nat, s.heap.size ≤ q → wA loc sh s.heap.size q := fun q h => Or.inr h
  have hO : ∀ a, sh a ≠ 0 → wA loc sh s.heap.size (loc a) := fun a h => Or.inl ⟨a, h, rfl⟩
  have hS : va_S (wA loc sh s.heap.size) s.heap s.heap [] := va_S.rf
  obtain ⟨ls, hen, hl⟩ := wEntry m [wR loc 7] 6 (List.forall_mem_cons.mpr ⟨wR_cat _ _, fun _ h => absurd h List.not_mem_nil⟩) (Nat.le_of_ble_eq_true rfl)
  rw [hen]
  clear hen
  have hl : lv_has ls 6 [(0, wR loc 7)] := hl
  have k35 := hts (.fieldLink RX2 35 "CupByCup$Planner" "groupFreeAt" "[I") (List.mem_of_getElem? (i := 1) rfl)
  have iX2 : ∀ w ∈ wsX20, w ∈ wsX2_sumOfOrder := fun w h => List.mem_cons_of_mem _ (List.mem_append_left _ (List.mem_append_left _ (List.mem_append_right _ h)))
  have k28 := hts (.fieldLink RX2 28 "CupByCup$Planner" "size" "I") (List.mem_of_getElem? (i := 2) rfl)
  have k11 := hts (.fieldLink RX2 11 "CupByCup$Planner" "order" "[LCupByCup$Cup;") (List.mem_of_getElem? (i := 3) rfl)
  have k60 := hts (.fieldLink RX2 60 "CupByCup$Cup" "recipe" "LCupByCup$Recipe;") (List.mem_of_getElem? (i := 4) rfl)
  have iX0 : ∀ w ∈ wsX00, w ∈ wsX2_sumOfOrder := fun w h => List.mem_cons_of_mem _ (List.mem_append_left _ (List.mem_append_right _ h))
  have k64 := hts (.fieldLink RX2 64 "CupByCup$Recipe" "grind" "I") (List.mem_of_getElem? (i := 5) rfl)
  have iX3 : ∀ w ∈ wsX30, w ∈ wsX2_sumOfOrder := fun w h => List.mem_cons_of_mem _ (List.mem_append_right _ h)
  have k21 := hts (.fieldLink RX2 21 "CupByCup$Planner" "brewedAt" "[I") (List.mem_of_getElem? (i := 6) rfl)
  have k78 := hts (.fieldLink RX2 78 "CupByCup$Recipe" "brew" "I") (List.mem_of_getElem? (i := 11) rfl)
  have k24 := hts (.fieldLink RX2 24 "CupByCup$Planner" "needsSteam" "[Z") (List.mem_of_getElem? (i := 12) rfl)
  have k81 := hts (.fieldLink RX2 81 "CupByCup$Recipe" "steam" "I") (List.mem_of_getElem? (i := 13) rfl)
  unfold fX2_sumOfOrder at hf
  refine lv_iconst (v := 0) hx hb dX2_sumOfOrder_0 (by decide) ?_
  refine lv_istore_n (lv' := [(1, .int 0), (0, wR loc 7)]) hx hb dX2_sumOfOrder_1 rfl hl (by decide) rfl (fun ls hl => ?_)
  obtain ⟨iv7, hL4, hf⟩ := wBd_e hf
  have hk5 : ∀ (H : Heap) (locs : List Loc) (ls : Array Slot), wH D K loc sh ln iv7 rv H → va_S (wA loc sh s.heap.size) s.heap H locs → lv_has ls 6 [(0, wR loc 7)] → W p l e (headSpec wsX2_sumOfOrder ({ frames := 2, cells := 0, slots := 0, locals := 46 })).room s m ([wR loc 7] : List Value).toArray below meth c H locs 0 0 (MQ below (wQi D K loc sh ln iv' rv s.heap.size r') ([wR loc 7] : List Value).toArray s 0 0 (wA loc sh s.heap.size)) (F0 m 24 ls []) := by
    clear hL4 hl hS hH
    intro H locs ls hH hS hl
    refine lv_iconst (v := 0) hx hb dX2_sumOfOrder_24 (by decide) ?_
    refine lv_istore_n (lv' := [(1, .int 0), (0, wR loc 7)]) hx hb dX2_sumOfOrder_25 rfl hl (by decide) rfl (fun ls hl => ?_)
    refine lv_iconst (v := 0) hx hb dX2_sumOfOrder_26 (by decide) ?_
    refine lv_istore_n (lv' := [(2, .int 0), (1, .int 0), (0, wR loc 7)]) hx hb dX2_sumOfOrder_27 rfl hl (by decide) rfl (fun ls hl => ?_)
    refine lv_iconst (v := 0) hx hb dX2_sumOfOrder_28 (by decide) ?_
    refine lv_istore_n (lv' := [(3, .int 0), (2, .int 0), (1, .int 0), (0, wR loc 7)]) hx hb dX2_sumOfOrder_29 rfl hl (by decide) rfl (fun ls hl => ?_)
    obtain ⟨iv20, z21, hL17, hf⟩ := wB2_e hf
    have hk18 : ∀ (H : Heap) (locs : List Loc) (ls : Array Slot), wH D K loc sh ln iv20 rv H → va_S (wA loc sh s.heap.size) s.heap H locs → lv_has ls 6 [(0, wR loc 7), (2, .int z21)] → W p l e (headSpec wsX2_sumOfOrder ({ frames := 2, cells := 0, slots := 0, locals := 46 })).room s m ([wR loc 7] : List Value).toArray below meth c H locs 0 0 (MQ below (wQi D K loc sh ln iv' rv s.heap.size r') ([wR loc 7] : List Value).toArray s 0 0 (wA loc sh s.heap.size)) (F0 m 142 ls []) := by
      clear hL17 hl hS hH
      intro H locs ls hH hS hl
      refine lv_iload_n hx hb dX2_sumOfOrder_142 rfl (lv_at hl 1 rfl) ?_
      refine wald_n hx hb dX2_sumOfOrder_143 rfl (lv_at hl 0 rfl) ?_
      obtain ⟨iv44, r45, h46, hf⟩ := wB2_e hf
      refine wci (va_runV (As := []) (rest := [.int z21]) ⟨hx, hb, hml, hown, hts⟩ (mtX2_sumOfSteamed l D K loc sh ln iv20 rv _ ng hB h46) (cwV 0 hts gX2_sumOfOrder_X2_sumOfSteamed rfl rfl rfl (by decide +kernel) ⟨Nat.le_of_ble_eq_true rfl, Nat.le_of_ble_eq_true rfl⟩) (wPreV hKn hH (hB.1 7 3 (by decide)) (by decide) rfl rfl) rfl rfl hl.1 rfl (lv_room (Nat.le_of_ble_eq_true rfl)) dX2_sumOfOrder_144 ⟨Nat.zero_le _, Nat.zero_le _⟩) hS hO hA (fun H locs hH hS => ?_)
      refine lv_iadd hx hb dX2_sumOfOrder_147 ?_
      cases hf
      exact W.iret hx hb hr (fun t ht hW => ⟨⟨_, (), rfl, rfl, by show wH _ _ _ _ _ _ _ t.heap; rw [ht]; exact hH⟩, hS.F ht⟩) hS.2.2 dX2_sumOfOrder_148
    have lp19 : ∀ (n12 : Nat) (iv13 : wI) (x14 : Int32) (x15 : Int32) (x16 : Int32) (H : Heap) (locs : List Loc) (ls : Array Slot), fX2_sumOfOrder_30 ng sh n12 iv13 rv x14 x15 x16 = some (iv20, z21) → wH D K loc sh ln iv13 rv H → va_S (wA loc sh s.heap.size) s.heap H locs → lv_has ls 6 [(0, wR loc 7), (1, .int x14), (2, .int x15), (3, .int x16)] → W p l e (headSpec wsX2_sumOfOrder ({ frames := 2, cells := 0, slots := 0, locals := 46 })).room s m ([wR loc 7] : List Value).toArray below meth c H locs 0 0 (MQ below (wQi D K loc sh ln iv' rv s.heap.size r') ([wR loc 7] : List Value).toArray s 0 0 (wA loc sh s.heap.size)) (F0 m 30 ls []) := by
      clear hf hl hS hH hL17
      intro n12
      induction n12 with
      | zero => intro iv13 x14 x15 x16 H locs ls hf; cases hf
      | succ n12 ih =>
        intro iv13 x14 x15 x16 H locs ls hf hH hS hl
        rw [fX2_sumOfOrder_30.eq_2] at hf
        refine lv_iload_n hx hb dX2_sumOfOrder_30 rfl (lv_at hl 3 rfl) ?_
        refine wald_n hx hb dX2_sumOfOrder_31 rfl (lv_at hl 0 rfl) ?_
        refine wg (C := RX2) (T := TX2) (N := 7) (v := .int (iv13 7 5)) hx hb hts iX2 hown hKn.1 hH (q := 7) (hB.1 7 3 (by decide)) (by decide) rfl rfl 5 (by decide) k28 rfl dX2_sumOfOrder_32 ?_
        refine lv_icmp_ge (tgt := 142) hx hb dX2_sumOfOrder_35 (by decide) (fun c22 => ?_) (fun c22 => ?_)
        · have hf := wIt c22 hf
          cases hf
          exact hk18 _ _ _ hH hS (lv_sub hl [0, 2] rfl)
        · have hf := wIf c22 hf
          refine wald_n hx hb dX2_sumOfOrder_38 rfl (lv_at hl 0 rfl) ?_
          refine wg (C := RX2) (T := TX2) (N := 7) (v := wR loc 8) hx hb hts iX2 hown hKn.1 hH (q := 7) (hB.1 7 3 (by decide)) (by decide) rfl rfl 0 (by decide) k11 rfl dX2_sumOfOrder_39 ?_
          refine lv_iload_n hx hb dX2_sumOfOrder_42 rfl (lv_at hl 3 rfl) ?_
          obtain ⟨g23, hf⟩ := wGd_e hf
          refine waa (kd := 9) (ki := 2) hx hb hKn.1 hH (hB.1 8 9 (by decide)) (by decide) rfl rfl (hB.2.1 8 _ (by decide)) g23 dX2_sumOfOrder_43 ?_
          obtain ⟨g24, hf⟩ := wGd_e hf
          refine wg (C := RX0) (T := TX0) (N := 11) (v := wR loc (rv (rv 8 x16.toNatClampNeg) 1)) hx hb hts iX0 hown hKn.1 hH (q := (rv 8 x16.toNatClampNeg)) g24 (by decide) rfl rfl 1 (by decide) k60 rfl dX2_sumOfOrder_44 ?_
          refine wast (lv' := [(4, wR loc (rv (rv 8 x16.toNatClampNeg) 1)), (0, wR loc 7), (1, .int x14), (2, .int x15), (3, .int x16)]) hx hb dX2_sumOfOrder_47 hl (by decide) rfl (fun ls hl => ?_)
          refine lv_iload_n hx hb dX2_sumOfOrder_49 rfl (lv_at hl 2 rfl) ?_
          refine wald hx hb dX2_sumOfOrder_50 (lv_at hl 0 rfl) ?_
          obtain ⟨g25, hf⟩ := wGd_e hf
          refine wg (C := RX3) (T := TX3) (N := 6) (v := .int (iv13 (rv (rv 8 x16.toNatClampNeg) 1) 1)) hx hb hts iX3 hown hKn.1 hH (q := (rv (rv 8 x16.toNatClampNeg) 1)) g25 (by decide) rfl rfl 1 (by decide) k64 rfl dX2_sumOfOrder_52 ?_
          refine lv_iadd hx hb dX2_sumOfOrder_55 ?_
          obtain ⟨y26, e27, hf⟩ := wLt_e hf
          refine wInt e27 ?_
          refine lv_istore_n (lv' := [(1, .int y26), (4, wR loc (rv (rv 8 x16.toNatClampNeg) 1)), (0, wR loc 7), (2, .int x15), (3, .int x16)]) hx hb dX2_sumOfOrder_56 rfl hl (by decide) rfl (fun ls hl => ?_)
          refine wald_n hx hb dX2_sumOfOrder_57 rfl (lv_at hl 2 rfl) ?_
          obtain ⟨r28, h29, hf⟩ := wBd_e hf
          refine wci (va_runV (As := []) (rest := []) ⟨hx, hb, hml, hown, hts⟩ (mtX2_groupFreeFirst l D K loc sh ln iv13 rv _ ng hB h29) (cwV 0 hts gX2_sumOfOrder_X2_groupFreeFirst rfl rfl rfl (by decide +kernel) ⟨Nat.le_of_ble_eq_true rfl, Nat.le_of_ble_eq_true rfl⟩) (wPreV hKn hH (hB.1 7 3 (by decide)) (by decide) rfl rfl) rfl rfl hl.1 rfl (lv_room (Nat.le_of_ble_eq_true rfl)) dX2_sumOfOrder_58 ⟨Nat.zero_le _, Nat.zero_le _⟩) hS hO hA (fun H locs hH hS => ?_)
          refine lv_istore (lv' := [(5, .int r28), (1, .int y26), (4, wR loc (rv (rv 8 x16.toNatClampNeg) 1)), (0, wR loc 7), (2, .int x15), (3, .int x16)]) hx hb dX2_sumOfOrder_61 hl (by decide) (by simp [wR_cat]) (fun ls hl => ?_)
          refine wald_n hx hb dX2_sumOfOrder_63 rfl (lv_at hl 3 rfl) ?_
          refine wg (C := RX2) (T := TX2) (N := 7) (v := wR loc 10) hx hb hts iX2 hown hKn.1 hH (q := 7) (hB.1 7 3 (by decide)) (by decide) rfl rfl 2 (by decide) k21 rfl dX2_sumOfOrder_64 ?_
          refine lv_iload_n hx hb dX2_sumOfOrder_67 rfl (lv_at hl 5 rfl) ?_
          refine lv_iload_n hx hb dX2_sumOfOrder_68 rfl (lv_at hl 1 rfl) ?_
          refine wald_n hx hb dX2_sumOfOrder_69 rfl (lv_at hl 3 rfl) ?_
          refine wg (C := RX2) (T := TX2) (N := 7) (v := wR loc 12) hx hb hts iX2 hown hKn.1 hH (q := 7) (hB.1 7 3 (by decide)) (by decide) rfl rfl 4 (by decide) k35 rfl dX2_sumOfOrder_70 ?_
          refine lv_iload hx hb dX2_sumOfOrder_73 (lv_at hl 0 rfl) ?_
          obtain ⟨g30, hf⟩ := wGd_e hf
          refine wia hx hb hKn.1 hH (hB.1 12 7 (by decide)) hB.2.2.2 g30 dX2_sumOfOrder_75 ?_
          refine va_mmax hx hb (hml.trans hl.1.symm) hown (hts (.methodLink RX2 72 Lib.Math.max.name) (List.mem_of_getElem? (i := 7) rfl)) (hts (.static Lib.Math.max.name) (List.mem_of_getElem? (i := 8) rfl)) (hts (.initialized "java/lang/Math") (List.mem_of_getElem? (i := 9) rfl)) (hts (.code Lib.Math.max.name Lib.Math.max.code 2 (some .int)) (List.mem_of_getElem? (i := 10) rfl)) (Nat.le_of_ble_eq_true rfl) (Nat.le_of_ble_eq_true rfl) (Nat.zero_le _) (Nat.zero_le _) dX2_sumOfOrder_76 ?_
          refine wald hx hb dX2_sumOfOrder_79 (lv_at hl 2 rfl) ?_
          refine wg (C := RX3) (T := TX3) (N := 6) (v := .int (iv13 (rv (rv 8 x16.toNatClampNeg) 1) 2)) hx hb hts iX3 hown hKn.1 hH (q := (rv (rv 8 x16.toNatClampNeg) 1)) g25 (by decide) rfl rfl 2 (by decide) k78 rfl dX2_sumOfOrder_81 ?_
          refine lv_iadd hx hb dX2_sumOfOrder_84 ?_
          obtain ⟨iv31, e32, hf⟩ := wLt_e hf
          refine wis hx hb hKn.1 hH hO hS (hB.1 10 7 (by decide)) (hB.2.1 10 _ (by decide)) g23 dX2_sumOfOrder_85 (fun H locs hH hS => ?_)
          rw [← e32] at hH
          refine wald_n hx hb dX2_sumOfOrder_86 rfl (lv_at hl 3 rfl) ?_
          refine wg (C := RX2) (T := TX2) (N := 7) (v := wR loc 12) hx hb hts iX2 hown hKn.1 hH (q := 7) (hB.1 7 3 (by decide)) (by decide) rfl rfl 4 (by decide) k35 rfl dX2_sumOfOrder_87 ?_
          refine lv_iload hx hb dX2_sumOfOrder_90 (lv_at hl 0 rfl) ?_
          refine wald_n hx hb dX2_sumOfOrder_92 rfl (lv_at hl 3 rfl) ?_
          refine wg (C := RX2) (T := TX2) (N := 7) (v := wR loc 10) hx hb hts iX2 hown hKn.1 hH (q := 7) (hB.1 7 3 (by decide)) (by decide) rfl rfl 2 (by decide) k21 rfl dX2_sumOfOrder_93 ?_
          refine lv_iload_n hx hb dX2_sumOfOrder_96 rfl (lv_at hl 5 rfl) ?_
          refine wia hx hb hKn.1 hH (hB.1 10 7 (by decide)) (hB.2.1 10 _ (by decide)) g23 dX2_sumOfOrder_97 ?_
          obtain ⟨iv33, e34, hf⟩ := wLt_e hf
          refine wis hx hb hKn.1 hH hO hS (hB.1 12 7 (by decide)) hB.2.2.2 g30 dX2_sumOfOrder_98 (fun H locs hH hS => ?_)
          rw [← e34] at hH
          refine wald_n hx hb dX2_sumOfOrder_99 rfl (lv_at hl 3 rfl) ?_
          refine wg (C := RX2) (T := TX2) (N := 7) (v := wR loc 11) hx hb hts iX2 hown hKn.1 hH (q := 7) (hB.1 7 3 (by decide)) (by decide) rfl rfl 3 (by decide) k24 rfl dX2_sumOfOrder_100 ?_
          refine lv_iload_n hx hb dX2_sumOfOrder_103 rfl (lv_at hl 5 rfl) ?_
          refine wald hx hb dX2_sumOfOrder_104 (lv_at hl 2 rfl) ?_
          refine wg (C := RX3) (T := TX3) (N := 6) (v := .int (iv33 (rv (rv 8 x16.toNatClampNeg) 1) 3)) hx hb hts iX3 hown hKn.1 hH (q := (rv (rv 8 x16.toNatClampNeg) 1)) g25 (by decide) rfl rfl 3 (by decide) k81 rfl dX2_sumOfOrder_106 ?_
          obtain ⟨z36, hv37, hf⟩ := wBd_e hf
          have hj38 : ∀ (H : Heap) (locs : List Loc) (ls : Array Slot), wH D K loc sh ln iv33 rv H → va_S (wA loc sh s.heap.size) s.heap H locs → lv_has ls 6 [(0, wR loc 7), (1, .int y26), (2, .int x15), (3, .int x16)] → W p l e (headSpec wsX2_sumOfOrder ({ frames := 2, cells := 0, slots := 0, locals := 46 })).room s m ([wR loc 7] : List Value).toArray below meth c H locs 0 0 (MQ below (wQi D K loc sh ln iv' rv s.heap.size r') ([wR loc 7] : List Value).toArray s 0 0 (wA loc sh s.heap.size)) (F0 m 117 ls [.int z36, .int x16, wR loc 11]) := by
            intro H locs ls hH hS hl
            obtain ⟨iv39, e40, hf⟩ := wLt_e hf
            refine wzs hx hb hKn.1 hH hO hS (hB.1 11 8 (by decide)) (hB.2.1 11 _ (by decide)) g23 dX2_sumOfOrder_117 (fun H locs hH hS => ?_)
            rw [← e40] at hH
            refine wald_n hx hb dX2_sumOfOrder_118 rfl (lv_at hl 0 rfl) ?_
            refine wg (C := RX2) (T := TX2) (N := 7) (v := wR loc 11) hx hb hts iX2 hown hKn.1 hH (q := 7) (hB.1 7 3 (by decide)) (by decide) rfl rfl 3 (by decide) k24 rfl dX2_sumOfOrder_119 ?_
            refine lv_iload_n hx hb dX2_sumOfOrder_122 rfl (lv_at hl 3 rfl) ?_
            refine wza hx hb hKn.1 hH (hB.1 11 8 (by decide)) (hB.2.1 11 _ (by decide)) g23 dX2_sumOfOrder_123 ?_
            refine lv_if_ne (tgt := 136) hx hb dX2_sumOfOrder_124 (by decide) (fun c41 => ?_) (fun c41 => ?_)
            · have hf := wIf c41 hf
              refine lv_iinc (v := (x16 + 1)) (lv' := [(3, .int (x16 + 1)), (0, wR loc 7), (1, .int y26), (2, .int x15)]) hx hb dX2_sumOfOrder_136 hl (k := 3) rfl rfl (by decide) rfl (fun ls hl => ?_)
              refine lv_goto (tgt := 30) hx hb dX2_sumOfOrder_139 (by decide) ?_
              exact ih _ _ _ _ _ _ _ hf hH hS (lv_sub hl [1, 2, 3, 0] rfl)
            · have hf := wIt c41 hf
              refine lv_iload_n hx hb dX2_sumOfOrder_127 rfl (lv_at hl 2 rfl) ?_
              refine wald_n hx hb dX2_sumOfOrder_128 rfl (lv_at hl 0 rfl) ?_
              refine wg (C := RX2) (T := TX2) (N := 7) (v := wR loc 10) hx hb hts iX2 hown hKn.1 hH (q := 7) (hB.1 7 3 (by decide)) (by decide) rfl rfl 2 (by decide) k21 rfl dX2_sumOfOrder_129 ?_
              refine lv_iload_n hx hb dX2_sumOfOrder_132 rfl (lv_at hl 3 rfl) ?_
              refine wia hx hb hKn.1 hH (hB.1 10 7 (by decide)) (hB.2.1 10 _ (by decide)) g23 dX2_sumOfOrder_133 ?_
              refine lv_iadd hx hb dX2_sumOfOrder_134 ?_
              obtain ⟨y42, e43, hf⟩ := wLt_e hf
              refine wInt e43 ?_
              refine lv_istore_n (lv' := [(2, .int y42), (0, wR loc 7), (1, .int y26), (3, .int x16)]) hx hb dX2_sumOfOrder_135 rfl hl (by decide) rfl (fun ls hl => ?_)
              refine lv_iinc (v := (x16 + 1)) (lv' := [(3, .int (x16 + 1)), (2, .int y42), (0, wR loc 7), (1, .int y26)]) hx hb dX2_sumOfOrder_136 hl (k := 3) rfl rfl (by decide) rfl (fun ls hl => ?_)
              refine lv_goto (tgt := 30) hx hb dX2_sumOfOrder_139 (by decide) ?_
              exact ih _ _ _ _ _ _ _ hf hH hS (lv_sub hl [2, 3, 1, 0] rfl)
          clear hf
          have hf := hv37
          clear hv37
          refine lv_if_le (tgt := 116) hx hb dX2_sumOfOrder_109 (by decide) (fun c35 => ?_) (fun c35 => ?_)
          · have hf := wIt c35 hf
            refine lv_iconst (v := 0) hx hb dX2_sumOfOrder_116 (by decide) ?_
            cases hf
            exact hj38 _ _ _ hH hS (lv_sub hl [3, 1, 4, 5] rfl)
          · have hf := wIf c35 hf
            refine lv_iconst (v := 1) hx hb dX2_sumOfOrder_112 (by decide) ?_
            refine lv_goto (tgt := 117) hx hb dX2_sumOfOrder_113 (by decide) ?_
            cases hf
            exact hj38 _ _ _ hH hS (lv_sub hl [3, 1, 4, 5] rfl)
    exact lp19 wN _ _ _ _ _ _ _ hL17 hH hS (lv_sub hl [3, 2, 1, 0] rfl)
  have lp6 : ∀ (n1 : Nat) (iv2 : wI) (x3 : Int32) (H : Heap) (locs : List Loc) (ls : Array Slot), fX2_sumOfOrder_2 ng sh n1 iv2 rv x3 = some iv7 → wH D K loc sh ln iv2 rv H → va_S (wA loc sh s.heap.size) s.heap H locs → lv_has ls 6 [(0, wR loc 7), (1, .int x3)] → W p l e (headSpec wsX2_sumOfOrder ({ frames := 2, cells := 0, slots := 0, locals := 46 })).room s m ([wR loc 7] : List Value).toArray below meth c H locs 0 0 (MQ below (wQi D K loc sh ln iv' rv s.heap.size r') ([wR loc 7] : List Value).toArray s 0 0 (wA loc sh s.heap.size)) (F0 m 2 ls []) := by
    clear hf hl hS hH hL4
    intro n1
    induction n1 with
    | zero => intro iv2 x3 H locs ls hf; cases hf
    | succ n1 ih =>
      intro iv2 x3 H locs ls hf hH hS hl
      rw [fX2_sumOfOrder_2.eq_2] at hf
      refine lv_iload_n hx hb dX2_sumOfOrder_2 rfl (lv_at hl 1 rfl) ?_
      refine wald_n hx hb dX2_sumOfOrder_3 rfl (lv_at hl 0 rfl) ?_
      refine wg (C := RX2) (T := TX2) (N := 7) (v := wR loc 12) hx hb hts iX2 hown hKn.1 hH (q := 7) (hB.1 7 3 (by decide)) (by decide) rfl rfl 4 (by decide) k35 rfl dX2_sumOfOrder_4 ?_
      refine wal (kd := 7) (ki := 0) hx hb hKn.1 hH (hB.1 12 7 (by decide)) (by decide) rfl rfl rfl hB.2.2.2 dX2_sumOfOrder_7 ?_
      refine lv_icmp_ge (tgt := 24) hx hb dX2_sumOfOrder_8 (by decide) (fun c8 => ?_) (fun c8 => ?_)
      · have hf := wIt c8 hf
        cases hf
        exact hk5 _ _ _ hH hS (lv_sub hl [0] rfl)
      · have hf := wIf c8 hf
        refine wald_n hx hb dX2_sumOfOrder_11 rfl (lv_at hl 0 rfl) ?_
        refine wg (C := RX2) (T := TX2) (N := 7) (v := wR loc 12) hx hb hts iX2 hown hKn.1 hH (q := 7) (hB.1 7 3 (by decide)) (by decide) rfl rfl 4 (by decide) k35 rfl dX2_sumOfOrder_12 ?_
        refine lv_iload_n hx hb dX2_sumOfOrder_15 rfl (lv_at hl 1 rfl) ?_
        refine lv_iconst (v := 0) hx hb dX2_sumOfOrder_16 (by decide) ?_
        obtain ⟨g9, hf⟩ := wGd_e hf
        obtain ⟨iv10, e11, hf⟩ := wLt_e hf
        refine wis hx hb hKn.1 hH hO hS (hB.1 12 7 (by decide)) hB.2.2.2 g9 dX2_sumOfOrder_17 (fun H locs hH hS => ?_)
        rw [← e11] at hH
        refine lv_iinc (v := (x3 + 1)) (lv' := [(1, .int (x3 + 1)), (0, wR loc 7)]) hx hb dX2_sumOfOrder_18 hl (k := 1) rfl rfl (by decide) rfl (fun ls hl => ?_)
        refine lv_goto (tgt := 2) hx hb dX2_sumOfOrder_21 (by decide) ?_
        exact ih _ _ _ _ _ hf hH hS (lv_sub hl [1, 0] rfl)
  exact lp6 wN _ _ _ _ _ hL4 hH hS (lv_sub hl [1, 0] rfl)
noncomputable def fX2_keepOrder_2 (ng : Nat) (sh : Nat → Nat) : Nat → wI → wJ → Int32 → Option (wI)
  | 0, _, _, _ => none
  | n + 1, iv, rv, x1 => if (iv 7 5) ≤ x1 then some iv else wGd (vp_in x1 5) (wGd (sh (rv 8 x1.toNatClampNeg) = 1) (wLt (wU iv 9 x1.toNatClampNeg (iv (rv 8 x1.toNatClampNeg) 0)) (fun (iv4 : wI) => fX2_keepOrder_2 ng sh n iv4 rv (x1 + 1))))
noncomputable def fX2_keepOrder (ng : Nat) (sh : Nat → Nat) (iv : wI) (rv : wJ) : Option (wI) := wBd (fX2_keepOrder_2 ng sh wN iv rv 0) (fun (iv7 : wI) => some iv7)
set_option maxHeartbeats 4000000 in
set_option maxRecDepth 100000 in
theorem mtX2_keepOrder (l : Launch) (D : va_G) (K : Nat → ClassId) (loc sh ln : Nat → Nat) (iv : wI) (rv : wJ) (sz : Nat) (ng : Nat) {iv' : wI} (hB : wBx ng sh ln) (hf : fX2_keepOrder ng sh iv rv = some iv') : Met l yX2_keepOrder wsX2_keepOrder ({ frames := 0, cells := 0, slots := 0, locals := 0 }) (wPc D K loc sh ln iv rv sz [wR loc 7]) (wQv D K loc sh ln iv' rv sz) 0 0 (wA loc sh sz) := by
  refine Met.ofW (cc := cX2_keepOrder) (maxL := 2) (ret := none) (by decide) rfl ?_
  intro p e s m args below meth c s₁ B hml hv
  obtain ⟨rfl, hsz, hH, hKn⟩ := hv
  have hx := B.exec
  have hb := B.bytes
  have hr := B.returns
  have hts := atoms_spec (ws := wsX2_keepOrder) B.pre
  have hown : s.vm.findClass RX2 = some m.cls := findClass_of_methodNamed B.named
  have hlocks := B.notSynchronized
  subst hsz
  have hA : ∀ q : Nat, s.heap.size ≤ q → wA loc sh s.heap.size q := fun q h => Or.inr h
  have hO : ∀ a, sh a ≠ 0 → wA loc sh s.heap.size (loc a) := fun a h => Or.inl ⟨a, h, rfl⟩
  have hS : va_S (wA loc sh s.heap.size) s.heap s.heap [] := va_S.rf
  obtain ⟨ls, hen, hl⟩ := wEntry m [wR loc 7] 2 (List.forall_mem_cons.mpr ⟨wR_cat _ _, fun _ h => absurd h List.not_mem_nil⟩) (Nat.le_of_ble_eq_true rfl)
  rw [hen]
  clear hen
  have hl : lv_has ls 2 [(0, wR loc 7)] := hl
  have k28 := hts (.fieldLink RX2 28 "CupByCup$Planner" "size" "I") (List.mem_of_getElem? (i := 1) rfl)
  have iX2 : ∀ w ∈ wsX20, w ∈ wsX2_keepOrder := fun w h => List.mem_cons_of_mem _ (List.mem_append_left _ (List.mem_append_right _ h))
  have k17 := hts (.fieldLink RX2 17 "CupByCup$Planner" "best" "[I") (List.mem_of_getElem? (i := 2) rfl)
  have k11 := hts (.fieldLink RX2 11 "CupByCup$Planner" "order" "[LCupByCup$Cup;") (List.mem_of_getElem? (i := 3) rfl)
  have k53 := hts (.fieldLink RX2 53 "CupByCup$Cup" "number" "I") (List.mem_of_getElem? (i := 4) rfl)
  have iX0 : ∀ w ∈ wsX00, w ∈ wsX2_keepOrder := fun w h => List.mem_cons_of_mem _ (List.mem_append_right _ h)
  unfold fX2_keepOrder at hf
  refine lv_iconst (v := 0) hx hb dX2_keepOrder_0 (by decide) ?_
  refine lv_istore_n (lv' := [(1, .int 0), (0, wR loc 7)]) hx hb dX2_keepOrder_1 rfl hl (by decide) rfl (fun ls hl => ?_)
  obtain ⟨iv7, hL4, hf⟩ := wBd_e hf
  have hk5 : ∀ (H : Heap) (locs : List Loc) (ls : Array Slot), wH D K loc sh ln iv7 rv H → va_S (wA loc sh s.heap.size) s.heap H locs → lv_has ls 2 [] → W p l e (headSpec wsX2_keepOrder ({ frames := 0, cells := 0, slots := 0, locals := 0 })).room s m ([wR loc 7] : List Value).toArray below meth c H locs 0 0 (MQ below (wQv D K loc sh ln iv' rv s.heap.size) ([wR loc 7] : List Value).toArray s 0 0 (wA loc sh s.heap.size)) (F0 m 31 ls []) := by
    clear hL4 hl hS hH
    intro H locs ls hH hS hl
    cases hf
    exact W.vret hx hb hr (fun t ht hW => ⟨⟨(), rfl, trivial, by show wH _ _ _ _ _ _ _ t.heap; rw [ht]; exact hH⟩, hS.F ht⟩) hS.2.2 dX2_keepOrder_31
  have lp6 : ∀ (n1 : Nat) (iv2 : wI) (x3 : Int32) (H : Heap) (locs : List Loc) (ls : Array Slot), fX2_keepOrder_2 ng sh n1 iv2 rv x3 = some iv7 → wH D K loc sh ln iv2 rv H → va_S (wA loc sh s.heap.size) s.heap H locs → lv_has ls 2 [(0, wR loc 7), (1, .int x3)] → W p l e (headSpec wsX2_keepOrder ({ frames := 0, cells := 0, slots := 0, locals := 0 })).room s m ([wR loc 7] : List Value).toArray below meth c H locs 0 0 (MQ below (wQv D K loc sh ln iv' rv s.heap.size) ([wR loc 7] : List Value).toArray s 0 0 (wA loc sh s.heap.size)) (F0 m 2 ls []) := by
    clear hf hl hS hH hL4
    intro n1
    induction n1 with
    | zero => intro iv2 x3 H locs ls hf; cases hf
    | succ n1 ih =>
      intro iv2 x3 H locs ls hf hH hS hl
      rw [fX2_keepOrder_2.eq_2] at hf
      refine lv_iload_n hx hb dX2_keepOrder_2 rfl (lv_at hl 1 rfl) ?_
      refine wald_n hx hb dX2_keepOrder_3 rfl (lv_at hl 0 rfl) ?_
      refine wg (C := RX2) (T := TX2) (N := 7) (v := .int (iv2 7 5)) hx hb hts iX2 hown hKn.1 hH (q := 7) (hB.1 7 3 (by decide)) (by decide) rfl rfl 5 (by decide) k28 rfl dX2_keepOrder_4 ?_
      refine lv_icmp_ge (tgt := 31) hx hb dX2_keepOrder_7 (by decide) (fun c8 => ?_) (fun c8 => ?_)
      · have hf := wIt c8 hf
        cases hf
        exact hk5 _ _ _ hH hS (lv_sub hl [] rfl)
      · have hf := wIf c8 hf
        refine wald_n hx hb dX2_keepOrder_10 rfl (lv_at hl 0 rfl) ?_
        refine wg (C := RX2) (T := TX2) (N := 7) (v := wR loc 9) hx hb hts iX2 hown hKn.1 hH (q := 7) (hB.1 7 3 (by decide)) (by decide) rfl rfl 1 (by decide) k17 rfl dX2_keepOrder_11 ?_
        refine lv_iload_n hx hb dX2_keepOrder_14 rfl (lv_at hl 1 rfl) ?_
        refine wald_n hx hb dX2_keepOrder_15 rfl (lv_at hl 0 rfl) ?_
        refine wg (C := RX2) (T := TX2) (N := 7) (v := wR loc 8) hx hb hts iX2 hown hKn.1 hH (q := 7) (hB.1 7 3 (by decide)) (by decide) rfl rfl 0 (by decide) k11 rfl dX2_keepOrder_16 ?_
        refine lv_iload_n hx hb dX2_keepOrder_19 rfl (lv_at hl 1 rfl) ?_
        obtain ⟨g9, hf⟩ := wGd_e hf
        refine waa (kd := 9) (ki := 2) hx hb hKn.1 hH (hB.1 8 9 (by decide)) (by decide) rfl rfl (hB.2.1 8 _ (by decide)) g9 dX2_keepOrder_20 ?_
        obtain ⟨g10, hf⟩ := wGd_e hf
        refine wg (C := RX0) (T := TX0) (N := 11) (v := .int (iv2 (rv 8 x3.toNatClampNeg) 0)) hx hb hts iX0 hown hKn.1 hH (q := (rv 8 x3.toNatClampNeg)) g10 (by decide) rfl rfl 0 (by decide) k53 rfl dX2_keepOrder_21 ?_
        obtain ⟨iv11, e12, hf⟩ := wLt_e hf
        refine wis hx hb hKn.1 hH hO hS (hB.1 9 7 (by decide)) (hB.2.1 9 _ (by decide)) g9 dX2_keepOrder_24 (fun H locs hH hS => ?_)
        rw [← e12] at hH
        refine lv_iinc (v := (x3 + 1)) (lv' := [(1, .int (x3 + 1)), (0, wR loc 7)]) hx hb dX2_keepOrder_25 hl (k := 1) rfl rfl (by decide) rfl (fun ls hl => ?_)
        refine lv_goto (tgt := 2) hx hb dX2_keepOrder_28 (by decide) ?_
        exact ih _ _ _ _ _ hf hH hS (lv_sub hl [1, 0] rfl)
  exact lp6 wN _ _ _ _ _ hL4 hH hS (lv_sub hl [1, 0] rfl)
noncomputable def fX2_swap (ng : Nat) (sh : Nat → Nat) (iv : wI) (rv : wJ) (a1 : Int32) (a2 : Int32) : Option (wJ) := wGd (vp_in a1 5) (wGd (vp_in a2 5) (wGd (sh (rv 8 a2.toNatClampNeg) = 1) (wLt (wV rv 8 a1.toNatClampNeg (rv 8 a2.toNatClampNeg)) (fun (rv4 : wJ) => wGd (sh (rv 8 a1.toNatClampNeg) = 1) (wLt (wV rv4 8 a2.toNatClampNeg (rv 8 a1.toNatClampNeg)) (fun (rv7 : wJ) => some rv7))))))
set_option maxHeartbeats 4000000 in
set_option maxRecDepth 100000 in
theorem mtX2_swap (l : Launch) (D : va_G) (K : Nat → ClassId) (loc sh ln : Nat → Nat) (iv : wI) (rv : wJ) (sz : Nat) (ng : Nat) (a1 : Int32) (a2 : Int32) {rv' : wJ} (hB : wBx ng sh ln) (hf : fX2_swap ng sh iv rv a1 a2 = some rv') : Met l yX2_swap wsX2_swap ({ frames := 0, cells := 0, slots := 0, locals := 0 }) (wPc D K loc sh ln iv rv sz [wR loc 7, .int a1, .int a2]) (wQv D K loc sh ln iv rv' sz) 0 0 (wA loc sh sz) := by
  refine Met.ofW (cc := cX2_swap) (maxL := 4) (ret := none) (by decide) rfl ?_
  intro p e s m args below meth c s₁ B hml hv
  obtain ⟨rfl, hsz, hH, hKn⟩ := hv
  have hx := B.exec
  have hb := B.bytes
  have hr := B.returns
  have hts := atoms_spec (ws := wsX2_swap) B.pre
  have hown : s.vm.findClass RX2 = some m.cls := findClass_of_methodNamed B.named
  have hlocks := B.notSynchronized
  subst hsz
  have hA : ∀ q : Nat, s.heap.size ≤ q → wA loc sh s.heap.size q := fun q h => Or.inr h
  have hO : ∀ a, sh a ≠ 0 → wA loc sh s.heap.size (loc a) := fun a h => Or.inl ⟨a, h, rfl⟩
  have hS : va_S (wA loc sh s.heap.size) s.heap s.heap [] := va_S.rf
  obtain ⟨ls, hen, hl⟩ := wEntry m [wR loc 7, .int a1, .int a2] 4 (List.forall_mem_cons.mpr ⟨wR_cat _ _, List.forall_mem_cons.mpr ⟨rfl, List.forall_mem_cons.mpr ⟨rfl, fun _ h => absurd h List.not_mem_nil⟩⟩⟩) (Nat.le_of_ble_eq_true rfl)
  rw [hen]
  clear hen
  have hl : lv_has ls 4 [(0, wR loc 7), (1, .int a1), (2, .int a2)] := hl
  have k11 := hts (.fieldLink RX2 11 "CupByCup$Planner" "order" "[LCupByCup$Cup;") (List.mem_of_getElem? (i := 1) rfl)
  have iX2 : ∀ w ∈ wsX20, w ∈ wsX2_swap := fun w h => List.mem_cons_of_mem _ (List.mem_append_right _ h)
  unfold fX2_swap at hf
  refine wald_n hx hb dX2_swap_0 rfl (lv_at hl 0 rfl) ?_
  refine wg (C := RX2) (T := TX2) (N := 7) (v := wR loc 8) hx hb hts iX2 hown hKn.1 hH (q := 7) (hB.1 7 3 (by decide)) (by decide) rfl rfl 0 (by decide) k11 rfl dX2_swap_1 ?_
  refine lv_iload_n hx hb dX2_swap_4 rfl (lv_at hl 1 rfl) ?_
  obtain ⟨g1, hf⟩ := wGd_e hf
  refine waa (kd := 9) (ki := 2) hx hb hKn.1 hH (hB.1 8 9 (by decide)) (by decide) rfl rfl (hB.2.1 8 _ (by decide)) g1 dX2_swap_5 ?_
  refine wast_n (lv' := [(3, wR loc (rv 8 a1.toNatClampNeg)), (0, wR loc 7), (1, .int a1), (2, .int a2)]) hx hb dX2_swap_6 rfl hl (by decide) rfl (fun ls hl => ?_)
  refine wald_n hx hb dX2_swap_7 rfl (lv_at hl 1 rfl) ?_
  refine wg (C := RX2) (T := TX2) (N := 7) (v := wR loc 8) hx hb hts iX2 hown hKn.1 hH (q := 7) (hB.1 7 3 (by decide)) (by decide) rfl rfl 0 (by decide) k11 rfl dX2_swap_8 ?_
  refine lv_iload_n hx hb dX2_swap_11 rfl (lv_at hl 2 rfl) ?_
  refine wald_n hx hb dX2_swap_12 rfl (lv_at hl 1 rfl) ?_
  refine wg (C := RX2) (T := TX2) (N := 7) (v := wR loc 8) hx hb hts iX2 hown hKn.1 hH (q := 7) (hB.1 7 3 (by decide)) (by decide) rfl rfl 0 (by decide) k11 rfl dX2_swap_13 ?_
  refine lv_iload_n hx hb dX2_swap_16 rfl (lv_at hl 3 rfl) ?_
  obtain ⟨g2, hf⟩ := wGd_e hf
  refine waa (kd := 9) (ki := 2) hx hb hKn.1 hH (hB.1 8 9 (by decide)) (by decide) rfl rfl (hB.2.1 8 _ (by decide)) g2 dX2_swap_17 ?_
  obtain ⟨g3, hf⟩ := wGd_e hf
  obtain ⟨rv4, e5, hf⟩ := wLt_e hf
  refine was (kd := 9) (ki := 2) (kv := 1) hx hb hKn.1 hH hO hS (hB.1 8 9 (by decide)) (by decide) (fun _ => rfl) rfl (hB.2.1 8 _ (by decide)) g3 (by decide) rfl rfl g1 dX2_swap_18 (fun H locs hH hS => ?_)
  rw [← e5] at hH
  refine wald_n hx hb dX2_swap_19 rfl (lv_at hl 1 rfl) ?_
  refine wg (C := RX2) (T := TX2) (N := 7) (v := wR loc 8) hx hb hts iX2 hown hKn.1 hH (q := 7) (hB.1 7 3 (by decide)) (by decide) rfl rfl 0 (by decide) k11 rfl dX2_swap_20 ?_
  refine lv_iload_n hx hb dX2_swap_23 rfl (lv_at hl 3 rfl) ?_
  refine wald_n hx hb dX2_swap_24 rfl (lv_at hl 0 rfl) ?_
  obtain ⟨g6, hf⟩ := wGd_e hf
  obtain ⟨rv7, e8, hf⟩ := wLt_e hf
  refine was (kd := 9) (ki := 2) (kv := 1) hx hb hKn.1 hH hO hS (hB.1 8 9 (by decide)) (by decide) (fun _ => rfl) rfl (hB.2.1 8 _ (by decide)) g6 (by decide) rfl rfl g2 dX2_swap_25 (fun H locs hH hS => ?_)
  rw [← e8] at hH
  cases hf
  exact W.vret hx hb hr (fun t ht hW => ⟨⟨(), rfl, trivial, by show wH _ _ _ _ _ _ _ t.heap; rw [ht]; exact hH⟩, hS.F ht⟩) hS.2.2 dX2_swap_26
noncomputable def fX2_nextOrder_7 (ng : Nat) (sh : Nat → Nat) : Nat → wI → wJ → Int32 → Option (Int32)
  | 0, _, _, _ => none
  | n + 1, iv, rv, x1 => if x1 < 0 then some x1 else wGd (vp_in x1 5) (wGd (sh (rv 8 x1.toNatClampNeg) = 1) (wGd (vp_in (x1 + 1) 5) (wGd (sh (rv 8 (x1 + 1).toNatClampNeg) = 1) (if (iv (rv 8 x1.toNatClampNeg) 0) ≤ (iv (rv 8 (x1 + 1).toNatClampNeg) 0) then some x1 else fX2_nextOrder_7 ng sh n iv rv (x1 + (-1))))))
noncomputable def fX2_nextOrder_53 (ng : Nat) (sh : Nat → Nat) : Nat → wI → wJ → Int32 → Int32 → Option (Int32)
  | 0, _, _, _, _ => none
  | n + 1, iv, rv, x1, x2 => if x2 ≤ (x1 + 1) then some x2 else wGd (vp_in x2 5) (wGd (sh (rv 8 x2.toNatClampNeg) = 1) (wGd (vp_in x1 5) (wGd (sh (rv 8 x1.toNatClampNeg) = 1) (if (iv (rv 8 x1.toNatClampNeg) 0) ≤ (iv (rv 8 x2.toNatClampNeg) 0) then some x2 else fX2_nextOrder_53 ng sh n iv rv x1 (x2 + (-1))))))
noncomputable def fX2_nextOrder_105 (ng : Nat) (sh : Nat → Nat) : Nat → wI → wJ → Int32 → Int32 → Option (wJ)
  | 0, _, _, _, _ => none
  | n + 1, iv, rv, x3, x4 => if x4 ≤ x3 then some rv else wBd (fX2_swap ng sh iv rv x3 x4) (fun (rv29 : wJ) => fX2_nextOrder_105 ng sh n iv rv29 (x3 + 1) (x4 + (-1)))
noncomputable def fX2_nextOrder (ng : Nat) (sh : Nat → Nat) (iv : wI) (rv : wJ) : Option (wJ × Int32) := wBd (fX2_nextOrder_7 ng sh wN iv rv ((iv 7 5) - 2)) (fun (z6 : Int32) => if 0 ≤ z6 then wBd (fX2_nextOrder_53 ng sh wN iv rv z6 ((iv 7 5) - 1)) (fun (z19 : Int32) => wBd (fX2_swap ng sh iv rv z6 z19) (fun (rv26 : wJ) => wBd (fX2_nextOrder_105 ng sh wN iv rv26 (z6 + 1) ((iv 7 5) - 1)) (fun (rv35 : wJ) => some (rv35, (1 : Int32))))) else some (rv, (0 : Int32)))
set_option maxHeartbeats 4000000 in
set_option maxRecDepth 100000 in
theorem mtX2_nextOrder (l : Launch) (D : va_G) (K : Nat → ClassId) (loc sh ln : Nat → Nat) (iv : wI) (rv : wJ) (sz : Nat) (ng : Nat) {rv' : wJ} {r' : Int32} (hB : wBx ng sh ln) (hf : fX2_nextOrder ng sh iv rv = some (rv', r')) : Met l yX2_nextOrder wsX2_nextOrder ({ frames := 1, cells := 0, slots := 0, locals := 23 }) (wPc D K loc sh ln iv rv sz [wR loc 7]) (wQi D K loc sh ln iv rv' sz r') 0 0 (wA loc sh sz) := by
  refine Met.ofW (cc := cX2_nextOrder) (maxL := 5) (ret := (some .boolean)) (by decide) rfl ?_
  intro p e s m args below meth c s₁ B hml hv
  obtain ⟨rfl, hsz, hH, hKn⟩ := hv
  have hx := B.exec
  have hb := B.bytes
  have hr := B.returns
  have hts := atoms_spec (ws := wsX2_nextOrder) B.pre
  have hown : s.vm.findClass RX2 = some m.cls := findClass_of_methodNamed B.named
  have hlocks := B.notSynchronized
  subst hsz
  have hA : ∀ q : Nat, s.heap.size ≤ q → wA loc sh s.heap.size q := fun q h => Or.inr h
  have hO : ∀ a, sh a ≠ 0 → wA loc sh s.heap.size (loc a) := fun a h => Or.inl ⟨a, h, rfl⟩
  have hS : va_S (wA loc sh s.heap.size) s.heap s.heap [] := va_S.rf
  obtain ⟨ls, hen, hl⟩ := wEntry m [wR loc 7] 5 (List.forall_mem_cons.mpr ⟨wR_cat _ _, fun _ h => absurd h List.not_mem_nil⟩) (Nat.le_of_ble_eq_true rfl)
  rw [hen]
  clear hen
  have hl : lv_has ls 5 [(0, wR loc 7)] := hl
  have k28 := hts (.fieldLink RX2 28 "CupByCup$Planner" "size" "I") (List.mem_of_getElem? (i := 1) rfl)
  have iX2 : ∀ w ∈ wsX20, w ∈ wsX2_nextOrder := fun w h => List.mem_cons_of_mem _ (List.mem_append_left _ (List.mem_append_right _ h))
  have k11 := hts (.fieldLink RX2 11 "CupByCup$Planner" "order" "[LCupByCup$Cup;") (List.mem_of_getElem? (i := 2) rfl)
  have k53 := hts (.fieldLink RX2 53 "CupByCup$Cup" "number" "I") (List.mem_of_getElem? (i := 3) rfl)
  have iX0 : ∀ w ∈ wsX00, w ∈ wsX2_nextOrder := fun w h => List.mem_cons_of_mem _ (List.mem_append_right _ h)
  unfold fX2_nextOrder at hf
  refine wald_n hx hb dX2_nextOrder_0 rfl (lv_at hl 0 rfl) ?_
  refine wg (C := RX2) (T := TX2) (N := 7) (v := .int (iv 7 5)) hx hb hts iX2 hown hKn.1 hH (q := 7) (hB.1 7 3 (by decide)) (by decide) rfl rfl 5 (by decide) k28 rfl dX2_nextOrder_1 ?_
  refine lv_iconst (v := 2) hx hb dX2_nextOrder_4 (by decide) ?_
  refine lv_isub hx hb dX2_nextOrder_5 ?_
  refine lv_istore_n (lv' := [(1, .int ((iv 7 5) - 2)), (0, wR loc 7)]) hx hb dX2_nextOrder_6 rfl hl (by decide) rfl (fun ls hl => ?_)
  obtain ⟨z6, hL3, hf⟩ := wBd_e hf
  have hk4 : ∀ (H : Heap) (locs : List Loc) (ls : Array Slot), wH D K loc sh ln iv rv H → va_S (wA loc sh s.heap.size) s.heap H locs → lv_has ls 5 [(0, wR loc 7), (1, .int z6)] → W p l e (headSpec wsX2_nextOrder ({ frames := 1, cells := 0, slots := 0, locals := 23 })).room s m ([wR loc 7] : List Value).toArray below meth c H locs 0 0 (MQ below (wQi D K loc sh ln iv rv' s.heap.size r') ([wR loc 7] : List Value).toArray s 0 0 (wA loc sh s.heap.size)) (F0 m 40 ls []) := by
    clear hL3 hl hS hH
    intro H locs ls hH hS hl
    refine lv_iload_n hx hb dX2_nextOrder_40 rfl (lv_at hl 1 rfl) ?_
    refine lv_if_ge (tgt := 46) hx hb dX2_nextOrder_41 (by decide) (fun c13 => ?_) (fun c13 => ?_)
    · have hf := wIt c13 hf
      refine wald_n hx hb dX2_nextOrder_46 rfl (lv_at hl 0 rfl) ?_
      refine wg (C := RX2) (T := TX2) (N := 7) (v := .int (iv 7 5)) hx hb hts iX2 hown hKn.1 hH (q := 7) (hB.1 7 3 (by decide)) (by decide) rfl rfl 5 (by decide) k28 rfl dX2_nextOrder_47 ?_
      refine lv_iconst (v := 1) hx hb dX2_nextOrder_50 (by decide) ?_
      refine lv_isub hx hb dX2_nextOrder_51 ?_
      refine lv_istore_n (lv' := [(2, .int ((iv 7 5) - 1)), (0, wR loc 7), (1, .int z6)]) hx hb dX2_nextOrder_52 rfl hl (by decide) rfl (fun ls hl => ?_)
      obtain ⟨z19, hL16, hf⟩ := wBd_e hf
      have hk17 : ∀ (H : Heap) (locs : List Loc) (ls : Array Slot), wH D K loc sh ln iv rv H → va_S (wA loc sh s.heap.size) s.heap H locs → lv_has ls 5 [(0, wR loc 7), (1, .int z6), (2, .int z19)] → W p l e (headSpec wsX2_nextOrder ({ frames := 1, cells := 0, slots := 0, locals := 23 })).room s m ([wR loc 7] : List Value).toArray below meth c H locs 0 0 (MQ below (wQi D K loc sh ln iv rv' s.heap.size r') ([wR loc 7] : List Value).toArray s 0 0 (wA loc sh s.heap.size)) (F0 m 87 ls []) := by
        clear hL16 hl hS hH
        intro H locs ls hH hS hl
        refine wald_n hx hb dX2_nextOrder_87 rfl (lv_at hl 0 rfl) ?_
        refine lv_iload_n hx hb dX2_nextOrder_88 rfl (lv_at hl 1 rfl) ?_
        refine lv_iload_n hx hb dX2_nextOrder_89 rfl (lv_at hl 2 rfl) ?_
        obtain ⟨rv26, h27, hf⟩ := wBd_e hf
        refine wcv (va_runV (As := [.int z6, .int z19]) (rest := []) ⟨hx, hb, hml, hown, hts⟩ (mtX2_swap l D K loc sh ln iv rv _ ng z6 z19 hB h27) (cwV 2 hts gX2_nextOrder_X2_swap rfl rfl rfl (by decide +kernel) ⟨Nat.le_of_ble_eq_true rfl, Nat.le_of_ble_eq_true rfl⟩) (wPreV hKn hH (hB.1 7 3 (by decide)) (by decide) rfl rfl) rfl rfl hl.1 rfl (lv_room (Nat.le_of_ble_eq_true rfl)) dX2_nextOrder_90 ⟨Nat.zero_le _, Nat.zero_le _⟩) hS hO hA (fun H locs hH hS => ?_)
        refine lv_iload_n hx hb dX2_nextOrder_93 rfl (lv_at hl 1 rfl) ?_
        refine lv_iconst (v := 1) hx hb dX2_nextOrder_94 (by decide) ?_
        refine lv_iadd hx hb dX2_nextOrder_95 ?_
        refine lv_istore_n (lv' := [(3, .int (z6 + 1)), (0, wR loc 7), (1, .int z6), (2, .int z19)]) hx hb dX2_nextOrder_96 rfl hl (by decide) rfl (fun ls hl => ?_)
        refine wald_n hx hb dX2_nextOrder_97 rfl (lv_at hl 1 rfl) ?_
        refine wg (C := RX2) (T := TX2) (N := 7) (v := .int (iv 7 5)) hx hb hts iX2 hown hKn.1 hH (q := 7) (hB.1 7 3 (by decide)) (by decide) rfl rfl 5 (by decide) k28 rfl dX2_nextOrder_98 ?_
        refine lv_iconst (v := 1) hx hb dX2_nextOrder_101 (by decide) ?_
        refine lv_isub hx hb dX2_nextOrder_102 ?_
        refine lv_istore (lv' := [(4, .int ((iv 7 5) - 1)), (3, .int (z6 + 1)), (0, wR loc 7), (1, .int z6), (2, .int z19)]) hx hb dX2_nextOrder_103 hl (by decide) rfl (fun ls hl => ?_)
        obtain ⟨rv35, hL32, hf⟩ := wBd_e hf
        have hk33 : ∀ (H : Heap) (locs : List Loc) (ls : Array Slot), wH D K loc sh ln iv rv35 H → va_S (wA loc sh s.heap.size) s.heap H locs → lv_has ls 5 [] → W p l e (headSpec wsX2_nextOrder ({ frames := 1, cells := 0, slots := 0, locals := 23 })).room s m ([wR loc 7] : List Value).toArray below meth c H locs 0 0 (MQ below (wQi D K loc sh ln iv rv' s.heap.size r') ([wR loc 7] : List Value).toArray s 0 0 (wA loc sh s.heap.size)) (F0 m 127 ls []) := by
          clear hL32 hl hS hH
          intro H locs ls hH hS hl
          refine lv_iconst (v := 1) hx hb dX2_nextOrder_127 (by decide) ?_
          cases hf
          exact W.zret hx hb hr rfl (fun t ht hW => ⟨⟨_, (), rfl, rfl, by show wH _ _ _ _ _ _ _ t.heap; rw [ht]; exact hH⟩, hS.F ht⟩) hS.2.2 dX2_nextOrder_128
        have lp34 : ∀ (n28 : Nat) (rv29 : wJ) (x30 : Int32) (x31 : Int32) (H : Heap) (locs : List Loc) (ls : Array Slot), fX2_nextOrder_105 ng sh n28 iv rv29 x30 x31 = some rv35 → wH D K loc sh ln iv rv29 H → va_S (wA loc sh s.heap.size) s.heap H locs → lv_has ls 5 [(0, wR loc 7), (3, .int x30), (4, .int x31)] → W p l e (headSpec wsX2_nextOrder ({ frames := 1, cells := 0, slots := 0, locals := 23 })).room s m ([wR loc 7] : List Value).toArray below meth c H locs 0 0 (MQ below (wQi D K loc sh ln iv rv' s.heap.size r') ([wR loc 7] : List Value).toArray s 0 0 (wA loc sh s.heap.size)) (F0 m 105 ls []) := by
          clear hf hl hS hH hL32
          intro n28
          induction n28 with
          | zero => intro rv29 x30 x31 H locs ls hf; cases hf
          | succ n28 ih =>
            intro rv29 x30 x31 H locs ls hf hH hS hl
            rw [fX2_nextOrder_105.eq_2] at hf
            refine lv_iload_n hx hb dX2_nextOrder_105 rfl (lv_at hl 1 rfl) ?_
            refine lv_iload hx hb dX2_nextOrder_106 (lv_at hl 2 rfl) ?_
            refine lv_icmp_ge (tgt := 127) hx hb dX2_nextOrder_108 (by decide) (fun c36 => ?_) (fun c36 => ?_)
            · have hf := wIt c36 hf
              cases hf
              exact hk33 _ _ _ hH hS (lv_sub hl [] rfl)
            · have hf := wIf c36 hf
              refine wald_n hx hb dX2_nextOrder_111 rfl (lv_at hl 0 rfl) ?_
              refine lv_iload_n hx hb dX2_nextOrder_112 rfl (lv_at hl 1 rfl) ?_
              refine lv_iload hx hb dX2_nextOrder_113 (lv_at hl 2 rfl) ?_
              obtain ⟨rv37, h38, hf⟩ := wBd_e hf
              refine wcv (va_runV (As := [.int x30, .int x31]) (rest := []) ⟨hx, hb, hml, hown, hts⟩ (mtX2_swap l D K loc sh ln iv rv29 _ ng x30 x31 hB h38) (cwV 2 hts gX2_nextOrder_X2_swap rfl rfl rfl (by decide +kernel) ⟨Nat.le_of_ble_eq_true rfl, Nat.le_of_ble_eq_true rfl⟩) (wPreV hKn hH (hB.1 7 3 (by decide)) (by decide) rfl rfl) rfl rfl hl.1 rfl (lv_room (Nat.le_of_ble_eq_true rfl)) dX2_nextOrder_115 ⟨Nat.zero_le _, Nat.zero_le _⟩) hS hO hA (fun H locs hH hS => ?_)
              refine lv_iinc (v := (x30 + 1)) (lv' := [(3, .int (x30 + 1)), (0, wR loc 7), (4, .int x31)]) hx hb dX2_nextOrder_118 hl (k := 1) rfl rfl (by decide) rfl (fun ls hl => ?_)
              refine lv_iinc (v := (x31 + (-1))) (lv' := [(4, .int (x31 + (-1))), (3, .int (x30 + 1)), (0, wR loc 7)]) hx hb dX2_nextOrder_121 hl (k := 2) rfl rfl (by decide) rfl (fun ls hl => ?_)
              refine lv_goto (tgt := 105) hx hb dX2_nextOrder_124 (by decide) ?_
              exact ih _ _ _ _ _ _ hf hH hS (lv_sub hl [2, 1, 0] rfl)
        exact lp34 wN _ _ _ _ _ _ hL32 hH hS (lv_sub hl [2, 1, 0] rfl)
      have lp18 : ∀ (n14 : Nat) (x15 : Int32) (H : Heap) (locs : List Loc) (ls : Array Slot), fX2_nextOrder_53 ng sh n14 iv rv z6 x15 = some z19 → wH D K loc sh ln iv rv H → va_S (wA loc sh s.heap.size) s.heap H locs → lv_has ls 5 [(0, wR loc 7), (1, .int z6), (2, .int x15)] → W p l e (headSpec wsX2_nextOrder ({ frames := 1, cells := 0, slots := 0, locals := 23 })).room s m ([wR loc 7] : List Value).toArray below meth c H locs 0 0 (MQ below (wQi D K loc sh ln iv rv' s.heap.size r') ([wR loc 7] : List Value).toArray s 0 0 (wA loc sh s.heap.size)) (F0 m 53 ls []) := by
        clear hf hl hS hH hL16
        intro n14
        induction n14 with
        | zero => intro x15 H locs ls hf; cases hf
        | succ n14 ih =>
          intro x15 H locs ls hf hH hS hl
          rw [fX2_nextOrder_53.eq_2] at hf
          refine lv_iload_n hx hb dX2_nextOrder_53 rfl (lv_at hl 2 rfl) ?_
          refine lv_iload_n hx hb dX2_nextOrder_54 rfl (lv_at hl 1 rfl) ?_
          refine lv_iconst (v := 1) hx hb dX2_nextOrder_55 (by decide) ?_
          refine lv_iadd hx hb dX2_nextOrder_56 ?_
          refine lv_icmp_le (tgt := 87) hx hb dX2_nextOrder_57 (by decide) (fun c20 => ?_) (fun c20 => ?_)
          · have hf := wIt c20 hf
            cases hf
            exact hk17 _ _ _ hH hS (lv_sub hl [0, 1, 2] rfl)
          · have hf := wIf c20 hf
            refine wald_n hx hb dX2_nextOrder_60 rfl (lv_at hl 0 rfl) ?_
            refine wg (C := RX2) (T := TX2) (N := 7) (v := wR loc 8) hx hb hts iX2 hown hKn.1 hH (q := 7) (hB.1 7 3 (by decide)) (by decide) rfl rfl 0 (by decide) k11 rfl dX2_nextOrder_61 ?_
            refine lv_iload_n hx hb dX2_nextOrder_64 rfl (lv_at hl 2 rfl) ?_
            obtain ⟨g21, hf⟩ := wGd_e hf
            refine waa (kd := 9) (ki := 2) hx hb hKn.1 hH (hB.1 8 9 (by decide)) (by decide) rfl rfl (hB.2.1 8 _ (by decide)) g21 dX2_nextOrder_65 ?_
            obtain ⟨g22, hf⟩ := wGd_e hf
            refine wg (C := RX0) (T := TX0) (N := 11) (v := .int (iv (rv 8 x15.toNatClampNeg) 0)) hx hb hts iX0 hown hKn.1 hH (q := (rv 8 x15.toNatClampNeg)) g22 (by decide) rfl rfl 0 (by decide) k53 rfl dX2_nextOrder_66 ?_
            refine wald_n hx hb dX2_nextOrder_69 rfl (lv_at hl 0 rfl) ?_
            refine wg (C := RX2) (T := TX2) (N := 7) (v := wR loc 8) hx hb hts iX2 hown hKn.1 hH (q := 7) (hB.1 7 3 (by decide)) (by decide) rfl rfl 0 (by decide) k11 rfl dX2_nextOrder_70 ?_
            refine lv_iload_n hx hb dX2_nextOrder_73 rfl (lv_at hl 1 rfl) ?_
            obtain ⟨g23, hf⟩ := wGd_e hf
            refine waa (kd := 9) (ki := 2) hx hb hKn.1 hH (hB.1 8 9 (by decide)) (by decide) rfl rfl (hB.2.1 8 _ (by decide)) g23 dX2_nextOrder_74 ?_
            obtain ⟨g24, hf⟩ := wGd_e hf
            refine wg (C := RX0) (T := TX0) (N := 11) (v := .int (iv (rv 8 z6.toNatClampNeg) 0)) hx hb hts iX0 hown hKn.1 hH (q := (rv 8 z6.toNatClampNeg)) g24 (by decide) rfl rfl 0 (by decide) k53 rfl dX2_nextOrder_75 ?_
            refine lv_icmp_ge (tgt := 87) hx hb dX2_nextOrder_78 (by decide) (fun c25 => ?_) (fun c25 => ?_)
            · have hf := wIt c25 hf
              cases hf
              exact hk17 _ _ _ hH hS (lv_sub hl [0, 1, 2] rfl)
            · have hf := wIf c25 hf
              refine lv_iinc (v := (x15 + (-1))) (lv' := [(2, .int (x15 + (-1))), (0, wR loc 7), (1, .int z6)]) hx hb dX2_nextOrder_81 hl (k := 2) rfl rfl (by decide) rfl (fun ls hl => ?_)
              refine lv_goto (tgt := 53) hx hb dX2_nextOrder_84 (by decide) ?_
              exact ih _ _ _ _ hf hH hS (lv_sub hl [1, 2, 0] rfl)
      exact lp18 wN _ _ _ _ hL16 hH hS (lv_sub hl [1, 2, 0] rfl)
    · have hf := wIf c13 hf
      refine lv_iconst (v := 0) hx hb dX2_nextOrder_44 (by decide) ?_
      cases hf
      exact W.zret hx hb hr rfl (fun t ht hW => ⟨⟨_, (), rfl, rfl, by show wH _ _ _ _ _ _ _ t.heap; rw [ht]; exact hH⟩, hS.F ht⟩) hS.2.2 dX2_nextOrder_45
  have lp5 : ∀ (n1 : Nat) (x2 : Int32) (H : Heap) (locs : List Loc) (ls : Array Slot), fX2_nextOrder_7 ng sh n1 iv rv x2 = some z6 → wH D K loc sh ln iv rv H → va_S (wA loc sh s.heap.size) s.heap H locs → lv_has ls 5 [(0, wR loc 7), (1, .int x2)] → W p l e (headSpec wsX2_nextOrder ({ frames := 1, cells := 0, slots := 0, locals := 23 })).room s m ([wR loc 7] : List Value).toArray below meth c H locs 0 0 (MQ below (wQi D K loc sh ln iv rv' s.heap.size r') ([wR loc 7] : List Value).toArray s 0 0 (wA loc sh s.heap.size)) (F0 m 7 ls []) := by
    clear hf hl hS hH hL3
    intro n1
    induction n1 with
    | zero => intro x2 H locs ls hf; cases hf
    | succ n1 ih =>
      intro x2 H locs ls hf hH hS hl
      rw [fX2_nextOrder_7.eq_2] at hf
      refine lv_iload_n hx hb dX2_nextOrder_7 rfl (lv_at hl 1 rfl) ?_
      refine lv_if_lt (tgt := 40) hx hb dX2_nextOrder_8 (by decide) (fun c7 => ?_) (fun c7 => ?_)
      · have hf := wIt c7 hf
        cases hf
        exact hk4 _ _ _ hH hS (lv_sub hl [0, 1] rfl)
      · have hf := wIf c7 hf
        refine wald_n hx hb dX2_nextOrder_11 rfl (lv_at hl 0 rfl) ?_
        refine wg (C := RX2) (T := TX2) (N := 7) (v := wR loc 8) hx hb hts iX2 hown hKn.1 hH (q := 7) (hB.1 7 3 (by decide)) (by decide) rfl rfl 0 (by decide) k11 rfl dX2_nextOrder_12 ?_
        refine lv_iload_n hx hb dX2_nextOrder_15 rfl (lv_at hl 1 rfl) ?_
        obtain ⟨g8, hf⟩ := wGd_e hf
        refine waa (kd := 9) (ki := 2) hx hb hKn.1 hH (hB.1 8 9 (by decide)) (by decide) rfl rfl (hB.2.1 8 _ (by decide)) g8 dX2_nextOrder_16 ?_
        obtain ⟨g9, hf⟩ := wGd_e hf
        refine wg (C := RX0) (T := TX0) (N := 11) (v := .int (iv (rv 8 x2.toNatClampNeg) 0)) hx hb hts iX0 hown hKn.1 hH (q := (rv 8 x2.toNatClampNeg)) g9 (by decide) rfl rfl 0 (by decide) k53 rfl dX2_nextOrder_17 ?_
        refine wald_n hx hb dX2_nextOrder_20 rfl (lv_at hl 0 rfl) ?_
        refine wg (C := RX2) (T := TX2) (N := 7) (v := wR loc 8) hx hb hts iX2 hown hKn.1 hH (q := 7) (hB.1 7 3 (by decide)) (by decide) rfl rfl 0 (by decide) k11 rfl dX2_nextOrder_21 ?_
        refine lv_iload_n hx hb dX2_nextOrder_24 rfl (lv_at hl 1 rfl) ?_
        refine lv_iconst (v := 1) hx hb dX2_nextOrder_25 (by decide) ?_
        refine lv_iadd hx hb dX2_nextOrder_26 ?_
        obtain ⟨g10, hf⟩ := wGd_e hf
        refine waa (kd := 9) (ki := 2) hx hb hKn.1 hH (hB.1 8 9 (by decide)) (by decide) rfl rfl (hB.2.1 8 _ (by decide)) g10 dX2_nextOrder_27 ?_
        obtain ⟨g11, hf⟩ := wGd_e hf
        refine wg (C := RX0) (T := TX0) (N := 11) (v := .int (iv (rv 8 (x2 + 1).toNatClampNeg) 0)) hx hb hts iX0 hown hKn.1 hH (q := (rv 8 (x2 + 1).toNatClampNeg)) g11 (by decide) rfl rfl 0 (by decide) k53 rfl dX2_nextOrder_28 ?_
        refine lv_icmp_le (tgt := 40) hx hb dX2_nextOrder_31 (by decide) (fun c12 => ?_) (fun c12 => ?_)
        · have hf := wIt c12 hf
          cases hf
          exact hk4 _ _ _ hH hS (lv_sub hl [0, 1] rfl)
        · have hf := wIf c12 hf
          refine lv_iinc (v := (x2 + (-1))) (lv' := [(1, .int (x2 + (-1))), (0, wR loc 7)]) hx hb dX2_nextOrder_34 hl (k := 1) rfl rfl (by decide) rfl (fun ls hl => ?_)
          refine lv_goto (tgt := 7) hx hb dX2_nextOrder_37 (by decide) ?_
          exact ih _ _ _ _ hf hH hS (lv_sub hl [1, 0] rfl)
  exact lp5 wN _ _ _ _ hL3 hH hS (lv_sub hl [1, 0] rfl)
noncomputable def fX2_findBest_14 (ng : Nat) (sh : Nat → Nat) : Nat → wI → wJ → Int32 → Option (wI × wJ)
  | 0, _, _, _ => none
  | n + 1, iv, rv, x1 => if 120 ≤ x1 then some (iv, rv) else wB2 (fX2_nextOrder ng sh iv rv) (fun (rv9 : wJ) (r10 : Int32) => if r10 = 0 then some (iv, rv9) else wB2 (fX2_sumOfOrder ng sh iv rv9) (fun (iv13 : wI) (r14 : Int32) => if (iv13 7 6) ≤ r14 then fX2_findBest_14 ng sh n iv13 rv9 (x1 + 1) else wLt (wU iv13 7 6 r14) (fun (iv17 : wI) => wBd (fX2_keepOrder ng sh iv17 rv9) (fun (iv19 : wI) => fX2_findBest_14 ng sh n iv19 rv9 (x1 + 1)))))
noncomputable def fX2_findBest (ng : Nat) (sh : Nat → Nat) (iv : wI) (rv : wJ) : Option (wI × wJ) := wB2 (fX2_sumOfOrder ng sh iv rv) (fun (iv1 : wI) (r2 : Int32) => wLt (wU iv1 7 6 r2) (fun (iv4 : wI) => wBd (fX2_keepOrder ng sh iv4 rv) (fun (iv6 : wI) => wB2 (fX2_findBest_14 ng sh wN iv6 rv 1) (fun (iv15 : wI) (rv16 : wJ) => some (iv15, rv16)))))
set_option maxHeartbeats 4000000 in
set_option maxRecDepth 100000 in
theorem mtX2_findBest (l : Launch) (D : va_G) (K : Nat → ClassId) (loc sh ln : Nat → Nat) (iv : wI) (rv : wJ) (sz : Nat) (ng : Nat) {iv' : wI} {rv' : wJ} (hB : wBx ng sh ln) (hf : fX2_findBest ng sh iv rv = some (iv', rv')) : Met l yX2_findBest wsX2_findBest ({ frames := 3, cells := 0, slots := 0, locals := 71 }) (wPc D K loc sh ln iv rv sz [wR loc 7]) (wQv D K loc sh ln iv' rv' sz) 0 0 (wA loc sh sz) := by
  refine Met.ofW (cc := cX2_findBest) (maxL := 3) (ret := none) (by decide) rfl ?_
  intro p e s m args below meth c s₁ B hml hv
  obtain ⟨rfl, hsz, hH, hKn⟩ := hv
  have hx := B.exec
  have hb := B.bytes
  have hr := B.returns
  have hts := atoms_spec (ws := wsX2_findBest) B.pre
  have hown : s.vm.findClass RX2 = some m.cls := findClass_of_methodNamed B.named
  have hlocks := B.notSynchronized
  subst hsz
  have hA : ∀ q : Nat, s.heap.size ≤ q → wA loc sh s.heap.size q := fun q h => Or.inr h
  have hO : ∀ a, sh a ≠ 0 → wA loc sh s.heap.size (loc a) := fun a h => Or.inl ⟨a, h, rfl⟩
  have hS : va_S (wA loc sh s.heap.size) s.heap s.heap [] := va_S.rf
  obtain ⟨ls, hen, hl⟩ := wEntry m [wR loc 7] 3 (List.forall_mem_cons.mpr ⟨wR_cat _ _, fun _ h => absurd h List.not_mem_nil⟩) (Nat.le_of_ble_eq_true rfl)
  rw [hen]
  clear hen
  have hl : lv_has ls 3 [(0, wR loc 7)] := hl
  have k32 := hts (.fieldLink RX2 32 "CupByCup$Planner" "bestSum" "I") (List.mem_of_getElem? (i := 1) rfl)
  have iX2 : ∀ w ∈ wsX20, w ∈ wsX2_findBest := fun w h => List.mem_cons_of_mem _ (List.mem_append_left _ (List.mem_append_left _ (List.mem_append_right _ h)))
  unfold fX2_findBest at hf
  refine wald_n hx hb dX2_findBest_0 rfl (lv_at hl 0 rfl) ?_
  refine wald_n hx hb dX2_findBest_1 rfl (lv_at hl 0 rfl) ?_
  obtain ⟨iv1, r2, h3, hf⟩ := wB2_e hf
  refine wci (va_runV (As := []) (rest := [wR loc 7]) ⟨hx, hb, hml, hown, hts⟩ (mtX2_sumOfOrder l D K loc sh ln iv rv _ ng hB h3) (cwV 0 hts gX2_findBest_X2_sumOfOrder rfl rfl rfl (by decide +kernel) ⟨Nat.le_of_ble_eq_true rfl, Nat.le_of_ble_eq_true rfl⟩) (wPreV hKn hH (hB.1 7 3 (by decide)) (by decide) rfl rfl) rfl rfl hl.1 rfl (lv_room (Nat.le_of_ble_eq_true rfl)) dX2_findBest_2 ⟨Nat.zero_le _, Nat.zero_le _⟩) hS hO hA (fun H locs hH hS => ?_)
  obtain ⟨iv4, e5, hf⟩ := wLt_e hf
  refine wp (C := RX2) (T := TX2) (N := 7) (v := .int r2) (ty := tyX2 6) (iv' := iv4) (rv' := rv) hx hb hts iX2 tyX2 tyX2_ok nmX2 hown hKn.1 hH hO hS (q := 7) (hB.1 7 3 (by decide)) (by decide) rfl rfl 6 (by decide) k32 rfl (tyX2_ok 6 (by decide)) rfl rfl (Nat.le_of_ble_eq_true rfl) (by rw [e5, wU_self]; rfl) (fun a ha => by rw [e5]; exact wU_ne a ha) (fun _ _ => rfl) dX2_findBest_5 (fun H locs hH hS => ?_)
  refine wald_n hx hb dX2_findBest_8 rfl (lv_at hl 0 rfl) ?_
  obtain ⟨iv6, h7, hf⟩ := wBd_e hf
  refine wcv (va_runV (As := []) (rest := []) ⟨hx, hb, hml, hown, hts⟩ (mtX2_keepOrder l D K loc sh ln iv4 rv _ ng hB h7) (cwV 0 hts gX2_findBest_X2_keepOrder rfl rfl rfl (by decide +kernel) ⟨Nat.le_of_ble_eq_true rfl, Nat.le_of_ble_eq_true rfl⟩) (wPreV hKn hH (hB.1 7 3 (by decide)) (by decide) rfl rfl) rfl rfl hl.1 rfl (lv_room (Nat.le_of_ble_eq_true rfl)) dX2_findBest_9 ⟨Nat.zero_le _, Nat.zero_le _⟩) hS hO hA (fun H locs hH hS => ?_)
  refine lv_iconst (v := 1) hx hb dX2_findBest_12 (by decide) ?_
  refine lv_istore_n (lv' := [(1, .int 1), (0, wR loc 7)]) hx hb dX2_findBest_13 rfl hl (by decide) rfl (fun ls hl => ?_)
  obtain ⟨iv15, rv16, hL12, hf⟩ := wB2_e hf
  have hk13 : ∀ (H : Heap) (locs : List Loc) (ls : Array Slot), wH D K loc sh ln iv15 rv16 H → va_S (wA loc sh s.heap.size) s.heap H locs → lv_has ls 3 [] → W p l e (headSpec wsX2_findBest ({ frames := 3, cells := 0, slots := 0, locals := 71 })).room s m ([wR loc 7] : List Value).toArray below meth c H locs 0 0 (MQ below (wQv D K loc sh ln iv' rv' s.heap.size) ([wR loc 7] : List Value).toArray s 0 0 (wA loc sh s.heap.size)) (F0 m 55 ls []) := by
    clear hL12 hl hS hH
    intro H locs ls hH hS hl
    cases hf
    exact W.vret hx hb hr (fun t ht hW => ⟨⟨(), rfl, trivial, by show wH _ _ _ _ _ _ _ t.heap; rw [ht]; exact hH⟩, hS.F ht⟩) hS.2.2 dX2_findBest_55
  have lp14 : ∀ (n8 : Nat) (iv9 : wI) (rv10 : wJ) (x11 : Int32) (H : Heap) (locs : List Loc) (ls : Array Slot), fX2_findBest_14 ng sh n8 iv9 rv10 x11 = some (iv15, rv16) → wH D K loc sh ln iv9 rv10 H → va_S (wA loc sh s.heap.size) s.heap H locs → lv_has ls 3 [(0, wR loc 7), (1, .int x11)] → W p l e (headSpec wsX2_findBest ({ frames := 3, cells := 0, slots := 0, locals := 71 })).room s m ([wR loc 7] : List Value).toArray below meth c H locs 0 0 (MQ below (wQv D K loc sh ln iv' rv' s.heap.size) ([wR loc 7] : List Value).toArray s 0 0 (wA loc sh s.heap.size)) (F0 m 14 ls []) := by
    clear hf hl hS hH hL12
    intro n8
    induction n8 with
    | zero => intro iv9 rv10 x11 H locs ls hf; cases hf
    | succ n8 ih =>
      intro iv9 rv10 x11 H locs ls hf hH hS hl
      rw [fX2_findBest_14.eq_2] at hf
      refine lv_iload_n hx hb dX2_findBest_14 rfl (lv_at hl 1 rfl) ?_
      refine lv_bipush (v := 120) hx hb dX2_findBest_15 (by decide) ?_
      refine lv_icmp_ge (tgt := 55) hx hb dX2_findBest_17 (by decide) (fun c17 => ?_) (fun c17 => ?_)
      · have hf := wIt c17 hf
        cases hf
        exact hk13 _ _ _ hH hS (lv_sub hl [] rfl)
      · have hf := wIf c17 hf
        refine wald_n hx hb dX2_findBest_20 rfl (lv_at hl 0 rfl) ?_
        obtain ⟨rv18, r19, h20, hf⟩ := wB2_e hf
        refine wci (va_runV (As := []) (rest := []) ⟨hx, hb, hml, hown, hts⟩ (mtX2_nextOrder l D K loc sh ln iv9 rv10 _ ng hB h20) (cwV 0 hts gX2_findBest_X2_nextOrder rfl rfl rfl (by decide +kernel) ⟨Nat.le_of_ble_eq_true rfl, Nat.le_of_ble_eq_true rfl⟩) (wPreV hKn hH (hB.1 7 3 (by decide)) (by decide) rfl rfl) rfl rfl hl.1 rfl (lv_room (Nat.le_of_ble_eq_true rfl)) dX2_findBest_21 ⟨Nat.zero_le _, Nat.zero_le _⟩) hS hO hA (fun H locs hH hS => ?_)
        refine lv_if_eq (tgt := 55) hx hb dX2_findBest_24 (by decide) (fun c21 => ?_) (fun c21 => ?_)
        · have hf := wIt c21 hf
          cases hf
          exact hk13 _ _ _ hH hS (lv_sub hl [] rfl)
        · have hf := wIf c21 hf
          refine wald_n hx hb dX2_findBest_27 rfl (lv_at hl 0 rfl) ?_
          obtain ⟨iv22, r23, h24, hf⟩ := wB2_e hf
          refine wci (va_runV (As := []) (rest := []) ⟨hx, hb, hml, hown, hts⟩ (mtX2_sumOfOrder l D K loc sh ln iv9 rv18 _ ng hB h24) (cwV 0 hts gX2_findBest_X2_sumOfOrder rfl rfl rfl (by decide +kernel) ⟨Nat.le_of_ble_eq_true rfl, Nat.le_of_ble_eq_true rfl⟩) (wPreV hKn hH (hB.1 7 3 (by decide)) (by decide) rfl rfl) rfl rfl hl.1 rfl (lv_room (Nat.le_of_ble_eq_true rfl)) dX2_findBest_28 ⟨Nat.zero_le _, Nat.zero_le _⟩) hS hO hA (fun H locs hH hS => ?_)
          refine lv_istore_n (lv' := [(2, .int r23), (0, wR loc 7), (1, .int x11)]) hx hb dX2_findBest_31 rfl hl (by decide) rfl (fun ls hl => ?_)
          refine lv_iload_n hx hb dX2_findBest_32 rfl (lv_at hl 0 rfl) ?_
          refine wald_n hx hb dX2_findBest_33 rfl (lv_at hl 1 rfl) ?_
          refine wg (C := RX2) (T := TX2) (N := 7) (v := .int (iv22 7 6)) hx hb hts iX2 hown hKn.1 hH (q := 7) (hB.1 7 3 (by decide)) (by decide) rfl rfl 6 (by decide) k32 rfl dX2_findBest_34 ?_
          refine lv_icmp_ge (tgt := 49) hx hb dX2_findBest_37 (by decide) (fun c25 => ?_) (fun c25 => ?_)
          · have hf := wIt c25 hf
            refine lv_iinc (v := (x11 + 1)) (lv' := [(1, .int (x11 + 1)), (2, .int r23), (0, wR loc 7)]) hx hb dX2_findBest_49 hl (k := 2) rfl rfl (by decide) rfl (fun ls hl => ?_)
            refine lv_goto (tgt := 14) hx hb dX2_findBest_52 (by decide) ?_
            exact ih _ _ _ _ _ _ hf hH hS (lv_sub hl [2, 0] rfl)
          · have hf := wIf c25 hf
            refine wald_n hx hb dX2_findBest_40 rfl (lv_at hl 1 rfl) ?_
            refine lv_iload_n hx hb dX2_findBest_41 rfl (lv_at hl 0 rfl) ?_
            obtain ⟨iv26, e27, hf⟩ := wLt_e hf
            refine wp (C := RX2) (T := TX2) (N := 7) (v := .int r23) (ty := tyX2 6) (iv' := iv26) (rv' := rv18) hx hb hts iX2 tyX2 tyX2_ok nmX2 hown hKn.1 hH hO hS (q := 7) (hB.1 7 3 (by decide)) (by decide) rfl rfl 6 (by decide) k32 rfl (tyX2_ok 6 (by decide)) rfl rfl (Nat.le_of_ble_eq_true rfl) (by rw [e27, wU_self]; rfl) (fun a ha => by rw [e27]; exact wU_ne a ha) (fun _ _ => rfl) dX2_findBest_42 (fun H locs hH hS => ?_)
            refine wald_n hx hb dX2_findBest_45 rfl (lv_at hl 1 rfl) ?_
            obtain ⟨iv28, h29, hf⟩ := wBd_e hf
            refine wcv (va_runV (As := []) (rest := []) ⟨hx, hb, hml, hown, hts⟩ (mtX2_keepOrder l D K loc sh ln iv26 rv18 _ ng hB h29) (cwV 0 hts gX2_findBest_X2_keepOrder rfl rfl rfl (by decide +kernel) ⟨Nat.le_of_ble_eq_true rfl, Nat.le_of_ble_eq_true rfl⟩) (wPreV hKn hH (hB.1 7 3 (by decide)) (by decide) rfl rfl) rfl rfl hl.1 rfl (lv_room (Nat.le_of_ble_eq_true rfl)) dX2_findBest_46 ⟨Nat.zero_le _, Nat.zero_le _⟩) hS hO hA (fun H locs hH hS => ?_)
            refine lv_iinc (v := (x11 + 1)) (lv' := [(1, .int (x11 + 1)), (2, .int r23), (0, wR loc 7)]) hx hb dX2_findBest_49 hl (k := 2) rfl rfl (by decide) rfl (fun ls hl => ?_)
            refine lv_goto (tgt := 14) hx hb dX2_findBest_52 (by decide) ?_
            exact ih _ _ _ _ _ _ hf hH hS (lv_sub hl [2, 0] rfl)
  exact lp14 wN _ _ _ _ _ _ hL12 hH hS (lv_sub hl [1, 0] rfl)
noncomputable def fX4_isAmong  (a0 : Int32) (a1 : Int32) : Option (Int32) := if a0 < 0 then some (0 : Int32) else if a1 ≤ a0 then some (0 : Int32) else some (1 : Int32)
set_option maxHeartbeats 4000000 in
set_option maxRecDepth 100000 in
theorem mtX4_isAmong (l : Launch) (D : va_G) (K : Nat → ClassId) (loc sh ln : Nat → Nat) (iv : wI) (rv : wJ) (sz : Nat) (ng : Nat) (a0 : Int32) (a1 : Int32) {r' : Int32} (hf : fX4_isAmong a0 a1 = some r') : Met l yX4_isAmong wsX4_isAmong ({ frames := 0, cells := 0, slots := 0, locals := 0 }) (wPc D K loc sh ln iv rv sz [.int a0, .int a1]) (wQi D K loc sh ln iv rv sz r') 0 0 (wA loc sh sz) := by
  refine Met.ofW (cc := cX4_isAmong) (maxL := 2) (ret := (some .boolean)) (by decide) rfl ?_
  intro p e s m args below meth c s₁ B hml hv
  obtain ⟨rfl, hsz, hH, hKn⟩ := hv
  have hx := B.exec
  have hb := B.bytes
  have hr := B.returns
  have hts := atoms_spec (ws := wsX4_isAmong) B.pre
  have hown : s.vm.findClass RX4 = some m.cls := findClass_of_methodNamed B.named
  have hlocks := B.notSynchronized
  subst hsz
  have hA : ∀ q : Nat, s.heap.size ≤ q → wA loc sh s.heap.size q := fun q h => Or.inr h
  have hO : ∀ a, sh a ≠ 0 → wA loc sh s.heap.size (loc a) := fun a h => Or.inl ⟨a, h, rfl⟩
  have hS : va_S (wA loc sh s.heap.size) s.heap s.heap [] := va_S.rf
  obtain ⟨ls, hen, hl⟩ := wEntry m [.int a0, .int a1] 2 (List.forall_mem_cons.mpr ⟨rfl, List.forall_mem_cons.mpr ⟨rfl, fun _ h => absurd h List.not_mem_nil⟩⟩) (Nat.le_of_ble_eq_true rfl)
  rw [hen]
  clear hen
  have hl : lv_has ls 2 [(0, .int a0), (1, .int a1)] := hl
  unfold fX4_isAmong at hf
  refine lv_iload_n hx hb dX4_isAmong_0 rfl (lv_at hl 0 rfl) ?_
  refine lv_if_lt (tgt := 13) hx hb dX4_isAmong_1 (by decide) (fun c1 => ?_) (fun c1 => ?_)
  · have hf := wIt c1 hf
    refine lv_iconst (v := 0) hx hb dX4_isAmong_13 (by decide) ?_
    cases hf
    exact W.zret hx hb hr rfl (fun t ht hW => ⟨⟨_, (), rfl, rfl, by show wH _ _ _ _ _ _ _ t.heap; rw [ht]; exact hH⟩, hS.F ht⟩) hS.2.2 dX4_isAmong_14
  · have hf := wIf c1 hf
    refine lv_iload_n hx hb dX4_isAmong_4 rfl (lv_at hl 0 rfl) ?_
    refine lv_iload_n hx hb dX4_isAmong_5 rfl (lv_at hl 1 rfl) ?_
    refine lv_icmp_ge (tgt := 13) hx hb dX4_isAmong_6 (by decide) (fun c2 => ?_) (fun c2 => ?_)
    · have hf := wIt c2 hf
      refine lv_iconst (v := 0) hx hb dX4_isAmong_13 (by decide) ?_
      cases hf
      exact W.zret hx hb hr rfl (fun t ht hW => ⟨⟨_, (), rfl, rfl, by show wH _ _ _ _ _ _ _ t.heap; rw [ht]; exact hH⟩, hS.F ht⟩) hS.2.2 dX4_isAmong_14
    · have hf := wIf c2 hf
      refine lv_iconst (v := 1) hx hb dX4_isAmong_9 (by decide) ?_
      refine lv_goto (tgt := 14) hx hb dX4_isAmong_10 (by decide) ?_
      cases hf
      exact W.zret hx hb hr rfl (fun t ht hW => ⟨⟨_, (), rfl, rfl, by show wH _ _ _ _ _ _ _ t.heap; rw [ht]; exact hH⟩, hS.F ht⟩) hS.2.2 dX4_isAmong_14
noncomputable def fX2_bestAt (ng : Nat) (sh : Nat → Nat) (iv : wI) (rv : wJ) (a1 : Int32) : Option (Int32) := wBd (fX4_isAmong a1 (iv 7 5)) (fun (r1 : Int32) => if r1 = 0 then some ((-1) : Int32) else wGd (vp_in a1 5) (some (iv 9 a1.toNatClampNeg)))
set_option maxHeartbeats 4000000 in
set_option maxRecDepth 100000 in
theorem mtX2_bestAt (l : Launch) (D : va_G) (K : Nat → ClassId) (loc sh ln : Nat → Nat) (iv : wI) (rv : wJ) (sz : Nat) (ng : Nat) (a1 : Int32) {r' : Int32} (hB : wBx ng sh ln) (hf : fX2_bestAt ng sh iv rv a1 = some r') : Met l yX2_bestAt wsX2_bestAt ({ frames := 1, cells := 0, slots := 0, locals := 21 }) (wPc D K loc sh ln iv rv sz [wR loc 7, .int a1]) (wQi D K loc sh ln iv rv sz r') 0 0 (wA loc sh sz) := by
  refine Met.ofW (cc := cX2_bestAt) (maxL := 2) (ret := (some .int)) (by decide) rfl ?_
  intro p e s m args below meth c s₁ B hml hv
  obtain ⟨rfl, hsz, hH, hKn⟩ := hv
  have hx := B.exec
  have hb := B.bytes
  have hr := B.returns
  have hts := atoms_spec (ws := wsX2_bestAt) B.pre
  have hown : s.vm.findClass RX2 = some m.cls := findClass_of_methodNamed B.named
  have hlocks := B.notSynchronized
  subst hsz
  have hA : ∀ q : Nat, s.heap.size ≤ q → wA loc sh s.heap.size q := fun q h => Or.inr h
  have hO : ∀ a, sh a ≠ 0 → wA loc sh s.heap.size (loc a) := fun a h => Or.inl ⟨a, h, rfl⟩
  have hS : va_S (wA loc sh s.heap.size) s.heap s.heap [] := va_S.rf
  obtain ⟨ls, hen, hl⟩ := wEntry m [wR loc 7, .int a1] 2 (List.forall_mem_cons.mpr ⟨wR_cat _ _, List.forall_mem_cons.mpr ⟨rfl, fun _ h => absurd h List.not_mem_nil⟩⟩) (Nat.le_of_ble_eq_true rfl)
  rw [hen]
  clear hen
  have hl : lv_has ls 2 [(0, wR loc 7), (1, .int a1)] := hl
  have k28 := hts (.fieldLink RX2 28 "CupByCup$Planner" "size" "I") (List.mem_of_getElem? (i := 1) rfl)
  have iX2 : ∀ w ∈ wsX20, w ∈ wsX2_bestAt := fun w h => List.mem_cons_of_mem _ (List.mem_append_right _ h)
  have k17 := hts (.fieldLink RX2 17 "CupByCup$Planner" "best" "[I") (List.mem_of_getElem? (i := 2) rfl)
  unfold fX2_bestAt at hf
  refine lv_iload_n hx hb dX2_bestAt_0 rfl (lv_at hl 1 rfl) ?_
  refine wald_n hx hb dX2_bestAt_1 rfl (lv_at hl 0 rfl) ?_
  refine wg (C := RX2) (T := TX2) (N := 7) (v := .int (iv 7 5)) hx hb hts iX2 hown hKn.1 hH (q := 7) (hB.1 7 3 (by decide)) (by decide) rfl rfl 5 (by decide) k28 rfl dX2_bestAt_2 ?_
  obtain ⟨r1, h2, hf⟩ := wBd_e hf
  refine wci (va_runSN (As := [.int a1, .int (iv 7 5)]) (rest := []) ⟨hx, hb, hml, hown, hts⟩ (mtX4_isAmong l D K loc sh ln iv rv _ ng a1 (iv 7 5) h2) ⟨va_cnB 2 hts gX2_bestAt_X4_isAmong_n49 rfl rfl rfl hKn.2.2.2.2 (hts (.initialized RX4) (List.mem_of_getElem? (i := 4) rfl)) (by decide +kernel) ⟨Nat.le_of_ble_eq_true rfl, Nat.le_of_ble_eq_true rfl⟩, (hts (.static yX4_isAmong) (List.mem_of_getElem? (i := 3) rfl)), trivial⟩ (wPreS hKn hH) rfl rfl hl.1 rfl (lv_room (Nat.le_of_ble_eq_true rfl)) dX2_bestAt_5 ⟨Nat.zero_le _, Nat.zero_le _⟩) hS hO hA (fun H locs hH hS => ?_)
  refine lv_if_eq (tgt := 20) hx hb dX2_bestAt_8 (by decide) (fun c3 => ?_) (fun c3 => ?_)
  · have hf := wIt c3 hf
    refine lv_iconst (v := (-1)) hx hb dX2_bestAt_20 (by decide) ?_
    cases hf
    exact W.iret hx hb hr (fun t ht hW => ⟨⟨_, (), rfl, rfl, by show wH _ _ _ _ _ _ _ t.heap; rw [ht]; exact hH⟩, hS.F ht⟩) hS.2.2 dX2_bestAt_21
  · have hf := wIf c3 hf
    refine wald_n hx hb dX2_bestAt_11 rfl (lv_at hl 0 rfl) ?_
    refine wg (C := RX2) (T := TX2) (N := 7) (v := wR loc 9) hx hb hts iX2 hown hKn.1 hH (q := 7) (hB.1 7 3 (by decide)) (by decide) rfl rfl 1 (by decide) k17 rfl dX2_bestAt_12 ?_
    refine lv_iload_n hx hb dX2_bestAt_15 rfl (lv_at hl 1 rfl) ?_
    obtain ⟨g4, hf⟩ := wGd_e hf
    refine wia hx hb hKn.1 hH (hB.1 9 7 (by decide)) (hB.2.1 9 _ (by decide)) g4 dX2_bestAt_16 ?_
    refine lv_goto (tgt := 21) hx hb dX2_bestAt_17 (by decide) ?_
    cases hf
    exact W.iret hx hb hr (fun t ht hW => ⟨⟨_, (), rfl, rfl, by show wH _ _ _ _ _ _ _ t.heap; rw [ht]; exact hH⟩, hS.F ht⟩) hS.2.2 dX2_bestAt_21
noncomputable def fX3_init (ng : Nat) (sh : Nat → Nat) (iv : wI) (rv : wJ) (g0 : Nat) (a1 : Int32) (a2 : Int32) (a3 : Int32) (a4 : Int32) (a5 : Int32) (a6 : Int32) : Option (wI) := wLt (wU iv g0 0 a1) (fun (iv1 : wI) => wLt (wU iv1 g0 1 a2) (fun (iv3 : wI) => wLt (wU iv3 g0 2 a3) (fun (iv5 : wI) => wLt (wU iv5 g0 3 a4) (fun (iv7 : wI) => wLt (wU iv7 g0 4 a5) (fun (iv9 : wI) => wLt (wU iv9 g0 5 a6) (fun (iv11 : wI) => some iv11))))))
set_option maxHeartbeats 4000000 in
set_option maxRecDepth 100000 in
theorem mtX3_init (l : Launch) (D : va_G) (K : Nat → ClassId) (loc sh ln : Nat → Nat) (iv : wI) (rv : wJ) (sz : Nat) (ng : Nat) (g0 : Nat) (a1 : Int32) (a2 : Int32) (a3 : Int32) (a4 : Int32) (a5 : Int32) (a6 : Int32) {iv' : wI} (hg0 : sh g0 = 4) (hf : fX3_init ng sh iv rv g0 a1 a2 a3 a4 a5 a6 = some iv') : Met l yX3_init wsX3_init ({ frames := 1, cells := 0, slots := 0, locals := 20 }) (wPc D K loc sh ln iv rv sz [wR loc g0, .int a1, .int a2, .int a3, .int a4, .int a5, .int a6]) (wQv D K loc sh ln iv' rv sz) 0 0 (wA loc sh sz) := by
  refine Met.ofW (cc := cX3_init) (maxL := 7) (ret := none) (by decide) rfl ?_
  intro p e s m args below meth c s₁ B hml hv
  obtain ⟨rfl, hsz, hH, hKn⟩ := hv
  have hx := B.exec
  have hb := B.bytes
  have hr := B.returns
  have hts := atoms_spec (ws := wsX3_init) B.pre
  have hown : s.vm.findClass RX3 = some m.cls := findClass_of_methodNamed B.named
  have hlocks := B.notSynchronized
  subst hsz
  have hA : ∀ q : Nat, s.heap.size ≤ q → wA loc sh s.heap.size q := fun q h => Or.inr h
  have hO : ∀ a, sh a ≠ 0 → wA loc sh s.heap.size (loc a) := fun a h => Or.inl ⟨a, h, rfl⟩
  have hS : va_S (wA loc sh s.heap.size) s.heap s.heap [] := va_S.rf
  obtain ⟨ls, hen, hl⟩ := wEntry m [wR loc g0, .int a1, .int a2, .int a3, .int a4, .int a5, .int a6] 7 (List.forall_mem_cons.mpr ⟨wR_cat _ _, List.forall_mem_cons.mpr ⟨rfl, List.forall_mem_cons.mpr ⟨rfl, List.forall_mem_cons.mpr ⟨rfl, List.forall_mem_cons.mpr ⟨rfl, List.forall_mem_cons.mpr ⟨rfl, List.forall_mem_cons.mpr ⟨rfl, fun _ h => absurd h List.not_mem_nil⟩⟩⟩⟩⟩⟩⟩) (Nat.le_of_ble_eq_true rfl)
  rw [hen]
  clear hen
  have hl : lv_has ls 7 [(0, wR loc g0), (1, .int a1), (2, .int a2), (3, .int a3), (4, .int a4), (5, .int a5), (6, .int a6)] := hl
  have hin : meth.name = "<init>" := (name_of_methodNamed B.named B.method).1
  have k7 := hts (.fieldLink RX3 7 "CupByCup$Recipe" "beans" "I") (List.mem_of_getElem? (i := 4) rfl)
  have iX3 : ∀ w ∈ wsX30, w ∈ wsX3_init := fun w h => List.mem_cons_of_mem _ (List.mem_append_right _ h)
  have k13 := hts (.fieldLink RX3 13 "CupByCup$Recipe" "grind" "I") (List.mem_of_getElem? (i := 5) rfl)
  have k16 := hts (.fieldLink RX3 16 "CupByCup$Recipe" "brew" "I") (List.mem_of_getElem? (i := 6) rfl)
  have k19 := hts (.fieldLink RX3 19 "CupByCup$Recipe" "steam" "I") (List.mem_of_getElem? (i := 7) rfl)
  have k22 := hts (.fieldLink RX3 22 "CupByCup$Recipe" "water" "I") (List.mem_of_getElem? (i := 8) rfl)
  have k25 := hts (.fieldLink RX3 25 "CupByCup$Recipe" "milk" "I") (List.mem_of_getElem? (i := 9) rfl)
  unfold fX3_init at hf
  refine wald_n hx hb dX3_init_0 rfl (lv_at hl 0 rfl) ?_
  refine W.eq (g2 := F0 m 1 ls (.ref (loc g0) :: [])) (by rw [wR_ref (hH.nz hg0 (by decide))]) ?_
  refine W.objInit hx hb hown (hts (.methodLink RX3 1 objectInit) (List.mem_of_getElem? (i := 1) rfl)) (hts (.instanceMethod objectInit) (List.mem_of_getElem? (i := 2) rfl)) (hts (.code objectInit ⟨#[0xb1]⟩ 1 none) (List.mem_of_getElem? (i := 3) rfl)) rfl (by rw [hml]; exact hl.1) rfl dX3_init_1 (Nat.le_of_ble_eq_true rfl) (Nat.le_of_ble_eq_true rfl) ?_
  refine W.eq (g2 := F0 m 4 ls []) rfl ?_
  refine wald_n hx hb dX3_init_4 rfl (lv_at hl 0 rfl) ?_
  refine lv_iload_n hx hb dX3_init_5 rfl (lv_at hl 1 rfl) ?_
  obtain ⟨iv1, e2, hf⟩ := wLt_e hf
  refine wpF (C := RX3) (T := TX3) (N := 6) (v := .int a1) (ty := tyX3 0) (iv' := iv1) (rv' := rv) hx hb hts iX3 tyX3 tyX3_ok nmX3 hown hKn.1 hH hO hS (q := g0) hg0 (by decide) rfl rfl 0 (by decide) k7 rfl hin rfl (tyX3_ok 0 (by decide)) rfl rfl (Nat.le_of_ble_eq_true rfl) (by rw [e2, wU_self]; rfl) (fun a ha => by rw [e2]; exact wU_ne a ha) (fun _ _ => rfl) dX3_init_6 (fun H locs hH hS => ?_)
  refine wald_n hx hb dX3_init_9 rfl (lv_at hl 0 rfl) ?_
  refine lv_iload_n hx hb dX3_init_10 rfl (lv_at hl 2 rfl) ?_
  obtain ⟨iv3, e4, hf⟩ := wLt_e hf
  refine wpF (C := RX3) (T := TX3) (N := 6) (v := .int a2) (ty := tyX3 1) (iv' := iv3) (rv' := rv) hx hb hts iX3 tyX3 tyX3_ok nmX3 hown hKn.1 hH hO hS (q := g0) hg0 (by decide) rfl rfl 1 (by decide) k13 rfl hin rfl (tyX3_ok 1 (by decide)) rfl rfl (Nat.le_of_ble_eq_true rfl) (by rw [e4, wU_self]; rfl) (fun a ha => by rw [e4]; exact wU_ne a ha) (fun _ _ => rfl) dX3_init_11 (fun H locs hH hS => ?_)
  refine wald_n hx hb dX3_init_14 rfl (lv_at hl 0 rfl) ?_
  refine lv_iload_n hx hb dX3_init_15 rfl (lv_at hl 3 rfl) ?_
  obtain ⟨iv5, e6, hf⟩ := wLt_e hf
  refine wpF (C := RX3) (T := TX3) (N := 6) (v := .int a3) (ty := tyX3 2) (iv' := iv5) (rv' := rv) hx hb hts iX3 tyX3 tyX3_ok nmX3 hown hKn.1 hH hO hS (q := g0) hg0 (by decide) rfl rfl 2 (by decide) k16 rfl hin rfl (tyX3_ok 2 (by decide)) rfl rfl (Nat.le_of_ble_eq_true rfl) (by rw [e6, wU_self]; rfl) (fun a ha => by rw [e6]; exact wU_ne a ha) (fun _ _ => rfl) dX3_init_16 (fun H locs hH hS => ?_)
  refine wald_n hx hb dX3_init_19 rfl (lv_at hl 0 rfl) ?_
  refine lv_iload hx hb dX3_init_20 (lv_at hl 4 rfl) ?_
  obtain ⟨iv7, e8, hf⟩ := wLt_e hf
  refine wpF (C := RX3) (T := TX3) (N := 6) (v := .int a4) (ty := tyX3 3) (iv' := iv7) (rv' := rv) hx hb hts iX3 tyX3 tyX3_ok nmX3 hown hKn.1 hH hO hS (q := g0) hg0 (by decide) rfl rfl 3 (by decide) k19 rfl hin rfl (tyX3_ok 3 (by decide)) rfl rfl (Nat.le_of_ble_eq_true rfl) (by rw [e8, wU_self]; rfl) (fun a ha => by rw [e8]; exact wU_ne a ha) (fun _ _ => rfl) dX3_init_22 (fun H locs hH hS => ?_)
  refine wald_n hx hb dX3_init_25 rfl (lv_at hl 0 rfl) ?_
  refine lv_iload hx hb dX3_init_26 (lv_at hl 5 rfl) ?_
  obtain ⟨iv9, e10, hf⟩ := wLt_e hf
  refine wpF (C := RX3) (T := TX3) (N := 6) (v := .int a5) (ty := tyX3 4) (iv' := iv9) (rv' := rv) hx hb hts iX3 tyX3 tyX3_ok nmX3 hown hKn.1 hH hO hS (q := g0) hg0 (by decide) rfl rfl 4 (by decide) k22 rfl hin rfl (tyX3_ok 4 (by decide)) rfl rfl (Nat.le_of_ble_eq_true rfl) (by rw [e10, wU_self]; rfl) (fun a ha => by rw [e10]; exact wU_ne a ha) (fun _ _ => rfl) dX3_init_28 (fun H locs hH hS => ?_)
  refine wald_n hx hb dX3_init_31 rfl (lv_at hl 0 rfl) ?_
  refine lv_iload hx hb dX3_init_32 (lv_at hl 6 rfl) ?_
  obtain ⟨iv11, e12, hf⟩ := wLt_e hf
  refine wpF (C := RX3) (T := TX3) (N := 6) (v := .int a6) (ty := tyX3 5) (iv' := iv11) (rv' := rv) hx hb hts iX3 tyX3 tyX3_ok nmX3 hown hKn.1 hH hO hS (q := g0) hg0 (by decide) rfl rfl 5 (by decide) k25 rfl hin rfl (tyX3_ok 5 (by decide)) rfl rfl (Nat.le_of_ble_eq_true rfl) (by rw [e12, wU_self]; rfl) (fun a ha => by rw [e12]; exact wU_ne a ha) (fun _ _ => rfl) dX3_init_34 (fun H locs hH hS => ?_)
  cases hf
  exact W.vret hx hb hr (fun t ht hW => ⟨⟨(), rfl, trivial, by show wH _ _ _ _ _ _ _ t.heap; rw [ht]; exact hH⟩, hS.F ht⟩) hS.2.2 dX3_init_37
noncomputable def fX3_isIn  (a0 : Int32) (a1 : Int32) (a2 : Int32) : Option (Int32) := if a0 < a1 then some (0 : Int32) else if a2 < a0 then some (0 : Int32) else some (1 : Int32)
set_option maxHeartbeats 4000000 in
set_option maxRecDepth 100000 in
theorem mtX3_isIn (l : Launch) (D : va_G) (K : Nat → ClassId) (loc sh ln : Nat → Nat) (iv : wI) (rv : wJ) (sz : Nat) (ng : Nat) (a0 : Int32) (a1 : Int32) (a2 : Int32) {r' : Int32} (hf : fX3_isIn a0 a1 a2 = some r') : Met l yX3_isIn wsX3_isIn ({ frames := 0, cells := 0, slots := 0, locals := 0 }) (wPc D K loc sh ln iv rv sz [.int a0, .int a1, .int a2]) (wQi D K loc sh ln iv rv sz r') 0 0 (wA loc sh sz) := by
  refine Met.ofW (cc := cX3_isIn) (maxL := 3) (ret := (some .boolean)) (by decide) rfl ?_
  intro p e s m args below meth c s₁ B hml hv
  obtain ⟨rfl, hsz, hH, hKn⟩ := hv
  have hx := B.exec
  have hb := B.bytes
  have hr := B.returns
  have hts := atoms_spec (ws := wsX3_isIn) B.pre
  have hown : s.vm.findClass RX3 = some m.cls := findClass_of_methodNamed B.named
  have hlocks := B.notSynchronized
  subst hsz
  have hA : ∀ q : Nat, s.heap.size ≤ q → wA loc sh s.heap.size q := fun q h => Or.inr h
  have hO : ∀ a, sh a ≠ 0 → wA loc sh s.heap.size (loc a) := fun a h => Or.inl ⟨a, h, rfl⟩
  have hS : va_S (wA loc sh s.heap.size) s.heap s.heap [] := va_S.rf
  obtain ⟨ls, hen, hl⟩ := wEntry m [.int a0, .int a1, .int a2] 3 (List.forall_mem_cons.mpr ⟨rfl, List.forall_mem_cons.mpr ⟨rfl, List.forall_mem_cons.mpr ⟨rfl, fun _ h => absurd h List.not_mem_nil⟩⟩⟩) (Nat.le_of_ble_eq_true rfl)
  rw [hen]
  clear hen
  have hl : lv_has ls 3 [(0, .int a0), (1, .int a1), (2, .int a2)] := hl
  unfold fX3_isIn at hf
  refine lv_iload_n hx hb dX3_isIn_0 rfl (lv_at hl 0 rfl) ?_
  refine lv_iload_n hx hb dX3_isIn_1 rfl (lv_at hl 1 rfl) ?_
  refine lv_icmp_lt (tgt := 14) hx hb dX3_isIn_2 (by decide) (fun c1 => ?_) (fun c1 => ?_)
  · have hf := wIt c1 hf
    refine lv_iconst (v := 0) hx hb dX3_isIn_14 (by decide) ?_
    cases hf
    exact W.zret hx hb hr rfl (fun t ht hW => ⟨⟨_, (), rfl, rfl, by show wH _ _ _ _ _ _ _ t.heap; rw [ht]; exact hH⟩, hS.F ht⟩) hS.2.2 dX3_isIn_15
  · have hf := wIf c1 hf
    refine lv_iload_n hx hb dX3_isIn_5 rfl (lv_at hl 0 rfl) ?_
    refine lv_iload_n hx hb dX3_isIn_6 rfl (lv_at hl 2 rfl) ?_
    refine lv_icmp_gt (tgt := 14) hx hb dX3_isIn_7 (by decide) (fun c2 => ?_) (fun c2 => ?_)
    · have hf := wIt c2 hf
      refine lv_iconst (v := 0) hx hb dX3_isIn_14 (by decide) ?_
      cases hf
      exact W.zret hx hb hr rfl (fun t ht hW => ⟨⟨_, (), rfl, rfl, by show wH _ _ _ _ _ _ _ t.heap; rw [ht]; exact hH⟩, hS.F ht⟩) hS.2.2 dX3_isIn_15
    · have hf := wIf c2 hf
      refine lv_iconst (v := 1) hx hb dX3_isIn_10 (by decide) ?_
      refine lv_goto (tgt := 15) hx hb dX3_isIn_11 (by decide) ?_
      cases hf
      exact W.zret hx hb hr rfl (fun t ht hW => ⟨⟨_, (), rfl, rfl, by show wH _ _ _ _ _ _ _ t.heap; rw [ht]; exact hH⟩, hS.F ht⟩) hS.2.2 dX3_isIn_15
noncomputable def fX3_canBe (ng : Nat) (sh : Nat → Nat) (iv : wI) (rv : wJ) (g0 : Nat) : Option (Int32) := wBd (fX3_isIn (iv g0 0) 5 30) (fun (r1 : Int32) => if r1 = 0 then some (0 : Int32) else wBd (fX3_isIn (iv g0 1) 1 9) (fun (r4 : Int32) => if r4 = 0 then some (0 : Int32) else wBd (fX3_isIn (iv g0 2) 1 30) (fun (r7 : Int32) => if r7 = 0 then some (0 : Int32) else wBd (fX3_isIn (iv g0 3) 0 20) (fun (r10 : Int32) => if r10 = 0 then some (0 : Int32) else wBd (fX3_isIn (iv g0 4) 10 250) (fun (r13 : Int32) => if r13 = 0 then some (0 : Int32) else wBd (fX3_isIn (iv g0 5) 0 250) (fun (r16 : Int32) => if r16 = 0 then some (0 : Int32) else if 0 < (iv g0 3) then some (1 : Int32) else if (iv g0 5) = 0 then some (1 : Int32) else some (0 : Int32)))))))
set_option maxHeartbeats 4000000 in
set_option maxRecDepth 100000 in
theorem mtX3_canBe (l : Launch) (D : va_G) (K : Nat → ClassId) (loc sh ln : Nat → Nat) (iv : wI) (rv : wJ) (sz : Nat) (ng : Nat) (g0 : Nat) {r' : Int32} (hg0 : sh g0 = 4) (hf : fX3_canBe ng sh iv rv g0 = some r') : Met l yX3_canBe wsX3_canBe ({ frames := 1, cells := 0, slots := 0, locals := 22 }) (wPc D K loc sh ln iv rv sz [wR loc g0]) (wQi D K loc sh ln iv rv sz r') 0 0 (wA loc sh sz) := by
  refine Met.ofW (cc := cX3_canBe) (maxL := 1) (ret := (some .boolean)) (by decide) rfl ?_
  intro p e s m args below meth c s₁ B hml hv
  obtain ⟨rfl, hsz, hH, hKn⟩ := hv
  have hx := B.exec
  have hb := B.bytes
  have hr := B.returns
  have hts := atoms_spec (ws := wsX3_canBe) B.pre
  have hown : s.vm.findClass RX3 = some m.cls := findClass_of_methodNamed B.named
  have hlocks := B.notSynchronized
  subst hsz
  have hA : ∀ q : Nat, s.heap.size ≤ q → wA loc sh s.heap.size q := fun q h => Or.inr h
  have hO : ∀ a, sh a ≠ 0 → wA loc sh s.heap.size (loc a) := fun a h => Or.inl ⟨a, h, rfl⟩
  have hS : va_S (wA loc sh s.heap.size) s.heap s.heap [] := va_S.rf
  obtain ⟨ls, hen, hl⟩ := wEntry m [wR loc g0] 1 (List.forall_mem_cons.mpr ⟨wR_cat _ _, fun _ h => absurd h List.not_mem_nil⟩) (Nat.le_of_ble_eq_true rfl)
  rw [hen]
  clear hen
  have hl : lv_has ls 1 [(0, wR loc g0)] := hl
  have k7 := hts (.fieldLink RX3 7 "CupByCup$Recipe" "beans" "I") (List.mem_of_getElem? (i := 1) rfl)
  have iX3 : ∀ w ∈ wsX30, w ∈ wsX3_canBe := fun w h => List.mem_cons_of_mem _ (List.mem_append_right _ h)
  have k13 := hts (.fieldLink RX3 13 "CupByCup$Recipe" "grind" "I") (List.mem_of_getElem? (i := 2) rfl)
  have k16 := hts (.fieldLink RX3 16 "CupByCup$Recipe" "brew" "I") (List.mem_of_getElem? (i := 3) rfl)
  have k19 := hts (.fieldLink RX3 19 "CupByCup$Recipe" "steam" "I") (List.mem_of_getElem? (i := 4) rfl)
  have k22 := hts (.fieldLink RX3 22 "CupByCup$Recipe" "water" "I") (List.mem_of_getElem? (i := 5) rfl)
  have k25 := hts (.fieldLink RX3 25 "CupByCup$Recipe" "milk" "I") (List.mem_of_getElem? (i := 6) rfl)
  unfold fX3_canBe at hf
  refine wald_n hx hb dX3_canBe_0 rfl (lv_at hl 0 rfl) ?_
  refine wg (C := RX3) (T := TX3) (N := 6) (v := .int (iv g0 0)) hx hb hts iX3 hown hKn.1 hH (q := g0) hg0 (by decide) rfl rfl 0 (by decide) k7 rfl dX3_canBe_1 ?_
  refine lv_iconst (v := 5) hx hb dX3_canBe_4 (by decide) ?_
  refine lv_bipush (v := 30) hx hb dX3_canBe_5 (by decide) ?_
  obtain ⟨r1, h2, hf⟩ := wBd_e hf
  refine wci (va_runS (As := [.int (iv g0 0), .int 5, .int 30]) (rest := []) ⟨hx, hb, hml, hown, hts⟩ (mtX3_isIn l D K loc sh ln iv rv _ ng (iv g0 0) 5 30 h2) (va_cwS 3 hts gX3_canBe_X3_isIn rfl rfl rfl (by decide +kernel) ⟨Nat.le_of_ble_eq_true rfl, Nat.le_of_ble_eq_true rfl⟩) (wPreS hKn hH) rfl rfl hl.1 rfl (lv_room (Nat.le_of_ble_eq_true rfl)) dX3_canBe_7 ⟨Nat.zero_le _, Nat.zero_le _⟩) hS hO hA (fun H locs hH hS => ?_)
  refine lv_if_eq (tgt := 99) hx hb dX3_canBe_10 (by decide) (fun c3 => ?_) (fun c3 => ?_)
  · have hf := wIt c3 hf
    refine lv_iconst (v := 0) hx hb dX3_canBe_99 (by decide) ?_
    cases hf
    exact W.zret hx hb hr rfl (fun t ht hW => ⟨⟨_, (), rfl, rfl, by show wH _ _ _ _ _ _ _ t.heap; rw [ht]; exact hH⟩, hS.F ht⟩) hS.2.2 dX3_canBe_100
  · have hf := wIf c3 hf
    refine wald_n hx hb dX3_canBe_13 rfl (lv_at hl 0 rfl) ?_
    refine wg (C := RX3) (T := TX3) (N := 6) (v := .int (iv g0 1)) hx hb hts iX3 hown hKn.1 hH (q := g0) hg0 (by decide) rfl rfl 1 (by decide) k13 rfl dX3_canBe_14 ?_
    refine lv_iconst (v := 1) hx hb dX3_canBe_17 (by decide) ?_
    refine lv_bipush (v := 9) hx hb dX3_canBe_18 (by decide) ?_
    obtain ⟨r4, h5, hf⟩ := wBd_e hf
    refine wci (va_runS (As := [.int (iv g0 1), .int 1, .int 9]) (rest := []) ⟨hx, hb, hml, hown, hts⟩ (mtX3_isIn l D K loc sh ln iv rv _ ng (iv g0 1) 1 9 h5) (va_cwS 3 hts gX3_canBe_X3_isIn rfl rfl rfl (by decide +kernel) ⟨Nat.le_of_ble_eq_true rfl, Nat.le_of_ble_eq_true rfl⟩) (wPreS hKn hH) rfl rfl hl.1 rfl (lv_room (Nat.le_of_ble_eq_true rfl)) dX3_canBe_20 ⟨Nat.zero_le _, Nat.zero_le _⟩) hS hO hA (fun H locs hH hS => ?_)
    refine lv_if_eq (tgt := 99) hx hb dX3_canBe_23 (by decide) (fun c6 => ?_) (fun c6 => ?_)
    · have hf := wIt c6 hf
      refine lv_iconst (v := 0) hx hb dX3_canBe_99 (by decide) ?_
      cases hf
      exact W.zret hx hb hr rfl (fun t ht hW => ⟨⟨_, (), rfl, rfl, by show wH _ _ _ _ _ _ _ t.heap; rw [ht]; exact hH⟩, hS.F ht⟩) hS.2.2 dX3_canBe_100
    · have hf := wIf c6 hf
      refine wald_n hx hb dX3_canBe_26 rfl (lv_at hl 0 rfl) ?_
      refine wg (C := RX3) (T := TX3) (N := 6) (v := .int (iv g0 2)) hx hb hts iX3 hown hKn.1 hH (q := g0) hg0 (by decide) rfl rfl 2 (by decide) k16 rfl dX3_canBe_27 ?_
      refine lv_iconst (v := 1) hx hb dX3_canBe_30 (by decide) ?_
      refine lv_bipush (v := 30) hx hb dX3_canBe_31 (by decide) ?_
      obtain ⟨r7, h8, hf⟩ := wBd_e hf
      refine wci (va_runS (As := [.int (iv g0 2), .int 1, .int 30]) (rest := []) ⟨hx, hb, hml, hown, hts⟩ (mtX3_isIn l D K loc sh ln iv rv _ ng (iv g0 2) 1 30 h8) (va_cwS 3 hts gX3_canBe_X3_isIn rfl rfl rfl (by decide +kernel) ⟨Nat.le_of_ble_eq_true rfl, Nat.le_of_ble_eq_true rfl⟩) (wPreS hKn hH) rfl rfl hl.1 rfl (lv_room (Nat.le_of_ble_eq_true rfl)) dX3_canBe_33 ⟨Nat.zero_le _, Nat.zero_le _⟩) hS hO hA (fun H locs hH hS => ?_)
      refine lv_if_eq (tgt := 99) hx hb dX3_canBe_36 (by decide) (fun c9 => ?_) (fun c9 => ?_)
      · have hf := wIt c9 hf
        refine lv_iconst (v := 0) hx hb dX3_canBe_99 (by decide) ?_
        cases hf
        exact W.zret hx hb hr rfl (fun t ht hW => ⟨⟨_, (), rfl, rfl, by show wH _ _ _ _ _ _ _ t.heap; rw [ht]; exact hH⟩, hS.F ht⟩) hS.2.2 dX3_canBe_100
      · have hf := wIf c9 hf
        refine wald_n hx hb dX3_canBe_39 rfl (lv_at hl 0 rfl) ?_
        refine wg (C := RX3) (T := TX3) (N := 6) (v := .int (iv g0 3)) hx hb hts iX3 hown hKn.1 hH (q := g0) hg0 (by decide) rfl rfl 3 (by decide) k19 rfl dX3_canBe_40 ?_
        refine lv_iconst (v := 0) hx hb dX3_canBe_43 (by decide) ?_
        refine lv_bipush (v := 20) hx hb dX3_canBe_44 (by decide) ?_
        obtain ⟨r10, h11, hf⟩ := wBd_e hf
        refine wci (va_runS (As := [.int (iv g0 3), .int 0, .int 20]) (rest := []) ⟨hx, hb, hml, hown, hts⟩ (mtX3_isIn l D K loc sh ln iv rv _ ng (iv g0 3) 0 20 h11) (va_cwS 3 hts gX3_canBe_X3_isIn rfl rfl rfl (by decide +kernel) ⟨Nat.le_of_ble_eq_true rfl, Nat.le_of_ble_eq_true rfl⟩) (wPreS hKn hH) rfl rfl hl.1 rfl (lv_room (Nat.le_of_ble_eq_true rfl)) dX3_canBe_46 ⟨Nat.zero_le _, Nat.zero_le _⟩) hS hO hA (fun H locs hH hS => ?_)
        refine lv_if_eq (tgt := 99) hx hb dX3_canBe_49 (by decide) (fun c12 => ?_) (fun c12 => ?_)
        · have hf := wIt c12 hf
          refine lv_iconst (v := 0) hx hb dX3_canBe_99 (by decide) ?_
          cases hf
          exact W.zret hx hb hr rfl (fun t ht hW => ⟨⟨_, (), rfl, rfl, by show wH _ _ _ _ _ _ _ t.heap; rw [ht]; exact hH⟩, hS.F ht⟩) hS.2.2 dX3_canBe_100
        · have hf := wIf c12 hf
          refine wald_n hx hb dX3_canBe_52 rfl (lv_at hl 0 rfl) ?_
          refine wg (C := RX3) (T := TX3) (N := 6) (v := .int (iv g0 4)) hx hb hts iX3 hown hKn.1 hH (q := g0) hg0 (by decide) rfl rfl 4 (by decide) k22 rfl dX3_canBe_53 ?_
          refine lv_bipush (v := 10) hx hb dX3_canBe_56 (by decide) ?_
          refine lv_sipush (v := 250) hx hb dX3_canBe_58 (by decide) ?_
          obtain ⟨r13, h14, hf⟩ := wBd_e hf
          refine wci (va_runS (As := [.int (iv g0 4), .int 10, .int 250]) (rest := []) ⟨hx, hb, hml, hown, hts⟩ (mtX3_isIn l D K loc sh ln iv rv _ ng (iv g0 4) 10 250 h14) (va_cwS 3 hts gX3_canBe_X3_isIn rfl rfl rfl (by decide +kernel) ⟨Nat.le_of_ble_eq_true rfl, Nat.le_of_ble_eq_true rfl⟩) (wPreS hKn hH) rfl rfl hl.1 rfl (lv_room (Nat.le_of_ble_eq_true rfl)) dX3_canBe_61 ⟨Nat.zero_le _, Nat.zero_le _⟩) hS hO hA (fun H locs hH hS => ?_)
          refine lv_if_eq (tgt := 99) hx hb dX3_canBe_64 (by decide) (fun c15 => ?_) (fun c15 => ?_)
          · have hf := wIt c15 hf
            refine lv_iconst (v := 0) hx hb dX3_canBe_99 (by decide) ?_
            cases hf
            exact W.zret hx hb hr rfl (fun t ht hW => ⟨⟨_, (), rfl, rfl, by show wH _ _ _ _ _ _ _ t.heap; rw [ht]; exact hH⟩, hS.F ht⟩) hS.2.2 dX3_canBe_100
          · have hf := wIf c15 hf
            refine wald_n hx hb dX3_canBe_67 rfl (lv_at hl 0 rfl) ?_
            refine wg (C := RX3) (T := TX3) (N := 6) (v := .int (iv g0 5)) hx hb hts iX3 hown hKn.1 hH (q := g0) hg0 (by decide) rfl rfl 5 (by decide) k25 rfl dX3_canBe_68 ?_
            refine lv_iconst (v := 0) hx hb dX3_canBe_71 (by decide) ?_
            refine lv_sipush (v := 250) hx hb dX3_canBe_72 (by decide) ?_
            obtain ⟨r16, h17, hf⟩ := wBd_e hf
            refine wci (va_runS (As := [.int (iv g0 5), .int 0, .int 250]) (rest := []) ⟨hx, hb, hml, hown, hts⟩ (mtX3_isIn l D K loc sh ln iv rv _ ng (iv g0 5) 0 250 h17) (va_cwS 3 hts gX3_canBe_X3_isIn rfl rfl rfl (by decide +kernel) ⟨Nat.le_of_ble_eq_true rfl, Nat.le_of_ble_eq_true rfl⟩) (wPreS hKn hH) rfl rfl hl.1 rfl (lv_room (Nat.le_of_ble_eq_true rfl)) dX3_canBe_75 ⟨Nat.zero_le _, Nat.zero_le _⟩) hS hO hA (fun H locs hH hS => ?_)
            refine lv_if_eq (tgt := 99) hx hb dX3_canBe_78 (by decide) (fun c18 => ?_) (fun c18 => ?_)
            · have hf := wIt c18 hf
              refine lv_iconst (v := 0) hx hb dX3_canBe_99 (by decide) ?_
              cases hf
              exact W.zret hx hb hr rfl (fun t ht hW => ⟨⟨_, (), rfl, rfl, by show wH _ _ _ _ _ _ _ t.heap; rw [ht]; exact hH⟩, hS.F ht⟩) hS.2.2 dX3_canBe_100
            · have hf := wIf c18 hf
              refine wald_n hx hb dX3_canBe_81 rfl (lv_at hl 0 rfl) ?_
              refine wg (C := RX3) (T := TX3) (N := 6) (v := .int (iv g0 3)) hx hb hts iX3 hown hKn.1 hH (q := g0) hg0 (by decide) rfl rfl 3 (by decide) k19 rfl dX3_canBe_82 ?_
              refine lv_if_gt (tgt := 95) hx hb dX3_canBe_85 (by decide) (fun c19 => ?_) (fun c19 => ?_)
              · have hf := wIt c19 hf
                refine lv_iconst (v := 1) hx hb dX3_canBe_95 (by decide) ?_
                refine lv_goto (tgt := 100) hx hb dX3_canBe_96 (by decide) ?_
                cases hf
                exact W.zret hx hb hr rfl (fun t ht hW => ⟨⟨_, (), rfl, rfl, by show wH _ _ _ _ _ _ _ t.heap; rw [ht]; exact hH⟩, hS.F ht⟩) hS.2.2 dX3_canBe_100
              · have hf := wIf c19 hf
                refine wald_n hx hb dX3_canBe_88 rfl (lv_at hl 0 rfl) ?_
                refine wg (C := RX3) (T := TX3) (N := 6) (v := .int (iv g0 5)) hx hb hts iX3 hown hKn.1 hH (q := g0) hg0 (by decide) rfl rfl 5 (by decide) k25 rfl dX3_canBe_89 ?_
                refine lv_if_ne (tgt := 99) hx hb dX3_canBe_92 (by decide) (fun c20 => ?_) (fun c20 => ?_)
                · have hf := wIf c20 hf
                  refine lv_iconst (v := 0) hx hb dX3_canBe_99 (by decide) ?_
                  cases hf
                  exact W.zret hx hb hr rfl (fun t ht hW => ⟨⟨_, (), rfl, rfl, by show wH _ _ _ _ _ _ _ t.heap; rw [ht]; exact hH⟩, hS.F ht⟩) hS.2.2 dX3_canBe_100
                · have hf := wIt c20 hf
                  refine lv_iconst (v := 1) hx hb dX3_canBe_95 (by decide) ?_
                  refine lv_goto (tgt := 100) hx hb dX3_canBe_96 (by decide) ?_
                  cases hf
                  exact W.zret hx hb hr rfl (fun t ht hW => ⟨⟨_, (), rfl, rfl, by show wH _ _ _ _ _ _ _ t.heap; rw [ht]; exact hH⟩, hS.F ht⟩) hS.2.2 dX3_canBe_100
noncomputable def fX4_within  (a0 : Int32) (a1 : Int32) (a2 : Int32) : Option (Int32) := some (if a1 < (if a2 < a0 then a2 else a0) then (if a2 < a0 then a2 else a0) else a1)
set_option maxHeartbeats 4000000 in
set_option maxRecDepth 100000 in
theorem mtX4_within (l : Launch) (D : va_G) (K : Nat → ClassId) (loc sh ln : Nat → Nat) (iv : wI) (rv : wJ) (sz : Nat) (ng : Nat) (a0 : Int32) (a1 : Int32) (a2 : Int32) {r' : Int32} (hf : fX4_within a0 a1 a2 = some r') : Met l yX4_within wsX4_within ({ frames := 1, cells := 0, slots := 0, locals := 21 }) (wPc D K loc sh ln iv rv sz [.int a0, .int a1, .int a2]) (wQi D K loc sh ln iv rv sz r') 0 0 (wA loc sh sz) := by
  refine Met.ofW (cc := cX4_within) (maxL := 3) (ret := (some .int)) (by decide) rfl ?_
  intro p e s m args below meth c s₁ B hml hv
  obtain ⟨rfl, hsz, hH, hKn⟩ := hv
  have hx := B.exec
  have hb := B.bytes
  have hr := B.returns
  have hts := atoms_spec (ws := wsX4_within) B.pre
  have hown : s.vm.findClass RX4 = some m.cls := findClass_of_methodNamed B.named
  have hlocks := B.notSynchronized
  subst hsz
  have hA : ∀ q : Nat, s.heap.size ≤ q → wA loc sh s.heap.size q := fun q h => Or.inr h
  have hO : ∀ a, sh a ≠ 0 → wA loc sh s.heap.size (loc a) := fun a h => Or.inl ⟨a, h, rfl⟩
  have hS : va_S (wA loc sh s.heap.size) s.heap s.heap [] := va_S.rf
  obtain ⟨ls, hen, hl⟩ := wEntry m [.int a0, .int a1, .int a2] 3 (List.forall_mem_cons.mpr ⟨rfl, List.forall_mem_cons.mpr ⟨rfl, List.forall_mem_cons.mpr ⟨rfl, fun _ h => absurd h List.not_mem_nil⟩⟩⟩) (Nat.le_of_ble_eq_true rfl)
  rw [hen]
  clear hen
  have hl : lv_has ls 3 [(0, .int a0), (1, .int a1), (2, .int a2)] := hl
  unfold fX4_within at hf
  refine lv_iload_n hx hb dX4_within_0 rfl (lv_at hl 1 rfl) ?_
  refine lv_iload_n hx hb dX4_within_1 rfl (lv_at hl 0 rfl) ?_
  refine lv_iload_n hx hb dX4_within_2 rfl (lv_at hl 2 rfl) ?_
  refine va_mmin hx hb (hml.trans hl.1.symm) hown (hts (.methodLink RX4 173 Lib.Math.min.name) (List.mem_of_getElem? (i := 1) rfl)) (hts (.static Lib.Math.min.name) (List.mem_of_getElem? (i := 2) rfl)) (hts (.initialized "java/lang/Math") (List.mem_of_getElem? (i := 3) rfl)) (hts (.code Lib.Math.min.name Lib.Math.min.code 2 (some .int)) (List.mem_of_getElem? (i := 4) rfl)) (Nat.le_of_ble_eq_true rfl) (Nat.le_of_ble_eq_true rfl) (Nat.zero_le _) (Nat.zero_le _) dX4_within_3 ?_
  refine va_mmax hx hb (hml.trans hl.1.symm) hown (hts (.methodLink RX4 179 Lib.Math.max.name) (List.mem_of_getElem? (i := 5) rfl)) (hts (.static Lib.Math.max.name) (List.mem_of_getElem? (i := 6) rfl)) (hts (.initialized "java/lang/Math") (List.mem_of_getElem? (i := 3) rfl)) (hts (.code Lib.Math.max.name Lib.Math.max.code 2 (some .int)) (List.mem_of_getElem? (i := 7) rfl)) (Nat.le_of_ble_eq_true rfl) (Nat.le_of_ble_eq_true rfl) (Nat.zero_le _) (Nat.zero_le _) dX4_within_6 ?_
  cases hf
  exact W.iret hx hb hr (fun t ht hW => ⟨⟨_, (), rfl, rfl, by show wH _ _ _ _ _ _ _ t.heap; rw [ht]; exact hH⟩, hS.F ht⟩) hS.2.2 dX4_within_9
