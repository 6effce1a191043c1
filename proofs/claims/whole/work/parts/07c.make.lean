noncomputable def fX5_init  (sh : (Nat → Nat)) (ln : (Nat → Nat)) (iv : wI) (rv : wJ) (a1 : Int32) (a2 : Int32) : Option ((Nat → Nat) × (Nat → Nat) × wI × wJ) := wGd (sh 1 = 14) (wLt (wU iv 1 3 900) (fun (iv2 : wI) => wGd (wFr sh rv 15) (wLt (va_up sh 15 7) (fun (sh5 : Nat → Nat) => wLt (va_up ln 15 (8 : Int32).toNatClampNeg) (fun (ln6 : Nat → Nat) => wLt (va_up iv2 15 (fun _ => (0 : Int32))) (fun (iv7 : wI) => wLt (va_up rv 15 (fun _ => (0 : Nat))) (fun (rv8 : wJ) => wGd (sh5 1 = 14) (wLt (wV rv8 1 5 15) (fun (rv15 : wJ) => wGd (wFr sh5 rv15 16) (wLt (va_up sh5 16 7) (fun (sh18 : Nat → Nat) => wLt (va_up ln6 16 (8 : Int32).toNatClampNeg) (fun (ln19 : Nat → Nat) => wLt (va_up iv7 16 (fun _ => (0 : Int32))) (fun (iv20 : wI) => wLt (va_up rv15 16 (fun _ => (0 : Nat))) (fun (rv21 : wJ) => wGd (sh18 1 = 14) (wLt (wV rv21 1 6 16) (fun (rv28 : wJ) => wGd (wFr sh18 rv28 17) (wLt (va_up sh18 17 7) (fun (sh31 : Nat → Nat) => wLt (va_up ln19 17 (3 : Int32).toNatClampNeg) (fun (ln32 : Nat → Nat) => wLt (va_up iv20 17 (fun _ => (0 : Int32))) (fun (iv33 : wI) => wLt (va_up rv28 17 (fun _ => (0 : Nat))) (fun (rv34 : wJ) => wGd (sh31 1 = 14) (wLt (wV rv34 1 7 17) (fun (rv41 : wJ) => wGd (wFr sh31 rv41 19) (wLt (va_up sh31 19 7) (fun (sh44 : Nat → Nat) => wLt (va_up ln32 19 (100 : Int32).toNatClampNeg) (fun (ln45 : Nat → Nat) => wLt (va_up iv33 19 (fun _ => (0 : Int32))) (fun (iv46 : wI) => wLt (va_up rv41 19 (fun _ => (0 : Nat))) (fun (rv47 : wJ) => wGd (sh44 1 = 14) (wLt (wV rv47 1 9 19) (fun (rv54 : wJ) => wGd (wFr sh44 rv54 20) (wLt (va_up sh44 20 7) (fun (sh57 : Nat → Nat) => wLt (va_up ln45 20 (100 : Int32).toNatClampNeg) (fun (ln58 : Nat → Nat) => wLt (va_up iv46 20 (fun _ => (0 : Int32))) (fun (iv59 : wI) => wLt (va_up rv54 20 (fun _ => (0 : Nat))) (fun (rv60 : wJ) => wGd (sh57 1 = 14) (wLt (wV rv60 1 10 20) (fun (rv67 : wJ) => wGd (wFr sh57 rv67 21) (wLt (va_up sh57 21 7) (fun (sh70 : Nat → Nat) => wLt (va_up ln58 21 (100 : Int32).toNatClampNeg) (fun (ln71 : Nat → Nat) => wLt (va_up iv59 21 (fun _ => (0 : Int32))) (fun (iv72 : wI) => wLt (va_up rv67 21 (fun _ => (0 : Nat))) (fun (rv73 : wJ) => wGd (sh70 1 = 14) (wLt (wV rv73 1 11 21) (fun (rv80 : wJ) => wGd (wFr sh70 rv80 22) (wLt (va_up sh70 22 7) (fun (sh83 : Nat → Nat) => wLt (va_up ln71 22 (100 : Int32).toNatClampNeg) (fun (ln84 : Nat → Nat) => wLt (va_up iv72 22 (fun _ => (0 : Int32))) (fun (iv85 : wI) => wLt (va_up rv80 22 (fun _ => (0 : Nat))) (fun (rv86 : wJ) => wGd (sh83 1 = 14) (wLt (wV rv86 1 12 22) (fun (rv93 : wJ) => wGd (wFr sh83 rv93 23) (wLt (va_up sh83 23 7) (fun (sh96 : Nat → Nat) => wLt (va_up ln84 23 (100 : Int32).toNatClampNeg) (fun (ln97 : Nat → Nat) => wLt (va_up iv85 23 (fun _ => (0 : Int32))) (fun (iv98 : wI) => wLt (va_up rv93 23 (fun _ => (0 : Nat))) (fun (rv99 : wJ) => wGd (sh96 1 = 14) (wLt (wV rv99 1 13 23) (fun (rv106 : wJ) => wGd (wFr sh96 rv106 24) (wLt (va_up sh96 24 7) (fun (sh109 : Nat → Nat) => wLt (va_up ln97 24 (100 : Int32).toNatClampNeg) (fun (ln110 : Nat → Nat) => wLt (va_up iv98 24 (fun _ => (0 : Int32))) (fun (iv111 : wI) => wLt (va_up rv106 24 (fun _ => (0 : Nat))) (fun (rv112 : wJ) => wGd (sh109 1 = 14) (wLt (wV rv112 1 14 24) (fun (rv119 : wJ) => wGd (wFr sh109 rv119 25) (wLt (va_up sh109 25 7) (fun (sh122 : Nat → Nat) => wLt (va_up ln110 25 (100 : Int32).toNatClampNeg) (fun (ln123 : Nat → Nat) => wLt (va_up iv111 25 (fun _ => (0 : Int32))) (fun (iv124 : wI) => wLt (va_up rv119 25 (fun _ => (0 : Nat))) (fun (rv125 : wJ) => wGd (sh122 1 = 14) (wLt (wV rv125 1 15 25) (fun (rv132 : wJ) => wGd (wFr sh122 rv132 26) (wLt (va_up sh122 26 7) (fun (sh135 : Nat → Nat) => wLt (va_up ln123 26 (100 : Int32).toNatClampNeg) (fun (ln136 : Nat → Nat) => wLt (va_up iv124 26 (fun _ => (0 : Int32))) (fun (iv137 : wI) => wLt (va_up rv132 26 (fun _ => (0 : Nat))) (fun (rv138 : wJ) => wGd (sh135 1 = 14) (wLt (wV rv138 1 16 26) (fun (rv145 : wJ) => wGd (wFr sh135 rv145 27) (wLt (va_up sh135 27 7) (fun (sh148 : Nat → Nat) => wLt (va_up ln136 27 (100 : Int32).toNatClampNeg) (fun (ln149 : Nat → Nat) => wLt (va_up iv137 27 (fun _ => (0 : Int32))) (fun (iv150 : wI) => wLt (va_up rv145 27 (fun _ => (0 : Nat))) (fun (rv151 : wJ) => wGd (sh148 1 = 14) (wLt (wV rv151 1 17 27) (fun (rv158 : wJ) => wGd (wFr sh148 rv158 28) (wLt (va_up sh148 28 7) (fun (sh161 : Nat → Nat) => wLt (va_up ln149 28 (100 : Int32).toNatClampNeg) (fun (ln162 : Nat → Nat) => wLt (va_up iv150 28 (fun _ => (0 : Int32))) (fun (iv163 : wI) => wLt (va_up rv158 28 (fun _ => (0 : Nat))) (fun (rv164 : wJ) => wGd (sh161 1 = 14) (wLt (wV rv164 1 18 28) (fun (rv171 : wJ) => wGd (wFr sh161 rv171 29) (wLt (va_up sh161 29 7) (fun (sh174 : Nat → Nat) => wLt (va_up ln162 29 (100 : Int32).toNatClampNeg) (fun (ln175 : Nat → Nat) => wLt (va_up iv163 29 (fun _ => (0 : Int32))) (fun (iv176 : wI) => wLt (va_up rv171 29 (fun _ => (0 : Nat))) (fun (rv177 : wJ) => wGd (sh174 1 = 14) (wLt (wV rv177 1 19 29) (fun (rv184 : wJ) => wGd (wFr sh174 rv184 30) (wLt (va_up sh174 30 7) (fun (sh187 : Nat → Nat) => wLt (va_up ln175 30 (3 : Int32).toNatClampNeg) (fun (ln188 : Nat → Nat) => wLt (va_up iv176 30 (fun _ => (0 : Int32))) (fun (iv189 : wI) => wLt (va_up rv184 30 (fun _ => (0 : Nat))) (fun (rv190 : wJ) => wGd (sh187 1 = 14) (wLt (wV rv190 1 20 30) (fun (rv197 : wJ) => wGd (wFr sh187 rv197 31) (wLt (va_up sh187 31 7) (fun (sh200 : Nat → Nat) => wLt (va_up ln188 31 (3 : Int32).toNatClampNeg) (fun (ln201 : Nat → Nat) => wLt (va_up iv189 31 (fun _ => (0 : Int32))) (fun (iv202 : wI) => wLt (va_up rv197 31 (fun _ => (0 : Nat))) (fun (rv203 : wJ) => wGd (sh200 1 = 14) (wLt (wV rv203 1 21 31) (fun (rv210 : wJ) => wGd (wFr sh200 rv210 32) (wLt (va_up sh200 32 7) (fun (sh213 : Nat → Nat) => wLt (va_up ln201 32 (3 : Int32).toNatClampNeg) (fun (ln214 : Nat → Nat) => wLt (va_up iv202 32 (fun _ => (0 : Int32))) (fun (iv215 : wI) => wLt (va_up rv210 32 (fun _ => (0 : Nat))) (fun (rv216 : wJ) => wGd (sh213 1 = 14) (wLt (wV rv216 1 22 32) (fun (rv223 : wJ) => wLt (wU iv215 1 25 50) (fun (iv225 : wI) => wGd (wFr sh213 rv223 36) (wLt (va_up sh213 36 7) (fun (sh228 : Nat → Nat) => wLt (va_up ln214 36 (5 : Int32).toNatClampNeg) (fun (ln229 : Nat → Nat) => wLt (va_up iv225 36 (fun _ => (0 : Int32))) (fun (iv230 : wI) => wLt (va_up rv223 36 (fun _ => (0 : Nat))) (fun (rv231 : wJ) => wGd (sh228 1 = 14) (wLt (wV rv231 1 26 36) (fun (rv238 : wJ) => wGd (wFr sh228 rv238 37) (wLt (va_up sh228 37 7) (fun (sh241 : Nat → Nat) => wLt (va_up ln229 37 (5 : Int32).toNatClampNeg) (fun (ln242 : Nat → Nat) => wLt (va_up iv230 37 (fun _ => (0 : Int32))) (fun (iv243 : wI) => wLt (va_up rv238 37 (fun _ => (0 : Nat))) (fun (rv244 : wJ) => wGd (sh241 1 = 14) (wLt (wV rv244 1 27 37) (fun (rv251 : wJ) => wGd (wFr sh241 rv251 38) (wLt (va_up sh241 38 7) (fun (sh254 : Nat → Nat) => wLt (va_up ln242 38 (5 : Int32).toNatClampNeg) (fun (ln255 : Nat → Nat) => wLt (va_up iv243 38 (fun _ => (0 : Int32))) (fun (iv256 : wI) => wLt (va_up rv251 38 (fun _ => (0 : Nat))) (fun (rv257 : wJ) => wGd (sh254 1 = 14) (wLt (wV rv257 1 28 38) (fun (rv264 : wJ) => wGd (wFr sh254 rv264 39) (wLt (va_up sh254 39 7) (fun (sh267 : Nat → Nat) => wLt (va_up ln255 39 (5 : Int32).toNatClampNeg) (fun (ln268 : Nat → Nat) => wLt (va_up iv256 39 (fun _ => (0 : Int32))) (fun (iv269 : wI) => wLt (va_up rv264 39 (fun _ => (0 : Nat))) (fun (rv270 : wJ) => wGd (sh267 1 = 14) (wLt (wV rv270 1 29 39) (fun (rv277 : wJ) => wBd (if 1 ≤ a1 then if a1 ≤ 3 then some a1 else some (3 : Int32) else some (1 : Int32)) (fun (z280 : Int32) => wLt (wU iv269 1 0 z280) (fun (iv284 : wI) => if 6 ≤ a2 then if a2 ≤ 30 then wLt (wU iv284 1 1 a2) (fun (iv288 : wI) => some (sh267, ln268, iv288, rv277)) else wLt (wU iv284 1 1 30) (fun (iv290 : wI) => some (sh267, ln268, iv290, rv277)) else wLt (wU iv284 1 1 6) (fun (iv292 : wI) => some (sh267, ln268, iv292, rv277))))))))))))))))))))))))))))))))))))))))))))))))))))))))))))))))))))))))))))))))))))))))))))))))))))))))))))))))))))))))))))))))))))))))))))))))))))))))))
set_option maxHeartbeats 4000000 in
set_option maxRecDepth 100000 in
theorem mtX5_init (l : Launch) (D : va_G) (K : Nat → ClassId) (loc sh ln : Nat → Nat) (iv : wI) (rv : wJ) (sz : Nat) (a1 : Int32) (a2 : Int32) {sh' : (Nat → Nat)} {ln' : (Nat → Nat)} {iv' : wI} {rv' : wJ} (hf : fX5_init sh ln iv rv a1 a2 = some (sh', ln', iv', rv')) : Met l yX5_init wsX5_init ({ frames := 1, cells := 21, slots := 1148, locals := 20 }) (wPc D K loc sh ln iv rv sz [wR loc 1, .int a1, .int a2]) (wQnv D K loc sh sh' ln' iv' rv' sz) 21 1148 (wA loc sh sz) := by
  refine Met.ofW (cc := cX5_init) (maxL := 3) (ret := none) (by decide) rfl ?_
  intro p e s m args below meth c s₁ B hml hv
  obtain ⟨rfl, hsz, hH, hKn⟩ := hv
  have hx := B.exec
  have hb := B.bytes
  have hr := B.returns
  have hts := atoms_spec (ws := wsX5_init) B.pre
  have hown : s.vm.findClass RX5 = some m.cls := findClass_of_methodNamed B.named
  have hlocks := B.notSynchronized
  subst hsz
  have hA : ∀ q : Nat, s.heap.size ≤ q → wA loc sh s.heap.size q := fun q h => Or.inr h
  have hO : ∀ a, sh a ≠ 0 → wA loc sh s.heap.size (loc a) := fun a h => Or.inl ⟨a, h, rfl⟩
  have hS : va_S (wA loc sh s.heap.size) s.heap s.heap [] := va_S.rf
  obtain ⟨ls, hen, hl⟩ := wEntry m [wR loc 1, .int a1, .int a2] 3 (List.forall_mem_cons.mpr ⟨wR_cat _ _, List.forall_mem_cons.mpr ⟨rfl, List.forall_mem_cons.mpr ⟨rfl, fun _ h => absurd h List.not_mem_nil⟩⟩⟩) (Nat.le_of_ble_eq_true rfl)
  rw [hen]
  clear hen
  have hl : lv_has ls 3 [(0, wR loc 1), (1, .int a1), (2, .int a2)] := hl
  have hin : meth.name = "<init>" := (name_of_methodNamed B.named B.method).1
  have hkp : ∀ a, sh a ≠ 0 → loc a = loc a ∧ sh a ≠ 0 := fun a h => ⟨rfl, h⟩
  have k7 := hts (.fieldLink RX5 7 "CupByCupModel" "heat" "I") (List.mem_of_getElem? (i := 4) rfl)
  have iX5 : ∀ w ∈ wsX50, w ∈ wsX5_init := fun w h => List.mem_cons_of_mem _ (List.mem_append_right _ h)
  have k13 := hts (.fieldLink RX5 13 "CupByCupModel" "recipeWhat" "[I") (List.mem_of_getElem? (i := 6) rfl)
  have k17 := hts (.fieldLink RX5 17 "CupByCupModel" "recipeWet" "[I") (List.mem_of_getElem? (i := 7) rfl)
  have k20 := hts (.fieldLink RX5 20 "CupByCupModel" "stores" "[I") (List.mem_of_getElem? (i := 8) rfl)
  have k23 := hts (.fieldLink RX5 23 "CupByCupModel" "what" "[I") (List.mem_of_getElem? (i := 9) rfl)
  have k26 := hts (.fieldLink RX5 26 "CupByCupModel" "wet" "[I") (List.mem_of_getElem? (i := 10) rfl)
  have k29 := hts (.fieldLink RX5 29 "CupByCupModel" "orderOf" "[I") (List.mem_of_getElem? (i := 11) rfl)
  have k32 := hts (.fieldLink RX5 32 "CupByCupModel" "lane" "[I") (List.mem_of_getElem? (i := 12) rfl)
  have k35 := hts (.fieldLink RX5 35 "CupByCupModel" "came" "[I") (List.mem_of_getElem? (i := 13) rfl)
  have k38 := hts (.fieldLink RX5 38 "CupByCupModel" "state" "[I") (List.mem_of_getElem? (i := 14) rfl)
  have k41 := hts (.fieldLink RX5 41 "CupByCupModel" "left" "[I") (List.mem_of_getElem? (i := 15) rfl)
  have k44 := hts (.fieldLink RX5 44 "CupByCupModel" "at" "[I") (List.mem_of_getElem? (i := 16) rfl)
  have k47 := hts (.fieldLink RX5 47 "CupByCupModel" "since" "[I") (List.mem_of_getElem? (i := 17) rfl)
  have k50 := hts (.fieldLink RX5 50 "CupByCupModel" "doneIn" "[I") (List.mem_of_getElem? (i := 18) rfl)
  have k53 := hts (.fieldLink RX5 53 "CupByCupModel" "anew" "[I") (List.mem_of_getElem? (i := 19) rfl)
  have k56 := hts (.fieldLink RX5 56 "CupByCupModel" "rinses" "[I") (List.mem_of_getElem? (i := 20) rfl)
  have k59 := hts (.fieldLink RX5 59 "CupByCupModel" "due" "[I") (List.mem_of_getElem? (i := 21) rfl)
  have k62 := hts (.fieldLink RX5 62 "CupByCupModel" "faults" "[I") (List.mem_of_getElem? (i := 22) rfl)
  have k65 := hts (.fieldLink RX5 65 "CupByCupModel" "setting" "I") (List.mem_of_getElem? (i := 23) rfl)
  have k68 := hts (.fieldLink RX5 68 "CupByCupModel" "waiting" "[I") (List.mem_of_getElem? (i := 24) rfl)
  have k71 := hts (.fieldLink RX5 71 "CupByCupModel" "row" "[I") (List.mem_of_getElem? (i := 25) rfl)
  have k74 := hts (.fieldLink RX5 74 "CupByCupModel" "brewedAt" "[I") (List.mem_of_getElem? (i := 26) rfl)
  have k77 := hts (.fieldLink RX5 77 "CupByCupModel" "best" "[I") (List.mem_of_getElem? (i := 27) rfl)
  have k80 := hts (.fieldLink RX5 80 "CupByCupModel" "groups" "I") (List.mem_of_getElem? (i := 28) rfl)
  have k83 := hts (.fieldLink RX5 83 "CupByCupModel" "limit" "I") (List.mem_of_getElem? (i := 29) rfl)
  unfold fX5_init at hf
  refine wald_n hx hb dX5_init_0 rfl (lv_at hl 0 rfl) ?_
  obtain ⟨g1, hq⟩ := wGd_e hf
  clear hf
  revert hq
  intro hf
  refine W.eq (g2 := F0 m 1 ls (.ref (loc 1) :: [])) (by rw [wR_ref (loc := loc) (c := 1) (hH.nz g1 (by decide))]) ?_
  refine W.objInit hx hb hown (hts (.methodLink RX5 1 objectInit) (List.mem_of_getElem? (i := 1) rfl)) (hts (.instanceMethod objectInit) (List.mem_of_getElem? (i := 2) rfl)) (hts (.code objectInit ⟨#[0xb1]⟩ 1 none) (List.mem_of_getElem? (i := 3) rfl)) rfl (by rw [hml]; exact hl.1) rfl dX5_init_1 (Nat.le_of_ble_eq_true rfl) (Nat.le_of_ble_eq_true rfl) ?_
  refine W.eq (g2 := F0 m 4 ls []) rfl ?_
  refine wald_n hx hb dX5_init_4 rfl (lv_at hl 0 rfl) ?_
  refine lv_sipush (v := 900) hx hb dX5_init_5 (by decide) ?_
  obtain ⟨iv2, e3, hq⟩ := wLt_e hf
  clear hf
  revert hq
  intro hf
  refine wp (C := RX5) (T := TX5) (N := 31) (v := .int 900) (ty := tyX5 3) (iv' := iv2) (rv' := rv) hx hb hts iX5 tyX5 tyX5_ok nmX5 hown hKn.1 hH hO hS (q := 1) g1 (by decide) rfl rfl 3 (by decide) k7 rfl (tyX5_ok 3 (by decide)) rfl rfl (Nat.le_of_ble_eq_true rfl) (by rw [e3, wU_self]; rfl) (fun a ha => by rw [e3]; exact wU_ne a ha) (fun _ _ => rfl) dX5_init_8 (fun H locs hH hS => ?_)
  refine wald_n hx hb dX5_init_11 rfl (lv_at hl 0 rfl) ?_
  refine lv_bipush (v := 8) hx hb dX5_init_12 (by decide) ?_
  obtain ⟨g4, hq⟩ := wGd_e hf
  clear hf
  revert hq
  intro hf
  obtain ⟨sh5, e9, hq⟩ := wLt_e hf
  clear hf
  revert hq
  intro hf
  obtain ⟨ln6, e10, hq⟩ := wLt_e hf
  clear hf
  revert hq
  intro hf
  obtain ⟨iv7, e11, hq⟩ := wLt_e hf
  clear hf
  revert hq
  intro hf
  obtain ⟨rv8, e12, hq⟩ := wLt_e hf
  clear hf
  revert hq
  intro hf
  refine wnaE (atype := .int) (ty := .int) hx hb (hts (.arrayClass .int) (List.mem_of_getElem? (i := 5) rfl)) hKn.1 hH hO hS hA 15 7 0 g4 (by decide) rfl (fun _ _ => rfl) rfl rfl (fun h => h) (M := 8) (by decide) (Nat.le_of_ble_eq_true rfl) (by decide) (by decide) (by show _ ≤ 21; omega) (by show _ ≤ 1148; omega) dX5_init_14 e9 e10 e11 e12 (fun lo13 H hloc hH hO hS => ?_)
  replace hkp := wKpE (kd := 7) hkp g4.2.1 (by decide) hloc e9
  rw [wR_same (hloc 1 (wNe g1 (by decide) g4.2.1))] at hl
  refine W.eq (g2 := F0 m 16 ls [wR lo13 15, wR lo13 1]) (by rw [wR_same (hloc 1 (wNe g1 (by decide) g4.2.1))]) ?_
  obtain ⟨g14, hq⟩ := wGd_e hf
  clear hf
  revert hq
  intro hf
  obtain ⟨rv15, e16, hq⟩ := wLt_e hf
  clear hf
  revert hq
  intro hf
  refine wpF (C := RX5) (T := TX5) (N := 31) (v := wR lo13 15) (ty := tyX5 5) (iv' := iv7) (rv' := rv15) hx hb hts iX5 tyX5 tyX5_ok nmX5 hown hKn.1 hH hO hS (q := 1) g14 (by decide) rfl rfl 5 (by decide) k13 rfl hin rfl (tyX5_ok 5 (by decide)) (wR_nar _ _ _) (wR_fitA _ _ _) (Nat.le_of_ble_eq_true rfl) (by rw [e16, wV_self]; rfl) (fun _ _ => rfl) (fun a ha => by rw [e16]; exact wV_ne a ha) dX5_init_16 (fun H locs hH hS => ?_)
  refine wald_n hx hb dX5_init_19 rfl (lv_at hl 0 rfl) ?_
  refine lv_bipush (v := 8) hx hb dX5_init_20 (by decide) ?_
  obtain ⟨g17, hq⟩ := wGd_e hf
  clear hf
  revert hq
  intro hf
  obtain ⟨sh18, e22, hq⟩ := wLt_e hf
  clear hf
  revert hq
  intro hf
  obtain ⟨ln19, e23, hq⟩ := wLt_e hf
  clear hf
  revert hq
  intro hf
  obtain ⟨iv20, e24, hq⟩ := wLt_e hf
  clear hf
  revert hq
  intro hf
  obtain ⟨rv21, e25, hq⟩ := wLt_e hf
  clear hf
  revert hq
  intro hf
  refine wnaE (atype := .int) (ty := .int) hx hb (hts (.arrayClass .int) (List.mem_of_getElem? (i := 5) rfl)) hKn.1 hH hO hS hA 16 7 0 g17 (by decide) rfl (fun _ _ => rfl) rfl rfl (fun h => h) (M := 8) (by decide) (Nat.le_of_ble_eq_true rfl) (by decide) (by decide) (by show _ ≤ 21; omega) (by show _ ≤ 1148; omega) dX5_init_22 e22 e23 e24 e25 (fun lo26 H hloc hH hO hS => ?_)
  replace hkp := wKpE (kd := 7) hkp g17.2.1 (by decide) hloc e22
  rw [wR_same (hloc 1 (wNe g14 (by decide) g17.2.1))] at hl
  refine W.eq (g2 := F0 m 24 ls [wR lo26 16, wR lo26 1]) (by rw [wR_same (hloc 1 (wNe g14 (by decide) g17.2.1))]) ?_
  obtain ⟨g27, hq⟩ := wGd_e hf
  clear hf
  revert hq
  intro hf
  obtain ⟨rv28, e29, hq⟩ := wLt_e hf
  clear hf
  revert hq
  intro hf
  refine wpF (C := RX5) (T := TX5) (N := 31) (v := wR lo26 16) (ty := tyX5 6) (iv' := iv20) (rv' := rv28) hx hb hts iX5 tyX5 tyX5_ok nmX5 hown hKn.1 hH hO hS (q := 1) g27 (by decide) rfl rfl 6 (by decide) k17 rfl hin rfl (tyX5_ok 6 (by decide)) (wR_nar _ _ _) (wR_fitA _ _ _) (Nat.le_of_ble_eq_true rfl) (by rw [e29, wV_self]; rfl) (fun _ _ => rfl) (fun a ha => by rw [e29]; exact wV_ne a ha) dX5_init_24 (fun H locs hH hS => ?_)
  refine wald_n hx hb dX5_init_27 rfl (lv_at hl 0 rfl) ?_
  refine lv_iconst (v := 3) hx hb dX5_init_28 (by decide) ?_
  obtain ⟨g30, hq⟩ := wGd_e hf
  clear hf
  revert hq
  intro hf
  obtain ⟨sh31, e35, hq⟩ := wLt_e hf
  clear hf
  revert hq
  intro hf
  obtain ⟨ln32, e36, hq⟩ := wLt_e hf
  clear hf
  revert hq
  intro hf
  obtain ⟨iv33, e37, hq⟩ := wLt_e hf
  clear hf
  revert hq
  intro hf
  obtain ⟨rv34, e38, hq⟩ := wLt_e hf
  clear hf
  revert hq
  intro hf
  refine wnaE (atype := .int) (ty := .int) hx hb (hts (.arrayClass .int) (List.mem_of_getElem? (i := 5) rfl)) hKn.1 hH hO hS hA 17 7 0 g30 (by decide) rfl (fun _ _ => rfl) rfl rfl (fun h => h) (M := 3) (by decide) (Nat.le_of_ble_eq_true rfl) (by decide) (by decide) (by show _ ≤ 21; omega) (by show _ ≤ 1148; omega) dX5_init_29 e35 e36 e37 e38 (fun lo39 H hloc hH hO hS => ?_)
  replace hkp := wKpE (kd := 7) hkp g30.2.1 (by decide) hloc e35
  rw [wR_same (hloc 1 (wNe g27 (by decide) g30.2.1))] at hl
  refine W.eq (g2 := F0 m 31 ls [wR lo39 17, wR lo39 1]) (by rw [wR_same (hloc 1 (wNe g27 (by decide) g30.2.1))]) ?_
  obtain ⟨g40, hq⟩ := wGd_e hf
  clear hf
  revert hq
  intro hf
  obtain ⟨rv41, e42, hq⟩ := wLt_e hf
  clear hf
  revert hq
  intro hf
  refine wpF (C := RX5) (T := TX5) (N := 31) (v := wR lo39 17) (ty := tyX5 7) (iv' := iv33) (rv' := rv41) hx hb hts iX5 tyX5 tyX5_ok nmX5 hown hKn.1 hH hO hS (q := 1) g40 (by decide) rfl rfl 7 (by decide) k20 rfl hin rfl (tyX5_ok 7 (by decide)) (wR_nar _ _ _) (wR_fitA _ _ _) (Nat.le_of_ble_eq_true rfl) (by rw [e42, wV_self]; rfl) (fun _ _ => rfl) (fun a ha => by rw [e42]; exact wV_ne a ha) dX5_init_31 (fun H locs hH hS => ?_)
  refine wald_n hx hb dX5_init_34 rfl (lv_at hl 0 rfl) ?_
  refine lv_bipush (v := 100) hx hb dX5_init_35 (by decide) ?_
  obtain ⟨g43, hq⟩ := wGd_e hf
  clear hf
  revert hq
  intro hf
  obtain ⟨sh44, e48, hq⟩ := wLt_e hf
  clear hf
  revert hq
  intro hf
  obtain ⟨ln45, e49, hq⟩ := wLt_e hf
  clear hf
  revert hq
  intro hf
  obtain ⟨iv46, e50, hq⟩ := wLt_e hf
  clear hf
  revert hq
  intro hf
  obtain ⟨rv47, e51, hq⟩ := wLt_e hf
  clear hf
  revert hq
  intro hf
  refine wnaE (atype := .int) (ty := .int) hx hb (hts (.arrayClass .int) (List.mem_of_getElem? (i := 5) rfl)) hKn.1 hH hO hS hA 19 7 0 g43 (by decide) rfl (fun _ _ => rfl) rfl rfl (fun h => h) (M := 100) (by decide) (Nat.le_of_ble_eq_true rfl) (by decide) (by decide) (by show _ ≤ 21; omega) (by show _ ≤ 1148; omega) dX5_init_37 e48 e49 e50 e51 (fun lo52 H hloc hH hO hS => ?_)
  replace hkp := wKpE (kd := 7) hkp g43.2.1 (by decide) hloc e48
  rw [wR_same (hloc 1 (wNe g40 (by decide) g43.2.1))] at hl
  refine W.eq (g2 := F0 m 39 ls [wR lo52 19, wR lo52 1]) (by rw [wR_same (hloc 1 (wNe g40 (by decide) g43.2.1))]) ?_
  obtain ⟨g53, hq⟩ := wGd_e hf
  clear hf
  revert hq
  intro hf
  obtain ⟨rv54, e55, hq⟩ := wLt_e hf
  clear hf
  revert hq
  intro hf
  refine wpF (C := RX5) (T := TX5) (N := 31) (v := wR lo52 19) (ty := tyX5 9) (iv' := iv46) (rv' := rv54) hx hb hts iX5 tyX5 tyX5_ok nmX5 hown hKn.1 hH hO hS (q := 1) g53 (by decide) rfl rfl 9 (by decide) k23 rfl hin rfl (tyX5_ok 9 (by decide)) (wR_nar _ _ _) (wR_fitA _ _ _) (Nat.le_of_ble_eq_true rfl) (by rw [e55, wV_self]; rfl) (fun _ _ => rfl) (fun a ha => by rw [e55]; exact wV_ne a ha) dX5_init_39 (fun H locs hH hS => ?_)
  refine wald_n hx hb dX5_init_42 rfl (lv_at hl 0 rfl) ?_
  refine lv_bipush (v := 100) hx hb dX5_init_43 (by decide) ?_
  obtain ⟨g56, hq⟩ := wGd_e hf
  clear hf
  revert hq
  intro hf
  obtain ⟨sh57, e61, hq⟩ := wLt_e hf
  clear hf
  revert hq
  intro hf
  obtain ⟨ln58, e62, hq⟩ := wLt_e hf
  clear hf
  revert hq
  intro hf
  obtain ⟨iv59, e63, hq⟩ := wLt_e hf
  clear hf
  revert hq
  intro hf
  obtain ⟨rv60, e64, hq⟩ := wLt_e hf
  clear hf
  revert hq
  intro hf
  refine wnaE (atype := .int) (ty := .int) hx hb (hts (.arrayClass .int) (List.mem_of_getElem? (i := 5) rfl)) hKn.1 hH hO hS hA 20 7 0 g56 (by decide) rfl (fun _ _ => rfl) rfl rfl (fun h => h) (M := 100) (by decide) (Nat.le_of_ble_eq_true rfl) (by decide) (by decide) (by show _ ≤ 21; omega) (by show _ ≤ 1148; omega) dX5_init_45 e61 e62 e63 e64 (fun lo65 H hloc hH hO hS => ?_)
  replace hkp := wKpE (kd := 7) hkp g56.2.1 (by decide) hloc e61
  rw [wR_same (hloc 1 (wNe g53 (by decide) g56.2.1))] at hl
  refine W.eq (g2 := F0 m 47 ls [wR lo65 20, wR lo65 1]) (by rw [wR_same (hloc 1 (wNe g53 (by decide) g56.2.1))]) ?_
  obtain ⟨g66, hq⟩ := wGd_e hf
  clear hf
  revert hq
  intro hf
  obtain ⟨rv67, e68, hq⟩ := wLt_e hf
  clear hf
  revert hq
  intro hf
  refine wpF (C := RX5) (T := TX5) (N := 31) (v := wR lo65 20) (ty := tyX5 10) (iv' := iv59) (rv' := rv67) hx hb hts iX5 tyX5 tyX5_ok nmX5 hown hKn.1 hH hO hS (q := 1) g66 (by decide) rfl rfl 10 (by decide) k26 rfl hin rfl (tyX5_ok 10 (by decide)) (wR_nar _ _ _) (wR_fitA _ _ _) (Nat.le_of_ble_eq_true rfl) (by rw [e68, wV_self]; rfl) (fun _ _ => rfl) (fun a ha => by rw [e68]; exact wV_ne a ha) dX5_init_47 (fun H locs hH hS => ?_)
  refine wald_n hx hb dX5_init_50 rfl (lv_at hl 0 rfl) ?_
  refine lv_bipush (v := 100) hx hb dX5_init_51 (by decide) ?_
  obtain ⟨g69, hq⟩ := wGd_e hf
  clear hf
  revert hq
  intro hf
  obtain ⟨sh70, e74, hq⟩ := wLt_e hf
  clear hf
  revert hq
  intro hf
  obtain ⟨ln71, e75, hq⟩ := wLt_e hf
  clear hf
  revert hq
  intro hf
  obtain ⟨iv72, e76, hq⟩ := wLt_e hf
  clear hf
  revert hq
  intro hf
  obtain ⟨rv73, e77, hq⟩ := wLt_e hf
  clear hf
  revert hq
  intro hf
  refine wnaE (atype := .int) (ty := .int) hx hb (hts (.arrayClass .int) (List.mem_of_getElem? (i := 5) rfl)) hKn.1 hH hO hS hA 21 7 0 g69 (by decide) rfl (fun _ _ => rfl) rfl rfl (fun h => h) (M := 100) (by decide) (Nat.le_of_ble_eq_true rfl) (by decide) (by decide) (by show _ ≤ 21; omega) (by show _ ≤ 1148; omega) dX5_init_53 e74 e75 e76 e77 (fun lo78 H hloc hH hO hS => ?_)
  replace hkp := wKpE (kd := 7) hkp g69.2.1 (by decide) hloc e74
  rw [wR_same (hloc 1 (wNe g66 (by decide) g69.2.1))] at hl
  refine W.eq (g2 := F0 m 55 ls [wR lo78 21, wR lo78 1]) (by rw [wR_same (hloc 1 (wNe g66 (by decide) g69.2.1))]) ?_
  obtain ⟨g79, hq⟩ := wGd_e hf
  clear hf
  revert hq
  intro hf
  obtain ⟨rv80, e81, hq⟩ := wLt_e hf
  clear hf
  revert hq
  intro hf
  refine wpF (C := RX5) (T := TX5) (N := 31) (v := wR lo78 21) (ty := tyX5 11) (iv' := iv72) (rv' := rv80) hx hb hts iX5 tyX5 tyX5_ok nmX5 hown hKn.1 hH hO hS (q := 1) g79 (by decide) rfl rfl 11 (by decide) k29 rfl hin rfl (tyX5_ok 11 (by decide)) (wR_nar _ _ _) (wR_fitA _ _ _) (Nat.le_of_ble_eq_true rfl) (by rw [e81, wV_self]; rfl) (fun _ _ => rfl) (fun a ha => by rw [e81]; exact wV_ne a ha) dX5_init_55 (fun H locs hH hS => ?_)
  refine wald_n hx hb dX5_init_58 rfl (lv_at hl 0 rfl) ?_
  refine lv_bipush (v := 100) hx hb dX5_init_59 (by decide) ?_
  obtain ⟨g82, hq⟩ := wGd_e hf
  clear hf
  revert hq
  intro hf
  obtain ⟨sh83, e87, hq⟩ := wLt_e hf
  clear hf
  revert hq
  intro hf
  obtain ⟨ln84, e88, hq⟩ := wLt_e hf
  clear hf
  revert hq
  intro hf
  obtain ⟨iv85, e89, hq⟩ := wLt_e hf
  clear hf
  revert hq
  intro hf
  obtain ⟨rv86, e90, hq⟩ := wLt_e hf
  clear hf
  revert hq
  intro hf
  refine wnaE (atype := .int) (ty := .int) hx hb (hts (.arrayClass .int) (List.mem_of_getElem? (i := 5) rfl)) hKn.1 hH hO hS hA 22 7 0 g82 (by decide) rfl (fun _ _ => rfl) rfl rfl (fun h => h) (M := 100) (by decide) (Nat.le_of_ble_eq_true rfl) (by decide) (by decide) (by show _ ≤ 21; omega) (by show _ ≤ 1148; omega) dX5_init_61 e87 e88 e89 e90 (fun lo91 H hloc hH hO hS => ?_)
  replace hkp := wKpE (kd := 7) hkp g82.2.1 (by decide) hloc e87
  rw [wR_same (hloc 1 (wNe g79 (by decide) g82.2.1))] at hl
  refine W.eq (g2 := F0 m 63 ls [wR lo91 22, wR lo91 1]) (by rw [wR_same (hloc 1 (wNe g79 (by decide) g82.2.1))]) ?_
  obtain ⟨g92, hq⟩ := wGd_e hf
  clear hf
  revert hq
  intro hf
  obtain ⟨rv93, e94, hq⟩ := wLt_e hf
  clear hf
  revert hq
  intro hf
  refine wpF (C := RX5) (T := TX5) (N := 31) (v := wR lo91 22) (ty := tyX5 12) (iv' := iv85) (rv' := rv93) hx hb hts iX5 tyX5 tyX5_ok nmX5 hown hKn.1 hH hO hS (q := 1) g92 (by decide) rfl rfl 12 (by decide) k32 rfl hin rfl (tyX5_ok 12 (by decide)) (wR_nar _ _ _) (wR_fitA _ _ _) (Nat.le_of_ble_eq_true rfl) (by rw [e94, wV_self]; rfl) (fun _ _ => rfl) (fun a ha => by rw [e94]; exact wV_ne a ha) dX5_init_63 (fun H locs hH hS => ?_)
  refine wald_n hx hb dX5_init_66 rfl (lv_at hl 0 rfl) ?_
  refine lv_bipush (v := 100) hx hb dX5_init_67 (by decide) ?_
  obtain ⟨g95, hq⟩ := wGd_e hf
  clear hf
  revert hq
  intro hf
  obtain ⟨sh96, e100, hq⟩ := wLt_e hf
  clear hf
  revert hq
  intro hf
  obtain ⟨ln97, e101, hq⟩ := wLt_e hf
  clear hf
  revert hq
  intro hf
  obtain ⟨iv98, e102, hq⟩ := wLt_e hf
  clear hf
  revert hq
  intro hf
  obtain ⟨rv99, e103, hq⟩ := wLt_e hf
  clear hf
  revert hq
  intro hf
  refine wnaE (atype := .int) (ty := .int) hx hb (hts (.arrayClass .int) (List.mem_of_getElem? (i := 5) rfl)) hKn.1 hH hO hS hA 23 7 0 g95 (by decide) rfl (fun _ _ => rfl) rfl rfl (fun h => h) (M := 100) (by decide) (Nat.le_of_ble_eq_true rfl) (by decide) (by decide) (by show _ ≤ 21; omega) (by show _ ≤ 1148; omega) dX5_init_69 e100 e101 e102 e103 (fun lo104 H hloc hH hO hS => ?_)
  replace hkp := wKpE (kd := 7) hkp g95.2.1 (by decide) hloc e100
  rw [wR_same (hloc 1 (wNe g92 (by decide) g95.2.1))] at hl
  refine W.eq (g2 := F0 m 71 ls [wR lo104 23, wR lo104 1]) (by rw [wR_same (hloc 1 (wNe g92 (by decide) g95.2.1))]) ?_
  obtain ⟨g105, hq⟩ := wGd_e hf
  clear hf
  revert hq
  intro hf
  obtain ⟨rv106, e107, hq⟩ := wLt_e hf
  clear hf
  revert hq
  intro hf
  refine wpF (C := RX5) (T := TX5) (N := 31) (v := wR lo104 23) (ty := tyX5 13) (iv' := iv98) (rv' := rv106) hx hb hts iX5 tyX5 tyX5_ok nmX5 hown hKn.1 hH hO hS (q := 1) g105 (by decide) rfl rfl 13 (by decide) k35 rfl hin rfl (tyX5_ok 13 (by decide)) (wR_nar _ _ _) (wR_fitA _ _ _) (Nat.le_of_ble_eq_true rfl) (by rw [e107, wV_self]; rfl) (fun _ _ => rfl) (fun a ha => by rw [e107]; exact wV_ne a ha) dX5_init_71 (fun H locs hH hS => ?_)
  refine wald_n hx hb dX5_init_74 rfl (lv_at hl 0 rfl) ?_
  refine lv_bipush (v := 100) hx hb dX5_init_75 (by decide) ?_
  obtain ⟨g108, hq⟩ := wGd_e hf
  clear hf
  revert hq
  intro hf
  obtain ⟨sh109, e113, hq⟩ := wLt_e hf
  clear hf
  revert hq
  intro hf
  obtain ⟨ln110, e114, hq⟩ := wLt_e hf
  clear hf
  revert hq
  intro hf
  obtain ⟨iv111, e115, hq⟩ := wLt_e hf
  clear hf
  revert hq
  intro hf
  obtain ⟨rv112, e116, hq⟩ := wLt_e hf
  clear hf
  revert hq
  intro hf
  refine wnaE (atype := .int) (ty := .int) hx hb (hts (.arrayClass .int) (List.mem_of_getElem? (i := 5) rfl)) hKn.1 hH hO hS hA 24 7 0 g108 (by decide) rfl (fun _ _ => rfl) rfl rfl (fun h => h) (M := 100) (by decide) (Nat.le_of_ble_eq_true rfl) (by decide) (by decide) (by show _ ≤ 21; omega) (by show _ ≤ 1148; omega) dX5_init_77 e113 e114 e115 e116 (fun lo117 H hloc hH hO hS => ?_)
  replace hkp := wKpE (kd := 7) hkp g108.2.1 (by decide) hloc e113
  rw [wR_same (hloc 1 (wNe g105 (by decide) g108.2.1))] at hl
  refine W.eq (g2 := F0 m 79 ls [wR lo117 24, wR lo117 1]) (by rw [wR_same (hloc 1 (wNe g105 (by decide) g108.2.1))]) ?_
  obtain ⟨g118, hq⟩ := wGd_e hf
  clear hf
  revert hq
  intro hf
  obtain ⟨rv119, e120, hq⟩ := wLt_e hf
  clear hf
  revert hq
  intro hf
  refine wpF (C := RX5) (T := TX5) (N := 31) (v := wR lo117 24) (ty := tyX5 14) (iv' := iv111) (rv' := rv119) hx hb hts iX5 tyX5 tyX5_ok nmX5 hown hKn.1 hH hO hS (q := 1) g118 (by decide) rfl rfl 14 (by decide) k38 rfl hin rfl (tyX5_ok 14 (by decide)) (wR_nar _ _ _) (wR_fitA _ _ _) (Nat.le_of_ble_eq_true rfl) (by rw [e120, wV_self]; rfl) (fun _ _ => rfl) (fun a ha => by rw [e120]; exact wV_ne a ha) dX5_init_79 (fun H locs hH hS => ?_)
  refine wald_n hx hb dX5_init_82 rfl (lv_at hl 0 rfl) ?_
  refine lv_bipush (v := 100) hx hb dX5_init_83 (by decide) ?_
  obtain ⟨g121, hq⟩ := wGd_e hf
  clear hf
  revert hq
  intro hf
  obtain ⟨sh122, e126, hq⟩ := wLt_e hf
  clear hf
  revert hq
  intro hf
  obtain ⟨ln123, e127, hq⟩ := wLt_e hf
  clear hf
  revert hq
  intro hf
  obtain ⟨iv124, e128, hq⟩ := wLt_e hf
  clear hf
  revert hq
  intro hf
  obtain ⟨rv125, e129, hq⟩ := wLt_e hf
  clear hf
  revert hq
  intro hf
  refine wnaE (atype := .int) (ty := .int) hx hb (hts (.arrayClass .int) (List.mem_of_getElem? (i := 5) rfl)) hKn.1 hH hO hS hA 25 7 0 g121 (by decide) rfl (fun _ _ => rfl) rfl rfl (fun h => h) (M := 100) (by decide) (Nat.le_of_ble_eq_true rfl) (by decide) (by decide) (by show _ ≤ 21; omega) (by show _ ≤ 1148; omega) dX5_init_85 e126 e127 e128 e129 (fun lo130 H hloc hH hO hS => ?_)
  replace hkp := wKpE (kd := 7) hkp g121.2.1 (by decide) hloc e126
  rw [wR_same (hloc 1 (wNe g118 (by decide) g121.2.1))] at hl
  refine W.eq (g2 := F0 m 87 ls [wR lo130 25, wR lo130 1]) (by rw [wR_same (hloc 1 (wNe g118 (by decide) g121.2.1))]) ?_
  obtain ⟨g131, hq⟩ := wGd_e hf
  clear hf
  revert hq
  intro hf
  obtain ⟨rv132, e133, hq⟩ := wLt_e hf
  clear hf
  revert hq
  intro hf
  refine wpF (C := RX5) (T := TX5) (N := 31) (v := wR lo130 25) (ty := tyX5 15) (iv' := iv124) (rv' := rv132) hx hb hts iX5 tyX5 tyX5_ok nmX5 hown hKn.1 hH hO hS (q := 1) g131 (by decide) rfl rfl 15 (by decide) k41 rfl hin rfl (tyX5_ok 15 (by decide)) (wR_nar _ _ _) (wR_fitA _ _ _) (Nat.le_of_ble_eq_true rfl) (by rw [e133, wV_self]; rfl) (fun _ _ => rfl) (fun a ha => by rw [e133]; exact wV_ne a ha) dX5_init_87 (fun H locs hH hS => ?_)
  refine wald_n hx hb dX5_init_90 rfl (lv_at hl 0 rfl) ?_
  refine lv_bipush (v := 100) hx hb dX5_init_91 (by decide) ?_
  obtain ⟨g134, hq⟩ := wGd_e hf
  clear hf
  revert hq
  intro hf
  obtain ⟨sh135, e139, hq⟩ := wLt_e hf
  clear hf
  revert hq
  intro hf
  obtain ⟨ln136, e140, hq⟩ := wLt_e hf
  clear hf
  revert hq
  intro hf
  obtain ⟨iv137, e141, hq⟩ := wLt_e hf
  clear hf
  revert hq
  intro hf
  obtain ⟨rv138, e142, hq⟩ := wLt_e hf
  clear hf
  revert hq
  intro hf
  refine wnaE (atype := .int) (ty := .int) hx hb (hts (.arrayClass .int) (List.mem_of_getElem? (i := 5) rfl)) hKn.1 hH hO hS hA 26 7 0 g134 (by decide) rfl (fun _ _ => rfl) rfl rfl (fun h => h) (M := 100) (by decide) (Nat.le_of_ble_eq_true rfl) (by decide) (by decide) (by show _ ≤ 21; omega) (by show _ ≤ 1148; omega) dX5_init_93 e139 e140 e141 e142 (fun lo143 H hloc hH hO hS => ?_)
  replace hkp := wKpE (kd := 7) hkp g134.2.1 (by decide) hloc e139
  rw [wR_same (hloc 1 (wNe g131 (by decide) g134.2.1))] at hl
  refine W.eq (g2 := F0 m 95 ls [wR lo143 26, wR lo143 1]) (by rw [wR_same (hloc 1 (wNe g131 (by decide) g134.2.1))]) ?_
  obtain ⟨g144, hq⟩ := wGd_e hf
  clear hf
  revert hq
  intro hf
  obtain ⟨rv145, e146, hq⟩ := wLt_e hf
  clear hf
  revert hq
  intro hf
  refine wpF (C := RX5) (T := TX5) (N := 31) (v := wR lo143 26) (ty := tyX5 16) (iv' := iv137) (rv' := rv145) hx hb hts iX5 tyX5 tyX5_ok nmX5 hown hKn.1 hH hO hS (q := 1) g144 (by decide) rfl rfl 16 (by decide) k44 rfl hin rfl (tyX5_ok 16 (by decide)) (wR_nar _ _ _) (wR_fitA _ _ _) (Nat.le_of_ble_eq_true rfl) (by rw [e146, wV_self]; rfl) (fun _ _ => rfl) (fun a ha => by rw [e146]; exact wV_ne a ha) dX5_init_95 (fun H locs hH hS => ?_)
  refine wald_n hx hb dX5_init_98 rfl (lv_at hl 0 rfl) ?_
  refine lv_bipush (v := 100) hx hb dX5_init_99 (by decide) ?_
  obtain ⟨g147, hq⟩ := wGd_e hf
  clear hf
  revert hq
  intro hf
  obtain ⟨sh148, e152, hq⟩ := wLt_e hf
  clear hf
  revert hq
  intro hf
  obtain ⟨ln149, e153, hq⟩ := wLt_e hf
  clear hf
  revert hq
  intro hf
  obtain ⟨iv150, e154, hq⟩ := wLt_e hf
  clear hf
  revert hq
  intro hf
  obtain ⟨rv151, e155, hq⟩ := wLt_e hf
  clear hf
  revert hq
  intro hf
  refine wnaE (atype := .int) (ty := .int) hx hb (hts (.arrayClass .int) (List.mem_of_getElem? (i := 5) rfl)) hKn.1 hH hO hS hA 27 7 0 g147 (by decide) rfl (fun _ _ => rfl) rfl rfl (fun h => h) (M := 100) (by decide) (Nat.le_of_ble_eq_true rfl) (by decide) (by decide) (by show _ ≤ 21; omega) (by show _ ≤ 1148; omega) dX5_init_101 e152 e153 e154 e155 (fun lo156 H hloc hH hO hS => ?_)
  replace hkp := wKpE (kd := 7) hkp g147.2.1 (by decide) hloc e152
  rw [wR_same (hloc 1 (wNe g144 (by decide) g147.2.1))] at hl
  refine W.eq (g2 := F0 m 103 ls [wR lo156 27, wR lo156 1]) (by rw [wR_same (hloc 1 (wNe g144 (by decide) g147.2.1))]) ?_
  obtain ⟨g157, hq⟩ := wGd_e hf
  clear hf
  revert hq
  intro hf
  obtain ⟨rv158, e159, hq⟩ := wLt_e hf
  clear hf
  revert hq
  intro hf
  refine wpF (C := RX5) (T := TX5) (N := 31) (v := wR lo156 27) (ty := tyX5 17) (iv' := iv150) (rv' := rv158) hx hb hts iX5 tyX5 tyX5_ok nmX5 hown hKn.1 hH hO hS (q := 1) g157 (by decide) rfl rfl 17 (by decide) k47 rfl hin rfl (tyX5_ok 17 (by decide)) (wR_nar _ _ _) (wR_fitA _ _ _) (Nat.le_of_ble_eq_true rfl) (by rw [e159, wV_self]; rfl) (fun _ _ => rfl) (fun a ha => by rw [e159]; exact wV_ne a ha) dX5_init_103 (fun H locs hH hS => ?_)
  refine wald_n hx hb dX5_init_106 rfl (lv_at hl 0 rfl) ?_
  refine lv_bipush (v := 100) hx hb dX5_init_107 (by decide) ?_
  obtain ⟨g160, hq⟩ := wGd_e hf
  clear hf
  revert hq
  intro hf
  obtain ⟨sh161, e165, hq⟩ := wLt_e hf
  clear hf
  revert hq
  intro hf
  obtain ⟨ln162, e166, hq⟩ := wLt_e hf
  clear hf
  revert hq
  intro hf
  obtain ⟨iv163, e167, hq⟩ := wLt_e hf
  clear hf
  revert hq
  intro hf
  obtain ⟨rv164, e168, hq⟩ := wLt_e hf
  clear hf
  revert hq
  intro hf
  refine wnaE (atype := .int) (ty := .int) hx hb (hts (.arrayClass .int) (List.mem_of_getElem? (i := 5) rfl)) hKn.1 hH hO hS hA 28 7 0 g160 (by decide) rfl (fun _ _ => rfl) rfl rfl (fun h => h) (M := 100) (by decide) (Nat.le_of_ble_eq_true rfl) (by decide) (by decide) (by show _ ≤ 21; omega) (by show _ ≤ 1148; omega) dX5_init_109 e165 e166 e167 e168 (fun lo169 H hloc hH hO hS => ?_)
  replace hkp := wKpE (kd := 7) hkp g160.2.1 (by decide) hloc e165
  rw [wR_same (hloc 1 (wNe g157 (by decide) g160.2.1))] at hl
  refine W.eq (g2 := F0 m 111 ls [wR lo169 28, wR lo169 1]) (by rw [wR_same (hloc 1 (wNe g157 (by decide) g160.2.1))]) ?_
  obtain ⟨g170, hq⟩ := wGd_e hf
  clear hf
  revert hq
  intro hf
  obtain ⟨rv171, e172, hq⟩ := wLt_e hf
  clear hf
  revert hq
  intro hf
  refine wpF (C := RX5) (T := TX5) (N := 31) (v := wR lo169 28) (ty := tyX5 18) (iv' := iv163) (rv' := rv171) hx hb hts iX5 tyX5 tyX5_ok nmX5 hown hKn.1 hH hO hS (q := 1) g170 (by decide) rfl rfl 18 (by decide) k50 rfl hin rfl (tyX5_ok 18 (by decide)) (wR_nar _ _ _) (wR_fitA _ _ _) (Nat.le_of_ble_eq_true rfl) (by rw [e172, wV_self]; rfl) (fun _ _ => rfl) (fun a ha => by rw [e172]; exact wV_ne a ha) dX5_init_111 (fun H locs hH hS => ?_)
  refine wald_n hx hb dX5_init_114 rfl (lv_at hl 0 rfl) ?_
  refine lv_bipush (v := 100) hx hb dX5_init_115 (by decide) ?_
  obtain ⟨g173, hq⟩ := wGd_e hf
  clear hf
  revert hq
  intro hf
  obtain ⟨sh174, e178, hq⟩ := wLt_e hf
  clear hf
  revert hq
  intro hf
  obtain ⟨ln175, e179, hq⟩ := wLt_e hf
  clear hf
  revert hq
  intro hf
  obtain ⟨iv176, e180, hq⟩ := wLt_e hf
  clear hf
  revert hq
  intro hf
  obtain ⟨rv177, e181, hq⟩ := wLt_e hf
  clear hf
  revert hq
  intro hf
  refine wnaE (atype := .int) (ty := .int) hx hb (hts (.arrayClass .int) (List.mem_of_getElem? (i := 5) rfl)) hKn.1 hH hO hS hA 29 7 0 g173 (by decide) rfl (fun _ _ => rfl) rfl rfl (fun h => h) (M := 100) (by decide) (Nat.le_of_ble_eq_true rfl) (by decide) (by decide) (by show _ ≤ 21; omega) (by show _ ≤ 1148; omega) dX5_init_117 e178 e179 e180 e181 (fun lo182 H hloc hH hO hS => ?_)
  replace hkp := wKpE (kd := 7) hkp g173.2.1 (by decide) hloc e178
  rw [wR_same (hloc 1 (wNe g170 (by decide) g173.2.1))] at hl
  refine W.eq (g2 := F0 m 119 ls [wR lo182 29, wR lo182 1]) (by rw [wR_same (hloc 1 (wNe g170 (by decide) g173.2.1))]) ?_
  obtain ⟨g183, hq⟩ := wGd_e hf
  clear hf
  revert hq
  intro hf
  obtain ⟨rv184, e185, hq⟩ := wLt_e hf
  clear hf
  revert hq
  intro hf
  refine wpF (C := RX5) (T := TX5) (N := 31) (v := wR lo182 29) (ty := tyX5 19) (iv' := iv176) (rv' := rv184) hx hb hts iX5 tyX5 tyX5_ok nmX5 hown hKn.1 hH hO hS (q := 1) g183 (by decide) rfl rfl 19 (by decide) k53 rfl hin rfl (tyX5_ok 19 (by decide)) (wR_nar _ _ _) (wR_fitA _ _ _) (Nat.le_of_ble_eq_true rfl) (by rw [e185, wV_self]; rfl) (fun _ _ => rfl) (fun a ha => by rw [e185]; exact wV_ne a ha) dX5_init_119 (fun H locs hH hS => ?_)
  refine wald_n hx hb dX5_init_122 rfl (lv_at hl 0 rfl) ?_
  refine lv_iconst (v := 3) hx hb dX5_init_123 (by decide) ?_
  obtain ⟨g186, hq⟩ := wGd_e hf
  clear hf
  revert hq
  intro hf
  obtain ⟨sh187, e191, hq⟩ := wLt_e hf
  clear hf
  revert hq
  intro hf
  obtain ⟨ln188, e192, hq⟩ := wLt_e hf
  clear hf
  revert hq
  intro hf
  obtain ⟨iv189, e193, hq⟩ := wLt_e hf
  clear hf
  revert hq
  intro hf
  obtain ⟨rv190, e194, hq⟩ := wLt_e hf
  clear hf
  revert hq
  intro hf
  refine wnaE (atype := .int) (ty := .int) hx hb (hts (.arrayClass .int) (List.mem_of_getElem? (i := 5) rfl)) hKn.1 hH hO hS hA 30 7 0 g186 (by decide) rfl (fun _ _ => rfl) rfl rfl (fun h => h) (M := 3) (by decide) (Nat.le_of_ble_eq_true rfl) (by decide) (by decide) (by show _ ≤ 21; omega) (by show _ ≤ 1148; omega) dX5_init_124 e191 e192 e193 e194 (fun lo195 H hloc hH hO hS => ?_)
  replace hkp := wKpE (kd := 7) hkp g186.2.1 (by decide) hloc e191
  rw [wR_same (hloc 1 (wNe g183 (by decide) g186.2.1))] at hl
  refine W.eq (g2 := F0 m 126 ls [wR lo195 30, wR lo195 1]) (by rw [wR_same (hloc 1 (wNe g183 (by decide) g186.2.1))]) ?_
  obtain ⟨g196, hq⟩ := wGd_e hf
  clear hf
  revert hq
  intro hf
  obtain ⟨rv197, e198, hq⟩ := wLt_e hf
  clear hf
  revert hq
  intro hf
  refine wpF (C := RX5) (T := TX5) (N := 31) (v := wR lo195 30) (ty := tyX5 20) (iv' := iv189) (rv' := rv197) hx hb hts iX5 tyX5 tyX5_ok nmX5 hown hKn.1 hH hO hS (q := 1) g196 (by decide) rfl rfl 20 (by decide) k56 rfl hin rfl (tyX5_ok 20 (by decide)) (wR_nar _ _ _) (wR_fitA _ _ _) (Nat.le_of_ble_eq_true rfl) (by rw [e198, wV_self]; rfl) (fun _ _ => rfl) (fun a ha => by rw [e198]; exact wV_ne a ha) dX5_init_126 (fun H locs hH hS => ?_)
  refine wald_n hx hb dX5_init_129 rfl (lv_at hl 0 rfl) ?_
  refine lv_iconst (v := 3) hx hb dX5_init_130 (by decide) ?_
  obtain ⟨g199, hq⟩ := wGd_e hf
  clear hf
  revert hq
  intro hf
  obtain ⟨sh200, e204, hq⟩ := wLt_e hf
  clear hf
  revert hq
  intro hf
  obtain ⟨ln201, e205, hq⟩ := wLt_e hf
  clear hf
  revert hq
  intro hf
  obtain ⟨iv202, e206, hq⟩ := wLt_e hf
  clear hf
  revert hq
  intro hf
  obtain ⟨rv203, e207, hq⟩ := wLt_e hf
  clear hf
  revert hq
  intro hf
  refine wnaE (atype := .int) (ty := .int) hx hb (hts (.arrayClass .int) (List.mem_of_getElem? (i := 5) rfl)) hKn.1 hH hO hS hA 31 7 0 g199 (by decide) rfl (fun _ _ => rfl) rfl rfl (fun h => h) (M := 3) (by decide) (Nat.le_of_ble_eq_true rfl) (by decide) (by decide) (by show _ ≤ 21; omega) (by show _ ≤ 1148; omega) dX5_init_131 e204 e205 e206 e207 (fun lo208 H hloc hH hO hS => ?_)
  replace hkp := wKpE (kd := 7) hkp g199.2.1 (by decide) hloc e204
  rw [wR_same (hloc 1 (wNe g196 (by decide) g199.2.1))] at hl
  refine W.eq (g2 := F0 m 133 ls [wR lo208 31, wR lo208 1]) (by rw [wR_same (hloc 1 (wNe g196 (by decide) g199.2.1))]) ?_
  obtain ⟨g209, hq⟩ := wGd_e hf
  clear hf
  revert hq
  intro hf
  obtain ⟨rv210, e211, hq⟩ := wLt_e hf
  clear hf
  revert hq
  intro hf
  refine wpF (C := RX5) (T := TX5) (N := 31) (v := wR lo208 31) (ty := tyX5 21) (iv' := iv202) (rv' := rv210) hx hb hts iX5 tyX5 tyX5_ok nmX5 hown hKn.1 hH hO hS (q := 1) g209 (by decide) rfl rfl 21 (by decide) k59 rfl hin rfl (tyX5_ok 21 (by decide)) (wR_nar _ _ _) (wR_fitA _ _ _) (Nat.le_of_ble_eq_true rfl) (by rw [e211, wV_self]; rfl) (fun _ _ => rfl) (fun a ha => by rw [e211]; exact wV_ne a ha) dX5_init_133 (fun H locs hH hS => ?_)
  refine wald_n hx hb dX5_init_136 rfl (lv_at hl 0 rfl) ?_
  refine lv_iconst (v := 3) hx hb dX5_init_137 (by decide) ?_
  obtain ⟨g212, hq⟩ := wGd_e hf
  clear hf
  revert hq
  intro hf
  obtain ⟨sh213, e217, hq⟩ := wLt_e hf
  clear hf
  revert hq
  intro hf
  obtain ⟨ln214, e218, hq⟩ := wLt_e hf
  clear hf
  revert hq
  intro hf
  obtain ⟨iv215, e219, hq⟩ := wLt_e hf
  clear hf
  revert hq
  intro hf
  obtain ⟨rv216, e220, hq⟩ := wLt_e hf
  clear hf
  revert hq
  intro hf
  refine wnaE (atype := .int) (ty := .int) hx hb (hts (.arrayClass .int) (List.mem_of_getElem? (i := 5) rfl)) hKn.1 hH hO hS hA 32 7 0 g212 (by decide) rfl (fun _ _ => rfl) rfl rfl (fun h => h) (M := 3) (by decide) (Nat.le_of_ble_eq_true rfl) (by decide) (by decide) (by show _ ≤ 21; omega) (by show _ ≤ 1148; omega) dX5_init_138 e217 e218 e219 e220 (fun lo221 H hloc hH hO hS => ?_)
  replace hkp := wKpE (kd := 7) hkp g212.2.1 (by decide) hloc e217
  rw [wR_same (hloc 1 (wNe g209 (by decide) g212.2.1))] at hl
  refine W.eq (g2 := F0 m 140 ls [wR lo221 32, wR lo221 1]) (by rw [wR_same (hloc 1 (wNe g209 (by decide) g212.2.1))]) ?_
  obtain ⟨g222, hq⟩ := wGd_e hf
  clear hf
  revert hq
  intro hf
  obtain ⟨rv223, e224, hq⟩ := wLt_e hf
  clear hf
  revert hq
  intro hf
  refine wpF (C := RX5) (T := TX5) (N := 31) (v := wR lo221 32) (ty := tyX5 22) (iv' := iv215) (rv' := rv223) hx hb hts iX5 tyX5 tyX5_ok nmX5 hown hKn.1 hH hO hS (q := 1) g222 (by decide) rfl rfl 22 (by decide) k62 rfl hin rfl (tyX5_ok 22 (by decide)) (wR_nar _ _ _) (wR_fitA _ _ _) (Nat.le_of_ble_eq_true rfl) (by rw [e224, wV_self]; rfl) (fun _ _ => rfl) (fun a ha => by rw [e224]; exact wV_ne a ha) dX5_init_140 (fun H locs hH hS => ?_)
  refine wald_n hx hb dX5_init_143 rfl (lv_at hl 0 rfl) ?_
  refine lv_bipush (v := 50) hx hb dX5_init_144 (by decide) ?_
  obtain ⟨iv225, e226, hq⟩ := wLt_e hf
  clear hf
  revert hq
  intro hf
  refine wp (C := RX5) (T := TX5) (N := 31) (v := .int 50) (ty := tyX5 25) (iv' := iv225) (rv' := rv223) hx hb hts iX5 tyX5 tyX5_ok nmX5 hown hKn.1 hH hO hS (q := 1) g222 (by decide) rfl rfl 25 (by decide) k65 rfl (tyX5_ok 25 (by decide)) rfl rfl (Nat.le_of_ble_eq_true rfl) (by rw [e226, wU_self]; rfl) (fun a ha => by rw [e226]; exact wU_ne a ha) (fun _ _ => rfl) dX5_init_146 (fun H locs hH hS => ?_)
  refine wald_n hx hb dX5_init_149 rfl (lv_at hl 0 rfl) ?_
  refine lv_iconst (v := 5) hx hb dX5_init_150 (by decide) ?_
  obtain ⟨g227, hq⟩ := wGd_e hf
  clear hf
  revert hq
  intro hf
  obtain ⟨sh228, e232, hq⟩ := wLt_e hf
  clear hf
  revert hq
  intro hf
  obtain ⟨ln229, e233, hq⟩ := wLt_e hf
  clear hf
  revert hq
  intro hf
  obtain ⟨iv230, e234, hq⟩ := wLt_e hf
  clear hf
  revert hq
  intro hf
  obtain ⟨rv231, e235, hq⟩ := wLt_e hf
  clear hf
  revert hq
  intro hf
  refine wnaE (atype := .int) (ty := .int) hx hb (hts (.arrayClass .int) (List.mem_of_getElem? (i := 5) rfl)) hKn.1 hH hO hS hA 36 7 0 g227 (by decide) rfl (fun _ _ => rfl) rfl rfl (fun h => h) (M := 5) (by decide) (Nat.le_of_ble_eq_true rfl) (by decide) (by decide) (by show _ ≤ 21; omega) (by show _ ≤ 1148; omega) dX5_init_151 e232 e233 e234 e235 (fun lo236 H hloc hH hO hS => ?_)
  replace hkp := wKpE (kd := 7) hkp g227.2.1 (by decide) hloc e232
  rw [wR_same (hloc 1 (wNe g222 (by decide) g227.2.1))] at hl
  refine W.eq (g2 := F0 m 153 ls [wR lo236 36, wR lo236 1]) (by rw [wR_same (hloc 1 (wNe g222 (by decide) g227.2.1))]) ?_
  obtain ⟨g237, hq⟩ := wGd_e hf
  clear hf
  revert hq
  intro hf
  obtain ⟨rv238, e239, hq⟩ := wLt_e hf
  clear hf
  revert hq
  intro hf
  refine wpF (C := RX5) (T := TX5) (N := 31) (v := wR lo236 36) (ty := tyX5 26) (iv' := iv230) (rv' := rv238) hx hb hts iX5 tyX5 tyX5_ok nmX5 hown hKn.1 hH hO hS (q := 1) g237 (by decide) rfl rfl 26 (by decide) k68 rfl hin rfl (tyX5_ok 26 (by decide)) (wR_nar _ _ _) (wR_fitA _ _ _) (Nat.le_of_ble_eq_true rfl) (by rw [e239, wV_self]; rfl) (fun _ _ => rfl) (fun a ha => by rw [e239]; exact wV_ne a ha) dX5_init_153 (fun H locs hH hS => ?_)
  refine wald_n hx hb dX5_init_156 rfl (lv_at hl 0 rfl) ?_
  refine lv_iconst (v := 5) hx hb dX5_init_157 (by decide) ?_
  obtain ⟨g240, hq⟩ := wGd_e hf
  clear hf
  revert hq
  intro hf
  obtain ⟨sh241, e245, hq⟩ := wLt_e hf
  clear hf
  revert hq
  intro hf
  obtain ⟨ln242, e246, hq⟩ := wLt_e hf
  clear hf
  revert hq
  intro hf
  obtain ⟨iv243, e247, hq⟩ := wLt_e hf
  clear hf
  revert hq
  intro hf
  obtain ⟨rv244, e248, hq⟩ := wLt_e hf
  clear hf
  revert hq
  intro hf
  refine wnaE (atype := .int) (ty := .int) hx hb (hts (.arrayClass .int) (List.mem_of_getElem? (i := 5) rfl)) hKn.1 hH hO hS hA 37 7 0 g240 (by decide) rfl (fun _ _ => rfl) rfl rfl (fun h => h) (M := 5) (by decide) (Nat.le_of_ble_eq_true rfl) (by decide) (by decide) (by show _ ≤ 21; omega) (by show _ ≤ 1148; omega) dX5_init_158 e245 e246 e247 e248 (fun lo249 H hloc hH hO hS => ?_)
  replace hkp := wKpE (kd := 7) hkp g240.2.1 (by decide) hloc e245
  rw [wR_same (hloc 1 (wNe g237 (by decide) g240.2.1))] at hl
  refine W.eq (g2 := F0 m 160 ls [wR lo249 37, wR lo249 1]) (by rw [wR_same (hloc 1 (wNe g237 (by decide) g240.2.1))]) ?_
  obtain ⟨g250, hq⟩ := wGd_e hf
  clear hf
  revert hq
  intro hf
  obtain ⟨rv251, e252, hq⟩ := wLt_e hf
  clear hf
  revert hq
  intro hf
  refine wpF (C := RX5) (T := TX5) (N := 31) (v := wR lo249 37) (ty := tyX5 27) (iv' := iv243) (rv' := rv251) hx hb hts iX5 tyX5 tyX5_ok nmX5 hown hKn.1 hH hO hS (q := 1) g250 (by decide) rfl rfl 27 (by decide) k71 rfl hin rfl (tyX5_ok 27 (by decide)) (wR_nar _ _ _) (wR_fitA _ _ _) (Nat.le_of_ble_eq_true rfl) (by rw [e252, wV_self]; rfl) (fun _ _ => rfl) (fun a ha => by rw [e252]; exact wV_ne a ha) dX5_init_160 (fun H locs hH hS => ?_)
  refine wald_n hx hb dX5_init_163 rfl (lv_at hl 0 rfl) ?_
  refine lv_iconst (v := 5) hx hb dX5_init_164 (by decide) ?_
  obtain ⟨g253, hq⟩ := wGd_e hf
  clear hf
  revert hq
  intro hf
  obtain ⟨sh254, e258, hq⟩ := wLt_e hf
  clear hf
  revert hq
  intro hf
  obtain ⟨ln255, e259, hq⟩ := wLt_e hf
  clear hf
  revert hq
  intro hf
  obtain ⟨iv256, e260, hq⟩ := wLt_e hf
  clear hf
  revert hq
  intro hf
  obtain ⟨rv257, e261, hq⟩ := wLt_e hf
  clear hf
  revert hq
  intro hf
  refine wnaE (atype := .int) (ty := .int) hx hb (hts (.arrayClass .int) (List.mem_of_getElem? (i := 5) rfl)) hKn.1 hH hO hS hA 38 7 0 g253 (by decide) rfl (fun _ _ => rfl) rfl rfl (fun h => h) (M := 5) (by decide) (Nat.le_of_ble_eq_true rfl) (by decide) (by decide) (by show _ ≤ 21; omega) (by show _ ≤ 1148; omega) dX5_init_165 e258 e259 e260 e261 (fun lo262 H hloc hH hO hS => ?_)
  replace hkp := wKpE (kd := 7) hkp g253.2.1 (by decide) hloc e258
  rw [wR_same (hloc 1 (wNe g250 (by decide) g253.2.1))] at hl
  refine W.eq (g2 := F0 m 167 ls [wR lo262 38, wR lo262 1]) (by rw [wR_same (hloc 1 (wNe g250 (by decide) g253.2.1))]) ?_
  obtain ⟨g263, hq⟩ := wGd_e hf
  clear hf
  revert hq
  intro hf
  obtain ⟨rv264, e265, hq⟩ := wLt_e hf
  clear hf
  revert hq
  intro hf
  refine wpF (C := RX5) (T := TX5) (N := 31) (v := wR lo262 38) (ty := tyX5 28) (iv' := iv256) (rv' := rv264) hx hb hts iX5 tyX5 tyX5_ok nmX5 hown hKn.1 hH hO hS (q := 1) g263 (by decide) rfl rfl 28 (by decide) k74 rfl hin rfl (tyX5_ok 28 (by decide)) (wR_nar _ _ _) (wR_fitA _ _ _) (Nat.le_of_ble_eq_true rfl) (by rw [e265, wV_self]; rfl) (fun _ _ => rfl) (fun a ha => by rw [e265]; exact wV_ne a ha) dX5_init_167 (fun H locs hH hS => ?_)
  refine wald_n hx hb dX5_init_170 rfl (lv_at hl 0 rfl) ?_
  refine lv_iconst (v := 5) hx hb dX5_init_171 (by decide) ?_
  obtain ⟨g266, hq⟩ := wGd_e hf
  clear hf
  revert hq
  intro hf
  obtain ⟨sh267, e271, hq⟩ := wLt_e hf
  clear hf
  revert hq
  intro hf
  obtain ⟨ln268, e272, hq⟩ := wLt_e hf
  clear hf
  revert hq
  intro hf
  obtain ⟨iv269, e273, hq⟩ := wLt_e hf
  clear hf
  revert hq
  intro hf
  obtain ⟨rv270, e274, hq⟩ := wLt_e hf
  clear hf
  revert hq
  intro hf
  refine wnaE (atype := .int) (ty := .int) hx hb (hts (.arrayClass .int) (List.mem_of_getElem? (i := 5) rfl)) hKn.1 hH hO hS hA 39 7 0 g266 (by decide) rfl (fun _ _ => rfl) rfl rfl (fun h => h) (M := 5) (by decide) (Nat.le_of_ble_eq_true rfl) (by decide) (by decide) (by show _ ≤ 21; omega) (by show _ ≤ 1148; omega) dX5_init_172 e271 e272 e273 e274 (fun lo275 H hloc hH hO hS => ?_)
  replace hkp := wKpE (kd := 7) hkp g266.2.1 (by decide) hloc e271
  rw [wR_same (hloc 1 (wNe g263 (by decide) g266.2.1))] at hl
  refine W.eq (g2 := F0 m 174 ls [wR lo275 39, wR lo275 1]) (by rw [wR_same (hloc 1 (wNe g263 (by decide) g266.2.1))]) ?_
  obtain ⟨g276, hq⟩ := wGd_e hf
  clear hf
  revert hq
  intro hf
  obtain ⟨rv277, e278, hq⟩ := wLt_e hf
  clear hf
  revert hq
  intro hf
  refine wpF (C := RX5) (T := TX5) (N := 31) (v := wR lo275 39) (ty := tyX5 29) (iv' := iv269) (rv' := rv277) hx hb hts iX5 tyX5 tyX5_ok nmX5 hown hKn.1 hH hO hS (q := 1) g276 (by decide) rfl rfl 29 (by decide) k77 rfl hin rfl (tyX5_ok 29 (by decide)) (wR_nar _ _ _) (wR_fitA _ _ _) (Nat.le_of_ble_eq_true rfl) (by rw [e278, wV_self]; rfl) (fun _ _ => rfl) (fun a ha => by rw [e278]; exact wV_ne a ha) dX5_init_174 (fun H locs hH hS => ?_)
  refine wald_n hx hb dX5_init_177 rfl (lv_at hl 0 rfl) ?_
  refine lv_iload_n hx hb dX5_init_178 rfl (lv_at hl 1 rfl) ?_
  refine lv_iconst (v := 1) hx hb dX5_init_179 (by decide) ?_
  obtain ⟨z280, hv281, hq⟩ := wBd_e hf
  clear hf
  revert hq
  intro hf
  have hj282 : ∀ (H : Heap) (locs : List Loc) (ls : Array Slot), wH D K lo275 sh267 ln268 iv269 rv277 H → va_S (wA loc sh s.heap.size) s.heap H locs → lv_has ls 3 [(0, wR lo275 1), (2, .int a2)] → W p l e (headSpec wsX5_init ({ frames := 1, cells := 21, slots := 1148, locals := 20 })).room s m ([wR loc 1, .int a1, .int a2] : List Value).toArray below meth c H locs 21 1148 (MQ below (wQnv D K loc sh sh' ln' iv' rv' s.heap.size) ([wR loc 1, .int a1, .int a2] : List Value).toArray s 21 1148 (wA loc sh s.heap.size)) (F0 m 197 ls [.int z280, wR lo275 1]) := by
    intro H locs ls hH hS hl
    obtain ⟨iv284, e285, hq⟩ := wLt_e hf
    clear hf
    revert hq
    intro hf
    refine wpF (C := RX5) (T := TX5) (N := 31) (v := .int z280) (ty := tyX5 0) (iv' := iv284) (rv' := rv277) hx hb hts iX5 tyX5 tyX5_ok nmX5 hown hKn.1 hH hO hS (q := 1) g276 (by decide) rfl rfl 0 (by decide) k80 rfl hin rfl (tyX5_ok 0 (by decide)) rfl rfl (Nat.le_of_ble_eq_true rfl) (by rw [e285, wU_self]; rfl) (fun a ha => by rw [e285]; exact wU_ne a ha) (fun _ _ => rfl) dX5_init_197 (fun H locs hH hS => ?_)
    refine wald_n hx hb dX5_init_200 rfl (lv_at hl 0 rfl) ?_
    refine lv_iload_n hx hb dX5_init_201 rfl (lv_at hl 1 rfl) ?_
    refine lv_bipush (v := 6) hx hb dX5_init_202 (by decide) ?_
    refine lv_icmp_ge (tgt := 212) hx hb dX5_init_204 (by decide) (fun c286 => ?_) (fun c286 => ?_)
    · replace hf := wIt c286 hf
      refine lv_iload_n hx hb dX5_init_212 rfl (lv_at hl 1 rfl) ?_
      refine lv_bipush (v := 30) hx hb dX5_init_213 (by decide) ?_
      refine lv_icmp_le (tgt := 223) hx hb dX5_init_215 (by decide) (fun c287 => ?_) (fun c287 => ?_)
      · replace hf := wIt c287 hf
        refine lv_iload_n hx hb dX5_init_223 rfl (lv_at hl 1 rfl) ?_
        obtain ⟨iv288, e289, hq⟩ := wLt_e hf
        clear hf
        revert hq
        intro hf
        refine wp (C := RX5) (T := TX5) (N := 31) (v := .int a2) (ty := tyX5 1) (iv' := iv288) (rv' := rv277) hx hb hts iX5 tyX5 tyX5_ok nmX5 hown hKn.1 hH hO hS (q := 1) g276 (by decide) rfl rfl 1 (by decide) k83 rfl (tyX5_ok 1 (by decide)) rfl rfl (Nat.le_of_ble_eq_true rfl) (by rw [e289, wU_self]; rfl) (fun a ha => by rw [e289]; exact wU_ne a ha) (fun _ _ => rfl) dX5_init_224 (fun H locs hH hS => ?_)
        cases hf
        refine W.widen (k := 21) (n := 1148) (by omega) (by omega) ?_
        exact W.vret hx hb hr (fun t ht hW => ⟨⟨lo275, rfl, hkp, by show wH _ _ _ _ _ _ _ t.heap; rw [ht]; exact hH, hO⟩, hS.F ht⟩) hS.2.2 dX5_init_227
      · replace hf := wIf c287 hf
        refine lv_bipush (v := 30) hx hb dX5_init_218 (by decide) ?_
        refine lv_goto (tgt := 224) hx hb dX5_init_220 (by decide) ?_
        obtain ⟨iv290, e291, hq⟩ := wLt_e hf
        clear hf
        revert hq
        intro hf
        refine wp (C := RX5) (T := TX5) (N := 31) (v := .int 30) (ty := tyX5 1) (iv' := iv290) (rv' := rv277) hx hb hts iX5 tyX5 tyX5_ok nmX5 hown hKn.1 hH hO hS (q := 1) g276 (by decide) rfl rfl 1 (by decide) k83 rfl (tyX5_ok 1 (by decide)) rfl rfl (Nat.le_of_ble_eq_true rfl) (by rw [e291, wU_self]; rfl) (fun a ha => by rw [e291]; exact wU_ne a ha) (fun _ _ => rfl) dX5_init_224 (fun H locs hH hS => ?_)
        cases hf
        refine W.widen (k := 21) (n := 1148) (by omega) (by omega) ?_
        exact W.vret hx hb hr (fun t ht hW => ⟨⟨lo275, rfl, hkp, by show wH _ _ _ _ _ _ _ t.heap; rw [ht]; exact hH, hO⟩, hS.F ht⟩) hS.2.2 dX5_init_227
    · replace hf := wIf c286 hf
      refine lv_bipush (v := 6) hx hb dX5_init_207 (by decide) ?_
      refine lv_goto (tgt := 224) hx hb dX5_init_209 (by decide) ?_
      obtain ⟨iv292, e293, hq⟩ := wLt_e hf
      clear hf
      revert hq
      intro hf
      refine wp (C := RX5) (T := TX5) (N := 31) (v := .int 6) (ty := tyX5 1) (iv' := iv292) (rv' := rv277) hx hb hts iX5 tyX5 tyX5_ok nmX5 hown hKn.1 hH hO hS (q := 1) g276 (by decide) rfl rfl 1 (by decide) k83 rfl (tyX5_ok 1 (by decide)) rfl rfl (Nat.le_of_ble_eq_true rfl) (by rw [e293, wU_self]; rfl) (fun a ha => by rw [e293]; exact wU_ne a ha) (fun _ _ => rfl) dX5_init_224 (fun H locs hH hS => ?_)
      cases hf
      refine W.widen (k := 21) (n := 1148) (by omega) (by omega) ?_
      exact W.vret hx hb hr (fun t ht hW => ⟨⟨lo275, rfl, hkp, by show wH _ _ _ _ _ _ _ t.heap; rw [ht]; exact hH, hO⟩, hS.F ht⟩) hS.2.2 dX5_init_227
  clear hf
  replace hf := hv281
  clear hv281
  refine lv_icmp_ge (tgt := 187) hx hb dX5_init_180 (by decide) (fun c279 => ?_) (fun c279 => ?_)
  · replace hf := wIt c279 hf
    refine lv_iload_n hx hb dX5_init_187 rfl (lv_at hl 1 rfl) ?_
    refine lv_iconst (v := 3) hx hb dX5_init_188 (by decide) ?_
    refine lv_icmp_le (tgt := 196) hx hb dX5_init_189 (by decide) (fun c283 => ?_) (fun c283 => ?_)
    · replace hf := wIt c283 hf
      refine lv_iload_n hx hb dX5_init_196 rfl (lv_at hl 1 rfl) ?_
      cases hf
      exact hj282 _ _ _ hH hS (lv_sub hl [0, 2] rfl)
    · replace hf := wIf c283 hf
      refine lv_iconst (v := 3) hx hb dX5_init_192 (by decide) ?_
      refine lv_goto (tgt := 197) hx hb dX5_init_193 (by decide) ?_
      cases hf
      exact hj282 _ _ _ hH hS (lv_sub hl [0, 2] rfl)
  · replace hf := wIf c279 hf
    refine lv_iconst (v := 1) hx hb dX5_init_183 (by decide) ?_
    refine lv_goto (tgt := 197) hx hb dX5_init_184 (by decide) ?_
    cases hf
    exact hj282 _ _ _ hH hS (lv_sub hl [0, 2] rfl)
