theorem sub4 {L i : Nat} (hL : L ≤ 2050) (hi : i ≤ 2052) (h : ¬ nI L - 4 < nI i) : i + 4 ≤ L := by
  have h1 := nI_toInt (n := L) (by omega)
  have h2 := nI_toInt (n := i) (by omega)
  rw [lt_iff, Int32.toInt_sub, h1, h2, show (4 : Int32).toInt = 4 from rfl, Int.bmod_eq_of_le (by omega) (by omega)] at h
  omega
theorem sw14 (y : Int32) : y = 0 ∨ y = 1 ∨ y = 2 ∨ y = 3 ∨ y = 4 ∨ y = 5 ∨ y = 6 ∨ y = 7 ∨ y = 8 ∨ y = 9 ∨ y = 10 ∨ y = 11 ∨ y = 12 ∨ y = 13 ∨ (y.toInt < 0 ∨ 13 < y.toInt) := by
  simp only [eq_iff]
  rw [show (0 : Int32).toInt = 0 from rfl, show (1 : Int32).toInt = 1 from rfl, show (2 : Int32).toInt = 2 from rfl, show (3 : Int32).toInt = 3 from rfl, show (4 : Int32).toInt = 4 from rfl, show (5 : Int32).toInt = 5 from rfl, show (6 : Int32).toInt = 6 from rfl, show (7 : Int32).toInt = 7 from rfl, show (8 : Int32).toInt = 8 from rfl, show (9 : Int32).toInt = 9 from rfl, show (10 : Int32).toInt = 10 from rfl, show (11 : Int32).toInt = 11 from rfl, show (12 : Int32).toInt = 12 from rfl, show (13 : Int32).toInt = 13 from rfl]
  omega
set_option maxHeartbeats 4000000 in
/-- the loop of the law -/
theorem law_loop {p : Program} {l : Launch} {e : Env} {s : State} {m : MethodId} {below : List Frame} {meth : Method} {c : Code} {b L : Nat} {xs : Nat → Int32} {D : va_G} {K : Nat → ClassId} {q1 q2 : Nat} (hL : L ≤ 2050) (C0 : lw_At p s m meth c b L xs) (hKn : wKn D K s) :
    ∀ (n i : Nat), i ≤ L + 2 → L + 3 ≤ i + n → ∀ (cells slots : Nat), cells + 7 * n ≤ 600000 → slots + 77 * n ≤ 7302250 → ∀ (H : Heap) (locs : List Loc), lw_I D K s q1 q2 H locs → ∀ (ls : Array Slot), lv_has ls 4 (lw_L b q1 q2 i) → W p l e room_1 s m #[Value.ref b] below meth c H locs cells slots (lw_Z below #[Value.ref b] s) (F0 m 38 ls []) := by
  obtain ⟨hx, hb, hr, hml, hown, hts0, hX, hbl, hlocks, hgv⟩ := id C0
  have hbA : ¬ (fun q : Nat => s.heap.size ≤ q) b := Nat.not_le.mpr hbl
  intro n
  induction n with
  | zero => intro i h1 h2; exact absurd h2 (by omega)
  | succ n ih =>
    intro i hi hin cells slots hc hs H locs hI ls hl
    have hS : va_S (fun q : Nat => s.heap.size ≤ q) s.heap H locs := by
      obtain ⟨ng, N, M, nx, l1, s1, n1, i1, r1, l2, s2, n2, i2, r2, hR, hm, h1, h2, hd, hO1, hO2, hS, -, -⟩ := hI
      exact hS
    refine lv_iload_n hx hb dL_law_38 rfl (lv_at hl 3 rfl) ?_
    refine lv_aload_n hx hb dL_law_39 rfl (lv_at hl 0 rfl) ?_
    refine va_slen hx hb hX hbl hbA hS dL_law_40 ?_
    refine lv_iconst (v := 4) hx hb dL_law_41 (by decide) ?_
    refine lv_isub hx hb dL_law_42 ?_
    refine lv_icmp_gt (tgt := 542) hx hb dL_law_43 (by decide) (fun c1 => ?_) (fun c1 => ?_)
    · refine lv_iconst (v := 1) hx hb dL_law_542 (by decide) ?_
      refine va_forget (fun q hq => hS.2.2 q hq) ?_
      refine W.widen (k := 600000) (n := 7302250) (by omega) (by omega) ?_
      exact lw_ret hx hb hr hlocks dL_law_543
    · have h4 : i + 4 ≤ L := sub4 hL (by omega) c1
      have next : ∀ (H : Heap) (locs : List Loc), lw_I D K s q1 q2 H locs → W p l e room_1 s m #[Value.ref b] below meth c H locs (cells + 7) (slots + 77) (lw_Z below #[Value.ref b] s) (F0 m 536 ls []) := by
        intro H locs hI
        refine lv_iinc (v := nI (i + 4)) (lv' := [(3, .int (nI (i + 4))), (0, .ref b), (1, .ref q1), (2, .ref q2)]) hx hb dL_law_536 hl (k := 3) rfl (nI_add i 4) (by decide) rfl (fun ls hl => ?_)
        refine lv_goto (tgt := 38) hx hb dL_law_539 (by decide) ?_
        exact ih (i + 4) (by omega) (by omega) (cells + 7) (slots + 77) (by omega) (by omega) H locs hI ls (lv_sub hl [1, 2, 3, 0] rfl)
      refine lv_aload_n hx hb dL_law_46 rfl (lv_at hl 0 rfl) ?_
      refine lv_iload_n hx hb dL_law_47 rfl (lv_at hl 3 rfl) ?_
      refine va_sld hx hb hX hbl hbA hS (vp_in_nI (by omega) (by omega)) dL_law_48 ?_
      refine lv_bipush (v := 15) hx hb dL_law_49 (by decide) ?_
      refine lv_iand hx hb dL_law_51 ?_
      refine lv_topi (fun y ey => ?_)
      clear ey
      rcases sw14 y with rfl | rfl | rfl | rfl | rfl | rfl | rfl | rfl | rfl | rfl | rfl | rfl | rfl | rfl | hy
      · refine lv_tableIn (tgt := 124) hx hb dL_law_52 (by decide) (by decide) rfl (by decide) ?_
        exact case_recipe hL C0 hKn h4 hI (by omega) (by omega) hl next
      · refine lv_tableIn (tgt := 157) hx hb dL_law_52 (by decide) (by decide) rfl (by decide) ?_
        exact case_alter hL C0 hKn h4 hI (by omega) (by omega) hl next
      · refine lv_tableIn (tgt := 200) hx hb dL_law_52 (by decide) (by decide) rfl (by decide) ?_
        exact case_store hL C0 hKn h4 hI (by omega) (by omega) hl next
      · refine lv_tableIn (tgt := 233) hx hb dL_law_52 (by decide) (by decide) rfl (by decide) ?_
        exact case_order hL C0 hKn h4 hI (by omega) (by omega) hl next
      · refine lv_tableIn (tgt := 276) hx hb dL_law_52 (by decide) (by decide) rfl (by decide) ?_
        exact case_take hL C0 hKn h4 hI (by omega) (by omega) hl next
      · refine lv_tableIn (tgt := 299) hx hb dL_law_52 (by decide) (by decide) rfl (by decide) ?_
        exact case_go hL C0 hKn h4 hI (by omega) (by omega) hl next
      · refine lv_tableIn (tgt := 322) hx hb dL_law_52 (by decide) (by decide) rfl (by decide) ?_
        exact case_fault hL C0 hKn h4 hI (by omega) (by omega) hl next
      · refine lv_tableIn (tgt := 355) hx hb dL_law_52 (by decide) (by decide) rfl (by decide) ?_
        exact case_limit hL C0 hKn h4 hI (by omega) (by omega) hl next
      · refine lv_tableIn (tgt := 378) hx hb dL_law_52 (by decide) (by decide) rfl (by decide) ?_
        exact case_tell hL C0 hKn h4 hI (by omega) (by omega) hl next
      · refine lv_tableIn (tgt := 411) hx hb dL_law_52 (by decide) (by decide) rfl (by decide) ?_
        exact case_cup hL C0 hKn h4 hI (by omega) (by omega) hl next
      · refine lv_tableIn (tgt := 444) hx hb dL_law_52 (by decide) (by decide) rfl (by decide) ?_
        exact case_group hL C0 hKn h4 hI (by omega) (by omega) hl next
      · refine lv_tableIn (tgt := 477) hx hb dL_law_52 (by decide) (by decide) rfl (by decide) ?_
        exact case_best hL C0 hKn h4 hI (by omega) (by omega) hl next
      · refine lv_tableIn (tgt := 500) hx hb dL_law_52 (by decide) (by decide) rfl (by decide) ?_
        exact case_sum hL C0 hKn h4 hI (by omega) (by omega) hl next
      · refine lv_tableIn (tgt := 513) hx hb dL_law_52 (by decide) (by decide) rfl (by decide) ?_
        exact case_count hL C0 hKn h4 hI (by omega) (by omega) hl next
      · refine lv_tableOut (tgt := 536) hx hb dL_law_52 hy (by decide) ?_
        exact W.widen (k := cells + 7) (n := slots + 77) (by omega) (by omega) (next H locs hI)
theorem mono_c {n : Nat} (hn : n = 1 ∨ n = 2 ∨ n = 3) : ∀ a, tk ((1, 5) :: (7, 3) :: SPn n) a ≠ 0 → tk (SPn n) a ≠ 0 := by
  intro a ha
  by_cases h1 : a = 1
  · subst h1
    rcases hn with rfl | rfl | rfl <;> decide
  by_cases h7 : a = 7
  · subst h7
    rcases hn with rfl | rfl | rfl <;> decide
  rw [tk, if_neg h1, tk, if_neg h7] at ha
  exact ha
theorem mono_m : ∀ a, tk ((1, 6) :: SM) a ≠ 0 → tk SM a ≠ 0 := by
  intro a ha
  by_cases h1 : a = 1
  · subst h1
    decide
  rw [tk, if_neg h1] at ha
  exact ha
theorem wH_nil {D : va_G} {K : Nat → ClassId} {H : Heap} : wH D K (fun _ => 0) (tk []) (tk []) (tu []) (tr []) H := ⟨rfl, fun a b ha => absurd rfl ha, fun c hc => absurd rfl hc⟩
set_option maxHeartbeats 4000000 in
/-- from the entry, for every script of at most 2050 ints, the law comes to its end with true -/
theorem whole_start {p : Program} {e : Env} {s : State} {m : MethodId} {below : List Frame} {meth : Method} {c : Code} (l : Launch) {b L : Nat} {xs : Nat → Int32} (hL : L ≤ 2050) (C0 : lw_At p s m meth c b L xs) : W p l e room_1 s m #[Value.ref b] below meth c s.heap [] 0 0 (lw_Z below #[Value.ref b] s) (entryFrame m ([Value.ref b] : List Value).toArray 4) := by
  obtain ⟨hx, hb, hr, hml, hown, hts0, hX, hbl, hlocks, hgv⟩ := id C0
  have hts : ∀ w ∈ wsL_law, w.before #[Value.ref b] s = true := fun w h => hts0 w (wsL_law_in w h)
  obtain ⟨D, K, hKn⟩ := known hts0
  have hA : ∀ q : Nat, s.heap.size ≤ q → (fun q : Nat => s.heap.size ≤ q) q := fun _ h => h
  have hS : va_S (fun q : Nat => s.heap.size ≤ q) s.heap s.heap [] := va_S.rf
  obtain ⟨ls, hen, hl⟩ := wEntry m [.ref b] 4 (List.forall_mem_cons.mpr ⟨rfl, fun _ h => absurd h List.not_mem_nil⟩) (Nat.le_of_ble_eq_true rfl)
  rw [hen]
  clear hen
  have hl : lv_has ls 4 [(0, .ref b)] := hl
  refine wno2 (C := RX4) (T := TX4) (N := 17) (ci := 4) (fs := [.null, .null, .int 0, .null, .int 0, .null, .null, .null, .null, .null, .int 0, .int 0, .int 0, .int 0, .int 0, .int 0, .int 0]) hx hb hts inlX4 tyX4 tyX4_ok hown (hts0 (.classLink RL 7 RX4) (by decide +kernel)) (hts0 (.instantiable RX4 17) (by decide +kernel)) (hts0 (.initialized RX4) (by decide +kernel)) hKn.1 hS hA 13 (by decide) (fun _ => rfl) rfl (fun j hj => by rcases (show j = 0 ∨ j = 1 ∨ j = 2 ∨ j = 3 ∨ j = 4 ∨ j = 5 ∨ j = 6 ∨ j = 7 ∨ j = 8 ∨ j = 9 ∨ j = 10 ∨ j = 11 ∨ j = 12 ∨ j = 13 ∨ j = 14 ∨ j = 15 ∨ j = 16 by omega) with rfl | rfl | rfl | rfl | rfl | rfl | rfl | rfl | rfl | rfl | rfl | rfl | rfl | rfl | rfl | rfl | rfl <;> rfl) (Nat.le_of_ble_eq_true rfl) (Nat.le_of_ble_eq_true rfl) wH_nil dL_law_0 (fun l1 H h1 hO1 _ _ hS => ?_)
  refine lv_dup hx hb dL_law_3 rfl ?_
  refine lv_aload_n hx hb dL_law_4 rfl (lv_at hl 0 rfl) ?_
  refine lv_iconst (v := 0) hx hb dL_law_5 (by decide) ?_
  refine wcell hL C0 hS 0 rfl (by decide) hl.1 (Nat.le_of_ble_eq_true rfl) (by omega) (by omega) dL_law_6 (fun H' locs hk hS => ?_)
  replace h1 := h1.kept hk
  refine lv_aload_n hx hb dL_law_9 rfl (lv_at hl 0 rfl) ?_
  refine lv_iconst (v := 1) hx hb dL_law_10 (by decide) ?_
  refine wcell hL C0 hS 1 rfl (by decide) hl.1 (Nat.le_of_ble_eq_true rfl) (by omega) (by omega) dL_law_11 (fun H' locs hk hS => ?_)
  replace h1 := h1.kept hk
  generalize e1 : (if 0 < L then xs 0 else 0) = a1
  generalize e2 : (if 1 < L then xs 1 else 0) = a2
  refine wcv2 (va_runI (As := [.int a1, .int a2]) (rest := [.ref (l1 1)]) ⟨hx, hb, hml, hown, hts⟩ (mtX4_init l D K l1 (tk [(1, 13)]) (tk [(1, 0)]) (tu []) (tr []) _ a1 a2 (init_c a1 a2)) (cwI 2 hts gL_law_X4_init rfl rfl rfl (hts0 (.initialized RX4) (by decide +kernel)) (hts0 (.methodLink RL 15 yX4_init) (by decide +kernel)) (hts0 (.instanceMethod yX4_init) (by decide +kernel)) rfl (by decide +kernel) ⟨Nat.le_of_ble_eq_true rfl, Nat.le_of_ble_eq_true rfl⟩) (wPreI hKn h1 (q := 1) (kd := 13) rfl (by decide)) rfl rfl hl.1 rfl (lv_room (Nat.le_of_ble_eq_true rfl)) dL_law_14 ⟨Nat.le_of_ble_eq_true rfl, Nat.le_of_ble_eq_true rfl⟩) hS hO1 hA wH_nil (fun a b ha hb => absurd rfl hb) (fun l1' H locs hk1 h1 hO1 _ _ hS => ?_)
  have hn := (ng_ok a1).1
  replace h1 := start_c hn h1
  replace hO1 := fun a ha => hO1 a (mono_c hn a ha)
  have hq1 : l1' 1 = l1 1 := (hk1 1 (by decide)).1
  rw [← hq1]
  clear hk1 hq1
  refine lv_astore_n (lv' := [(1, .ref (l1' 1)), (0, .ref b)]) hx hb dL_law_17 rfl hl (by decide) rfl (fun ls hl => ?_)
  refine wno2 (C := RX5) (T := TX5) (N := 31) (ci := 5) (fs := [.int 0, .int 0, .int 0, .int 0, .int 0, .null, .null, .null, .int 0, .null, .null, .null, .null, .null, .null, .null, .null, .null, .null, .null, .null, .null, .null, .int 0, .int 0, .int 0, .null, .null, .null, .null, .int 0]) hx hb hts inlX5 tyX5 tyX5_ok hown (hts0 (.classLink RL 18 RX5) (by decide +kernel)) (hts0 (.instantiable RX5 31) (by decide +kernel)) (hts0 (.initialized RX5) (by decide +kernel)) hKn.1 hS hA 14 (by decide) (fun _ => rfl) rfl (fun j hj => by rcases (show j = 0 ∨ j = 1 ∨ j = 2 ∨ j = 3 ∨ j = 4 ∨ j = 5 ∨ j = 6 ∨ j = 7 ∨ j = 8 ∨ j = 9 ∨ j = 10 ∨ j = 11 ∨ j = 12 ∨ j = 13 ∨ j = 14 ∨ j = 15 ∨ j = 16 ∨ j = 17 ∨ j = 18 ∨ j = 19 ∨ j = 20 ∨ j = 21 ∨ j = 22 ∨ j = 23 ∨ j = 24 ∨ j = 25 ∨ j = 26 ∨ j = 27 ∨ j = 28 ∨ j = 29 ∨ j = 30 by omega) with rfl | rfl | rfl | rfl | rfl | rfl | rfl | rfl | rfl | rfl | rfl | rfl | rfl | rfl | rfl | rfl | rfl | rfl | rfl | rfl | rfl | rfl | rfl | rfl | rfl | rfl | rfl | rfl | rfl | rfl | rfl <;> rfl) (Nat.le_of_ble_eq_true rfl) (Nat.le_of_ble_eq_true rfl) h1 dL_law_18 (fun l2 H h2 hO2 h1 hd hS => ?_)
  refine lv_dup hx hb dL_law_21 rfl ?_
  refine lv_aload_n hx hb dL_law_22 rfl (lv_at hl 1 rfl) ?_
  refine lv_iconst (v := 0) hx hb dL_law_23 (by decide) ?_
  refine wcell hL C0 hS 0 rfl (by decide) hl.1 (Nat.le_of_ble_eq_true rfl) (by omega) (by omega) dL_law_24 (fun H' locs hk hS => ?_)
  replace h1 := h1.kept hk
  replace h2 := h2.kept hk
  refine lv_aload_n hx hb dL_law_27 rfl (lv_at hl 1 rfl) ?_
  refine lv_iconst (v := 1) hx hb dL_law_28 (by decide) ?_
  refine wcell hL C0 hS 1 rfl (by decide) hl.1 (Nat.le_of_ble_eq_true rfl) (by omega) (by omega) dL_law_29 (fun H' locs hk hS => ?_)
  replace h1 := h1.kept hk
  replace h2 := h2.kept hk
  rw [e1, e2]
  refine wcv2 (va_runI (As := [.int a1, .int a2]) (rest := [.ref (l2 1)]) ⟨hx, hb, hml, hown, hts⟩ (mtX5_init l D K l2 (tk [(1, 14)]) (tk [(1, 0)]) (tu []) (tr []) _ a1 a2 (init_m a1 a2)) (cwI 2 hts gL_law_X5_init rfl rfl rfl (hts0 (.initialized RX5) (by decide +kernel)) (hts0 (.methodLink RL 20 yX5_init) (by decide +kernel)) (hts0 (.instanceMethod yX5_init) (by decide +kernel)) rfl (by decide +kernel) ⟨Nat.le_of_ble_eq_true rfl, Nat.le_of_ble_eq_true rfl⟩) (wPreI hKn h2 (q := 1) (kd := 14) rfl (by decide)) rfl rfl hl.1 rfl (lv_room (Nat.le_of_ble_eq_true rfl)) dL_law_32 ⟨Nat.le_of_ble_eq_true rfl, Nat.le_of_ble_eq_true rfl⟩) hS hO2 hA h1 hd (fun l2' H locs hk2 h2 hO2 h1 hd hS => ?_)
  replace h2 := start_mm h2
  replace hO2 := fun a ha => hO2 a (mono_m a ha)
  replace hd : wDj l1' (tk ((1, 5) :: (7, 3) :: SPn (ngOf a1))) l2' (tk ((1, 6) :: SM)) := fun a b ha hb z => hd b a (mono_m b hb) ha z.symm
  have hq2 : l2' 1 = l2 1 := (hk2 1 (by decide)).1
  rw [← hq2]
  clear hk2 hq2
  refine lv_astore_n (lv' := [(2, .ref (l2' 1)), (1, .ref (l1' 1)), (0, .ref b)]) hx hb dL_law_35 rfl hl (by decide) rfl (fun ls hl => ?_)
  refine lv_iconst (v := 2) hx hb dL_law_36 (by decide) ?_
  refine lv_istore_n (lv' := [(3, .int 2), (2, .ref (l2' 1)), (1, .ref (l1' 1)), (0, .ref b)]) hx hb dL_law_37 rfl hl (by decide) rfl (fun ls hl => ?_)
  refine W.widen (k := 100) (n := 3000) (by decide) (by decide) ?_
  exact law_loop hL C0 hKn (L + 3) 2 (by omega) (by omega) 100 3000 (by omega) (by omega) H locs ⟨ngOf a1, 0, 0, 1000, l1', _, _, _, _, l2', _, _, _, _, start_rel hn (lm_ok a2).1, start_m, h1, h2, hd, hO1, hO2, hS, rfl, rfl⟩ ls (lv_sub hl [3, 2, 1, 0] rfl)

set_option maxHeartbeats 4000000 in
theorem lw_walk (l : Launch) (b : Addr) (xs : List Int32) : MetFree l x (headSpec (Jvm.Cond.code x code maxLocals ret :: tables_1) room_1) (lw_P b xs) (fun _ _ _ _ _ => True) lw_Q := by
  refine MetFree.of_bodyS (code := code) (maxLocals := maxLocals) (ret := ret) (by decide) ?_ ?_
  · intro args s m h hn
    obtain ⟨meth, c, h1, h2, h3, h4, h5, h6, -, -⟩ := Cond.code_spec hn (atoms_spec (ws := Jvm.Cond.code x code maxLocals ret :: tables_1) h _ List.mem_cons_self)
    exact ⟨meth, c, h1, h2, h3, h4, h5, h6⟩
  · intro p e s m args below meth c s₁ B hml0 hP _
    obtain ⟨rfl, hx, hbd, hgv⟩ := hP
    obtain ⟨scr, harrAt, hlist, hof, hsmall⟩ := hx
    obtain ⟨hcb, hkn, -, -⟩ := State.arrayAt?_spec harrAt
    have hown : s.vm.findClass R_law = some m.cls := findClass_of_methodNamed B.named
    have hts0 : ∀ c ∈ (Jvm.Cond.code x code maxLocals ret :: tables_1), c.before #[Value.ref b] s = true := atoms_spec (ws := Jvm.Cond.code x code maxLocals ret :: tables_1) B.pre
    have hts : ∀ w ∈ lw_tbl, w.before #[Value.ref b] s = true := k2_hts_sels lw_privs (fun w hw => hts0 w (List.mem_cons_of_mem _ hw)) lw_privs_ok
    have hml : c.maxLocals = 4 := B.maxLocals_eq (hts0 _ List.mem_cons_self)
    have X₀ : Stand p l e room_1 s m #[Value.ref b] below meth c s₁ [] 0 0 := Stand.of_body B
    have hh0 : s₁.heap = s.heap := by rw [B.state]; rfl
    have hsz : scr.slots.size = xs.length := by rw [← Array.length_toList, hlist, List.length_map]
    have hval : ∀ j : Nat, j < xs.length → scr.slots[j]? = some (.int (xs.getD j 0)) := fun j hj => by
      rw [← Array.getElem?_toList, hlist]
      simp [hj]
    have hbl : b < s.heap.size := (Array.getElem?_eq_some_iff.mp hcb).1
    have hX : va_X b xs.length (fun j => xs.getD j 0) s s.heap := ⟨scr, hcb, hof, hkn, hsz, hval⟩
    have K : W p l e room_1 s m #[Value.ref b] below meth c s₁.heap [] 0 0 (lw_Z below #[Value.ref b] s) (entryFrame m ([Value.ref b] : List Value).toArray 4) := by
      rw [hh0]
      exact whole_start l hbd ⟨B.exec, B.bytes, B.returns, hml, hown, hts, hX, hbl, B.notSynchronized, hgv⟩
    obtain ⟨t, a1, o, b1, b2, b3⟩ := K s₁ rfl X₀
    exact ⟨t, o, a1, b1, b2, b3⟩
theorem lw_pre_spec {args : Array Value} {s : State} (h : (Jvm.Cond.and given_1 narrow_1).before args s = true) (hr : rest_1_c.before args s = true) : ∃ (b : Addr) (xs : List Int32), lw_P b xs args s := by
  have hs := flat_of_before _ h
  have hq := flat_of_before _ hr
  have hc : (Cond.count 1).before args s = true := hs _ (by decide +kernel)
  have harr : (Cond.arrayOf (.arg 0) .int).before args s = true := hs _ (by decide +kernel)
  have hle : (Cond.le (.length (.arg 0)) (.int 2050)).before args s = true := hs _ (by decide +kernel)
  have hlen : (Cond.isInt (.length (.arg 0))).before args s = true := hq _ (by decide +kernel)
  have hall : (Cond.all (.arg 0) (.isInt (.elem (.arg 0) (.index 0)))).before args s = true := hq _ (by decide +kernel)
  obtain ⟨b, xs, hb, hx⟩ := State.ints_of_pre rfl harr hlen hall
  have hsm : xs.length < 2 ^ 31 := hx.choose_spec.2.2.2
  have hev : (Term.length (.arg 0)).eval args s none [] s = some (.int xs.length.toInt32) := hx.length_eval hb
  have hv := Cond.le_ints hev (show (Term.int 2050).eval args s none [] s = some (.int 2050) from rfl)
  have hd : xs.length.toInt32 ≤ 2050 := by
    simpa [Cond.before, Cond.holds, hv] using hle
  have hN : xs.length ≤ 2050 := (Int32.ofNat_le_ofNat hsm (by decide)).mp (show Int32.ofNat xs.length ≤ Int32.ofNat 2050 from hd)
  exact ⟨b, xs, Cond.one_arg hc (show args[0]? = some (.ref b) from hb), hx, hN, h⟩
theorem lw_comes (l : Launch) : Comes l x (Jvm.Cond.code x code maxLocals ret :: tables_1) room_1 (fun tb e args s => Calls_1 tb e args s ∧ rest_1 tb e args s ∧ Pre_1 tb e args s)
    (fun _ _ args s o t => lw_Q args s o t) := by
  intro p e ha hc hk s m args below hf hfit hheap happ hpre
  obtain ⟨b, xs, hP⟩ := lw_pre_spec hpre.2.2 hpre.2.1
  obtain ⟨k, o, h1, h2, h3, hQ⟩ := lw_walk l b xs p e ha hc hk s m args below hf ((Spec.applies_iff_loose hf).mp happ).1 hP trivial
  exact ⟨k, o, h1, h2, h3, hQ⟩
theorem lw_frame {s t : State} {o : Outcome} {args : Array Value} (h : Framed s o t [] 600000 7302250) :
    Framed s o t (fieldLocs frame_1_writes args s ++ arrayLocs frame_1_arrays args s ++ staticLocs frame_1_statics s) 600000 7302250 := h
theorem lw_limb (L : Cond) (hL : ∀ (args : Array Value) (s t : State), L.after args s (.returned (some (.int 1))) t = true) :
    ArmFor flags0 classFile x code maxLocals ret World_1 tables_1 room_1 Calls_1 rest_1 Pre_1
      (fun tb e a s o t => postC L tb e a s o t ∧ Framed s o t (fieldLocs frame_1_writes a s ++ arrayLocs frame_1_arrays a s ++ staticLocs frame_1_statics s) 600000 7302250) := by
  intro l _ _ _ p e ha hc hk s m args below hf hfit hheap happ hpre
  obtain ⟨k, o, h1, h2, h3, rfl, hF⟩ := lw_comes l p e ha hc hk s m args below hf hfit hheap happ hpre
  exact ⟨k, _, h1, h2, h3, hL args s _, lw_frame hF⟩
theorem i_vc : Claimed_1_1 ∧ Claimed_1_2 := ⟨lw_limb limb_1_1 (fun args s t => by simp [limb_1_1, Cond.after, Cond.holds, Cond.value]), lw_limb limb_1_2 (fun args s t => Cond.after_iff.mpr (by
  first | (rw [show limb_1_2 = Cond.eq .result (.int 1) from rfl, Cond.eq_ints (x := 1) (y := 1) rfl rfl]; simp; done) | (simp [limb_1_2, Cond.value, Term.eval]; done)))⟩

