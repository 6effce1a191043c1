/-! the classes' numbers at the law's entry -/
set_option maxRecDepth 20000 in
theorem known {s : State} {args : Array Value} (hts : ∀ w ∈ lw_tbl, w.before args s = true) : ∃ (D : va_G) (K : Nat → ClassId), wKn D K s := by
  obtain ⟨c0, j0, k0⟩ := u_known (C := RX0) (T := TX0) (N := 11) (n := 11) hts inX0 (hts (.instantiable RX0 11) (by decide +kernel))
  obtain ⟨c1, j1, k1⟩ := u_known (C := RX1) (T := TX1) (N := 6) (n := 6) hts inX1 (hts (.instantiable RX1 6) (by decide +kernel))
  obtain ⟨c2, j2, k2⟩ := u_known (C := RX2) (T := TX2) (N := 7) (n := 7) hts inX2 (hts (.instantiable RX2 7) (by decide +kernel))
  obtain ⟨c3, j3, k3⟩ := u_known (C := RX3) (T := TX3) (N := 6) (n := 6) hts inX3 (hts (.instantiable RX3 6) (by decide +kernel))
  obtain ⟨c4, j4, k4⟩ := u_known (C := RX4) (T := TX4) (N := 17) (n := 17) hts inX4 (hts (.instantiable RX4 17) (by decide +kernel))
  obtain ⟨c5, j5, k5⟩ := u_known (C := RX5) (T := TX5) (N := 31) (n := 31) hts inX5 (hts (.instantiable RX5 31) (by decide +kernel))
  obtain ⟨a0, ka0, co0, f0, g0, h0⟩ := Cond.arrayClass_spec (hts (.arrayClass .int) (by decide +kernel))
  obtain ⟨a1, ka1, co1, f1, g1, h1⟩ := Cond.arrayClass_spec (hts (.arrayClass .boolean) (by decide +kernel))
  have o2 := hts (.arrayOver (.object RX0)) (by decide +kernel)
  have o3 := hts (.arrayOver (.object RX1)) (by decide +kernel)
  have o4 := hts (.arrayOver (.object RX3)) (by decide +kernel)
  obtain ⟨m2, a2, ka2, e2, -, g2, h2, f2⟩ := Cond.arrayOver_spec o2
  obtain ⟨m3, a3, ka3, e3, -, g3, h3, f3⟩ := Cond.arrayOver_spec o3
  obtain ⟨m4, a4, ka4, e4, -, g4, h4, f4⟩ := Cond.arrayOver_spec o4
  refine ⟨(fun k => match k with | 0 => c0 | 1 => c1 | 2 => c2 | 3 => c3 | 4 => c4 | _ => c5, fun k => match k with | 0 => j0 | 1 => j1 | 2 => j2 | 3 => j3 | 4 => j4 | _ => j5), fun k => match k with | 0 => a0 | 1 => a1 | 2 => a2 | 3 => a3 | _ => a4, ⟨fun c q hq => ?_, fun k q hk => ?_⟩, va_AO.of o2, va_AO.of o3, va_AO.of o4, va_Nw.of rfl (hts (.methodLinkNest RX2 49 yX4_isAmong RX4) (by decide +kernel))⟩
  · match c, hq with
    | 0, hq => cases hq; exact k0
    | 1, hq => cases hq; exact k1
    | 2, hq => cases hq; exact k2
    | 3, hq => cases hq; exact k3
    | 4, hq => cases hq; exact k4
    | 5, hq => cases hq; exact k5
    | c + 6, hq => simp [vwCl] at hq
  · match k, hk with
    | 0, hk => cases hk; exact ⟨fun n z => ⟨(fun k h => by cases h), ka0, g0, co0, h0⟩, f0⟩
    | 1, hk => cases hk; exact ⟨fun n z => ⟨(fun k h => by cases h), ka1, g1, co1, h1⟩, f1⟩
    | 2, hk => cases hk; exact ⟨fun n z => ⟨(fun k h => by cases h), ka2, g2, m2, h2⟩, ka2, m2, g2, h2, e2, f2⟩
    | 3, hk => cases hk; exact ⟨fun n z => ⟨(fun k h => by cases h), ka3, g3, m3, h3⟩, ka3, m3, g3, h3, e3, f3⟩
    | 4, hk => cases hk; exact ⟨fun n z => ⟨(fun k h => by cases h), ka4, g4, m4, h4⟩, ka4, m4, g4, h4, e4, f4⟩
    | k + 5, hk => simp at hk
