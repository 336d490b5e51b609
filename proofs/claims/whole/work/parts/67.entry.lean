/-! the law's entry: what the tables and the given start say -/
theorem en_ty {s : State} {args : Array Value} {ty : FieldType} (h : (Cond.arrayClass ty).before args s = true) (hr : ∀ c, s.vm.findClass ("[" ++ ty.toString) = some c → va_RA s c ty) : ∃ c, ArrOfT s c ty ∧ va_RA s c ty := by
  obtain ⟨c, k, comp, h1, h2, h3⟩ := Cond.arrayClass_spec h
  exact ⟨c, fun n z => ⟨fun k h => (by cases h), k, h2, comp, h3⟩, hr c h1⟩
theorem en_K {s : State} {args : Array Value} (hts : ∀ w ∈ uT, w.before args s = true) : ∃ (D : va_G) (ta : Nat → ClassId), va_K D vwCl (TY ta) s := by
  obtain ⟨t0, a0, b0⟩ := en_ty (hts _ tw_97) (fun c h => h)
  obtain ⟨t1, a1, b1⟩ := en_ty (hts _ tw_268) (fun c h => h)
  obtain ⟨t2, a2, b2⟩ := en_ty (hts _ tw_1217) (fun c h => h)
  obtain ⟨t3, a3, b3⟩ := en_ty (hts _ tw_1218) (fun c h => h)
  obtain ⟨c0, i0, h0⟩ := u_known (C := RX0) (T := TX0) (N := 7) hts iu0 (hts _ tw_315)
  obtain ⟨c1, i1, h1⟩ := u_known (C := RX2) (T := TX2) (N := 6) hts iu2 (hts _ tw_233)
  obtain ⟨c2, i2, h2⟩ := u_known (C := RX3) (T := TX3) (N := 5) hts iu3 (hts _ tw_99)
  obtain ⟨c3, i3, h3⟩ := u_known (C := RX4) (T := TX4) (N := 7) hts iu4 (hts _ tw_309)
  obtain ⟨c4, i4, h4⟩ := u_known (C := RX5) (T := TX5) (N := 6) hts iu5 (hts _ tw_214)
  obtain ⟨c5, i5, h5⟩ := u_known (C := RX6) (T := TX6) (N := 2) hts iu6 (hts _ tw_85)
  obtain ⟨c6, i6, h6⟩ := u_known (C := RX8) (T := TX8) (N := 14) hts iu8 (hts _ tw_132)
  obtain ⟨c7, i7, h7⟩ := u_known (C := RX9) (T := TX9) (N := 11) hts iu9 (hts _ tw_77)
  obtain ⟨c8, i8, h8⟩ := u_known (C := RX10) (T := TX10) (N := 57) hts iu10 (hts _ tw_958)
  refine ⟨(fun k => match k with | 0 => c0 | 1 => c1 | 2 => c2 | 3 => c3 | 4 => c4 | 5 => c5 | 6 => c6 | 7 => c7 | _ => c8, fun k => match k with | 0 => i0 | 1 => i1 | 2 => i2 | 3 => i3 | 4 => i4 | 5 => i5 | 6 => i6 | 7 => i7 | _ => i8), fun k => match k with | 0 => t0 | 1 => t1 | 2 => t2 | _ => t3, fun k q hq => ?_, fun k q hq => ?_⟩
  · match k, hq with
    | 0, hq => cases hq; exact h0
    | 1, hq => cases hq; exact h1
    | 2, hq => cases hq; exact h2
    | 3, hq => cases hq; exact h3
    | 4, hq => cases hq; exact h4
    | 5, hq => cases hq; exact h5
    | 6, hq => cases hq; exact h6
    | 7, hq => cases hq; exact h7
    | 8, hq => cases hq; exact h8
    | n + 9, hq => exact absurd hq (by simp)
  · match k, hq with
    | 0, hq => cases hq; exact ⟨a0, b0⟩
    | 1, hq => cases hq; exact ⟨a1, b1⟩
    | 2, hq => cases hq; exact ⟨a2, b2⟩
    | 3, hq => cases hq; exact ⟨a3, b3⟩
    | n + 4, hq => exact absurd hq (by simp)
theorem en_el {C n d : String} {off N : Nat} {tm : Nat → Term} (h : ((flatC narrow_1).drop off).take N = (List.range N).map (fun j => Cond.eq (.elem (.static C n d) (.int (Int32.ofNat j))) (tm j))) {j : Nat} (hj : j < N) : Cond.eq (.elem (.static C n d) (.int (Int32.ofNat j))) (tm j) ∈ flatC narrow_1 := by
  have hm : Cond.eq (.elem (.static C n d) (.int (Int32.ofNat j))) (tm j) ∈ ((flatC narrow_1).drop off).take N := by
    rw [h]
    exact List.mem_map.mpr ⟨j, List.mem_range.mpr hj, rfl⟩
  exact List.mem_of_mem_drop (List.mem_of_mem_take hm)
theorem en_S {s : State} {args : Array Value} {A : Nat → Prop} {C n d : String} {ty : FieldType} {off N k : Nat} {f : Nat → Value} {tm : Nat → Term} (hfl : ∀ c ∈ flatC narrow_1, c.before args s = true) (hts : ∀ w ∈ lw_tbl, w.before args s = true) (hA : ∀ a : Nat, a < s.heap.size → ¬ A a) (hN : N < 2 ^ 31)
    (h : ((flatC narrow_1).drop off).take N = (List.range N).map (fun j => Cond.eq (.elem (.static C n d) (.int (Int32.ofNat j))) (tm j))) (he : ∀ j, (tm j).eval args s none [] s = some (f j)) (harr : (flatC narrow_1)[k]? = some (.arrayOf (.static C n d) ty)) (hlen : (flatC narrow_1)[k + 1]? = some (.eq (.length (.static C n d)) (.int (Int32.ofNat N)))) (hl : Cond.laysStatic C n d ∈ lw_tbl) (hi : Cond.initialized C ∈ lw_tbl) : ∃ t, stOK C n d ty N f t A s s.heap := by
  obtain ⟨t, h1, h2⟩ := va_Tof (args := args) (s := s) (tm := .static C n d) (ty := ty) (N := N) (f := f) (A := A) hN (hfl _ (List.mem_of_getElem? harr)) (Cond.eq_int (hfl _ (List.mem_of_getElem? hlen)) rfl) (fun j hj => by
    obtain ⟨y, e1, e2⟩ := Cond.eq_one (hfl _ (en_el h hj))
    rw [e1]
    exact e2.symm.trans (he j)) hA
  exact ⟨t, va_Zref (hts _ hl) (hts _ hi) h1 hA, h2⟩
theorem en_G {s : State} {args : Array Value} {A : Nat → Prop} (hfl : ∀ c ∈ flatC narrow_1, c.before args s = true) (hts : ∀ w ∈ lw_tbl, w.before args s = true) (hA : ∀ a : Nat, a < s.heap.size → ¬ A a) : ∃ gs, GC gs A s s.heap := by
  obtain ⟨g0, e0⟩ := en_S (A := A) (C := "LineGuard$Aes") (n := "BOX") (d := "[I") (ty := .int) (off := 555) (N := 256) (k := 553) (f := fun j => .int (qz (BOX j))) (tm := fun j => .int (qz (BOX j))) hfl hts hA (by decide) (by decide +kernel) (fun _ => rfl) (by decide +kernel) (by decide +kernel) (by decide +kernel) (by decide +kernel)
  obtain ⟨g1, e1⟩ := en_S (A := A) (C := "LineGuard$Des") (n := "SWAPS") (d := "[I") (ty := .int) (off := 814) (N := 5) (k := 812) (f := fun j => .int (nI (tSWP j))) (tm := fun j => .int (nI (tSWP j))) hfl hts hA (by decide) (by decide +kernel) (fun _ => rfl) (by decide +kernel) (by decide +kernel) (by decide +kernel) (by decide +kernel)
  obtain ⟨g2, e2⟩ := en_S (A := A) (C := "LineGuard$Des") (n := "SWAP_MASKS") (d := "[J") (ty := .long) (off := 822) (N := 5) (k := 820) (f := fun j => .long (lN (tMSK j))) (tm := fun j => .long (lN (tMSK j))) hfl hts hA (by decide) (by decide +kernel) (fun _ => rfl) (by decide +kernel) (by decide +kernel) (by decide +kernel) (by decide +kernel)
  obtain ⟨g3, e3⟩ := en_S (A := A) (C := "LineGuard$Des") (n := "CHOICE_1") (d := "[I") (ty := .int) (off := 830) (N := 56) (k := 828) (f := fun j => .int (nI (tCH j))) (tm := fun j => .int (nI (tCH j))) hfl hts hA (by decide) (by decide +kernel) (fun _ => rfl) (by decide +kernel) (by decide +kernel) (by decide +kernel) (by decide +kernel)
  obtain ⟨g4, e4⟩ := en_S (A := A) (C := "LineGuard$Des") (n := "CHOICE_2") (d := "[I") (ty := .int) (off := 908) (N := 48) (k := 906) (f := fun j => .int (nI (tSEC j))) (tm := fun j => .int (nI (tSEC j))) hfl hts hA (by decide) (by decide +kernel) (fun _ => rfl) (by decide +kernel) (by decide +kernel) (by decide +kernel) (by decide +kernel)
  obtain ⟨g5, e5⟩ := en_S (A := A) (C := "LineGuard$Des") (n := "SHIFTS") (d := "[I") (ty := .int) (off := 889) (N := 16) (k := 887) (f := fun j => .int (nI (tSHF j))) (tm := fun j => .int (nI (tSHF j))) hfl hts hA (by decide) (by decide +kernel) (fun _ => rfl) (by decide +kernel) (by decide +kernel) (by decide +kernel) (by decide +kernel)
  obtain ⟨g6, e6⟩ := en_S (A := A) (C := "LineGuard$Des") (n := "SPREAD") (d := "[I") (ty := .int) (off := 5) (N := 32) (k := 3) (f := fun j => .int (nI (tMIX j))) (tm := fun j => .int (nI (tMIX j))) hfl hts hA (by decide) (by decide +kernel) (fun _ => rfl) (by decide +kernel) (by decide +kernel) (by decide +kernel) (by decide +kernel)
  obtain ⟨g7, e7⟩ := en_S (A := A) (C := "LineGuard$Des") (n := "BOXES") (d := "[I") (ty := .int) (off := 40) (N := 512) (k := 38) (f := fun j => .int (nI (tSBX j))) (tm := fun j => .int (nI (tSBX j))) hfl hts hA (by decide) (by decide +kernel) (fun _ => rfl) (by decide +kernel) (by decide +kernel) (by decide +kernel) (by decide +kernel)
  refine ⟨fun k => match k with | 0 => g0 | 1 => g1 | 2 => g2 | 3 => g3 | 4 => g4 | 5 => g5 | 6 => g6 | _ => g7, e0, e1, e2, e3, e4, e5, e6, e7, fun w hw => ?_⟩
  obtain ⟨hm, hg⟩ := List.mem_filter.mp hw
  have hb := hts w hm
  cases w <;> first | exact Bool.noConfusion (show false = true from hg) | exact va_Nw.of rfl hb
