/-! the start's classes -/
theorem k_one {s : State} {args : Array Value} (hts : ∀ w ∈ lw_tbl, w.before args s = true) {k : Nat} {q : vw_C} (h : vwCl[k]? = some q) : ∃ (c : ClassId) (iS : Nat → Nat), u_Kn s q.1 q.2.1 q.2.2 c iS := by
  have hin : ∀ w ∈ u_ws q.1 q.2.1 q.2.2, w ∈ lw_tbl := fun w hw => (List.mem_filter.mp (zlay_in h w hw)).1
  have hl := zvw_lt h
  match k, hl, h, hin with
  | 0, _, h, hin => cases h; exact u_known (C := RX0) (T := TX0) (N := 5) (n := 5) hts hin (hts (.instantiable RX0 5) (List.mem_of_getElem? (i := 390) (by decide +kernel)))
  | 1, _, h, hin => cases h; exact u_known (C := RX1) (T := TX1) (N := 7) (n := 7) hts hin (hts (.instantiable RX1 7) (List.mem_of_getElem? (i := 298) (by decide +kernel)))
  | 2, _, h, hin => cases h; exact u_known (C := RX2) (T := TX2) (N := 6) (n := 6) hts hin (hts (.instantiable RX2 6) (List.mem_of_getElem? (i := 363) (by decide +kernel)))
  | 3, _, h, hin => cases h; exact u_known (C := RX3) (T := TX3) (N := 9) (n := 9) hts hin (hts (.instantiable RX3 9) (List.mem_of_getElem? (i := 326) (by decide +kernel)))
  | 4, _, h, hin => cases h; exact u_known (C := RX4) (T := TX4) (N := 11) (n := 11) hts hin (hts (.instantiable RX4 11) (List.mem_of_getElem? (i := 131) (by decide +kernel)))
  | 5, _, h, hin => cases h; exact u_known (C := RX5) (T := TX5) (N := 11) (n := 11) hts hin (hts (.instantiable RX5 11) (List.mem_of_getElem? (i := 258) (by decide +kernel)))
  | 6, _, h, hin => cases h; exact u_known (C := RX6) (T := TX6) (N := 5) (n := 5) hts hin (hts (.instantiable RX6 5) (List.mem_of_getElem? (i := 137) (by decide +kernel)))
  | 7, _, h, hin => cases h; exact u_known (C := RX7) (T := TX7) (N := 4) (n := 4) hts hin (hts (.instantiable RX7 4) (List.mem_of_getElem? (i := 219) (by decide +kernel)))
  | 8, _, h, hin => cases h; exact u_known (C := RX8) (T := TX8) (N := 4) (n := 4) hts hin (hts (.instantiable RX8 4) (List.mem_of_getElem? (i := 417) (by decide +kernel)))
  | 9, _, h, hin => cases h; exact u_known (C := RX9) (T := TX9) (N := 3) (n := 3) hts hin (hts (.instantiable RX9 3) (List.mem_of_getElem? (i := 242) (by decide +kernel)))
  | 10, _, h, hin => cases h; exact u_known (C := RX10) (T := TX10) (N := 9) (n := 9) hts hin (hts (.instantiable RX10 9) (List.mem_of_getElem? (i := 123) (by decide +kernel)))
  | 11, _, h, hin => cases h; exact u_known (C := RX11) (T := TX11) (N := 49) (n := 49) hts hin (hts (.instantiable RX11 49) (List.mem_of_getElem? (i := 1238) (by decide +kernel)))
theorem k_all {s : State} {args : Array Value} (hts : ∀ w ∈ lw_tbl, w.before args s = true) : ∃ (dC : Nat → ClassId) (dI : Nat → Nat → Nat), ∀ (k : Nat) (q : vw_C), vwCl[k]? = some q → u_Kn s q.1 q.2.1 q.2.2 (dC k) (dI k) := by
  have h : ∀ k : Nat, ∃ (c : ClassId × (Nat → Nat)), ∀ q : vw_C, vwCl[k]? = some q → u_Kn s q.1 q.2.1 q.2.2 c.1 c.2 := fun k => by
    cases e : vwCl[k]? with
    | none => exact ⟨(0, fun _ => 0), fun q hq => by cases hq⟩
    | some q =>
      obtain ⟨c, iS, hk⟩ := k_one hts e
      exact ⟨(c, iS), fun q' hq => by cases hq; exact hk⟩
  exact ⟨fun k => (Classical.choose (h k)).1, fun k => (Classical.choose (h k)).2, fun k q hq => Classical.choose_spec (h k) q hq⟩
