/-! the class: what its cells stand for; the simple ones -/
def noLaw : Int32 → Int32 → Int32 → Int32 → Int32 → Int32 → Int32 := fun w k _ _ _ _ => if k = 0 then -w else 0
def lawOf (e : qD) : Int32 → Int32 → Int32 → Int32 → Int32 → Int32 → Int32 := fun w k dd h b p => qclamp (e (fun i => zget [w, k, dd, h, b, p] i 0))
theorem qlaw_0 (T : Nat → Int32) (n : Nat) : qlaw 0 T n = noLaw := by
  funext w k dd h b p
  unfold qlaw noLaw
  rw [if_pos rfl]
theorem qlaw_1 {T : Nat → Int32} {n : Nat} {c : qC} {e : qD} (h : qLw T n 121 0 0 = .inr (c, e)) : qlaw 1 T n = lawOf e := by
  funext w k dd hh b p
  unfold qlaw lawOf qden
  rw [if_neg (by decide), h]
def prg (P st ar : Nat) (L : Int32 → Int32 → Int32 → Int32 → Int32 → Int32 → Int32) (μ : zMem) : Prop := (μ.1 P 4 = 0 ∧ L = noLaw) ∨ ∃ (T : Nat → Int32) (n : Nat) (c : qC) (e : qD), n ≤ 120 ∧ qLw T n 121 0 0 = .inr (c, e) ∧ L = lawOf e ∧ μ.1 P 4 = nI c.length ∧ 0 < c.length ∧ c.length ≤ 121 ∧ ∀ i, i < c.length → (μ.1 st i, μ.1 ar i) = zget c i (0, 0)
def zR10 : Nat → Nat := fun i => zget [10, 11] i 0
def zR11 : Nat → Nat := fun i => zget [11, 10] i 0
def xL (L : Int32 → Int32 → Int32 → Int32 → Int32 → Int32 → Int32) (μ : zMem) : Prop := (μ.2.2 = zR10 ∧ prg 10 85 86 L μ) ∨ (μ.2.2 = zR11 ∧ prg 11 89 90 L μ)
def oX (F : zF) (μ : zMem) : Prop := (μ.1 2 7 = nI (fB F) ∧ fB F ≤ 6 ∧ μ.1 2 8 = nI (fV F) ∧ fV F ≤ 12) ∧ (μ.1 54 = ftone F ∧ μ.1 55 = ftune F ∧ μ.1 56 = fbell F ∧ μ.1 57 = fwt F ∧ μ.1 58 = fby F ∧ μ.1 59 = fbr F ∧ μ.1 60 = fag F) ∧ xL (flaw F) μ
def sX (c k : Nat) : Bool := (Nat.ble 62 c && Nat.ble c 74) || c == 87 || c == 88 || c == 91 || c == 92 || (c == 5 && Nat.ble 6 k)
section OX
variable {F : zF} {μ μ' : zMem}
theorem prg.q {P st ar : Nat} {L : Int32 → Int32 → Int32 → Int32 → Int32 → Int32 → Int32} (h : prg P st ar L μ) (e1 : μ'.1 P 4 = μ.1 P 4) (e2 : μ'.1 st = μ.1 st) (e3 : μ'.1 ar = μ.1 ar) : prg P st ar L μ' := by
  unfold prg
  rw [e1, e2, e3]
  exact h
theorem xL.q {L : Int32 → Int32 → Int32 → Int32 → Int32 → Int32 → Int32} (h : xL L μ) (hz : zq sX μ μ') : xL L μ' := by
  unfold xL
  rw [hz.2]
  rcases h with ⟨a, c⟩ | ⟨a, c⟩
  · exact Or.inl ⟨a, c.q (hz.1 10 4 rfl) (funext fun k => hz.1 85 k rfl) (funext fun k => hz.1 86 k rfl)⟩
  · exact Or.inr ⟨a, c.q (hz.1 11 4 rfl) (funext fun k => hz.1 89 k rfl) (funext fun k => hz.1 90 k rfl)⟩
theorem oX.q (h : oX F μ) (hz : zq sX μ μ') : oX F μ' := by
  obtain ⟨⟨h1, h2, h3, h4⟩, ⟨r1, r2, r3, r4, r5, r6, r7⟩, hl⟩ := h
  have r : ∀ c, (∀ k, sX c k = false) → μ'.1 c = μ.1 c := fun c hc => funext fun k => hz.1 c k (hc k)
  refine ⟨⟨?_, h2, ?_, h4⟩, ⟨?_, ?_, ?_, ?_, ?_, ?_, ?_⟩, hl.q hz⟩
  · rw [hz.1 2 7 rfl]; exact h1
  · rw [hz.1 2 8 rfl]; exact h3
  · rw [r 54 (fun _ => rfl)]; exact r1
  · rw [r 55 (fun _ => rfl)]; exact r2
  · rw [r 56 (fun _ => rfl)]; exact r3
  · rw [r 57 (fun _ => rfl)]; exact r4
  · rw [r 58 (fun _ => rfl)]; exact r5
  · rw [r 59 (fun _ => rfl)]; exact r6
  · rw [r 60 (fun _ => rfl)]; exact r7
theorem oX.b (h : oX F μ) : μ.1 2 7 = nI (fB F) := h.1.1
theorem oX.b6 (h : oX F μ) : fB F ≤ 6 := h.1.2.1
theorem oX.v (h : oX F μ) : μ.1 2 8 = nI (fV F) := h.1.2.2.1
theorem oX.v12 (h : oX F μ) : fV F ≤ 12 := h.1.2.2.2
theorem oX.e54 (h : oX F μ) : μ.1 54 = ftone F := h.2.1.1
theorem oX.e55 (h : oX F μ) : μ.1 55 = ftune F := h.2.1.2.1
theorem oX.e56 (h : oX F μ) : μ.1 56 = fbell F := h.2.1.2.2.1
theorem oX.e57 (h : oX F μ) : μ.1 57 = fwt F := h.2.1.2.2.2.1
theorem oX.e58 (h : oX F μ) : μ.1 58 = fby F := h.2.1.2.2.2.2.1
theorem oX.e59 (h : oX F μ) : μ.1 59 = fbr F := h.2.1.2.2.2.2.2.1
theorem oX.e60 (h : oX F μ) : μ.1 60 = fag F := h.2.1.2.2.2.2.2.2
end OX

set_option maxRecDepth 100000 in
set_option maxHeartbeats 4000000 in
theorem x_isWithin {g : zG} {d : Nat} {μ : zMem} (v m : Int32) : zM g d X_isWithin [.int v, .int m] μ (fun r μ' => r = some (.int (zB (0 ≤ v ∧ v ≤ m))) ∧ μ' = μ) := by
  refine zM_of (by decide +kernel) rfl rfl (Nat.le_of_ble_eq_true rfl) rfl ?_
  refine zb X_isWithin_s0 rfl ?_
  refine z_lt X_isWithin_d1 (tgt := 13) rfl (fun h1 => ?_) (fun h1 => ?_)
  · refine zb X_isWithin_s13 rfl ?_
    refine z_retZ X_isWithin_d14 rfl (by first | exact Or.inl rfl | exact Or.inr rfl) ?_
    first | exact ⟨by rw [zB_t (by grind)], rfl⟩ | exact ⟨by rw [zB_f (by grind)], rfl⟩
  · refine zb X_isWithin_s4 rfl ?_
    refine z_cgt X_isWithin_d6 (tgt := 13) rfl (fun h6 => ?_) (fun h6 => ?_)
    · refine zb X_isWithin_s13 rfl ?_
      refine z_retZ X_isWithin_d14 rfl (by first | exact Or.inl rfl | exact Or.inr rfl) ?_
      first | exact ⟨by rw [zB_t (by grind)], rfl⟩ | exact ⟨by rw [zB_f (by grind)], rfl⟩
    · refine zb X_isWithin_s9 rfl ?_
      refine z_retZ X_isWithin_d14 rfl (by first | exact Or.inl rfl | exact Or.inr rfl) ?_
      first | exact ⟨by rw [zB_t (by grind)], rfl⟩ | exact ⟨by rw [zB_f (by grind)], rfl⟩

set_option maxRecDepth 100000 in
set_option maxHeartbeats 4000000 in
theorem x_isDayHour {g : zG} {d : Nat} {μ : zMem} (v : Int32) : zM g d X_isDayHour [.int v] μ (fun r μ' => r = some (.int (zB (tim v))) ∧ μ' = μ) := by
  refine zM_of (by decide +kernel) rfl rfl (Nat.le_of_ble_eq_true rfl) rfl ?_
  refine zb X_isDayHour_s0 rfl ?_
  refine z_lt X_isDayHour_d1 (tgt := 27) rfl (fun h1 => ?_) (fun h1 => ?_)
  · refine zb X_isDayHour_s27 rfl ?_
    refine z_retZ X_isDayHour_d28 rfl (by first | exact Or.inl rfl | exact Or.inr rfl) ?_
    first
      | exact ⟨by rw [zB_f (fun z : tim v => absurd z.1 (Int32.not_le.mpr h1))], rfl⟩
      | exact ⟨by rw [zB_f (fun z : tim v => absurd z.2.1 (Int32.not_le.mpr h11))], rfl⟩
      | exact ⟨by rw [zB_f (show ¬ tim v from fun z => by have := z.2.2; grind)], rfl⟩
      | exact ⟨by rw [zB_t (show tim v from ⟨by grind, by grind, by grind⟩)], rfl⟩
  · refine zb1 X_isDayHour_s4 rfl (by decide) ?_
    refine z_cgt X_isDayHour_d11 (tgt := 27) rfl (fun h11 => ?_) (fun h11 => ?_)
    · refine zb X_isDayHour_s27 rfl ?_
      refine z_retZ X_isDayHour_d28 rfl (by first | exact Or.inl rfl | exact Or.inr rfl) ?_
      first
        | exact ⟨by rw [zB_f (fun z : tim v => absurd z.1 (Int32.not_le.mpr h1))], rfl⟩
        | exact ⟨by rw [zB_f (fun z : tim v => absurd z.2.1 (Int32.not_le.mpr h11))], rfl⟩
        | exact ⟨by rw [zB_f (show ¬ tim v from fun z => by have := z.2.2; grind)], rfl⟩
        | exact ⟨by rw [zB_t (show tim v from ⟨by grind, by grind, by grind⟩)], rfl⟩
    · refine zb1 X_isDayHour_s14 rfl (by decide) ?_
      refine z_cgt X_isDayHour_d20 (tgt := 27) rfl (fun h20 => ?_) (fun h20 => ?_)
      · refine zb X_isDayHour_s27 rfl ?_
        refine z_retZ X_isDayHour_d28 rfl (by first | exact Or.inl rfl | exact Or.inr rfl) ?_
        first
          | exact ⟨by rw [zB_f (fun z : tim v => absurd z.1 (Int32.not_le.mpr h1))], rfl⟩
          | exact ⟨by rw [zB_f (fun z : tim v => absurd z.2.1 (Int32.not_le.mpr h11))], rfl⟩
          | exact ⟨by rw [zB_f (show ¬ tim v from fun z => by have := z.2.2; grind)], rfl⟩
          | exact ⟨by rw [zB_t (show tim v from ⟨by grind, by grind, by grind⟩)], rfl⟩
      · refine zb X_isDayHour_s23 rfl ?_
        refine z_retZ X_isDayHour_d28 rfl (by first | exact Or.inl rfl | exact Or.inr rfl) ?_
        first
          | exact ⟨by rw [zB_f (fun z : tim v => absurd z.1 (Int32.not_le.mpr h1))], rfl⟩
          | exact ⟨by rw [zB_f (fun z : tim v => absurd z.2.1 (Int32.not_le.mpr h11))], rfl⟩
          | exact ⟨by rw [zB_f (show ¬ tim v from fun z => by have := z.2.2; grind)], rfl⟩
          | exact ⟨by rw [zB_t (show tim v from ⟨by grind, by grind, by grind⟩)], rfl⟩

set_option maxRecDepth 100000 in
set_option maxHeartbeats 4000000 in
theorem x_isHourDays {g : zG} {d : Nat} {μ : zMem} (v : Int32) : zM g d X_isHourDays [.int v] μ (fun r μ' => r = some (.int (zB (htim v))) ∧ μ' = μ) := by
  refine zM_of (by decide +kernel) rfl rfl (Nat.le_of_ble_eq_true rfl) rfl ?_
  refine zb X_isHourDays_s0 rfl ?_
  refine z_lt X_isHourDays_d1 (tgt := 17) rfl (fun h1 => ?_) (fun h1 => ?_)
  · refine zb X_isHourDays_s17 rfl ?_
    refine z_retZ X_isHourDays_d18 rfl (by first | exact Or.inl rfl | exact Or.inr rfl) ?_
    first
      | exact ⟨by rw [zB_f (fun z : htim v => absurd z.1 (Int32.not_le.mpr h1))], rfl⟩
      | exact ⟨by rw [zB_f (show ¬ htim v from fun z => by have := z.2; grind)], rfl⟩
      | exact ⟨by rw [zB_t (show htim v from ⟨by grind, by grind⟩)], rfl⟩
  · refine zb1 X_isHourDays_s4 rfl (by decide) ?_
    refine z_cgt X_isHourDays_d10 (tgt := 17) rfl (fun h10 => ?_) (fun h10 => ?_)
    · refine zb X_isHourDays_s17 rfl ?_
      refine z_retZ X_isHourDays_d18 rfl (by first | exact Or.inl rfl | exact Or.inr rfl) ?_
      first
        | exact ⟨by rw [zB_f (fun z : htim v => absurd z.1 (Int32.not_le.mpr h1))], rfl⟩
        | exact ⟨by rw [zB_f (show ¬ htim v from fun z => by have := z.2; grind)], rfl⟩
        | exact ⟨by rw [zB_t (show htim v from ⟨by grind, by grind⟩)], rfl⟩
    · refine zb X_isHourDays_s13 rfl ?_
      refine z_retZ X_isHourDays_d18 rfl (by first | exact Or.inl rfl | exact Or.inr rfl) ?_
      first
        | exact ⟨by rw [zB_f (fun z : htim v => absurd z.1 (Int32.not_le.mpr h1))], rfl⟩
        | exact ⟨by rw [zB_f (show ¬ htim v from fun z => by have := z.2; grind)], rfl⟩
        | exact ⟨by rw [zB_t (show htim v from ⟨by grind, by grind⟩)], rfl⟩

set_option maxRecDepth 100000 in
set_option maxHeartbeats 4000000 in
theorem x_bit {g : zG} {d : Nat} {μ : zMem} (v : Int32) : zM g d X_bit [.int v] μ (fun r μ' => r = some (.int (zB (¬ v = 0))) ∧ μ' = μ) := by
  refine zM_of (by decide +kernel) rfl rfl (Nat.le_of_ble_eq_true rfl) rfl ?_
  refine zb X_bit_s0 rfl ?_
  refine z_eq X_bit_d1 (tgt := 8) rfl (fun h1 => ?_) (fun h1 => ?_)
  · refine zb X_bit_s8 rfl ?_
    refine z_ret X_bit_d9 rfl ?_
    first | exact ⟨by rw [zB_f (show ¬ ¬ v = 0 from fun z => z h1)], rfl⟩ | exact ⟨by rw [zB_t h1], rfl⟩
  · refine zb X_bit_s4 rfl ?_
    refine z_ret X_bit_d9 rfl ?_
    first | exact ⟨by rw [zB_f (show ¬ ¬ v = 0 from fun z => z h1)], rfl⟩ | exact ⟨by rw [zB_t h1], rfl⟩

set_option maxRecDepth 100000 in
set_option maxHeartbeats 4000000 in
theorem x_hasBell {g : zG} {d : Nat} {F : zF} {μ : zMem} (v : Int32) (ho : oX F μ) : zM g d F_hasBell [.ref 2, .int v] μ (fun r μ' => r = some (.int (zB (isB F v))) ∧ μ' = μ) := by
  refine zM_of (by decide +kernel) rfl rfl (Nat.le_of_ble_eq_true rfl) rfl ?_
  refine zb F_hasBell_s0 rfl ?_
  refine z_lt F_hasBell_d1 (tgt := 16) rfl (fun h1 => ?_) (fun h1 => ?_)
  · refine zb F_hasBell_s16 rfl ?_
    refine z_retZ F_hasBell_d17 rfl (by first | exact Or.inl rfl | exact Or.inr rfl) ?_
    (try rw [ho.b] at h9)
    first
      | exact ⟨by rw [zB_t (show isB F v from ⟨Int32.not_lt.mp h1, Int32.not_le.mp h9⟩)], rfl⟩
      | exact ⟨by rw [zB_f (fun z : isB F v => absurd z.1 (Int32.not_le.mpr h1))], rfl⟩
      | exact ⟨by rw [zB_f (fun z : isB F v => absurd z.2 (Int32.not_lt.mpr h9))], rfl⟩
  · refine zb F_hasBell_s4 rfl ?_
    refine z_cge F_hasBell_d9 (tgt := 16) rfl (fun h9 => ?_) (fun h9 => ?_)
    · refine zb F_hasBell_s16 rfl ?_
      refine z_retZ F_hasBell_d17 rfl (by first | exact Or.inl rfl | exact Or.inr rfl) ?_
      (try rw [ho.b] at h9)
      first
        | exact ⟨by rw [zB_t (show isB F v from ⟨Int32.not_lt.mp h1, Int32.not_le.mp h9⟩)], rfl⟩
        | exact ⟨by rw [zB_f (fun z : isB F v => absurd z.1 (Int32.not_le.mpr h1))], rfl⟩
        | exact ⟨by rw [zB_f (fun z : isB F v => absurd z.2 (Int32.not_lt.mpr h9))], rfl⟩
    · refine zb F_hasBell_s12 rfl ?_
      refine z_retZ F_hasBell_d17 rfl (by first | exact Or.inl rfl | exact Or.inr rfl) ?_
      (try rw [ho.b] at h9)
      first
        | exact ⟨by rw [zB_t (show isB F v from ⟨Int32.not_lt.mp h1, Int32.not_le.mp h9⟩)], rfl⟩
        | exact ⟨by rw [zB_f (fun z : isB F v => absurd z.1 (Int32.not_le.mpr h1))], rfl⟩
        | exact ⟨by rw [zB_f (fun z : isB F v => absurd z.2 (Int32.not_lt.mpr h9))], rfl⟩

set_option maxRecDepth 100000 in
set_option maxHeartbeats 4000000 in
theorem x_hasVow {g : zG} {d : Nat} {F : zF} {μ : zMem} (v : Int32) (ho : oX F μ) : zM g d F_hasVow [.ref 2, .int v] μ (fun r μ' => r = some (.int (zB (isV F v))) ∧ μ' = μ) := by
  refine zM_of (by decide +kernel) rfl rfl (Nat.le_of_ble_eq_true rfl) rfl ?_
  refine zb F_hasVow_s0 rfl ?_
  refine z_lt F_hasVow_d1 (tgt := 16) rfl (fun h1 => ?_) (fun h1 => ?_)
  · refine zb F_hasVow_s16 rfl ?_
    refine z_retZ F_hasVow_d17 rfl (by first | exact Or.inl rfl | exact Or.inr rfl) ?_
    (try rw [ho.v] at h9)
    first
      | exact ⟨by rw [zB_t (show isV F v from ⟨Int32.not_lt.mp h1, Int32.not_le.mp h9⟩)], rfl⟩
      | exact ⟨by rw [zB_f (fun z : isV F v => absurd z.1 (Int32.not_le.mpr h1))], rfl⟩
      | exact ⟨by rw [zB_f (fun z : isV F v => absurd z.2 (Int32.not_lt.mpr h9))], rfl⟩
  · refine zb F_hasVow_s4 rfl ?_
    refine z_cge F_hasVow_d9 (tgt := 16) rfl (fun h9 => ?_) (fun h9 => ?_)
    · refine zb F_hasVow_s16 rfl ?_
      refine z_retZ F_hasVow_d17 rfl (by first | exact Or.inl rfl | exact Or.inr rfl) ?_
      (try rw [ho.v] at h9)
      first
        | exact ⟨by rw [zB_t (show isV F v from ⟨Int32.not_lt.mp h1, Int32.not_le.mp h9⟩)], rfl⟩
        | exact ⟨by rw [zB_f (fun z : isV F v => absurd z.1 (Int32.not_le.mpr h1))], rfl⟩
        | exact ⟨by rw [zB_f (fun z : isV F v => absurd z.2 (Int32.not_lt.mpr h9))], rfl⟩
    · refine zb F_hasVow_s12 rfl ?_
      refine z_retZ F_hasVow_d17 rfl (by first | exact Or.inl rfl | exact Or.inr rfl) ?_
      (try rw [ho.v] at h9)
      first
        | exact ⟨by rw [zB_t (show isV F v from ⟨Int32.not_lt.mp h1, Int32.not_le.mp h9⟩)], rfl⟩
        | exact ⟨by rw [zB_f (fun z : isV F v => absurd z.1 (Int32.not_le.mpr h1))], rfl⟩
        | exact ⟨by rw [zB_f (fun z : isV F v => absurd z.2 (Int32.not_lt.mpr h9))], rfl⟩

set_option maxRecDepth 100000 in
set_option maxHeartbeats 4000000 in
theorem x_isVow {g : zG} {d : Nat} {F : zF} {μ : zMem} (b w p : Int32) (hd : 1 ≤ d) (ho : oX F μ) : zM g d F_isVow [.ref 2, .int b, .int w, .int p] μ (fun r μ' => r = some (.int (zB (isB F b ∧ (1 ≤ w ∧ w ≤ 9) ∧ (0 ≤ p ∧ p ≤ 5)))) ∧ μ' = μ) := by
  refine zM_of (by decide +kernel) rfl rfl (Nat.le_of_ble_eq_true rfl) rfl ?_
  refine zb F_isVow_s0 rfl ?_
  refine zcallV F_isVow_d2 k4_50 (by omega) (x_hasBell _ ho) rfl rfl rfl (Nat.le_of_ble_eq_true rfl) ?_
  rintro _ μx ⟨rfl, hx⟩
  rw [hx]
  clear hx μx
  refine z_eq F_isVow_d5 (tgt := 31) rfl (fun h5 => ?_) (fun h5 => ?_)
  · refine zb F_isVow_s31 rfl ?_
    refine z_retZ F_isVow_d32 rfl (by first | exact Or.inl rfl | exact Or.inr rfl) ?_
    refine ⟨?_, rfl⟩
    first
      | rw [zB_t (show isB F b ∧ (1 ≤ w ∧ w ≤ 9) ∧ (0 ≤ p ∧ p ≤ 5) from ⟨zB_ne0.mp h5, ⟨Int32.not_lt.mp h10, Int32.not_lt.mp h16⟩, zB_ne0.mp h24⟩)]
      | rw [zB_f (fun z : isB F b ∧ (1 ≤ w ∧ w ≤ 9) ∧ (0 ≤ p ∧ p ≤ 5) => absurd h16 (Int32.not_lt.mpr z.2.1.2))]
      | rw [zB_f (fun z : isB F b ∧ (1 ≤ w ∧ w ≤ 9) ∧ (0 ≤ p ∧ p ≤ 5) => absurd h10 (Int32.not_lt.mpr z.2.1.1))]
      | rw [zB_f (fun z : isB F b ∧ (1 ≤ w ∧ w ≤ 9) ∧ (0 ≤ p ∧ p ≤ 5) => (show ¬ (0 ≤ p ∧ p ≤ 5) from zB_eq0.mp h24) z.2.2)]
      | rw [zB_f (fun z : isB F b ∧ (1 ≤ w ∧ w ≤ 9) ∧ (0 ≤ p ∧ p ≤ 5) => (show ¬ isB F b from zB_eq0.mp h5) z.1)]
  · refine zb F_isVow_s8 rfl ?_
    refine z_clt F_isVow_d10 (tgt := 31) rfl (fun h10 => ?_) (fun h10 => ?_)
    · refine zb F_isVow_s31 rfl ?_
      refine z_retZ F_isVow_d32 rfl (by first | exact Or.inl rfl | exact Or.inr rfl) ?_
      refine ⟨?_, rfl⟩
      first
        | rw [zB_t (show isB F b ∧ (1 ≤ w ∧ w ≤ 9) ∧ (0 ≤ p ∧ p ≤ 5) from ⟨zB_ne0.mp h5, ⟨Int32.not_lt.mp h10, Int32.not_lt.mp h16⟩, zB_ne0.mp h24⟩)]
        | rw [zB_f (fun z : isB F b ∧ (1 ≤ w ∧ w ≤ 9) ∧ (0 ≤ p ∧ p ≤ 5) => absurd h16 (Int32.not_lt.mpr z.2.1.2))]
        | rw [zB_f (fun z : isB F b ∧ (1 ≤ w ∧ w ≤ 9) ∧ (0 ≤ p ∧ p ≤ 5) => absurd h10 (Int32.not_lt.mpr z.2.1.1))]
        | rw [zB_f (fun z : isB F b ∧ (1 ≤ w ∧ w ≤ 9) ∧ (0 ≤ p ∧ p ≤ 5) => (show ¬ (0 ≤ p ∧ p ≤ 5) from zB_eq0.mp h24) z.2.2)]
        | rw [zB_f (fun z : isB F b ∧ (1 ≤ w ∧ w ≤ 9) ∧ (0 ≤ p ∧ p ≤ 5) => (show ¬ isB F b from zB_eq0.mp h5) z.1)]
    · refine zb F_isVow_s13 rfl ?_
      refine z_cgt F_isVow_d16 (tgt := 31) rfl (fun h16 => ?_) (fun h16 => ?_)
      · refine zb F_isVow_s31 rfl ?_
        refine z_retZ F_isVow_d32 rfl (by first | exact Or.inl rfl | exact Or.inr rfl) ?_
        refine ⟨?_, rfl⟩
        first
          | rw [zB_t (show isB F b ∧ (1 ≤ w ∧ w ≤ 9) ∧ (0 ≤ p ∧ p ≤ 5) from ⟨zB_ne0.mp h5, ⟨Int32.not_lt.mp h10, Int32.not_lt.mp h16⟩, zB_ne0.mp h24⟩)]
          | rw [zB_f (fun z : isB F b ∧ (1 ≤ w ∧ w ≤ 9) ∧ (0 ≤ p ∧ p ≤ 5) => absurd h16 (Int32.not_lt.mpr z.2.1.2))]
          | rw [zB_f (fun z : isB F b ∧ (1 ≤ w ∧ w ≤ 9) ∧ (0 ≤ p ∧ p ≤ 5) => absurd h10 (Int32.not_lt.mpr z.2.1.1))]
          | rw [zB_f (fun z : isB F b ∧ (1 ≤ w ∧ w ≤ 9) ∧ (0 ≤ p ∧ p ≤ 5) => (show ¬ (0 ≤ p ∧ p ≤ 5) from zB_eq0.mp h24) z.2.2)]
          | rw [zB_f (fun z : isB F b ∧ (1 ≤ w ∧ w ≤ 9) ∧ (0 ≤ p ∧ p ≤ 5) => (show ¬ isB F b from zB_eq0.mp h5) z.1)]
      · refine zb F_isVow_s19 rfl ?_
        refine zcallN F_isVow_d21 k4_54 (by omega) (x_isWithin _ _) rfl rfl (Nat.le_of_ble_eq_true rfl) ?_
        rintro _ μx ⟨rfl, hx⟩
        rw [hx]
        clear hx μx
        refine z_eq F_isVow_d24 (tgt := 31) rfl (fun h24 => ?_) (fun h24 => ?_)
        · refine zb F_isVow_s31 rfl ?_
          refine z_retZ F_isVow_d32 rfl (by first | exact Or.inl rfl | exact Or.inr rfl) ?_
          refine ⟨?_, rfl⟩
          first
            | rw [zB_t (show isB F b ∧ (1 ≤ w ∧ w ≤ 9) ∧ (0 ≤ p ∧ p ≤ 5) from ⟨zB_ne0.mp h5, ⟨Int32.not_lt.mp h10, Int32.not_lt.mp h16⟩, zB_ne0.mp h24⟩)]
            | rw [zB_f (fun z : isB F b ∧ (1 ≤ w ∧ w ≤ 9) ∧ (0 ≤ p ∧ p ≤ 5) => absurd h16 (Int32.not_lt.mpr z.2.1.2))]
            | rw [zB_f (fun z : isB F b ∧ (1 ≤ w ∧ w ≤ 9) ∧ (0 ≤ p ∧ p ≤ 5) => absurd h10 (Int32.not_lt.mpr z.2.1.1))]
            | rw [zB_f (fun z : isB F b ∧ (1 ≤ w ∧ w ≤ 9) ∧ (0 ≤ p ∧ p ≤ 5) => (show ¬ (0 ≤ p ∧ p ≤ 5) from zB_eq0.mp h24) z.2.2)]
            | rw [zB_f (fun z : isB F b ∧ (1 ≤ w ∧ w ≤ 9) ∧ (0 ≤ p ∧ p ≤ 5) => (show ¬ isB F b from zB_eq0.mp h5) z.1)]
        · refine zb F_isVow_s27 rfl ?_
          refine z_retZ F_isVow_d32 rfl (by first | exact Or.inl rfl | exact Or.inr rfl) ?_
          refine ⟨?_, rfl⟩
          first
            | rw [zB_t (show isB F b ∧ (1 ≤ w ∧ w ≤ 9) ∧ (0 ≤ p ∧ p ≤ 5) from ⟨zB_ne0.mp h5, ⟨Int32.not_lt.mp h10, Int32.not_lt.mp h16⟩, zB_ne0.mp h24⟩)]
            | rw [zB_f (fun z : isB F b ∧ (1 ≤ w ∧ w ≤ 9) ∧ (0 ≤ p ∧ p ≤ 5) => absurd h16 (Int32.not_lt.mpr z.2.1.2))]
            | rw [zB_f (fun z : isB F b ∧ (1 ≤ w ∧ w ≤ 9) ∧ (0 ≤ p ∧ p ≤ 5) => absurd h10 (Int32.not_lt.mpr z.2.1.1))]
            | rw [zB_f (fun z : isB F b ∧ (1 ≤ w ∧ w ≤ 9) ∧ (0 ≤ p ∧ p ≤ 5) => (show ¬ (0 ≤ p ∧ p ≤ 5) from zB_eq0.mp h24) z.2.2)]
            | rw [zB_f (fun z : isB F b ∧ (1 ≤ w ∧ w ≤ 9) ∧ (0 ≤ p ∧ p ≤ 5) => (show ¬ isB F b from zB_eq0.mp h5) z.1)]

set_option maxRecDepth 100000 in
set_option maxHeartbeats 4000000 in
theorem x_isKept {g : zG} {d : Nat} {F : zF} {μ : zMem} {i : Nat} (day : Int32) (hi : i < 12) (ho : oX F μ) : zM g d F_isKept [.ref 2, .int (nI i), .int day] μ (fun r μ' => r = some (.int (zB (kept F i day))) ∧ μ' = μ) := by
  refine zM_of (by decide +kernel) rfl rfl (Nat.le_of_ble_eq_true rfl) rfl ?_
  have ei : (nI i).toNatClampNeg = i := nI_clamp (by omega)
  have hvi : vp_in (nI i) 12 := vp_in_nI hi (by omega)
  refine zb1 F_isKept_s0 rfl hvi ?_
  refine z_clt F_isKept_d7 (tgt := 35) rfl (fun h7 => ?_) (fun h7 => ?_)
  · refine zb F_isKept_s35 rfl ?_
    refine z_retZ F_isKept_d40 rfl (by first | exact Or.inl rfl | exact Or.inr rfl) ?_
    (try rw [ho.e59, ei] at h7); (try rw [ho.e59, ho.e60, ei] at h22); (try rw [ho.e60, ei] at h32)
    refine ⟨?_, rfl⟩
    first
      | rw [zB_t (show kept F i day from Or.inl h7)]
      | rw [zB_t (show kept F i day from Or.inr ⟨Int32.not_le.mp h22, Int32.not_lt.mp h32⟩)]
      | rw [zB_f (fun z : kept F i day => z.elim h7 (fun y => absurd y.2 (Int32.not_le.mpr h32)))]
      | rw [zB_f (fun z : kept F i day => z.elim h7 (fun y => absurd y.1 (Int32.not_lt.mpr h22)))]
  · refine zb2 F_isKept_s10 rfl hvi hvi ?_
    refine z_cge F_isKept_d22 (tgt := 39) rfl (fun h22 => ?_) (fun h22 => ?_)
    · refine zb F_isKept_s39 rfl ?_
      refine z_retZ F_isKept_d40 rfl (by first | exact Or.inl rfl | exact Or.inr rfl) ?_
      (try rw [ho.e59, ei] at h7); (try rw [ho.e59, ho.e60, ei] at h22); (try rw [ho.e60, ei] at h32)
      refine ⟨?_, rfl⟩
      first
        | rw [zB_t (show kept F i day from Or.inl h7)]
        | rw [zB_t (show kept F i day from Or.inr ⟨Int32.not_le.mp h22, Int32.not_lt.mp h32⟩)]
        | rw [zB_f (fun z : kept F i day => z.elim h7 (fun y => absurd y.2 (Int32.not_le.mpr h32)))]
        | rw [zB_f (fun z : kept F i day => z.elim h7 (fun y => absurd y.1 (Int32.not_lt.mpr h22)))]
    · refine zb1 F_isKept_s25 rfl hvi ?_
      refine z_cgt F_isKept_d32 (tgt := 39) rfl (fun h32 => ?_) (fun h32 => ?_)
      · refine zb F_isKept_s39 rfl ?_
        refine z_retZ F_isKept_d40 rfl (by first | exact Or.inl rfl | exact Or.inr rfl) ?_
        (try rw [ho.e59, ei] at h7); (try rw [ho.e59, ho.e60, ei] at h22); (try rw [ho.e60, ei] at h32)
        refine ⟨?_, rfl⟩
        first
          | rw [zB_t (show kept F i day from Or.inl h7)]
          | rw [zB_t (show kept F i day from Or.inr ⟨Int32.not_le.mp h22, Int32.not_lt.mp h32⟩)]
          | rw [zB_f (fun z : kept F i day => z.elim h7 (fun y => absurd y.2 (Int32.not_le.mpr h32)))]
          | rw [zB_f (fun z : kept F i day => z.elim h7 (fun y => absurd y.1 (Int32.not_lt.mpr h22)))]
      · refine zb F_isKept_s35 rfl ?_
        refine z_retZ F_isKept_d40 rfl (by first | exact Or.inl rfl | exact Or.inr rfl) ?_
        (try rw [ho.e59, ei] at h7); (try rw [ho.e59, ho.e60, ei] at h22); (try rw [ho.e60, ei] at h32)
        refine ⟨?_, rfl⟩
        first
          | rw [zB_t (show kept F i day from Or.inl h7)]
          | rw [zB_t (show kept F i day from Or.inr ⟨Int32.not_le.mp h22, Int32.not_lt.mp h32⟩)]
          | rw [zB_f (fun z : kept F i day => z.elim h7 (fun y => absurd y.2 (Int32.not_le.mpr h32)))]
          | rw [zB_f (fun z : kept F i day => z.elim h7 (fun y => absurd y.1 (Int32.not_lt.mpr h22)))]

/-- -1: kept; else how long it has been broken -/
def dbr (F : zF) (v : Nat) (day : Int32) : Int32 := if kept F v day then -1 else day - fbr F v

set_option maxRecDepth 100000 in
set_option maxHeartbeats 4000000 in
theorem x_daysBroken {g : zG} {d : Nat} {F : zF} {μ : zMem} {i : Nat} (day : Int32) (hd : 1 ≤ d) (hi : i < 12) (ho : oX F μ) : zM g d F_daysBroken [.ref 2, .int (nI i), .int day] μ (fun r μ' => r = some (.int (dbr F i day)) ∧ μ' = μ) := by
  refine zM_of (by decide +kernel) rfl rfl (Nat.le_of_ble_eq_true rfl) rfl ?_
  have ei : (nI i).toNatClampNeg = i := nI_clamp (by omega)
  have hvi : vp_in (nI i) 12 := vp_in_nI hi (by omega)
  refine zb F_daysBroken_s0 rfl ?_
  refine zcallV F_daysBroken_d3 k4_68 (by omega) (x_isKept _ (by omega) ho) rfl rfl rfl (Nat.le_of_ble_eq_true rfl) ?_
  rintro _ μx ⟨rfl, hx⟩
  rw [hx]
  clear hx μx
  refine z_eq F_daysBroken_d6 (tgt := 13) rfl (fun h6 => ?_) (fun h6 => ?_)
  · refine zb1 F_daysBroken_s13 rfl hvi ?_
    refine z_ret F_daysBroken_d21 rfl ?_
    unfold dbr
    refine ⟨?_, rfl⟩
    first
      | rw [if_pos (show kept F i day from zB_ne0.mp h6)]
      | rw [if_neg (show ¬ kept F i day from zB_eq0.mp h6), ho.e59, ei]
  · refine zb F_daysBroken_s9 rfl ?_
    refine z_ret F_daysBroken_d21 rfl ?_
    unfold dbr
    refine ⟨?_, rfl⟩
    first
      | rw [if_pos (show kept F i day from zB_ne0.mp h6)]
      | rw [if_neg (show ¬ kept F i day from zB_eq0.mp h6), ho.e59, ei]

set_option maxRecDepth 100000 in
set_option maxHeartbeats 4000000 in
theorem w_F_vowsIn {g : zG} {d : Nat} {F : zF} {μ0 : zMem} {b : Int32} : ∀ (j i : Nat) (acc : Int32) (μ : zMem), i + j = fV F → oX F μ → (acc = zfold (fun v s => if fbell F v = b then s ||| bit1 v else s) 0 i 0) → zW g F_vowsIn d 4 [some (.ref 2), some (.int b), some (.int acc), some (.int (nI i))] [] μ (fun r μ' => r = some (.int (setOf F b)) ∧ μ' = μ) := by
  intro j
  induction j with
  | zero =>
    intro i acc μ hi ho hv0
    have hbd := ho.v
    have h12 := ho.v12
    have h6 := ho.b6
    have hi : fV F = i := by omega
    subst hi
    refine zb F_vowsIn_s4 rfl ?_
    refine z_cge F_vowsIn_d9 (tgt := 34) rfl (fun h9 => ?_) (fun h9 => absurd (show μ.1 2 8 ≤ nI (fV F) by first | exact Int32.le_refl _ | (rw [hbd]; exact Int32.le_refl _)) h9)
    refine zb F_vowsIn_s34 rfl ?_
    refine z_ret F_vowsIn_d35 rfl ?_
    exact ⟨by rw [hv0]; rfl, rfl⟩
  | succ j ih =>
    intro i acc μ hi ho hv0
    have hbd := ho.v
    have h12 := ho.v12
    have h6 := ho.b6
    have hilt : i < fV F := by omega
    have ei : (nI i).toNatClampNeg = i := nI_clamp (by omega)
    refine zb F_vowsIn_s4 rfl ?_
    refine z_cge F_vowsIn_d9 (tgt := 34) rfl (fun h9 => absurd h9 (show ¬ μ.1 2 8 ≤ nI i by first | exact nI_ge hilt (by omega) | (rw [hbd]; exact nI_ge hilt (by omega)))) (fun h9 => ?_)
    refine zb1 F_vowsIn_s12 rfl (by first | assumption | exact vp_in_nI (by omega) (by omega) | decide) ?_
    refine z_cne F_vowsIn_d19 (tgt := 28) rfl (fun h19 => ?_) (fun h19 => ?_)
    · refine zb F_vowsIn_s28 rfl ?_
      rw [ho.e56, ei] at h19
      rw [nI_1]
      refine ih (i + 1) _ _ (by omega) ho ?_
      rw [zf0, ← hv0]
      first | rw [if_neg h19] | rw [if_pos h19]; rfl
    · refine zb F_vowsIn_s22 rfl ?_
      rw [ho.e56, ei] at h19
      rw [nI_1]
      refine ih (i + 1) _ _ (by omega) ho ?_
      rw [zf0, ← hv0]
      first | rw [if_neg h19] | rw [if_pos h19]; rfl

set_option maxRecDepth 100000 in
set_option maxHeartbeats 4000000 in
theorem x_vowsIn {g : zG} {d : Nat} {F : zF} {μ : zMem} (b : Int32) (ho : oX F μ) : zM g d F_vowsIn [.ref 2, .int b] μ (fun r μ' => r = some (.int (setOf F b)) ∧ μ' = μ) := by
  refine zM_of (by decide +kernel) rfl rfl (Nat.le_of_ble_eq_true rfl) rfl ?_
  refine zb F_vowsIn_s0 rfl ?_
  exact w_F_vowsIn (μ0 := μ) (fV F) 0 0 μ (by omega) ho rfl

theorem lq {u : Int32} {c : Nat} (h : u = nI c) : u = nI c := h

set_option maxRecDepth 100000 in
set_option maxHeartbeats 4000000 in
theorem x_join_124 {g : zG} {d : Nat} {μ : zMem} (hd : 1 ≤ d) (u v : Int32) : zM g d P_joined [.int 124, .int u, .int v] μ (fun r μ' => r = some (.int (qjn 124 u v)) ∧ μ' = μ) := by
  refine zM_of (by decide +kernel) rfl rfl (Nat.le_of_ble_eq_true rfl) rfl ?_
  refine zb P_joined_s0 rfl ?_
  refine z_look P_joined_d1 (tgt := 84) (off := 83) (by decide) (by decide) rfl ?_
  refine zb P_joined_s84 rfl ?_
  refine z_ne P_joined_d85 (tgt := 92) rfl (fun h85 => ?_) (fun h85 => ?_)
  · refine zb P_joined_s92 rfl ?_
    refine zcallN P_joined_d97 k6_32 (by omega) (x_bit _) rfl rfl (Nat.le_of_ble_eq_true rfl) ?_
    rintro _ μx ⟨rfl, hx⟩
    rw [hx]
    clear hx μx
    refine z_ret P_joined_d100 rfl ?_
    refine ⟨congrArg (fun z => some (Value.int z)) ?_, rfl⟩
    unfold qjn
    rw [if_pos rfl]
    first | exact zB_cong (iff_of_true (by decide) (Or.inl h85)) | exact zB_cong (iff_of_true (by decide) (Or.inr h89)) | exact zB_cong (iff_of_false (by decide) (fun z => z.elim (fun y => y h85) (fun y => y h89)))
  · refine zb P_joined_s88 rfl ?_
    refine z_eq P_joined_d89 (tgt := 96) rfl (fun h89 => ?_) (fun h89 => ?_)
    · refine zb P_joined_s96 rfl ?_
      refine zcallN P_joined_d97 k6_32 (by omega) (x_bit _) rfl rfl (Nat.le_of_ble_eq_true rfl) ?_
      rintro _ μx ⟨rfl, hx⟩
      rw [hx]
      clear hx μx
      refine z_ret P_joined_d100 rfl ?_
      refine ⟨congrArg (fun z => some (Value.int z)) ?_, rfl⟩
      unfold qjn
      rw [if_pos rfl]
      first | exact zB_cong (iff_of_true (by decide) (Or.inl h85)) | exact zB_cong (iff_of_true (by decide) (Or.inr h89)) | exact zB_cong (iff_of_false (by decide) (fun z => z.elim (fun y => y h85) (fun y => y h89)))
    · refine zb P_joined_s92 rfl ?_
      refine zcallN P_joined_d97 k6_32 (by omega) (x_bit _) rfl rfl (Nat.le_of_ble_eq_true rfl) ?_
      rintro _ μx ⟨rfl, hx⟩
      rw [hx]
      clear hx μx
      refine z_ret P_joined_d100 rfl ?_
      refine ⟨congrArg (fun z => some (Value.int z)) ?_, rfl⟩
      unfold qjn
      rw [if_pos rfl]
      first | exact zB_cong (iff_of_true (by decide) (Or.inl h85)) | exact zB_cong (iff_of_true (by decide) (Or.inr h89)) | exact zB_cong (iff_of_false (by decide) (fun z => z.elim (fun y => y h85) (fun y => y h89)))

set_option maxRecDepth 100000 in
set_option maxHeartbeats 4000000 in
theorem x_join_38 {g : zG} {d : Nat} {μ : zMem} (hd : 1 ≤ d) (u v : Int32) : zM g d P_joined [.int 38, .int u, .int v] μ (fun r μ' => r = some (.int (qjn 38 u v)) ∧ μ' = μ) := by
  refine zM_of (by decide +kernel) rfl rfl (Nat.le_of_ble_eq_true rfl) rfl ?_
  refine zb P_joined_s0 rfl ?_
  refine z_look P_joined_d1 (tgt := 101) (off := 100) (by decide) (by decide) rfl ?_
  refine zb P_joined_s101 rfl ?_
  refine z_eq P_joined_d102 (tgt := 113) rfl (fun h102 => ?_) (fun h102 => ?_)
  · refine zb P_joined_s113 rfl ?_
    refine zcallN P_joined_d114 k6_32 (by omega) (x_bit _) rfl rfl (Nat.le_of_ble_eq_true rfl) ?_
    rintro _ μx ⟨rfl, hx⟩
    rw [hx]
    clear hx μx
    refine z_ret P_joined_d117 rfl ?_
    refine ⟨congrArg (fun z => some (Value.int z)) ?_, rfl⟩
    unfold qjn
    rw [if_neg (show ¬ (38 : Int32) = 124 by decide)]
    rw [if_pos rfl]
    first | exact zB_cong (iff_of_true (by decide) ⟨h102, h106⟩) | exact zB_cong (iff_of_false (by decide) (fun z => z.2 h106)) | exact zB_cong (iff_of_false (by decide) (fun z => z.1 h102))
  · refine zb P_joined_s105 rfl ?_
    refine z_eq P_joined_d106 (tgt := 113) rfl (fun h106 => ?_) (fun h106 => ?_)
    · refine zb P_joined_s113 rfl ?_
      refine zcallN P_joined_d114 k6_32 (by omega) (x_bit _) rfl rfl (Nat.le_of_ble_eq_true rfl) ?_
      rintro _ μx ⟨rfl, hx⟩
      rw [hx]
      clear hx μx
      refine z_ret P_joined_d117 rfl ?_
      refine ⟨congrArg (fun z => some (Value.int z)) ?_, rfl⟩
      unfold qjn
      rw [if_neg (show ¬ (38 : Int32) = 124 by decide)]
      rw [if_pos rfl]
      first | exact zB_cong (iff_of_true (by decide) ⟨h102, h106⟩) | exact zB_cong (iff_of_false (by decide) (fun z => z.2 h106)) | exact zB_cong (iff_of_false (by decide) (fun z => z.1 h102))
    · refine zb P_joined_s109 rfl ?_
      refine zcallN P_joined_d114 k6_32 (by omega) (x_bit _) rfl rfl (Nat.le_of_ble_eq_true rfl) ?_
      rintro _ μx ⟨rfl, hx⟩
      rw [hx]
      clear hx μx
      refine z_ret P_joined_d117 rfl ?_
      refine ⟨congrArg (fun z => some (Value.int z)) ?_, rfl⟩
      unfold qjn
      rw [if_neg (show ¬ (38 : Int32) = 124 by decide)]
      rw [if_pos rfl]
      first | exact zB_cong (iff_of_true (by decide) ⟨h102, h106⟩) | exact zB_cong (iff_of_false (by decide) (fun z => z.2 h106)) | exact zB_cong (iff_of_false (by decide) (fun z => z.1 h102))

set_option maxRecDepth 100000 in
set_option maxHeartbeats 4000000 in
theorem x_join_60 {g : zG} {d : Nat} {μ : zMem} (hd : 1 ≤ d) (u v : Int32) : zM g d P_joined [.int 60, .int u, .int v] μ (fun r μ' => r = some (.int (qjn 60 u v)) ∧ μ' = μ) := by
  refine zM_of (by decide +kernel) rfl rfl (Nat.le_of_ble_eq_true rfl) rfl ?_
  refine zb P_joined_s0 rfl ?_
  refine z_look P_joined_d1 (tgt := 118) (off := 117) (by decide) (by decide) rfl ?_
  refine zb P_joined_s118 rfl ?_
  refine z_cge P_joined_d120 (tgt := 127) rfl (fun h120 => ?_) (fun h120 => ?_)
  · refine zb P_joined_s127 rfl ?_
    refine zcallN P_joined_d128 k6_32 (by omega) (x_bit _) rfl rfl (Nat.le_of_ble_eq_true rfl) ?_
    rintro _ μx ⟨rfl, hx⟩
    rw [hx]
    clear hx μx
    refine z_ret P_joined_d131 rfl ?_
    refine ⟨congrArg (fun z => some (Value.int z)) ?_, rfl⟩
    unfold qjn
    rw [if_neg (show ¬ (60 : Int32) = 124 by decide)]
    rw [if_neg (show ¬ (60 : Int32) = 38 by decide)]
    rw [if_pos rfl]
    first | exact zB_cong (iff_of_false (by decide) (Int32.not_lt.mpr h120)) | exact zB_cong (iff_of_true (by decide) (Int32.not_le.mp h120))
  · refine zb P_joined_s123 rfl ?_
    refine zcallN P_joined_d128 k6_32 (by omega) (x_bit _) rfl rfl (Nat.le_of_ble_eq_true rfl) ?_
    rintro _ μx ⟨rfl, hx⟩
    rw [hx]
    clear hx μx
    refine z_ret P_joined_d131 rfl ?_
    refine ⟨congrArg (fun z => some (Value.int z)) ?_, rfl⟩
    unfold qjn
    rw [if_neg (show ¬ (60 : Int32) = 124 by decide)]
    rw [if_neg (show ¬ (60 : Int32) = 38 by decide)]
    rw [if_pos rfl]
    first | exact zB_cong (iff_of_false (by decide) (Int32.not_lt.mpr h120)) | exact zB_cong (iff_of_true (by decide) (Int32.not_le.mp h120))

set_option maxRecDepth 100000 in
set_option maxHeartbeats 4000000 in
theorem x_join_61 {g : zG} {d : Nat} {μ : zMem} (hd : 1 ≤ d) (u v : Int32) : zM g d P_joined [.int 61, .int u, .int v] μ (fun r μ' => r = some (.int (qjn 61 u v)) ∧ μ' = μ) := by
  refine zM_of (by decide +kernel) rfl rfl (Nat.le_of_ble_eq_true rfl) rfl ?_
  refine zb P_joined_s0 rfl ?_
  refine z_look P_joined_d1 (tgt := 132) (off := 131) (by decide) (by decide) rfl ?_
  refine zb P_joined_s132 rfl ?_
  refine z_cne P_joined_d134 (tgt := 141) rfl (fun h134 => ?_) (fun h134 => ?_)
  · refine zb P_joined_s141 rfl ?_
    refine zcallN P_joined_d142 k6_32 (by omega) (x_bit _) rfl rfl (Nat.le_of_ble_eq_true rfl) ?_
    rintro _ μx ⟨rfl, hx⟩
    rw [hx]
    clear hx μx
    refine z_ret P_joined_d145 rfl ?_
    refine ⟨congrArg (fun z => some (Value.int z)) ?_, rfl⟩
    unfold qjn
    rw [if_neg (show ¬ (61 : Int32) = 124 by decide)]
    rw [if_neg (show ¬ (61 : Int32) = 38 by decide)]
    rw [if_neg (show ¬ (61 : Int32) = 60 by decide)]
    rw [if_pos rfl]
    first | exact zB_cong (iff_of_true (by decide) h134) | exact zB_cong (iff_of_false (by decide) h134)
  · refine zb P_joined_s137 rfl ?_
    refine zcallN P_joined_d142 k6_32 (by omega) (x_bit _) rfl rfl (Nat.le_of_ble_eq_true rfl) ?_
    rintro _ μx ⟨rfl, hx⟩
    rw [hx]
    clear hx μx
    refine z_ret P_joined_d145 rfl ?_
    refine ⟨congrArg (fun z => some (Value.int z)) ?_, rfl⟩
    unfold qjn
    rw [if_neg (show ¬ (61 : Int32) = 124 by decide)]
    rw [if_neg (show ¬ (61 : Int32) = 38 by decide)]
    rw [if_neg (show ¬ (61 : Int32) = 60 by decide)]
    rw [if_pos rfl]
    first | exact zB_cong (iff_of_true (by decide) h134) | exact zB_cong (iff_of_false (by decide) h134)

set_option maxRecDepth 100000 in
set_option maxHeartbeats 4000000 in
theorem x_join_62 {g : zG} {d : Nat} {μ : zMem} (hd : 1 ≤ d) (u v : Int32) : zM g d P_joined [.int 62, .int u, .int v] μ (fun r μ' => r = some (.int (qjn 62 u v)) ∧ μ' = μ) := by
  refine zM_of (by decide +kernel) rfl rfl (Nat.le_of_ble_eq_true rfl) rfl ?_
  refine zb P_joined_s0 rfl ?_
  refine z_look P_joined_d1 (tgt := 146) (off := 145) (by decide) (by decide) rfl ?_
  refine zb P_joined_s146 rfl ?_
  refine z_cle P_joined_d148 (tgt := 155) rfl (fun h148 => ?_) (fun h148 => ?_)
  · refine zb P_joined_s155 rfl ?_
    refine zcallN P_joined_d156 k6_32 (by omega) (x_bit _) rfl rfl (Nat.le_of_ble_eq_true rfl) ?_
    rintro _ μx ⟨rfl, hx⟩
    rw [hx]
    clear hx μx
    refine z_ret P_joined_d159 rfl ?_
    refine ⟨congrArg (fun z => some (Value.int z)) ?_, rfl⟩
    unfold qjn
    rw [if_neg (show ¬ (62 : Int32) = 124 by decide)]
    rw [if_neg (show ¬ (62 : Int32) = 38 by decide)]
    rw [if_neg (show ¬ (62 : Int32) = 60 by decide)]
    rw [if_neg (show ¬ (62 : Int32) = 61 by decide)]
    rw [if_pos rfl]
    first | exact zB_cong (iff_of_true (by decide) (Int32.not_le.mp h148)) | exact zB_cong (iff_of_false (by decide) (Int32.not_lt.mpr h148))
  · refine zb P_joined_s151 rfl ?_
    refine zcallN P_joined_d156 k6_32 (by omega) (x_bit _) rfl rfl (Nat.le_of_ble_eq_true rfl) ?_
    rintro _ μx ⟨rfl, hx⟩
    rw [hx]
    clear hx μx
    refine z_ret P_joined_d159 rfl ?_
    refine ⟨congrArg (fun z => some (Value.int z)) ?_, rfl⟩
    unfold qjn
    rw [if_neg (show ¬ (62 : Int32) = 124 by decide)]
    rw [if_neg (show ¬ (62 : Int32) = 38 by decide)]
    rw [if_neg (show ¬ (62 : Int32) = 60 by decide)]
    rw [if_neg (show ¬ (62 : Int32) = 61 by decide)]
    rw [if_pos rfl]
    first | exact zB_cong (iff_of_true (by decide) (Int32.not_le.mp h148)) | exact zB_cong (iff_of_false (by decide) (Int32.not_lt.mpr h148))

set_option maxRecDepth 100000 in
set_option maxHeartbeats 4000000 in
theorem x_join_43 {g : zG} {d : Nat} {μ : zMem} (hd : 1 ≤ d) (u v : Int32) : zM g d P_joined [.int 43, .int u, .int v] μ (fun r μ' => r = some (.int (qjn 43 u v)) ∧ μ' = μ) := by
  refine zM_of (by decide +kernel) rfl rfl (Nat.le_of_ble_eq_true rfl) rfl ?_
  refine zb P_joined_s0 rfl ?_
  refine z_look P_joined_d1 (tgt := 160) (off := 159) (by decide) (by decide) rfl ?_
  refine zb P_joined_s160 rfl ?_
  refine z_ret P_joined_d163 rfl ?_
  refine ⟨congrArg (fun z => some (Value.int z)) ?_, rfl⟩
  unfold qjn
  rw [if_neg (show ¬ (43 : Int32) = 124 by decide)]
  rw [if_neg (show ¬ (43 : Int32) = 38 by decide)]
  rw [if_neg (show ¬ (43 : Int32) = 60 by decide)]
  rw [if_neg (show ¬ (43 : Int32) = 61 by decide)]
  rw [if_neg (show ¬ (43 : Int32) = 62 by decide)]
  rw [if_pos rfl]

set_option maxRecDepth 100000 in
set_option maxHeartbeats 4000000 in
theorem x_join_45 {g : zG} {d : Nat} {μ : zMem} (hd : 1 ≤ d) (u v : Int32) : zM g d P_joined [.int 45, .int u, .int v] μ (fun r μ' => r = some (.int (qjn 45 u v)) ∧ μ' = μ) := by
  refine zM_of (by decide +kernel) rfl rfl (Nat.le_of_ble_eq_true rfl) rfl ?_
  refine zb P_joined_s0 rfl ?_
  refine z_look P_joined_d1 (tgt := 164) (off := 163) (by decide) (by decide) rfl ?_
  refine zb P_joined_s164 rfl ?_
  refine z_ret P_joined_d167 rfl ?_
  refine ⟨congrArg (fun z => some (Value.int z)) ?_, rfl⟩
  unfold qjn
  rw [if_neg (show ¬ (45 : Int32) = 124 by decide)]
  rw [if_neg (show ¬ (45 : Int32) = 38 by decide)]
  rw [if_neg (show ¬ (45 : Int32) = 60 by decide)]
  rw [if_neg (show ¬ (45 : Int32) = 61 by decide)]
  rw [if_neg (show ¬ (45 : Int32) = 62 by decide)]
  rw [if_neg (show ¬ (45 : Int32) = 43 by decide)]
  rw [if_pos rfl]

set_option maxRecDepth 100000 in
set_option maxHeartbeats 4000000 in
theorem x_join_42 {g : zG} {d : Nat} {μ : zMem} (hd : 1 ≤ d) (u v : Int32) : zM g d P_joined [.int 42, .int u, .int v] μ (fun r μ' => r = some (.int (qjn 42 u v)) ∧ μ' = μ) := by
  refine zM_of (by decide +kernel) rfl rfl (Nat.le_of_ble_eq_true rfl) rfl ?_
  refine zb P_joined_s0 rfl ?_
  refine z_look P_joined_d1 (tgt := 168) (off := 167) (by decide) (by decide) rfl ?_
  refine zb P_joined_s168 rfl ?_
  refine z_ret P_joined_d171 rfl ?_
  refine ⟨congrArg (fun z => some (Value.int z)) ?_, rfl⟩
  unfold qjn
  rw [if_neg (show ¬ (42 : Int32) = 124 by decide)]
  rw [if_neg (show ¬ (42 : Int32) = 38 by decide)]
  rw [if_neg (show ¬ (42 : Int32) = 60 by decide)]
  rw [if_neg (show ¬ (42 : Int32) = 61 by decide)]
  rw [if_neg (show ¬ (42 : Int32) = 62 by decide)]
  rw [if_neg (show ¬ (42 : Int32) = 43 by decide)]
  rw [if_neg (show ¬ (42 : Int32) = 45 by decide)]
  rw [if_pos rfl]

set_option maxRecDepth 100000 in
set_option maxHeartbeats 4000000 in
theorem x_join_47 {g : zG} {d : Nat} {μ : zMem} (hd : 1 ≤ d) (u v : Int32) : zM g d P_joined [.int 47, .int u, .int v] μ (fun r μ' => r = some (.int (qjn 47 u v)) ∧ μ' = μ) := by
  refine zM_of (by decide +kernel) rfl rfl (Nat.le_of_ble_eq_true rfl) rfl ?_
  refine zb P_joined_s0 rfl ?_
  refine z_look P_joined_d1 (tgt := 172) (off := 171) (by decide) (by decide) rfl ?_
  refine zb P_joined_s172 rfl ?_
  refine z_ne P_joined_d173 (tgt := 180) rfl (fun h173 => ?_) (fun h173 => ?_)
  · refine zb1 P_joined_s180 rfl (by assumption) ?_
    refine z_ret P_joined_d183 rfl ?_
    refine ⟨congrArg (fun z => some (Value.int z)) ?_, rfl⟩
    unfold qjn
    rw [if_neg (show ¬ (47 : Int32) = 124 by decide)]
    rw [if_neg (show ¬ (47 : Int32) = 38 by decide)]
    rw [if_neg (show ¬ (47 : Int32) = 60 by decide)]
    rw [if_neg (show ¬ (47 : Int32) = 61 by decide)]
    rw [if_neg (show ¬ (47 : Int32) = 62 by decide)]
    rw [if_neg (show ¬ (47 : Int32) = 43 by decide)]
    rw [if_neg (show ¬ (47 : Int32) = 45 by decide)]
    rw [if_neg (show ¬ (47 : Int32) = 42 by decide)]
    rw [if_pos rfl]
    first | rw [if_pos h173] | rw [if_neg h173]
  · refine zb P_joined_s176 rfl ?_
    refine z_ret P_joined_d183 rfl ?_
    refine ⟨congrArg (fun z => some (Value.int z)) ?_, rfl⟩
    unfold qjn
    rw [if_neg (show ¬ (47 : Int32) = 124 by decide)]
    rw [if_neg (show ¬ (47 : Int32) = 38 by decide)]
    rw [if_neg (show ¬ (47 : Int32) = 60 by decide)]
    rw [if_neg (show ¬ (47 : Int32) = 61 by decide)]
    rw [if_neg (show ¬ (47 : Int32) = 62 by decide)]
    rw [if_neg (show ¬ (47 : Int32) = 43 by decide)]
    rw [if_neg (show ¬ (47 : Int32) = 45 by decide)]
    rw [if_neg (show ¬ (47 : Int32) = 42 by decide)]
    rw [if_pos rfl]
    first | rw [if_pos h173] | rw [if_neg h173]

set_option maxRecDepth 100000 in
set_option maxHeartbeats 4000000 in
theorem x_join_37 {g : zG} {d : Nat} {μ : zMem} (hd : 1 ≤ d) (u v : Int32) : zM g d P_joined [.int 37, .int u, .int v] μ (fun r μ' => r = some (.int (qjn 37 u v)) ∧ μ' = μ) := by
  refine zM_of (by decide +kernel) rfl rfl (Nat.le_of_ble_eq_true rfl) rfl ?_
  refine zb P_joined_s0 rfl ?_
  refine z_look P_joined_d1 (tgt := 184) (off := 183) (by decide) (by decide) rfl ?_
  refine zb P_joined_s184 rfl ?_
  refine z_ne P_joined_d185 (tgt := 192) rfl (fun h185 => ?_) (fun h185 => ?_)
  · refine zb1 P_joined_s192 rfl (by assumption) ?_
    refine z_ret P_joined_d195 rfl ?_
    refine ⟨congrArg (fun z => some (Value.int z)) ?_, rfl⟩
    unfold qjn
    rw [if_neg (show ¬ (37 : Int32) = 124 by decide)]
    rw [if_neg (show ¬ (37 : Int32) = 38 by decide)]
    rw [if_neg (show ¬ (37 : Int32) = 60 by decide)]
    rw [if_neg (show ¬ (37 : Int32) = 61 by decide)]
    rw [if_neg (show ¬ (37 : Int32) = 62 by decide)]
    rw [if_neg (show ¬ (37 : Int32) = 43 by decide)]
    rw [if_neg (show ¬ (37 : Int32) = 45 by decide)]
    rw [if_neg (show ¬ (37 : Int32) = 42 by decide)]
    rw [if_neg (show ¬ (37 : Int32) = 47 by decide)]
    first | rw [if_pos h185] | rw [if_neg h185]
  · refine zb P_joined_s188 rfl ?_
    refine z_ret P_joined_d195 rfl ?_
    refine ⟨congrArg (fun z => some (Value.int z)) ?_, rfl⟩
    unfold qjn
    rw [if_neg (show ¬ (37 : Int32) = 124 by decide)]
    rw [if_neg (show ¬ (37 : Int32) = 38 by decide)]
    rw [if_neg (show ¬ (37 : Int32) = 60 by decide)]
    rw [if_neg (show ¬ (37 : Int32) = 61 by decide)]
    rw [if_neg (show ¬ (37 : Int32) = 62 by decide)]
    rw [if_neg (show ¬ (37 : Int32) = 43 by decide)]
    rw [if_neg (show ¬ (37 : Int32) = 45 by decide)]
    rw [if_neg (show ¬ (37 : Int32) = 42 by decide)]
    rw [if_neg (show ¬ (37 : Int32) = 47 by decide)]
    first | rw [if_pos h185] | rw [if_neg h185]
