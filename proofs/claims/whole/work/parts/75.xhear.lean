/-! the class: vows that cannot be heard; sets of vows heard -/
abbrev lyT : Type := Int32 × Int32 × Int32 × Int32 × Int32 × (Nat → Int32)
def lyA (F : zF) (b : Nat) : Nat := bitsN (fun v => fbell F v = nI b) (fV F)
def lyK (F : zF) (h : Int32) (v : Nat) : Int32 := giv F v (fbell F v) 1 0 h
def lyB (F : zF) (dd h : Int32) (v : Nat) : Int32 := giv F v (fbell F v) 0 dd h
def lyM (F : zF) (dd h : Int32) (v : Nat) : Int32 := lyB F dd h v - lyK F h v
def lyS (F : zF) (b : Nat) (h : Int32) : Nat → Int32 := zsum (fun v => if fbell F v = nI b then lyK F h v else 0)
def lyO (F : zF) (b : Nat) (dd h : Int32) (s : Nat) : Int32 := lyS F b h (fV F) + moreS (lyM F dd h) s
def lyN (s off : Int32) (t : lyT) : lyT := (t.1 + 1, (if t.2.2.2.2.2 (off + 108).toNatClampNeg = 0 then t.2.1 + 1 else t.2.1), t.2.2.1 &&& s, t.2.2.2.1 ||| s, (if t.1 = 0 then s else t.2.2.2.2.1), (if t.2.2.2.2.2 (off + 108).toNatClampNeg = 0 then fu t.2.2.2.2.2 (off + 108).toNatClampNeg 1 else t.2.2.2.2.2))
def lyF (F : zF) (b : Nat) (dd h told pitch : Int32) (s : Nat) (t : lyT) : lyT := if told = 0 ∨ ftone F b + lyO F b dd h s = pitch then lyN (nI s) (lyO F b dd h s) t else t
def lyI (F : zF) (b : Nat) (dd h told pitch l0 : Int32) : lyT := zfold (fA (lyA F b) (lyF F b dd h told pitch)) 0 (2 ^ fV F) (0, 0, nI (lyA F b), 0, l0, fun _ => 0)
def lyR (t : lyT) (μ : zMem) : Prop := μ.1 5 6 = t.1 ∧ μ.1 5 7 = t.2.1 ∧ μ.1 5 8 = t.2.2.1 ∧ μ.1 5 9 = t.2.2.2.1 ∧ μ.1 5 10 = t.2.2.2.2.1 ∧ ∀ p, p < 217 → μ.1 65 p = t.2.2.2.2.2 p
def lyQ (c k : Nat) : Bool := (c == 5 && Nat.ble 6 k) || c == 65
theorem lyQ_sX : ∀ c k, lyQ c k = true → sX c k = true := by
  intro c k h
  unfold lyQ at h
  unfold sX
  rw [Bool.or_eq_true] at h
  rcases h with h | h
  · rw [h, Bool.or_true]
  · rw [beq_iff_eq] at h
    subst h
    rfl
theorem lyA_lt (F : zF) (b : Nat) : lyA F b < 2 ^ fV F := bitsN_lt _ _
theorem lyA_at {F : zF} {b v : Nat} : lyA F b / 2 ^ v % 2 = 1 ↔ v < fV F ∧ fbell F v = nI b := by
  unfold lyA
  rw [bitsN_at]
  by_cases q : v < fV F ∧ fbell F v = nI b
  · rw [if_pos q]; exact ⟨fun _ => q, fun _ => rfl⟩
  · rw [if_neg q]; exact ⟨fun z => absurd z (by decide), fun z => absurd z q⟩
theorem set_is {F : zF} (hV : fV F ≤ 12) (b : Nat) : setOf F (nI b) = nI (lyA F b) := bits_fold (fun v => fbell F v = nI b) (fV F) hV
theorem lyM_r {F : zF} (hF : okF F) {dd h : Int32} {v : Nat} (hv : v < fV F) : r9 (lyK F h v) ∧ r9 (lyB F dd h v) := ⟨giv_r9 hF hv _ _ _ _, giv_r9 hF hv _ _ _ _⟩
/-- what a set makes of a bell, by what is in it and what is not -/
theorem lyO_is {F : zF} (hV : fV F ≤ 12) {b s w : Nat} {dd h : Int32} (hs : s < 4096) (hw : w < 2 ^ fV F) (hbit : ∀ v, v < fV F → (w / 2 ^ v % 2 = 1 ↔ s / 2 ^ v % 2 = 1 ∧ fbell F v = nI b)) : zsum (pbT F (lyK F h) (lyB F dd h) (nI b) (nI s)) (fV F) = lyO F b dd h w := by
  unfold lyO lyS
  have e : moreS (lyM F dd h) w = zsum (fun v => if w / 2 ^ v % 2 = 1 then lyM F dd h v else 0) (fV F) := by
    unfold moreS
    have e : 12 = fV F + (12 - fV F) := by omega
    rw [show zsum (fun v => if w / 2 ^ v % 2 = 1 then lyM F dd h v else 0) 12 = zsum (fun v => if w / 2 ^ v % 2 = 1 then lyM F dd h v else 0) (fV F + (12 - fV F)) by rw [← e]]
    exact zsum_tail (fV F) (12 - fV F) (fun b h1 h2 => if_neg (fun z => by have := bit_lt hw z; omega))
  rw [e, ← zsum_add]
  refine zsum_congr _ (fun v hv => ?_)
  have hh := bit_has (v := v) (s := s) (by omega) hs
  have hbv := hbit v hv
  unfold pbT
  by_cases q : fbell F v = nI b
  · rw [if_pos q, if_pos q]
    by_cases y : s / 2 ^ v % 2 = 1
    · rw [if_pos (hh.mpr y), if_pos (hbv.mpr ⟨y, q⟩)]
      unfold lyM
      rw [Int32.add_comm, Int32.sub_add_cancel]
    · rw [if_neg (fun z => y (hh.mp z)), if_neg (fun z => y (hbv.mp z).1), Int32.add_zero]
  · rw [if_neg q, if_neg q, if_neg (fun z => q (hbv.mp z).2)]
    rfl
theorem lyO_in {F : zF} (hF : okF F) (hV : fV F ≤ 12) {b s : Nat} {dd h : Int32} (hs : sbm (lyA F b) s) : ∃ p : Nat, p < 217 ∧ lyO F b dd h s + 108 = nI p := by
  have hlt : s < 2 ^ fV F := Nat.lt_of_le_of_lt (sbm_le hs) (lyA_lt F b)
  have h4 : s < 4096 := lt_2 hV hlt
  rw [← lyO_is hV (b := b) (dd := dd) (h := h) h4 hlt (fun v hv => ⟨fun z => ⟨z, (lyA_at.mp (sbm_bits hs z)).2⟩, fun z => z.1⟩)]
  have k := zsum_r9 (f := pbT F (lyK F h) (lyB F dd h) (nI b) (nI s)) (fV F) hV (fun v hv => by
    unfold pbT
    split
    · split
      · exact (lyM_r hF hv).2
      · exact (lyM_r (dd := dd) hF hv).1
    · exact ⟨by decide, by decide⟩)
  generalize zsum (pbT F (lyK F h) (lyB F dd h) (nI b) (nI s)) (fV F) = x at k ⊢
  refine ⟨(x.toInt + 108).toNat, by omega, ?_⟩
  apply Int32.toInt_inj.mp
  rw [Int32.toInt_add, show (108 : Int32).toInt = 108 from rfl, zbm (by omega) (by omega), nI_toInt (by omega)]
  omega

set_option maxRecDepth 100000 in
set_option maxHeartbeats 4000000 in
theorem x_note {g : zG} {d p : Nat} {μ : zMem} {t : lyT} {s off : Int32} (hp : p < 217) (hoff : off + 108 = nI p) (ht : lyR t μ) : zM g d L_note [.ref 5, .int s, .int off] μ (fun r μ' => r = none ∧ zq lyQ μ μ' ∧ lyR (lyN s off t) μ') := by
  refine zM_of (by decide +kernel) rfl rfl (Nat.le_of_ble_eq_true rfl) rfl ?_
  obtain ⟨h1, h2, h3, g4, h5, h6⟩ := ht
  have ep : (nI p).toNatClampNeg = p := nI_clamp (by omega)
  have hvp : vp_in (nI p) 217 := vp_in_nI hp (by omega)
  have h6p := h6 p hp
  refine zb L_note_s0 rfl ?_
  refine z_ne L_note_d4 (tgt := 12) rfl (fun h4 => ?_) (fun h4 => ?_)
  · refine zb L_note_s12 rfl ?_
    rw [hoff]
    refine z_lt L_note_d48 (tgt := 86) rfl (fun h48 => absurd h48 (nI_pos (by omega))) (fun h48 => ?_)
    refine zb L_note_s51 rfl ?_
    refine z_cge L_note_d57 (tgt := 86) rfl (fun h57 => absurd h57 (nI_ge (b := 217) hp (by omega))) (fun h57 => ?_)
    refine zb1 L_note_s60 rfl hvp ?_
    refine z_ne L_note_d66 (tgt := 86) rfl (fun h66 => ?_) (fun h66 => ?_)
    · refine z_retV L_note_d86 rfl ?_
      simp (disch := decide) only [zpI_ne, zpI_at, Nat.reduceEqDiff, reduceIte, ep] at h66
      rw [h6p] at h66
      rw [h1] at h4
      refine ⟨rfl, ?_, ?_⟩
      · repeat (first | exact zq.rf | refine zq.put ?_ rfl)
      · unfold lyN
        rw [hoff, ep]
        first | rw [if_pos h66, if_pos h66] | rw [if_neg h66, if_neg h66]
        first | rw [if_pos h4] | rw [if_neg h4]
        refine ⟨?_, ?_, ?_, ?_, ?_, fun q hq => ?_⟩
        · simp (disch := decide) only [zpI_ne, zpI_at, Nat.reduceEqDiff, reduceIte, h1]
        · simp (disch := decide) only [zpI_ne, zpI_at, Nat.reduceEqDiff, reduceIte, h2]
        · simp (disch := decide) only [zpI_ne, zpI_at, Nat.reduceEqDiff, reduceIte, h3]
        · simp (disch := decide) only [zpI_ne, zpI_at, Nat.reduceEqDiff, reduceIte, g4]
        · simp (disch := decide) only [zpI_ne, zpI_at, Nat.reduceEqDiff, reduceIte, h5]
        · simp (disch := decide) only [zpI_ne, zpI_at, Nat.reduceEqDiff, reduceIte, fu, h6 q hq, ep]
    · refine zb1 L_note_s69 rfl hvp ?_
      refine z_retV L_note_d86 rfl ?_
      simp (disch := decide) only [zpI_ne, zpI_at, Nat.reduceEqDiff, reduceIte, ep] at h66
      rw [h6p] at h66
      rw [h1] at h4
      refine ⟨rfl, ?_, ?_⟩
      · repeat (first | exact zq.rf | refine zq.put ?_ rfl)
      · unfold lyN
        rw [hoff, ep]
        first | rw [if_pos h66, if_pos h66] | rw [if_neg h66, if_neg h66]
        first | rw [if_pos h4] | rw [if_neg h4]
        refine ⟨?_, ?_, ?_, ?_, ?_, fun q hq => ?_⟩
        · simp (disch := decide) only [zpI_ne, zpI_at, Nat.reduceEqDiff, reduceIte, h1]
        · simp (disch := decide) only [zpI_ne, zpI_at, Nat.reduceEqDiff, reduceIte, h2]
        · simp (disch := decide) only [zpI_ne, zpI_at, Nat.reduceEqDiff, reduceIte, h3]
        · simp (disch := decide) only [zpI_ne, zpI_at, Nat.reduceEqDiff, reduceIte, g4]
        · simp (disch := decide) only [zpI_ne, zpI_at, Nat.reduceEqDiff, reduceIte, h5]
        · simp (disch := decide) only [zpI_ne, zpI_at, Nat.reduceEqDiff, reduceIte, fu, h6 q hq, ep]
  · refine zb L_note_s7 rfl ?_
    rw [hoff]
    refine z_lt L_note_d48 (tgt := 86) rfl (fun h48 => absurd h48 (nI_pos (by omega))) (fun h48 => ?_)
    refine zb L_note_s51 rfl ?_
    refine z_cge L_note_d57 (tgt := 86) rfl (fun h57 => absurd h57 (nI_ge (b := 217) hp (by omega))) (fun h57 => ?_)
    refine zb1 L_note_s60 rfl hvp ?_
    refine z_ne L_note_d66 (tgt := 86) rfl (fun h66 => ?_) (fun h66 => ?_)
    · refine z_retV L_note_d86 rfl ?_
      simp (disch := decide) only [zpI_ne, zpI_at, Nat.reduceEqDiff, reduceIte, ep] at h66
      rw [h6p] at h66
      rw [h1] at h4
      refine ⟨rfl, ?_, ?_⟩
      · repeat (first | exact zq.rf | refine zq.put ?_ rfl)
      · unfold lyN
        rw [hoff, ep]
        first | rw [if_pos h66, if_pos h66] | rw [if_neg h66, if_neg h66]
        first | rw [if_pos h4] | rw [if_neg h4]
        refine ⟨?_, ?_, ?_, ?_, ?_, fun q hq => ?_⟩
        · simp (disch := decide) only [zpI_ne, zpI_at, Nat.reduceEqDiff, reduceIte, h1]
        · simp (disch := decide) only [zpI_ne, zpI_at, Nat.reduceEqDiff, reduceIte, h2]
        · simp (disch := decide) only [zpI_ne, zpI_at, Nat.reduceEqDiff, reduceIte, h3]
        · simp (disch := decide) only [zpI_ne, zpI_at, Nat.reduceEqDiff, reduceIte, g4]
        · simp (disch := decide) only [zpI_ne, zpI_at, Nat.reduceEqDiff, reduceIte, h5]
        · simp (disch := decide) only [zpI_ne, zpI_at, Nat.reduceEqDiff, reduceIte, fu, h6 q hq, ep]
    · refine zb1 L_note_s69 rfl hvp ?_
      refine z_retV L_note_d86 rfl ?_
      simp (disch := decide) only [zpI_ne, zpI_at, Nat.reduceEqDiff, reduceIte, ep] at h66
      rw [h6p] at h66
      rw [h1] at h4
      refine ⟨rfl, ?_, ?_⟩
      · repeat (first | exact zq.rf | refine zq.put ?_ rfl)
      · unfold lyN
        rw [hoff, ep]
        first | rw [if_pos h66, if_pos h66] | rw [if_neg h66, if_neg h66]
        first | rw [if_pos h4] | rw [if_neg h4]
        refine ⟨?_, ?_, ?_, ?_, ?_, fun q hq => ?_⟩
        · simp (disch := decide) only [zpI_ne, zpI_at, Nat.reduceEqDiff, reduceIte, h1]
        · simp (disch := decide) only [zpI_ne, zpI_at, Nat.reduceEqDiff, reduceIte, h2]
        · simp (disch := decide) only [zpI_ne, zpI_at, Nat.reduceEqDiff, reduceIte, h3]
        · simp (disch := decide) only [zpI_ne, zpI_at, Nat.reduceEqDiff, reduceIte, g4]
        · simp (disch := decide) only [zpI_ne, zpI_at, Nat.reduceEqDiff, reduceIte, h5]
        · simp (disch := decide) only [zpI_ne, zpI_at, Nat.reduceEqDiff, reduceIte, fu, h6 q hq, ep]
