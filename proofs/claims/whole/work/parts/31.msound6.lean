/-! the reference: what a shelf tells; which bell to strike, judging -/
abbrev r9 (x : Int32) : Prop := -9 ≤ x ∧ x ≤ 9
def okF (F : zF) : Prop := (∀ b, b < fB F → (0 ≤ ftone F b ∧ ftone F b ≤ 99) ∧ (1 ≤ ftune F b ∧ ftune F b ≤ 24)) ∧ (∀ v, v < fV F → (∃ b, b < fB F ∧ fbell F v = nI b) ∧ (1 ≤ fwt F v ∧ fwt F v ≤ 9) ∧ (0 ≤ fby F v ∧ fby F v ≤ 5) ∧ (0 ≤ fbr F v ∧ fbr F v ≤ 999) ∧ (0 ≤ fag F v ∧ fag F v ≤ 999)) ∧ (∀ w k dd h b p, 1 ≤ w → w ≤ 9 → r9 (flaw F w k dd h b p))
theorem r9_int {x : Int32} (h : r9 x) : -9 ≤ x.toInt ∧ x.toInt ≤ 9 := ⟨Int32.le_iff_toInt_le.mp h.1, Int32.le_iff_toInt_le.mp h.2⟩
theorem zbm {z : Int} (h1 : -2147483648 ≤ z) (h2 : z < 2147483648) : z.bmod (2 ^ 32) = z := by
  rw [Int.bmod_def]
  split <;> omega
theorem zsum_r9 {f : Nat → Int32} : ∀ n : Nat, n ≤ 12 → (∀ v, v < n → r9 (f v)) → -(9 * (n : Int)) ≤ (zsum f n).toInt ∧ (zsum f n).toInt ≤ 9 * (n : Int)
  | 0, _, _ => by
    show -(9 * ((0 : Nat) : Int)) ≤ (0 : Int32).toInt ∧ (0 : Int32).toInt ≤ 9 * ((0 : Nat) : Int)
    decide
  | n + 1, hn, h => by
    have h1 := zsum_r9 n (by omega) (fun v hv => h v (by omega))
    have h2 := r9_int (h n (by omega))
    rw [zsum_s, Int32.toInt_add, zbm (by omega) (by omega)]
    omega
theorem giv_r9 {F : zF} (hF : okF F) {v : Nat} (hv : v < fV F) (b k dd h : Int32) : r9 (giv F v b k dd h) := hF.2.2 _ _ _ _ _ _ (hF.2.1 v hv).2.1.1 (hF.2.1 v hv).2.1.2
theorem pby_ix {F : zF} (hF : okF F) {kp bp : Nat → Int32} (hg : ∀ v, v < fV F → r9 (kp v) ∧ r9 (bp v)) (hV : fV F ≤ 12) {b : Nat} (hb : b < fB F) (hb6 : b < 6) (set : Int32) : ∃ p : Nat, p < 320 ∧ pby F kp bp (nI b) set + 108 = nI p := by
  have h1 := zsum_r9 (f := pbT F kp bp (nI b) set) (fV F) hV (fun v hv => by
    unfold pbT
    split
    · split
      · exact (hg v hv).2
      · exact (hg v hv).1
    · exact ⟨by decide, by decide⟩)
  have h2 : 0 ≤ (ftone F b).toInt ∧ (ftone F b).toInt ≤ 99 := ⟨Int32.le_iff_toInt_le.mp (hF.1 b hb).1.1, Int32.le_iff_toInt_le.mp (hF.1 b hb).1.2⟩
  have e : (pby F kp bp (nI b) set + 108).toInt = (ftone F b).toInt + (zsum (pbT F kp bp (nI b) set) (fV F)).toInt + 108 := by
    unfold pby
    rw [nI_clamp (by omega), Int32.toInt_add, Int32.toInt_add, show (108 : Int32).toInt = 108 from rfl, zbm (z := (ftone F b).toInt + _) (by omega) (by omega), zbm (by omega) (by omega)]
  refine ⟨((ftone F b).toInt + (zsum (pbT F kp bp (nI b) set) (fV F)).toInt + 108).toNat, by omega, ?_⟩
  apply Int32.toInt_inj.mp
  rw [e, nI_toInt (by omega)]
  omega
/-- a shelf's row: its length and its numbers -/
def oR (s n : Nat) (c : Nat → Int32) (μ : zMem) : Prop := s < 6 ∧ n ≤ 60 ∧ μ.1 50 s = nI n ∧ ∀ i, i < 60 → (μ.2.1 52 (60 * s + i)).toInt32 = c i
theorem oR.q {s n : Nat} {c : Nat → Int32} {μ μ' : zMem} (h : oR s n c μ) (hz : zq sM μ μ') : oR s n c μ' := ⟨h.1, h.2.1, by rw [hz.1 50 s rfl]; exact h.2.2.1, fun i hi => by rw [hz.2]; exact h.2.2.2 i hi⟩
abbrev leftP (F : zF) (kp bp : Nat → Int32) (n : Nat) (c : Nat → Int32) (set : Int32) : Prop := ∀ b, b < fB F → (b < n → (c b = -1 ∨ c b = pby F kp bp (nI b) set))
theorem zpI_at {μ : zMem} {c k p : Nat} {x : Int32} : (zpI μ c k x).1 c p = if p = k then x else μ.1 c p := by simp [zpI, zu]
def fu (f : Nat → Int32) (v : Nat) (x : Int32) : Nat → Int32 := fun j => if j = v then x else f j
def unStep (F : zF) (kp bp : Nat → Int32) (n : Nat) (c : Nat → Int32) (b : Nat) (s : Nat) (t : Int32 × (Nat → Int32)) : Int32 × (Nat → Int32) := if ¬ t.2 (pby F kp bp (nI b) (nI s) + 108).toNatClampNeg = 0 ∨ ¬ leftP F kp bp n c (nI s) then t else (t.1 + 1, fu t.2 (pby F kp bp (nI b) (nI s) + 108).toNatClampNeg 1)
def unS (F : zF) (kp bp : Nat → Int32) (n : Nat) (c : Nat → Int32) (b : Nat) : Int32 := (zfold (unStep F kp bp n c b) 0 (2 ^ fV F) (0, fun _ => 0)).1
def strN (F : zF) (kp bp : Nat → Int32) (n : Nat) (c : Nat → Int32) : Int32 := zsum (fun s => zB (leftP F kp bp n c (nI s))) (2 ^ fV F)
def strStep (F : zF) (kp bp : Nat → Int32) (n : Nat) (c : Nat → Int32) (b : Nat) (t : Int32 × Int32) : Int32 × Int32 := if t.1 = -2 ∨ t.2 < unS F kp bp n c b then (nI b, unS F kp bp n c b) else t
def strB (F : zF) (kp bp : Nat → Int32) (n : Nat) (c : Nat → Int32) : Int32 × Int32 := zfold (strStep F kp bp n c) 0 (fB F) (-2, 0)
def strW (F : zF) (kp bp : Nat → Int32) (n : Nat) (c : Nat → Int32) (w : Int32) : Int32 := if w = 0 then strN F kp bp n c else if strN F kp bp n c = 0 ∨ fB F = 0 then -2 else if w = 1 then (strB F kp bp n c).1 else (strB F kp bp n c).2
abbrev judP (F : zF) (b D : Nat) (h : Int32) (c : Nat → Int32) (i : Nat) : Prop := D + i ≤ 998 ∧ ftone F b + offs F (nI b) (nI (D + i)) h = c i

set_option maxRecDepth 100000 in
set_option maxHeartbeats 4000000 in
theorem o_isShelf {g : zG} {d : Nat} {μ : zMem} (v : Int32) : zM g d M_isShelf [.ref 0, .int v] μ (fun r μ' => r = some (.int (zB (0 ≤ v ∧ v < 6))) ∧ μ' = μ) := by
  refine zM_of (by decide +kernel) rfl rfl (Nat.le_of_ble_eq_true rfl) rfl ?_
  refine zb M_isShelf_s0 rfl ?_
  refine z_lt M_isShelf_d1 (tgt := 14) rfl (fun h1 => ?_) (fun h1 => ?_)
  · refine zb M_isShelf_s14 rfl ?_
    refine z_retZ M_isShelf_d15 rfl (by first | exact Or.inl rfl | exact Or.inr rfl) ?_
    first | exact ⟨by rw [zB_t (by grind)], rfl⟩ | exact ⟨by rw [zB_f (by grind)], rfl⟩
  · refine zb M_isShelf_s4 rfl ?_
    refine z_cge M_isShelf_d7 (tgt := 14) rfl (fun h7 => ?_) (fun h7 => ?_)
    · refine zb M_isShelf_s14 rfl ?_
      refine z_retZ M_isShelf_d15 rfl (by first | exact Or.inl rfl | exact Or.inr rfl) ?_
      first | exact ⟨by rw [zB_t (by grind)], rfl⟩ | exact ⟨by rw [zB_f (by grind)], rfl⟩
    · refine zb M_isShelf_s10 rfl ?_
      refine z_retZ M_isShelf_d15 rfl (by first | exact Or.inl rfl | exact Or.inr rfl) ?_
      first | exact ⟨by rw [zB_t (by grind)], rfl⟩ | exact ⟨by rw [zB_f (by grind)], rfl⟩

set_option maxRecDepth 100000 in
set_option maxHeartbeats 4000000 in
theorem o_barsOf {g : zG} {d s : Nat} {μ : zMem} (hs : s < 6) : zM g d M_barsOf [.ref 0, .int (nI s)] μ (fun r μ' => r = some (.int (if μ.1 48 s = 0 then -11 else if μ.1 48 s = 2 ∧ μ.1 49 s = 1 then 0 else -12)) ∧ μ' = μ) := by
  refine zM_of (by decide +kernel) rfl rfl (Nat.le_of_ble_eq_true rfl) rfl ?_
  have ei : (nI s).toNatClampNeg = s := nI_clamp (by omega)
  refine zb1 M_barsOf_s0 rfl (by first | assumption | exact vp_in_nI (by omega) (by omega) | decide) ?_
  refine z_ne M_barsOf_d6 (tgt := 14) rfl (fun h6 => ?_) (fun h6 => ?_)
  · refine zb1 M_barsOf_s14 rfl (by first | assumption | exact vp_in_nI (by omega) (by omega) | decide) ?_
    refine z_cne M_barsOf_d21 (tgt := 34) rfl (fun h21 => ?_) (fun h21 => ?_)
    · refine zb M_barsOf_s34 rfl ?_
      refine z_ret M_barsOf_d40 rfl ?_
      (try simp only [ei] at h6); (try simp only [ei] at h21); (try simp only [ei] at h31)
      first
        | exact ⟨by rw [if_pos h6], rfl⟩
        | exact ⟨by rw [if_neg h6, if_pos (And.intro h21 h31)], rfl⟩
        | exact ⟨by rw [if_neg h6, if_neg (fun z => h21 z.1)], rfl⟩
        | exact ⟨by rw [if_neg h6, if_neg (fun z => h31 z.2)], rfl⟩
    · refine zb1 M_barsOf_s24 rfl (by first | assumption | exact vp_in_nI (by omega) (by omega) | decide) ?_
      refine z_ceq M_barsOf_d31 (tgt := 39) rfl (fun h31 => ?_) (fun h31 => ?_)
      · refine zb M_barsOf_s39 rfl ?_
        refine z_ret M_barsOf_d40 rfl ?_
        (try simp only [ei] at h6); (try simp only [ei] at h21); (try simp only [ei] at h31)
        first
          | exact ⟨by rw [if_pos h6], rfl⟩
          | exact ⟨by rw [if_neg h6, if_pos (And.intro h21 h31)], rfl⟩
          | exact ⟨by rw [if_neg h6, if_neg (fun z => h21 z.1)], rfl⟩
          | exact ⟨by rw [if_neg h6, if_neg (fun z => h31 z.2)], rfl⟩
      · refine zb M_barsOf_s34 rfl ?_
        refine z_ret M_barsOf_d40 rfl ?_
        (try simp only [ei] at h6); (try simp only [ei] at h21); (try simp only [ei] at h31)
        first
          | exact ⟨by rw [if_pos h6], rfl⟩
          | exact ⟨by rw [if_neg h6, if_pos (And.intro h21 h31)], rfl⟩
          | exact ⟨by rw [if_neg h6, if_neg (fun z => h21 z.1)], rfl⟩
          | exact ⟨by rw [if_neg h6, if_neg (fun z => h31 z.2)], rfl⟩
  · refine zb M_barsOf_s9 rfl ?_
    refine z_ret M_barsOf_d40 rfl ?_
    (try simp only [ei] at h6); (try simp only [ei] at h21); (try simp only [ei] at h31)
    first
      | exact ⟨by rw [if_pos h6], rfl⟩
      | exact ⟨by rw [if_neg h6, if_pos (And.intro h21 h31)], rfl⟩
      | exact ⟨by rw [if_neg h6, if_neg (fun z => h21 z.1)], rfl⟩
      | exact ⟨by rw [if_neg h6, if_neg (fun z => h31 z.2)], rfl⟩

set_option maxRecDepth 100000 in
set_option maxHeartbeats 4000000 in
theorem o_intAt {g : zG} {d s n i : Nat} {c : Nat → Int32} {μ : zMem} (hr : oR s n c μ) (hi : i < 60) : zM g d M_intAt [.ref 0, .int (nI s), .int (nI i)] μ (fun r μ' => r = some (.int (c i)) ∧ μ' = μ) := by
  refine zM_of (by decide +kernel) rfl rfl (Nat.le_of_ble_eq_true rfl) rfl ?_
  have h6 := hr.1
  have e : (60 : Int32) * nI s + nI i = nI (60 * s + i) := by rw [show (60 : Int32) = nI 60 from rfl, pk_mul, nI_add]
  have hv : vp_in ((60 : Int32) * nI s + nI i) 360 := by rw [e]; exact vp_in_nI (by omega) (by omega)
  refine zb1 M_intAt_s0 rfl hv ?_
  refine z_ret M_intAt_d12 rfl ?_
  refine ⟨?_, rfl⟩
  rw [e, nI_clamp (by omega), hr.2.2.2 i hi]

set_option maxRecDepth 100000 in
set_option maxHeartbeats 4000000 in
theorem w_M_isLeft {g : zG} {d : Nat} {F : zF} {μ0 : zMem} {kp bp : Nat → Int32} {s n : Nat} {c : Nat → Int32} {set : Int32} (hd : 2 ≤ d) : ∀ (j i : Nat) (μ : zMem), i + j = fB F → oM F μ → (∀ v, v < fV F → μ.1 39 v = kp v ∧ μ.1 40 v = bp v) → oR s n c μ → (∀ b, b < i → (b < n → (c b = -1 ∨ c b = pby F kp bp (nI b) set))) → zW g M_isLeft d 2 [some (.ref 0), some (.int (nI s)), some (.int set), some (.int (nI i))] [] μ (fun r μ' => r = some (.int (zB (leftP F kp bp n c set))) ∧ μ' = μ) := by
  intro j
  induction j with
  | zero =>
    intro i  μ hi ho hk hr hv0
    have hbd := ho.b
    have h12 := ho.v12
    have h6 := ho.b6
    have hs6 := hr.1
    have hn60 := hr.2.1
    have hsz := hr.2.2.1
    have hvs : vp_in (nI s) 6 := vp_in_nI (by omega) (by omega)
    have es : (nI s).toNatClampNeg = s := nI_clamp (by omega)
    have hi : i = fB F := by omega
    subst hi
    refine zb M_isLeft_s2 rfl ?_
    refine z_cge M_isLeft_d7 (tgt := 53) rfl (fun h7 => ?_) (fun h7 => absurd (show μ.1 0 0 ≤ nI (fB F) by first | exact Int32.le_refl _ | (rw [hbd]; exact Int32.le_refl _)) h7)
    refine zb M_isLeft_s53 rfl ?_
    refine z_retZ M_isLeft_d54 rfl (by first | exact Or.inl rfl | exact Or.inr rfl) ?_
    exact ⟨by rw [zB_t (by exact hv0)], rfl⟩
  | succ j ih =>
    intro i  μ hi ho hk hr hv0
    have hbd := ho.b
    have h12 := ho.v12
    have h6 := ho.b6
    have hs6 := hr.1
    have hn60 := hr.2.1
    have hsz := hr.2.2.1
    have hvs : vp_in (nI s) 6 := vp_in_nI (by omega) (by omega)
    have es : (nI s).toNatClampNeg = s := nI_clamp (by omega)
    have hilt : i < fB F := by omega
    have ei : (nI i).toNatClampNeg = i := nI_clamp (by omega)
    refine zb M_isLeft_s2 rfl ?_
    refine z_cge M_isLeft_d7 (tgt := 53) rfl (fun h7 => absurd h7 (show ¬ μ.1 0 0 ≤ nI i by first | exact nI_ge hilt (by omega) | (rw [hbd]; exact nI_ge hilt (by omega)))) (fun h7 => ?_)
    refine zb1 M_isLeft_s10 rfl hvs ?_
    refine z_cge M_isLeft_d17 (tgt := 53) rfl (fun h17 => ?_) (fun h17 => ?_)
    · rw [es, hsz, nI_leI (by omega) (by omega)] at h17
      refine zb M_isLeft_s53 rfl ?_
      refine z_retZ M_isLeft_d54 rfl (by first | exact Or.inl rfl | exact Or.inr rfl) ?_
      first
        | exact ⟨by rw [zB_f (fun z => (z i hilt (by omega)).elim h27 h42)], rfl⟩
        | exact ⟨by rw [zB_t (fun b hb hbn => hv0 b (by omega) hbn)], rfl⟩
    · rw [es, hsz, nI_leI (by omega) (by omega)] at h17
      have hbi : vp_in (nI i) 6 := vp_in_nI (by omega) (by omega)
      refine zb M_isLeft_s20 rfl ?_
      refine zcallV M_isLeft_d23 k11_127 (by omega) (o_intAt hr (by omega)) rfl rfl rfl (Nat.le_of_ble_eq_true rfl) ?_
      rintro _ μx ⟨rfl, hx⟩
      rw [hx]
      clear hx μx
      refine zb M_isLeft_s26 rfl ?_
      refine z_ceq M_isLeft_d27 (tgt := 47) rfl (fun h27 => ?_) (fun h27 => ?_)
      · refine zb M_isLeft_s47 rfl ?_
        rw [nI_1]
        refine ih (i + 1) _ (by omega) ho hk hr (fun b hb hbn => ?_)
        rcases Nat.lt_or_ge b i with q | q
        · exact hv0 b q hbn
        · rw [show b = i by omega]
          first | exact Or.inr h42 | exact Or.inl h27
      · refine zb M_isLeft_s30 rfl ?_
        refine zcallV M_isLeft_d33 k11_127 (by omega) (o_intAt hr (by omega)) rfl rfl rfl (Nat.le_of_ble_eq_true rfl) ?_
        rintro _ μx ⟨rfl, hx⟩
        rw [hx]
        clear hx μx
        refine zb M_isLeft_s36 rfl ?_
        refine zcallV M_isLeft_d39 k11_313 (by omega) (o_pitchBy (by omega) hbi ho hk) rfl rfl rfl (Nat.le_of_ble_eq_true rfl) ?_
        rintro _ μx ⟨rfl, hx⟩
        rw [hx]
        clear hx μx
        refine z_ceq M_isLeft_d42 (tgt := 47) rfl (fun h42 => ?_) (fun h42 => ?_)
        · refine zb M_isLeft_s47 rfl ?_
          rw [nI_1]
          refine ih (i + 1) _ (by omega) ho hk hr (fun b hb hbn => ?_)
          rcases Nat.lt_or_ge b i with q | q
          · exact hv0 b q hbn
          · rw [show b = i by omega]
            first | exact Or.inr h42 | exact Or.inl h27
        · refine zb M_isLeft_s45 rfl ?_
          refine z_retZ M_isLeft_d46 rfl (by first | exact Or.inl rfl | exact Or.inr rfl) ?_
          first
            | exact ⟨by rw [zB_f (fun z => (z i hilt (by omega)).elim h27 h42)], rfl⟩
            | exact ⟨by rw [zB_t (fun b hb hbn => hv0 b (by omega) hbn)], rfl⟩

set_option maxRecDepth 100000 in
set_option maxHeartbeats 4000000 in
theorem o_isLeft {g : zG} {d : Nat} {F : zF} {μ : zMem} {kp bp : Nat → Int32} {s n : Nat} {c : Nat → Int32} {set : Int32} (hd : 2 ≤ d) (ho : oM F μ) (hk : (∀ v, v < fV F → μ.1 39 v = kp v ∧ μ.1 40 v = bp v)) (hr : oR s n c μ) : zM g d M_isLeft [.ref 0, .int (nI s), .int set] μ (fun r μ' => r = some (.int (zB (leftP F kp bp n c set))) ∧ μ' = μ) := by
  refine zM_of (by decide +kernel) rfl rfl (Nat.le_of_ble_eq_true rfl) rfl ?_
  refine zb M_isLeft_s0 rfl ?_
  exact w_M_isLeft (μ0 := μ) hd (fB F) 0 μ (by have := ho.b6; omega) ho hk hr (fun b hb => by omega)

set_option maxRecDepth 100000 in
set_option maxHeartbeats 4000000 in
theorem w_M_unlike0 {g : zG} {d : Nat} {F : zF} {μ0 : zMem} {kp bp : Nat → Int32} {s n : Nat} {c : Nat → Int32} {b : Nat} {i3 : Int32} {x5 : Option Value} {Q : Option Value → zMem → Prop} (hQ : ∀ μ : zMem, oM F μ → zq sM μ0 μ → (∀ v, v < fV F → μ.1 39 v = kp v ∧ μ.1 40 v = bp v) → oR s n c μ → (∀ p, p < 320 → μ.1 41 p = 0) → zW g M_unlike d 30 [some (.ref 0), some (.int (nI s)), some (.int (nI b)), some (.int i3), some (.int 0), x5] [] μ Q) : ∀ (j i : Nat) (μ : zMem), i + j = 320 → oM F μ → zq sM μ0 μ → (∀ v, v < fV F → μ.1 39 v = kp v ∧ μ.1 40 v = bp v) → oR s n c μ → (∀ p, p < i → μ.1 41 p = 0) → zW g M_unlike d 5 [some (.ref 0), some (.int (nI s)), some (.int (nI b)), some (.int i3), some (.int (nI i)), x5] [] μ (Q) := by
  intro j
  induction j with
  | zero =>
    intro i  μ hi ho hz hk hr hv0
    have hi : i = 320 := by omega
    subst hi
    refine zb M_unlike_s5 rfl ?_
    refine z_cge M_unlike_d10 (tgt := 27) rfl (fun h10 => ?_) (fun h10 => absurd (show 320 ≤ nI (320) by first | exact Int32.le_refl _ | (rw [hbd]; exact Int32.le_refl _)) h10)
    refine zb M_unlike_s27 rfl ?_
    exact hQ _ ho hz hk hr hv0
  | succ j ih =>
    intro i  μ hi ho hz hk hr hv0
    have hilt : i < 320 := by omega
    have ei : (nI i).toNatClampNeg = i := nI_clamp (by omega)
    refine zb M_unlike_s5 rfl ?_
    refine z_cge M_unlike_d10 (tgt := 27) rfl (fun h10 => absurd h10 (show ¬ 320 ≤ nI i by first | exact nI_ge (b := 320) hilt (by omega) | (rw [hbd]; exact nI_ge hilt (by omega)))) (fun h10 => ?_)
    refine zb1 M_unlike_s13 rfl ⟨vp_in_nI hilt (by omega), Or.inl rfl⟩ ?_
    rw [nI_1, ei]
    have hq : zq sM μ (zpI μ 41 i 0) := zq.rf.put rfl
    refine ih (i + 1) _ (by omega) (ho.q hq) (hz.tr hq) (fun v hv => hk v hv) (hr.q hq) (fun p hp => ?_)
    rw [zpI_at]
    by_cases q : p = i
    · rw [if_pos q]
    · rw [if_neg q]
      exact hv0 p (by omega)

set_option maxRecDepth 100000 in
set_option maxHeartbeats 4000000 in
theorem w_M_unlike {g : zG} {d : Nat} {F : zF} {μ0 : zMem} {kp bp : Nat → Int32} {s n : Nat} {c : Nat → Int32} (hF : okF F) (hg : ∀ v, v < fV F → r9 (kp v) ∧ r9 (bp v)) {b : Nat} (hb : b < fB F) (hd : 3 ≤ d) : ∀ (j i : Nat) (a3 : Int32) (x5 : Option Value) (met : Nat → Int32) (μ : zMem), i + j = 2 ^ fV F → oM F μ → zq sM μ0 μ → (∀ v, v < fV F → μ.1 39 v = kp v ∧ μ.1 40 v = bp v) → oR s n c μ → ((a3, met) = zfold (unStep F kp bp n c b) 0 i (0, fun _ => 0)) → (∀ p, p < 320 → μ.1 41 p = met p) → zW g M_unlike d 30 [some (.ref 0), some (.int (nI s)), some (.int (nI b)), some (.int a3), some (.int (nI i)), x5] [] μ (fun r μ' => r = some (.int (unS F kp bp n c b)) ∧ zq sM μ0 μ' ∧ ((∀ v, v < fV F → μ'.1 39 v = kp v ∧ μ'.1 40 v = bp v))) := by
  intro j
  induction j with
  | zero =>
    intro i a3 x5 met μ hi ho hz hk hr hv0 hv1
    have hbd := ho.v
    have h12 := ho.v12
    have h6 := ho.b6
    have hp2 := p2le h12
    replace hbd : (1 : Int32) <<< (μ.1 0 1 &&& 31) = nI (2 ^ fV F) := by rw [ho.v, sh1 h12]
    have hbi : vp_in (nI b) 6 := vp_in_nI (by omega) (by omega)
    have hi : i = 2 ^ fV F := by omega
    subst hi
    refine zb M_unlike_s30 rfl ?_
    refine z_cge M_unlike_d38 (tgt := 93) rfl (fun h38 => ?_) (fun h38 => absurd (show (1 : Int32) <<< (μ.1 0 1 &&& 31) ≤ nI (2 ^ fV F) by first | exact Int32.le_refl _ | (rw [hbd]; exact Int32.le_refl _)) h38)
    refine zb M_unlike_s93 rfl ?_
    refine z_ret M_unlike_d94 rfl ?_
    exact ⟨by unfold unS; rw [← hv0], hz, hk⟩
  | succ j ih =>
    intro i a3 x5 met μ hi ho hz hk hr hv0 hv1
    have hbd := ho.v
    have h12 := ho.v12
    have h6 := ho.b6
    have hp2 := p2le h12
    replace hbd : (1 : Int32) <<< (μ.1 0 1 &&& 31) = nI (2 ^ fV F) := by rw [ho.v, sh1 h12]
    have hbi : vp_in (nI b) 6 := vp_in_nI (by omega) (by omega)
    have hilt : i < 2 ^ fV F := by omega
    have ei : (nI i).toNatClampNeg = i := nI_clamp (by omega)
    obtain ⟨q, hq, eq⟩ := pby_ix hF hg h12 hb (by omega) (nI i)
    have hvp : vp_in (pby F kp bp (nI b) (nI i) + 108) 320 := by rw [eq]; exact vp_in_nI hq (by omega)
    have ecl : (pby F kp bp (nI b) (nI i) + 108).toNatClampNeg = q := by rw [eq]; exact nI_clamp (by omega)
    refine zb M_unlike_s30 rfl ?_
    refine z_cge M_unlike_d38 (tgt := 93) rfl (fun h38 => absurd h38 (show ¬ (1 : Int32) <<< (μ.1 0 1 &&& 31) ≤ nI i by first | exact nI_ge hilt (by omega) | (rw [hbd]; exact nI_ge hilt (by omega)))) (fun h38 => ?_)
    refine zb M_unlike_s41 rfl ?_
    refine zcallV M_unlike_d45 k11_313 (by omega) (o_pitchBy (by omega) hbi ho hk) rfl rfl rfl (Nat.le_of_ble_eq_true rfl) ?_
    rintro _ μx ⟨rfl, hx⟩
    rw [hx]
    clear hx μx
    refine zb1 M_unlike_s48 rfl (by first | exact hvp | exact ⟨hvp, Or.inr rfl⟩) ?_
    refine z_ne M_unlike_d60 (tgt := 87) rfl (fun h60 => ?_) (fun h60 => ?_)
    · refine zb M_unlike_s87 rfl ?_
      rw [nI_1]
      rw [ecl, hv1 q hq] at h60
      first
        | (refine ih (i + 1) _ _ met _ (by omega) ho hz hk hr ?_ hv1
           rw [zf0, ← hv0]
           unfold unStep
           dsimp only
           rw [ecl]
           first | rw [if_pos (Or.inl h60)] | rw [if_pos (Or.inr (zB_eq0.mp h70))])
        | (rw [ecl]
           have hqq : zq sM μ (zpI μ 41 q 1) := zq.rf.put rfl
           refine ih (i + 1) _ _ (fu met q 1) _ (by omega) (ho.q hqq) (hz.tr hqq) (fun v hv => hk v hv) (hr.q hqq) ?_ ?_
           · rw [zf0, ← hv0]
             unfold unStep
             dsimp only
             rw [ecl, if_neg (fun z => z.elim (fun y => y h60) (fun y => y (zB_ne0.mp h70)))]
           · intro p hp
             rw [zpI_at]
             unfold fu
             by_cases y : p = q
             · rw [if_pos y, if_pos y]
             · rw [if_neg y, if_neg y]
               exact hv1 p hp)
    · refine zb M_unlike_s63 rfl ?_
      refine zcallV M_unlike_d67 k11_316 (by omega) (o_isLeft (by omega) ho hk hr) rfl rfl rfl (Nat.le_of_ble_eq_true rfl) ?_
      rintro _ μx ⟨rfl, hx⟩
      rw [hx]
      clear hx μx
      refine z_ne M_unlike_d70 (tgt := 76) rfl (fun h70 => ?_) (fun h70 => ?_)
      · refine zb1 M_unlike_s76 rfl (by first | exact hvp | exact ⟨hvp, Or.inr rfl⟩) ?_
        rw [nI_1]
        rw [ecl, hv1 q hq] at h60
        first
          | (refine ih (i + 1) _ _ met _ (by omega) ho hz hk hr ?_ hv1
             rw [zf0, ← hv0]
             unfold unStep
             dsimp only
             rw [ecl]
             first | rw [if_pos (Or.inl h60)] | rw [if_pos (Or.inr (zB_eq0.mp h70))])
          | (rw [ecl]
             have hqq : zq sM μ (zpI μ 41 q 1) := zq.rf.put rfl
             refine ih (i + 1) _ _ (fu met q 1) _ (by omega) (ho.q hqq) (hz.tr hqq) (fun v hv => hk v hv) (hr.q hqq) ?_ ?_
             · rw [zf0, ← hv0]
               unfold unStep
               dsimp only
               rw [ecl, if_neg (fun z => z.elim (fun y => y h60) (fun y => y (zB_ne0.mp h70)))]
             · intro p hp
               rw [zpI_at]
               unfold fu
               by_cases y : p = q
               · rw [if_pos y, if_pos y]
               · rw [if_neg y, if_neg y]
                 exact hv1 p hp)
      · refine zb M_unlike_s73 rfl ?_
        rw [nI_1]
        rw [ecl, hv1 q hq] at h60
        first
          | (refine ih (i + 1) _ _ met _ (by omega) ho hz hk hr ?_ hv1
             rw [zf0, ← hv0]
             unfold unStep
             dsimp only
             rw [ecl]
             first | rw [if_pos (Or.inl h60)] | rw [if_pos (Or.inr (zB_eq0.mp h70))])
          | (rw [ecl]
             have hqq : zq sM μ (zpI μ 41 q 1) := zq.rf.put rfl
             refine ih (i + 1) _ _ (fu met q 1) _ (by omega) (ho.q hqq) (hz.tr hqq) (fun v hv => hk v hv) (hr.q hqq) ?_ ?_
             · rw [zf0, ← hv0]
               unfold unStep
               dsimp only
               rw [ecl, if_neg (fun z => z.elim (fun y => y h60) (fun y => y (zB_ne0.mp h70)))]
             · intro p hp
               rw [zpI_at]
               unfold fu
               by_cases y : p = q
               · rw [if_pos y, if_pos y]
               · rw [if_neg y, if_neg y]
                 exact hv1 p hp)

set_option maxRecDepth 100000 in
set_option maxHeartbeats 4000000 in
theorem o_unlike {g : zG} {d : Nat} {F : zF} {μ : zMem} {kp bp : Nat → Int32} {s n : Nat} {c : Nat → Int32} (hF : okF F) (hg : ∀ v, v < fV F → r9 (kp v) ∧ r9 (bp v)) {b : Nat} (hb : b < fB F) (hd : 3 ≤ d) (ho : oM F μ) (hk : (∀ v, v < fV F → μ.1 39 v = kp v ∧ μ.1 40 v = bp v)) (hr : oR s n c μ) : zM g d M_unlike [.ref 0, .int (nI s), .int (nI b)] μ (fun r μ' => r = some (.int (unS F kp bp n c b)) ∧ zq sM μ μ' ∧ ((∀ v, v < fV F → μ'.1 39 v = kp v ∧ μ'.1 40 v = bp v))) := by
  refine zM_of (by decide +kernel) rfl rfl (Nat.le_of_ble_eq_true rfl) rfl ?_
  refine zb M_unlike_s0 rfl ?_
  exact w_M_unlike0 (μ0 := μ) (fun μ1 ho1 hz1 hk1 hr1 h0 => w_M_unlike hF hg hb hd (2 ^ fV F) 0 0 _ (fun _ => 0) μ1 (by omega) ho1 hz1 hk1 hr1 rfl h0) 320 0 μ (by omega) ho zq.rf hk hr (fun p hp => by omega)

set_option maxRecDepth 100000 in
set_option maxHeartbeats 4000000 in
theorem w_M_strike_n {g : zG} {d : Nat} {F : zF} {μ0 : zMem} {kp bp : Nat → Int32} {s n : Nat} {c : Nat → Int32} {hd w x5 x6 : Int32} {x8 : Option Value} (hd1 : 4 ≤ d) {Q : Option Value → zMem → Prop} (hQ : ∀ μ : zMem, oM F μ → zq sM μ0 μ → (∀ v, v < fV F → μ.1 39 v = kp v ∧ μ.1 40 v = bp v) → oR s n c μ → zW g M_strike d 93 [some (.ref 0), some (.int (nI s)), some (.int hd), some (.int w), some (.int (strN F kp bp n c)), some (.int x5), some (.int x6), some (.int (nI (2 ^ fV F))), x8] [] μ Q) : ∀ (j i : Nat) (a4 : Int32) (μ : zMem), i + j = 2 ^ fV F → oM F μ → zq sM μ0 μ → (∀ v, v < fV F → μ.1 39 v = kp v ∧ μ.1 40 v = bp v) → oR s n c μ → (a4 = zsum (fun s => zB (leftP F kp bp n c (nI s))) i) → zW g M_strike d 60 [some (.ref 0), some (.int (nI s)), some (.int hd), some (.int w), some (.int a4), some (.int x5), some (.int x6), some (.int (nI i)), x8] [] μ (Q) := by
  intro j
  induction j with
  | zero =>
    intro i a4 μ hi ho hz hk hr hv0
    have hbd := ho.v
    have h12 := ho.v12
    have h6 := ho.b6
    have hp2 := p2le h12
    replace hbd : (1 : Int32) <<< (μ.1 0 1 &&& 31) = nI (2 ^ fV F) := by rw [ho.v, sh1 h12]
    have hi : i = 2 ^ fV F := by omega
    subst hi
    refine zb M_strike_s60 rfl ?_
    refine z_cge M_strike_d68 (tgt := 93) rfl (fun h68 => ?_) (fun h68 => absurd (show (1 : Int32) <<< (μ.1 0 1 &&& 31) ≤ nI (2 ^ fV F) by first | exact Int32.le_refl _ | (rw [hbd]; exact Int32.le_refl _)) h68)
    rw [hv0]
    exact hQ _ ho hz hk hr
  | succ j ih =>
    intro i a4 μ hi ho hz hk hr hv0
    have hbd := ho.v
    have h12 := ho.v12
    have h6 := ho.b6
    have hp2 := p2le h12
    replace hbd : (1 : Int32) <<< (μ.1 0 1 &&& 31) = nI (2 ^ fV F) := by rw [ho.v, sh1 h12]
    have hilt : i < 2 ^ fV F := by omega
    have ei : (nI i).toNatClampNeg = i := nI_clamp (by omega)
    refine zb M_strike_s60 rfl ?_
    refine z_cge M_strike_d68 (tgt := 93) rfl (fun h68 => absurd h68 (show ¬ (1 : Int32) <<< (μ.1 0 1 &&& 31) ≤ nI i by first | exact nI_ge hilt (by omega) | (rw [hbd]; exact nI_ge hilt (by omega)))) (fun h68 => ?_)
    refine zb M_strike_s71 rfl ?_
    refine zcallV M_strike_d78 k11_316 (by omega) (o_isLeft (by omega) ho hk hr) rfl rfl rfl (Nat.le_of_ble_eq_true rfl) ?_
    rintro _ μx ⟨rfl, hx⟩
    rw [hx]
    clear hx μx
    refine zcallV M_strike_d81 k11_167 (by omega) (c_M_one _) rfl rfl rfl (Nat.le_of_ble_eq_true rfl) ?_
    rintro _ μx ⟨rfl, hx⟩
    rw [hx]
    clear hx μx
    refine zb M_strike_s84 rfl ?_
    rw [nI_1]
    refine ih (i + 1) _ _ (by omega) ho hz hk hr ?_
    rw [zsum_s, ← hv0]
    congr 1
    exact (zB_cong zB_ne0.symm).symm

set_option maxRecDepth 100000 in
set_option maxHeartbeats 4000000 in
theorem w_M_strike_b {g : zG} {d : Nat} {F : zF} {μ0 : zMem} {kp bp : Nat → Int32} {s n : Nat} {c : Nat → Int32} (hF : okF F) (hg : ∀ v, v < fV F → r9 (kp v) ∧ r9 (bp v)) {hd w a4 : Int32} (hd1 : 4 ≤ d) : ∀ (j i : Nat) (a5 : Int32) (a6 : Int32) (x8 : Option Value) (μ : zMem), i + j = fB F → oM F μ → zq sM μ0 μ → (∀ v, v < fV F → μ.1 39 v = kp v ∧ μ.1 40 v = bp v) → oR s n c μ → ((a5, a6) = zfold (strStep F kp bp n c) 0 i (-2, 0)) → zW g M_strike d 118 [some (.ref 0), some (.int (nI s)), some (.int hd), some (.int w), some (.int a4), some (.int a5), some (.int a6), some (.int (nI i)), x8] [] μ (fun r μ' => r = some (.int (if w = 1 then (strB F kp bp n c).1 else (strB F kp bp n c).2)) ∧ zq sM μ0 μ') := by
  intro j
  induction j with
  | zero =>
    intro i a5 a6 x8 μ hi ho hz hk hr hv0
    have hbd := ho.b
    have h12 := ho.v12
    have h6 := ho.b6
    have hi : i = fB F := by omega
    subst hi
    refine zb M_strike_s118 rfl ?_
    refine z_cge M_strike_d124 (tgt := 167) rfl (fun h124 => ?_) (fun h124 => absurd (show μ.1 0 0 ≤ nI (fB F) by first | exact Int32.le_refl _ | (rw [hbd]; exact Int32.le_refl _)) h124)
    refine zb M_strike_s167 rfl ?_
    refine z_cne M_strike_d169 (tgt := 177) rfl (fun h169 => ?_) (fun h169 => ?_)
    · refine zb M_strike_s177 rfl ?_
      refine z_ret M_strike_d179 rfl ?_
      rw [show strB F kp bp n c = (a5, a6) from hv0.symm]
      first | exact ⟨by rw [if_pos h169], hz⟩ | exact ⟨by rw [if_neg h169], hz⟩
    · refine zb M_strike_s172 rfl ?_
      refine z_ret M_strike_d179 rfl ?_
      rw [show strB F kp bp n c = (a5, a6) from hv0.symm]
      first | exact ⟨by rw [if_pos h169], hz⟩ | exact ⟨by rw [if_neg h169], hz⟩
  | succ j ih =>
    intro i a5 a6 x8 μ hi ho hz hk hr hv0
    have hbd := ho.b
    have h12 := ho.v12
    have h6 := ho.b6
    have hilt : i < fB F := by omega
    have ei : (nI i).toNatClampNeg = i := nI_clamp (by omega)
    refine zb M_strike_s118 rfl ?_
    refine z_cge M_strike_d124 (tgt := 167) rfl (fun h124 => absurd h124 (show ¬ μ.1 0 0 ≤ nI i by first | exact nI_ge hilt (by omega) | (rw [hbd]; exact nI_ge hilt (by omega)))) (fun h124 => ?_)
    refine zb M_strike_s127 rfl ?_
    refine zcallV M_strike_d131 k11_322 (by omega) (o_unlike hF hg hilt (by omega) ho hk hr) rfl rfl rfl (Nat.le_of_ble_eq_true rfl) ?_
    rintro _ μ1 ⟨rfl, hz1, hk1⟩
    replace hz := hz.tr hz1
    replace ho := ho.q hz1
    replace hr := hr.q hz1
    replace hk := hk1
    clear hz1 hk1
    refine zb M_strike_s134 rfl ?_
    refine z_ceq M_strike_d140 (tgt := 153) rfl (fun h140 => ?_) (fun h140 => ?_)
    · refine zb M_strike_s153 rfl ?_
      rw [nI_1]
      refine ih (i + 1) _ _ _ _ (by omega) ho hz hk hr ?_
      rw [zf0, ← hv0]
      unfold strStep
      dsimp only
      first
        | rw [if_pos (Or.inl h140)]
        | rw [if_pos (Or.inr h147)]
        | rw [if_neg (fun z => z.elim h140 h147)]
    · refine zb M_strike_s143 rfl ?_
      refine z_cgt M_strike_d147 (tgt := 153) rfl (fun h147 => ?_) (fun h147 => ?_)
      · refine zb M_strike_s153 rfl ?_
        rw [nI_1]
        refine ih (i + 1) _ _ _ _ (by omega) ho hz hk hr ?_
        rw [zf0, ← hv0]
        unfold strStep
        dsimp only
        first
          | rw [if_pos (Or.inl h140)]
          | rw [if_pos (Or.inr h147)]
          | rw [if_neg (fun z => z.elim h140 h147)]
      · refine zb M_strike_s150 rfl ?_
        rw [nI_1]
        refine ih (i + 1) _ _ _ _ (by omega) ho hz hk hr ?_
        rw [zf0, ← hv0]
        unfold strStep
        dsimp only
        first
          | rw [if_pos (Or.inl h140)]
          | rw [if_pos (Or.inr h147)]
          | rw [if_neg (fun z => z.elim h140 h147)]

set_option maxRecDepth 100000 in
set_option maxHeartbeats 4000000 in
theorem o_strike {g : zG} {d : Nat} {F : zF} {μ : zMem} {n : Nat} {c : Nat → Int32} {s hd w : Int32} (hF : okF F) (hd1 : 47 ≤ d) (ho : oM F μ) (hR : ∀ q, q < 6 → s = nI q → μ.1 48 q = 2 → oR q n c μ) : zM g d M_strike [.ref 0, .int s, .int hd, .int w] μ (fun r μ' => r = some (.int (if (0 ≤ s ∧ s < 6) ∧ htim hd ∧ (0 ≤ w ∧ w ≤ 2) then (if μ.1 48 s.toNatClampNeg = 0 then -11 else if μ.1 48 s.toNatClampNeg = 2 ∧ μ.1 49 s.toNatClampNeg = 1 then strW F (kG F hd) (bG F hd) n c w else -12) else -1)) ∧ zq sM μ μ') := by
  refine zM_of (by decide +kernel) rfl rfl (Nat.le_of_ble_eq_true rfl) rfl ?_
  have hz : zq sM μ μ := zq.rf
  have h12 := ho.v12
  have h6 := ho.b6
  refine zb M_strike_s0 rfl ?_
  refine zcallV M_strike_d2 k11_124 (by omega) (o_isShelf _) rfl rfl rfl (Nat.le_of_ble_eq_true rfl) ?_
  rintro _ μx ⟨rfl, hx⟩
  rw [hx]
  clear hx μx
  refine z_eq M_strike_d5 (tgt := 26) rfl (fun h5 => ?_) (fun h5 => ?_)
  · refine zb M_strike_s26 rfl ?_
    refine z_ret M_strike_d27 rfl ?_
    first
      | exact ⟨by rw [if_neg (fun z => (zB_eq0.mp h5) z.1)], hz⟩
      | exact ⟨by rw [if_neg (fun z => (zB_eq0.mp h13) z.2.1)], hz⟩
      | exact ⟨by rw [if_neg (fun z => (zB_eq0.mp h23) z.2.2)], hz⟩
      | (refine ⟨?_, hz⟩
         by_cases z : μ.1 48 q = 0
         · rw [if_pos z, if_pos z]
         · rw [if_neg z, if_neg z]
           by_cases y : μ.1 48 q = 2 ∧ μ.1 49 q = 1
           · exact absurd (by rw [if_neg z, if_pos y]) h33
           · rw [if_neg y, if_neg y])
  · refine zb M_strike_s8 rfl ?_
    refine zcallV M_strike_d10 k11_303 (by omega) (c_M_isHeardTime _) rfl rfl rfl (Nat.le_of_ble_eq_true rfl) ?_
    rintro _ μx ⟨rfl, hx⟩
    rw [hx]
    clear hx μx
    refine z_eq M_strike_d13 (tgt := 26) rfl (fun h13 => ?_) (fun h13 => ?_)
    · refine zb M_strike_s26 rfl ?_
      refine z_ret M_strike_d27 rfl ?_
      first
        | exact ⟨by rw [if_neg (fun z => (zB_eq0.mp h5) z.1)], hz⟩
        | exact ⟨by rw [if_neg (fun z => (zB_eq0.mp h13) z.2.1)], hz⟩
        | exact ⟨by rw [if_neg (fun z => (zB_eq0.mp h23) z.2.2)], hz⟩
        | (refine ⟨?_, hz⟩
           by_cases z : μ.1 48 q = 0
           · rw [if_pos z, if_pos z]
           · rw [if_neg z, if_neg z]
             by_cases y : μ.1 48 q = 2 ∧ μ.1 49 q = 1
             · exact absurd (by rw [if_neg z, if_pos y]) h33
             · rw [if_neg y, if_neg y])
    · refine zb M_strike_s16 rfl ?_
      refine zcallV M_strike_d20 k11_112 (by omega) (c_M_isIn _ _ _) rfl rfl rfl (Nat.le_of_ble_eq_true rfl) ?_
      rintro _ μx ⟨rfl, hx⟩
      rw [hx]
      clear hx μx
      refine z_ne M_strike_d23 (tgt := 28) rfl (fun h23 => ?_) (fun h23 => ?_)
      · have g1 := zB_ne0.mp h5
        obtain ⟨q, hs6, rfl, es⟩ := zix (n := 6) g1.1 g1.2 (by omega)
        rw [if_pos ⟨zB_ne0.mp h5, zB_ne0.mp h13, zB_ne0.mp h23⟩, es]
        refine zb M_strike_s28 rfl ?_
        refine zcallV M_strike_d30 k11_319 (by omega) (o_barsOf hs6) rfl rfl rfl (Nat.le_of_ble_eq_true rfl) ?_
        rintro _ μx ⟨rfl, hx⟩
        rw [hx]
        clear hx μx
        refine z_eq M_strike_d33 (tgt := 42) rfl (fun h33 => ?_) (fun h33 => ?_)
        · have g2 : ¬ μ.1 48 q = 0 ∧ (μ.1 48 q = 2 ∧ μ.1 49 q = 1) := by
            by_cases z : μ.1 48 q = 0
            · rw [if_pos z] at h33; exact absurd h33 (by decide)
            · rw [if_neg z] at h33
              by_cases y : μ.1 48 q = 2 ∧ μ.1 49 q = 1
              · exact ⟨z, y⟩
              · rw [if_neg y] at h33; exact absurd h33 (by decide)
          rw [if_neg g2.1, if_pos g2.2]
          have hr := hR q hs6 rfl g2.2.1
          refine zb M_strike_s42 rfl ?_
          refine zcallV M_strike_d44 k11_306 (by omega) (o_givesAll (by omega) ho) rfl rfl rfl (Nat.le_of_ble_eq_true rfl) ?_
          rintro _ μ1 ⟨rfl, hz1, hk⟩
          replace hz := hz.tr hz1
          replace ho := ho.q hz1
          replace hr := hr.q hz1
          clear hz1
          refine zb M_strike_s47 rfl ?_
          have hg : ∀ v, v < fV F → r9 (kG F hd v) ∧ r9 (bG F hd v) := fun v hv => ⟨giv_r9 hF hv _ _ _ _, giv_r9 hF hv _ _ _ _⟩
          refine w_M_strike_n (μ0 := μ) (by omega) (fun μ2 ho hz hk hr => ?_) (2 ^ fV F) 0 0 μ1 (by omega) ho hz hk hr rfl
          unfold strW
          refine zb M_strike_s93 rfl ?_
          refine z_ne M_strike_d94 (tgt := 100) rfl (fun h94 => ?_) (fun h94 => ?_)
          · refine zb M_strike_s100 rfl ?_
            refine z_eq M_strike_d102 (tgt := 112) rfl (fun h102 => ?_) (fun h102 => ?_)
            · refine zb M_strike_s112 rfl ?_
              refine z_ret M_strike_d114 rfl ?_
              first
                | exact ⟨by rw [if_pos h94], hz⟩
                | exact ⟨by rw [if_neg h94, if_pos (Or.inl h102)], hz⟩
                | exact ⟨by rw [if_neg h94, if_pos (Or.inr (by rw [ho.b] at h109; exact (nI_eq (b := 0) (by have := ho.b6; omega) (by omega)).mp h109))], hz⟩
            · refine zb M_strike_s105 rfl ?_
              refine z_ne M_strike_d109 (tgt := 115) rfl (fun h109 => ?_) (fun h109 => ?_)
              · refine zb M_strike_s115 rfl ?_
                rw [if_neg h94, if_neg (fun z => z.elim h102 (fun y => h109 (by rw [ho.b, y]; rfl)))]
                exact w_M_strike_b hF hg (by omega) (fB F) 0 _ _ _ μ2 (by omega) ho hz hk hr rfl
              · refine zb M_strike_s112 rfl ?_
                refine z_ret M_strike_d114 rfl ?_
                first
                  | exact ⟨by rw [if_pos h94], hz⟩
                  | exact ⟨by rw [if_neg h94, if_pos (Or.inl h102)], hz⟩
                  | exact ⟨by rw [if_neg h94, if_pos (Or.inr (by rw [ho.b] at h109; exact (nI_eq (b := 0) (by have := ho.b6; omega) (by omega)).mp h109))], hz⟩
          · refine zb M_strike_s97 rfl ?_
            refine z_ret M_strike_d99 rfl ?_
            first
              | exact ⟨by rw [if_pos h94], hz⟩
              | exact ⟨by rw [if_neg h94, if_pos (Or.inl h102)], hz⟩
              | exact ⟨by rw [if_neg h94, if_pos (Or.inr (by rw [ho.b] at h109; exact (nI_eq (b := 0) (by have := ho.b6; omega) (by omega)).mp h109))], hz⟩
        · refine zb M_strike_s36 rfl ?_
          refine zcallV M_strike_d38 k11_319 (by omega) (o_barsOf hs6) rfl rfl rfl (Nat.le_of_ble_eq_true rfl) ?_
          rintro _ μx ⟨rfl, hx⟩
          rw [hx]
          clear hx μx
          refine z_ret M_strike_d41 rfl ?_
          first
            | exact ⟨by rw [if_neg (fun z => (zB_eq0.mp h5) z.1)], hz⟩
            | exact ⟨by rw [if_neg (fun z => (zB_eq0.mp h13) z.2.1)], hz⟩
            | exact ⟨by rw [if_neg (fun z => (zB_eq0.mp h23) z.2.2)], hz⟩
            | (refine ⟨?_, hz⟩
               by_cases z : μ.1 48 q = 0
               · rw [if_pos z, if_pos z]
               · rw [if_neg z, if_neg z]
                 by_cases y : μ.1 48 q = 2 ∧ μ.1 49 q = 1
                 · exact absurd (by rw [if_neg z, if_pos y]) h33
                 · rw [if_neg y, if_neg y])
      · refine zb M_strike_s26 rfl ?_
        refine z_ret M_strike_d27 rfl ?_
        first
          | exact ⟨by rw [if_neg (fun z => (zB_eq0.mp h5) z.1)], hz⟩
          | exact ⟨by rw [if_neg (fun z => (zB_eq0.mp h13) z.2.1)], hz⟩
          | exact ⟨by rw [if_neg (fun z => (zB_eq0.mp h23) z.2.2)], hz⟩
          | (refine ⟨?_, hz⟩
             by_cases z : μ.1 48 q = 0
             · rw [if_pos z, if_pos z]
             · rw [if_neg z, if_neg z]
               by_cases y : μ.1 48 q = 2 ∧ μ.1 49 q = 1
               · exact absurd (by rw [if_neg z, if_pos y]) h33
               · rw [if_neg y, if_neg y])
