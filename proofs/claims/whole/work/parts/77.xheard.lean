/-! heard, silent: both alike; the face -/
theorem bv_and0 (x : Int32) : x &&& (0 ^^^ -1) = x := by
  have e1 : (-1 : Int32).toBitVec = BitVec.allOnes 32 := by decide
  have e0 : (0 : Int32).toBitVec = 0#32 := by decide
  apply Int32.toBitVec_inj.mp
  rw [Int32.toBitVec_and, Int32.toBitVec_xor, e1, e0, BitVec.xor_allOnes, BitVec.not_zero, BitVec.and_allOnes]
theorem bv_step (x a s : Int32) : (x &&& (a ^^^ -1)) &&& (s ^^^ -1) = x &&& ((a ||| s) ^^^ -1) := by
  have e1 : (-1 : Int32).toBitVec = BitVec.allOnes 32 := by decide
  apply Int32.toBitVec_inj.mp
  rw [Int32.toBitVec_and, Int32.toBitVec_and, Int32.toBitVec_and, Int32.toBitVec_xor, Int32.toBitVec_xor, Int32.toBitVec_xor, Int32.toBitVec_or, e1, BitVec.xor_allOnes, BitVec.xor_allOnes, BitVec.xor_allOnes]
  generalize x.toBitVec = X
  generalize a.toBitVec = A
  generalize s.toBitVec = S
  apply BitVec.eq_of_getLsbD_eq
  intro i hi
  simp only [BitVec.getLsbD_and, BitVec.getLsbD_not, BitVec.getLsbD_or, hi, decide_true, Bool.true_and]
  cases X.getLsbD i <;> cases A.getLsbD i <;> cases S.getLsbD i <;> rfl
theorem pby_is {F : zF} (hV : fV F ≤ 12) {b s w : Nat} {dd h : Int32} (hb : b < 2 ^ 31) (hs : s < 4096) (hw : w < 2 ^ fV F) (hbit : ∀ v, v < fV F → (w / 2 ^ v % 2 = 1 ↔ s / 2 ^ v % 2 = 1 ∧ fbell F v = nI b)) : pby F (lyK F h) (lyB F dd h) (nI b) (nI s) = ftone F b + lyO F b dd h w := by
  unfold pby
  rw [nI_clamp hb, lyO_is hV hs hw hbit]
theorem pby_sub {F : zF} (hV : fV F ≤ 12) {b s : Nat} {dd h : Int32} (hb : b < 2 ^ 31) (hs : sbm (lyA F b) s) : pby F (lyK F h) (lyB F dd h) (nI b) (nI s) = ftone F b + lyO F b dd h s := by
  have hlt : s < 2 ^ fV F := Nat.lt_of_le_of_lt (sbm_le hs) (lyA_lt F b)
  exact pby_is hV hb (lt_2 hV hlt) hlt (fun v _ => ⟨fun z => ⟨z, (lyA_at.mp (sbm_bits hs z)).2⟩, fun z => z.1⟩)
def heR (A : Int32) (N : Nat) (r : Int32 × Int32 × Int32 × Int32) (t : lyT) : Prop := t.1 = r.1 ∧ t.2.2.1 = r.2.1 ∧ r.2.2.1 = A &&& (t.2.2.2.1 ^^^ -1) ∧ ∃ k, k ≤ N ∧ t.1 = nI k ∧ ((k = 0 ∧ r.2.2.2 = -2) ∨ (0 < k ∧ ∃ q, q < N ∧ t.2.2.2.2.1 = nI q ∧ r.2.2.2 = nI q))
theorem he_rel {F : zF} (hV : fV F ≤ 12) {b : Nat} {dd h pitch l0 : Int32} (hb : b < 2 ^ 31) : ∀ N, N ≤ 4096 → heR (nI (lyA F b)) N (zfold (hStep F (lyK F h) (lyB F dd h) (nI b) pitch (nI (lyA F b))) 0 N (0, nI (lyA F b), nI (lyA F b), -2)) (zfold (fA (lyA F b) (lyF F b dd h 1 pitch)) 0 N (0, 0, nI (lyA F b), 0, l0, fun _ => 0)) := by
  have hA4 := lt_2 hV (lyA_lt F b)
  intro N
  induction N with
  | zero => intro _; exact ⟨rfl, rfl, (bv_and0 _).symm, 0, Nat.le_refl _, rfl, Or.inl ⟨rfl, rfl⟩⟩
  | succ N ih =>
    intro hN
    have ih := ih (by omega)
    rw [zf0, zf0]
    generalize zfold (hStep F (lyK F h) (lyB F dd h) (nI b) pitch (nI (lyA F b))) 0 N (0, nI (lyA F b), nI (lyA F b), -2) = r at ih ⊢
    generalize zfold (fA (lyA F b) (lyF F b dd h 1 pitch)) 0 N (0, 0, nI (lyA F b), 0, l0, fun _ => 0) = t at ih ⊢
    obtain ⟨i1, i2, i3, k, i4, i5, i6⟩ := ih
    have hs := sub_I hA4 (show N < 4096 by omega)
    have keep : heR (nI (lyA F b)) (N + 1) r t := ⟨i1, i2, i3, k, by omega, i5, i6.imp id (fun ⟨z1, q, z2, z3⟩ => ⟨z1, q, by omega, z3⟩)⟩
    unfold hStep fA lyF
    by_cases q1 : sbm (lyA F b) N
    · rw [if_pos q1]
      have hp := pby_sub (F := F) (dd := dd) (h := h) hV hb q1
      by_cases q2 : ftone F b + lyO F b dd h N = pitch
      · rw [if_pos (Or.inr q2), if_neg (fun z => z.elim (fun y => y (hs.mpr q1)) (fun y => y (hp.trans q2)))]
        unfold lyN
        refine ⟨?_, ?_, ?_, k + 1, by omega, ?_, Or.inr ⟨by omega, ?_⟩⟩
        · show t.1 + 1 = r.1 + 1
          rw [i1]
        · show t.2.2.1 &&& nI N = r.2.1 &&& nI N
          rw [i2]
        · show r.2.2.1 &&& (nI N ^^^ -1) = _
          rw [i3, bv_step]
        · show t.1 + 1 = _
          rw [i5, nI_1]
        · show ∃ q, q < N + 1 ∧ (if t.1 = 0 then nI N else t.2.2.2.2.1) = nI q ∧ (if r.2.2.2 = -2 then nI N else r.2.2.2) = nI q
          rcases i6 with ⟨z1, z2⟩ | ⟨z1, q, z2, z3, z4⟩
          · rw [if_pos z2, if_pos (by rw [i5, z1]; rfl)]
            exact ⟨N, by omega, rfl, rfl⟩
          · rw [if_neg (by rw [i5]; exact nI_ne0 z1 (by omega)), if_neg (fun y => by
              rw [z4] at y
              exact absurd (show nI q < 0 by rw [y]; decide) (nI_pos (by omega)))]
            exact ⟨q, by omega, z3, z4⟩
      · rw [if_pos (Or.inr (fun y => q2 (hp.symm.trans y))), if_neg (fun z => z.elim (fun y => absurd y (by decide)) q2)]
        exact keep
    · rw [if_neg q1, if_pos (Or.inl (fun z => q1 (hs.mp z)))]
      exact keep
def lyW (A : Int32) (t : lyT) (w : Int32) : Int32 := if w = 0 then t.1 else if t.1 = 0 then -2 else if w = 1 then t.2.2.1 else if w = 2 then A &&& (t.2.2.2.1 ^^^ -1) else t.2.2.2.2.1
theorem he_eq {F : zF} (hV : fV F ≤ 12) {b : Nat} {hd pitch l0 w : Int32} (hb : b < 2 ^ 31) : lyW (nI (lyA F b)) (lyI F b (hro hd) (hd / 100) 1 pitch l0) w = heW (heS F (nI b) pitch hd) w := by
  have hp : 2 ^ fV F ≤ 4096 := Nat.pow_le_pow_right (by decide) hV
  have k := he_rel (F := F) (dd := hro hd) (h := hd / 100) (pitch := pitch) (l0 := l0) hV hb (2 ^ fV F) hp
  unfold heS lyI
  rw [set_is hV b]
  change heR (nI (lyA F b)) (2 ^ fV F) (zfold (hStep F (kG F hd) (bG F hd) (nI b) pitch (nI (lyA F b))) 0 (2 ^ fV F) (0, nI (lyA F b), nI (lyA F b), -2)) _ at k
  generalize zfold (hStep F (kG F hd) (bG F hd) (nI b) pitch (nI (lyA F b))) 0 (2 ^ fV F) (0, nI (lyA F b), nI (lyA F b), -2) = r at k ⊢
  generalize zfold (fA (lyA F b) (lyF F b (hro hd) (hd / 100) 1 pitch)) 0 (2 ^ fV F) (0, 0, nI (lyA F b), 0, l0, fun _ => 0) = t at k ⊢
  obtain ⟨k1, k2, k3, k, k4, k5, k6⟩ := k
  unfold lyW heW
  rw [k1, k2, k3]
  by_cases w0 : w = 0
  · rw [if_pos w0, if_pos w0]
  · rw [if_neg w0, if_neg w0]
    by_cases r0 : r.1 = 0
    · rw [if_pos r0, if_pos r0]
    · rw [if_neg r0, if_neg r0]
      rcases k6 with ⟨z1, -⟩ | ⟨-, q, -, z3, z4⟩
      · rw [z1] at k5
        exact absurd (k1.symm.trans k5) r0
      · rw [z3, z4]
theorem hro_nn {hd : Int32} (h : 0 ≤ hd) : 0 ≤ hro hd := by
  obtain ⟨q, hq, rfl⟩ := nI_of (Int32.not_lt.mpr h)
  rw [show hro (nI q) = nI (q % 100) from pk_rem (d := 100) hq (by decide) (by decide)]
  exact nI_pos' (by omega)

set_option maxRecDepth 100000 in
set_option maxHeartbeats 4000000 in
theorem x_told0 {g : zG} {d : Nat} {F : zF} {μ : zMem} {b : Nat} {t : lyT} (hd : 1 ≤ d) (ho : oX F μ) (ht : lyR t μ) : zM g d L_toldOf [.ref 5, .int (nI b), .int 0] μ (fun r μ' => r = some (.int (lyW (nI (lyA F b)) t 0)) ∧ μ' = μ) := by
  refine zM_of (by decide +kernel) rfl rfl (Nat.le_of_ble_eq_true rfl) rfl ?_
  obtain ⟨t1, t2, t3, t4, t5, -⟩ := ht
  have h12 := ho.v12
  refine zb L_toldOf_s0 rfl ?_
  refine z_ne L_toldOf_d1 (tgt := 9) rfl (fun h1 => absurd rfl h1) (fun h1 => ?_)
  refine zb L_toldOf_s4 rfl ?_
  refine z_ret L_toldOf_d8 rfl ?_
  refine ⟨congrArg (fun z => some (Value.int z)) ?_, rfl⟩
  (try rw [t1] at h13)
  (try rw [set_is h12 b])
  unfold lyW
  first
    | (rw [if_pos rfl]; exact t1)
    | (rw [if_neg (by decide), if_pos h13]; done)
    | (rw [if_neg (by decide), if_neg h13, if_pos rfl]; exact t3)
    | (rw [if_neg (by decide), if_neg h13, if_neg (by decide), if_pos rfl, t4]; done)
    | (rw [if_neg (by decide), if_neg h13, if_neg (by decide), if_neg (by decide)]; exact t5)

set_option maxRecDepth 100000 in
set_option maxHeartbeats 4000000 in
theorem x_told1 {g : zG} {d : Nat} {F : zF} {μ : zMem} {b : Nat} {t : lyT} (hd : 1 ≤ d) (ho : oX F μ) (ht : lyR t μ) : zM g d L_toldOf [.ref 5, .int (nI b), .int 1] μ (fun r μ' => r = some (.int (lyW (nI (lyA F b)) t 1)) ∧ μ' = μ) := by
  refine zM_of (by decide +kernel) rfl rfl (Nat.le_of_ble_eq_true rfl) rfl ?_
  obtain ⟨t1, t2, t3, t4, t5, -⟩ := ht
  have h12 := ho.v12
  refine zb L_toldOf_s0 rfl ?_
  refine z_ne L_toldOf_d1 (tgt := 9) rfl (fun h1 => ?_) (fun h1 => absurd h1 (by decide))
  refine zb L_toldOf_s9 rfl ?_
  refine z_ne L_toldOf_d13 (tgt := 19) rfl (fun h13 => ?_) (fun h13 => ?_)
  · refine zb L_toldOf_s19 rfl ?_
    refine z_look L_toldOf_d20 (off := 28) (tgt := 48) (by decide) (by decide) rfl ?_
    refine zb L_toldOf_s48 rfl ?_
    refine z_ret L_toldOf_d52 rfl ?_
    refine ⟨congrArg (fun z => some (Value.int z)) ?_, rfl⟩
    (try rw [t1] at h13)
    (try rw [set_is h12 b])
    unfold lyW
    first
      | (rw [if_pos rfl]; exact t1)
      | (rw [if_neg (by decide), if_pos h13]; done)
      | (rw [if_neg (by decide), if_neg h13, if_pos rfl]; exact t3)
      | (rw [if_neg (by decide), if_neg h13, if_neg (by decide), if_pos rfl, t4]; done)
      | (rw [if_neg (by decide), if_neg h13, if_neg (by decide), if_neg (by decide)]; exact t5)
  · refine zb L_toldOf_s16 rfl ?_
    refine z_ret L_toldOf_d18 rfl ?_
    refine ⟨congrArg (fun z => some (Value.int z)) ?_, rfl⟩
    (try rw [t1] at h13)
    (try rw [set_is h12 b])
    unfold lyW
    first
      | (rw [if_pos rfl]; exact t1)
      | (rw [if_neg (by decide), if_pos h13]; done)
      | (rw [if_neg (by decide), if_neg h13, if_pos rfl]; exact t3)
      | (rw [if_neg (by decide), if_neg h13, if_neg (by decide), if_pos rfl, t4]; done)
      | (rw [if_neg (by decide), if_neg h13, if_neg (by decide), if_neg (by decide)]; exact t5)

set_option maxRecDepth 100000 in
set_option maxHeartbeats 4000000 in
theorem x_told2 {g : zG} {d : Nat} {F : zF} {μ : zMem} {b : Nat} {t : lyT} (hd : 1 ≤ d) (ho : oX F μ) (ht : lyR t μ) : zM g d L_toldOf [.ref 5, .int (nI b), .int 2] μ (fun r μ' => r = some (.int (lyW (nI (lyA F b)) t 2)) ∧ μ' = μ) := by
  refine zM_of (by decide +kernel) rfl rfl (Nat.le_of_ble_eq_true rfl) rfl ?_
  obtain ⟨t1, t2, t3, t4, t5, -⟩ := ht
  have h12 := ho.v12
  refine zb L_toldOf_s0 rfl ?_
  refine z_ne L_toldOf_d1 (tgt := 9) rfl (fun h1 => ?_) (fun h1 => absurd h1 (by decide))
  refine zb L_toldOf_s9 rfl ?_
  refine z_ne L_toldOf_d13 (tgt := 19) rfl (fun h13 => ?_) (fun h13 => ?_)
  · refine zb L_toldOf_s19 rfl ?_
    refine z_look L_toldOf_d20 (off := 33) (tgt := 53) (by decide) (by decide) rfl ?_
    refine zb L_toldOf_s53 rfl ?_
    refine zcallV L_toldOf_d58 k5_76 (by omega) (x_vowsIn _ ho) rfl rfl rfl (Nat.le_of_ble_eq_true rfl) ?_
    rintro _ μx ⟨rfl, hx⟩
    rw [hx]
    clear hx μx
    refine zb L_toldOf_s61 rfl ?_
    refine z_ret L_toldOf_d68 rfl ?_
    refine ⟨congrArg (fun z => some (Value.int z)) ?_, rfl⟩
    (try rw [t1] at h13)
    (try rw [set_is h12 b])
    unfold lyW
    first
      | (rw [if_pos rfl]; exact t1)
      | (rw [if_neg (by decide), if_pos h13]; done)
      | (rw [if_neg (by decide), if_neg h13, if_pos rfl]; exact t3)
      | (rw [if_neg (by decide), if_neg h13, if_neg (by decide), if_pos rfl, t4]; done)
      | (rw [if_neg (by decide), if_neg h13, if_neg (by decide), if_neg (by decide)]; exact t5)
  · refine zb L_toldOf_s16 rfl ?_
    refine z_ret L_toldOf_d18 rfl ?_
    refine ⟨congrArg (fun z => some (Value.int z)) ?_, rfl⟩
    (try rw [t1] at h13)
    (try rw [set_is h12 b])
    unfold lyW
    first
      | (rw [if_pos rfl]; exact t1)
      | (rw [if_neg (by decide), if_pos h13]; done)
      | (rw [if_neg (by decide), if_neg h13, if_pos rfl]; exact t3)
      | (rw [if_neg (by decide), if_neg h13, if_neg (by decide), if_pos rfl, t4]; done)
      | (rw [if_neg (by decide), if_neg h13, if_neg (by decide), if_neg (by decide)]; exact t5)

set_option maxRecDepth 100000 in
set_option maxHeartbeats 4000000 in
theorem x_told3 {g : zG} {d : Nat} {F : zF} {μ : zMem} {b : Nat} {t : lyT} (hd : 1 ≤ d) (ho : oX F μ) (ht : lyR t μ) : zM g d L_toldOf [.ref 5, .int (nI b), .int 3] μ (fun r μ' => r = some (.int (lyW (nI (lyA F b)) t 3)) ∧ μ' = μ) := by
  refine zM_of (by decide +kernel) rfl rfl (Nat.le_of_ble_eq_true rfl) rfl ?_
  obtain ⟨t1, t2, t3, t4, t5, -⟩ := ht
  have h12 := ho.v12
  refine zb L_toldOf_s0 rfl ?_
  refine z_ne L_toldOf_d1 (tgt := 9) rfl (fun h1 => ?_) (fun h1 => absurd h1 (by decide))
  refine zb L_toldOf_s9 rfl ?_
  refine z_ne L_toldOf_d13 (tgt := 19) rfl (fun h13 => ?_) (fun h13 => ?_)
  · refine zb L_toldOf_s19 rfl ?_
    refine z_look L_toldOf_d20 (off := 49) (tgt := 69) (by decide) (by decide) rfl ?_
    refine zb L_toldOf_s69 rfl ?_
    refine z_ret L_toldOf_d73 rfl ?_
    refine ⟨congrArg (fun z => some (Value.int z)) ?_, rfl⟩
    (try rw [t1] at h13)
    (try rw [set_is h12 b])
    unfold lyW
    first
      | (rw [if_pos rfl]; exact t1)
      | (rw [if_neg (by decide), if_pos h13]; done)
      | (rw [if_neg (by decide), if_neg h13, if_pos rfl]; exact t3)
      | (rw [if_neg (by decide), if_neg h13, if_neg (by decide), if_pos rfl, t4]; done)
      | (rw [if_neg (by decide), if_neg h13, if_neg (by decide), if_neg (by decide)]; exact t5)
  · refine zb L_toldOf_s16 rfl ?_
    refine z_ret L_toldOf_d18 rfl ?_
    refine ⟨congrArg (fun z => some (Value.int z)) ?_, rfl⟩
    (try rw [t1] at h13)
    (try rw [set_is h12 b])
    unfold lyW
    first
      | (rw [if_pos rfl]; exact t1)
      | (rw [if_neg (by decide), if_pos h13]; done)
      | (rw [if_neg (by decide), if_neg h13, if_pos rfl]; exact t3)
      | (rw [if_neg (by decide), if_neg h13, if_neg (by decide), if_pos rfl, t4]; done)
      | (rw [if_neg (by decide), if_neg h13, if_neg (by decide), if_neg (by decide)]; exact t5)

theorem w03 {w : Int32} (h : 0 ≤ w ∧ w ≤ 3) : w = 0 ∨ w = 1 ∨ w = 2 ∨ w = 3 := by
  obtain ⟨q, hq, rfl⟩ := nI_of2 (M := 3) (n := 3) rfl (Int32.not_lt.mpr h.1) h.2
  rcases (show q = 0 ∨ q = 1 ∨ q = 2 ∨ q = 3 by omega) with rfl | rfl | rfl | rfl
  · exact Or.inl rfl
  · exact Or.inr (Or.inl rfl)
  · exact Or.inr (Or.inr (Or.inl rfl))
  · exact Or.inr (Or.inr (Or.inr rfl))
theorem x_told {g : zG} {d : Nat} {F : zF} {μ : zMem} {b : Nat} {t : lyT} {w : Int32} (hd : 1 ≤ d) (ho : oX F μ) (ht : lyR t μ) (hw : 0 ≤ w ∧ w ≤ 3) : zM g d L_toldOf [.ref 5, .int (nI b), .int w] μ (fun r μ' => r = some (.int (lyW (nI (lyA F b)) t w)) ∧ μ' = μ) := by
  rcases w03 hw with rfl | rfl | rfl | rfl
  · exact x_told0 hd ho ht
  · exact x_told1 hd ho ht
  · exact x_told2 hd ho ht
  · exact x_told3 hd ho ht

set_option maxRecDepth 100000 in
set_option maxHeartbeats 4000000 in
theorem x_heard {g : zG} {d : Nat} {F : zF} {μ : zMem} {b pitch hd w : Int32} (hF : okF F) (hd9 : 7 ≤ d) (ho : oX F μ) : zM g d X_heard [.ref 1, .int b, .int pitch, .int hd, .int w] μ (fun r μ' => r = some (.int (sHeard F b pitch hd w)) ∧ zq sX μ μ') := by
  refine zM_of (by decide +kernel) rfl rfl (Nat.le_of_ble_eq_true rfl) rfl ?_
  have hz : zq sX μ μ := zq.rf
  have h12 := ho.v12
  have h6 := ho.b6
  refine zb X_heard_s0 rfl ?_
  refine zcallV X_heard_d5 k10_167 (by omega) (x_hasBell _ ho) rfl rfl rfl (Nat.le_of_ble_eq_true rfl) ?_
  rintro _ μx ⟨rfl, hx⟩
  rw [hx]
  clear hx μx
  refine z_eq X_heard_d8 (tgt := 27) rfl (fun h8 => ?_) (fun h8 => ?_)
  · refine zb X_heard_s27 rfl ?_
    refine z_ret X_heard_d28 rfl ?_
    refine ⟨?_, hz⟩
    unfold sHeard
    first
      | (rw [if_pos (And.intro g1 (And.intro g2 g3)), he_eq ho.v12 (by have := ho.b6; omega)]; done)
      | rw [if_neg (fun z => (show ¬ isB F b from zB_eq0.mp h8) z.1)]
      | rw [if_neg (fun z => (show ¬ htim hd from zB_eq0.mp h15) z.2.1)]
      | rw [if_neg (fun z => (show ¬ (0 ≤ w ∧ w ≤ 3) from zB_eq0.mp h24) z.2.2)]
  · refine zb X_heard_s11 rfl ?_
    refine zcallS X_heard_d12 k10_237 (by omega) (x_isHourDays _) rfl rfl (Nat.le_of_ble_eq_true rfl) ?_
    rintro _ μx ⟨rfl, hx⟩
    rw [hx]
    clear hx μx
    refine z_eq X_heard_d15 (tgt := 27) rfl (fun h15 => ?_) (fun h15 => ?_)
    · refine zb X_heard_s27 rfl ?_
      refine z_ret X_heard_d28 rfl ?_
      refine ⟨?_, hz⟩
      unfold sHeard
      first
        | (rw [if_pos (And.intro g1 (And.intro g2 g3)), he_eq ho.v12 (by have := ho.b6; omega)]; done)
        | rw [if_neg (fun z => (show ¬ isB F b from zB_eq0.mp h8) z.1)]
        | rw [if_neg (fun z => (show ¬ htim hd from zB_eq0.mp h15) z.2.1)]
        | rw [if_neg (fun z => (show ¬ (0 ≤ w ∧ w ≤ 3) from zB_eq0.mp h24) z.2.2)]
    · refine zb X_heard_s18 rfl ?_
      refine zcallS X_heard_d21 k10_170 (by omega) (x_isWithin _ _) rfl rfl (Nat.le_of_ble_eq_true rfl) ?_
      rintro _ μx ⟨rfl, hx⟩
      rw [hx]
      clear hx μx
      refine z_ne X_heard_d24 (tgt := 29) rfl (fun h24 => ?_) (fun h24 => ?_)
      · have g1 : isB F b := zB_ne0.mp h8
        have g2 : htim hd := zB_ne0.mp h15
        have g3 : 0 ≤ w ∧ w ≤ 3 := zB_ne0.mp h24
        obtain ⟨b, hbB, rfl, eb⟩ := zix g1.1 g1.2 (by have := ho.b6; omega)
        refine zb2 X_heard_s29 rfl (by decide) (by decide) ?_
        refine zcallV X_heard_d44 k10_240 (by omega) (x_hear (dd := hro hd) hF (hro_nn g2.1) (by omega) hbB ho) rfl rfl rfl (Nat.le_of_ble_eq_true rfl) ?_
        rintro _ μ1 ⟨rfl, hz1, l0, hr⟩
        replace hz := hz.tr hz1
        replace ho := ho.q hz1
        refine zb X_heard_s47 rfl ?_
        refine zcallV X_heard_d54 k10_244 (by omega) (x_told (by omega) ho hr g3) rfl rfl rfl (Nat.le_of_ble_eq_true rfl) ?_
        rintro _ μx ⟨rfl, hx⟩
        rw [hx]
        clear hx μx
        refine z_ret X_heard_d57 rfl ?_
        refine ⟨?_, hz⟩
        unfold sHeard
        first
          | (rw [if_pos (And.intro g1 (And.intro g2 g3)), he_eq ho.v12 (by have := ho.b6; omega)]; done)
          | rw [if_neg (fun z => (show ¬ isB F b from zB_eq0.mp h8) z.1)]
          | rw [if_neg (fun z => (show ¬ htim hd from zB_eq0.mp h15) z.2.1)]
          | rw [if_neg (fun z => (show ¬ (0 ≤ w ∧ w ≤ 3) from zB_eq0.mp h24) z.2.2)]
      · refine zb X_heard_s27 rfl ?_
        refine z_ret X_heard_d28 rfl ?_
        refine ⟨?_, hz⟩
        unfold sHeard
        first
          | (rw [if_pos (And.intro g1 (And.intro g2 g3)), he_eq ho.v12 (by have := ho.b6; omega)]; done)
          | rw [if_neg (fun z => (show ¬ isB F b from zB_eq0.mp h8) z.1)]
          | rw [if_neg (fun z => (show ¬ htim hd from zB_eq0.mp h15) z.2.1)]
          | rw [if_neg (fun z => (show ¬ (0 ≤ w ∧ w ≤ 3) from zB_eq0.mp h24) z.2.2)]

set_option maxRecDepth 100000 in
set_option maxHeartbeats 4000000 in
theorem w_unheard {g : zG} {d : Nat} {F : zF} {μ0 : zMem} {h dd : Int32} (hdd : 0 ≤ dd) (hd : 6 ≤ d) : ∀ (j i : Nat) (acc : Int32) (x5 : Option Value) (μ : zMem), i + j = fV F → oX F μ → zq sX μ0 μ → (acc = zfold (fun v s => if giv F v (fbell F v) 1 0 h = giv F v (fbell F v) 0 dd h then s ||| bit1 v else s) 0 i 0) → zW g L_unheard d 5 [some (.ref 5), some (.int h), some (.int dd), some (.int acc), some (.int (nI i)), x5] [] μ (fun r μ' => r = some (.int (silS F h dd)) ∧ zq sX μ0 μ') := by
  intro j
  induction j with
  | zero =>
    intro i acc x5 μ hi ho hz hv0
    have hbd := ho.v
    have h12 := ho.v12
    have h6 := ho.b6
    have hi : fV F = i := by omega
    subst hi
    refine zb L_unheard_s5 rfl ?_
    refine z_cge L_unheard_d14 (tgt := 71) rfl (fun h14 => ?_) (fun h14 => absurd (show μ.1 2 8 ≤ nI (fV F) by first | exact Int32.le_refl _ | (rw [hbd]; exact Int32.le_refl _)) h14)
    refine zb L_unheard_s71 rfl ?_
    refine z_ret L_unheard_d72 rfl ?_
    exact ⟨by rw [hv0]; rfl, hz⟩
  | succ j ih =>
    intro i acc x5 μ hi ho hz hv0
    have hbd := ho.v
    have h12 := ho.v12
    have h6 := ho.b6
    have hilt : i < fV F := by omega
    have ei : (nI i).toNatClampNeg = i := nI_clamp (by omega)
    have hvi : vp_in (nI i) 12 := vp_in_nI (by omega) (by omega)
    have e56 := ho.e56
    refine zb L_unheard_s5 rfl ?_
    refine z_cge L_unheard_d14 (tgt := 71) rfl (fun h14 => absurd h14 (show ¬ μ.1 2 8 ≤ nI i by first | exact nI_ge hilt (by omega) | (rw [hbd]; exact nI_ge hilt (by omega)))) (fun h14 => ?_)
    refine zb1 L_unheard_s17 rfl hvi ?_
    rw [e56, ei]
    refine zcallV L_unheard_d39 k5_53 (by omega) (x_offIf (by omega) (by omega) ho) rfl rfl rfl (Nat.le_of_ble_eq_true rfl) ?_
    rintro _ μ1 ⟨rfl, hz1⟩
    replace hz := hz.tr (hz1.mono nS_sX)
    replace ho := ho.q (hz1.mono nS_sX)
    clear hz1
    refine zb L_unheard_s42 rfl ?_
    refine zcallV L_unheard_d52 k5_53 (by omega) (x_offIf (by omega) (by omega) ho) rfl rfl rfl (Nat.le_of_ble_eq_true rfl) ?_
    rintro _ μ1 ⟨rfl, hz1⟩
    replace hz := hz.tr (hz1.mono nS_sX)
    replace ho := ho.q (hz1.mono nS_sX)
    clear hz1
    refine z_cne L_unheard_d55 (tgt := 65) rfl (fun h55 => ?_) (fun h55 => ?_)
    · refine zb L_unheard_s65 rfl ?_
      rw [nI_1]
      rw [ofI_giv1 F i (fbell F i) 0 h, ofI_giv0 F i (fbell F i) dd h hdd] at h55
      refine ih (i + 1) _ _ _ (by omega) ho hz ?_
      rw [zf0, ← hv0]
      first
        | (rw [if_neg h55]; done)
        | (rw [if_pos h55]; rfl)
    · refine zb L_unheard_s58 rfl ?_
      rw [nI_1]
      rw [ofI_giv1 F i (fbell F i) 0 h, ofI_giv0 F i (fbell F i) dd h hdd] at h55
      refine ih (i + 1) _ _ _ (by omega) ho hz ?_
      rw [zf0, ← hv0]
      first
        | (rw [if_neg h55]; done)
        | (rw [if_pos h55]; rfl)

set_option maxRecDepth 100000 in
set_option maxHeartbeats 4000000 in
theorem x_unheard {g : zG} {d : Nat} {F : zF} {μ : zMem} {h dd : Int32} (hdd : 0 ≤ dd) (hd : 6 ≤ d) (ho : oX F μ) : zM g d L_unheard [.ref 5, .int h, .int dd] μ (fun r μ' => r = some (.int (silS F h dd)) ∧ zq sX μ μ') := by
  refine zM_of (by decide +kernel) rfl rfl (Nat.le_of_ble_eq_true rfl) rfl ?_
  refine zb L_unheard_s0 rfl ?_
  exact w_unheard hdd hd (fV F) 0 0 _ μ (by omega) ho zq.rf rfl

set_option maxRecDepth 100000 in
set_option maxHeartbeats 4000000 in
theorem x_silent {g : zG} {d : Nat} {F : zF} {μ : zMem} {h dd : Int32} (hd9 : 7 ≤ d) (ho : oX F μ) : zM g d X_silent [.ref 1, .int h, .int dd] μ (fun r μ' => r = some (.int (sSilent F h dd)) ∧ zq sX μ μ') := by
  refine zM_of (by decide +kernel) rfl rfl (Nat.le_of_ble_eq_true rfl) rfl ?_
  have hz : zq sX μ μ := zq.rf
  have h12 := ho.v12
  have h6 := ho.b6
  refine zb X_silent_s0 rfl ?_
  refine zcallS X_silent_d3 k10_170 (by omega) (x_isWithin _ _) rfl rfl (Nat.le_of_ble_eq_true rfl) ?_
  rintro _ μx ⟨rfl, hx⟩
  rw [hx]
  clear hx μx
  refine z_eq X_silent_d6 (tgt := 18) rfl (fun h6 => ?_) (fun h6 => ?_)
  · refine zb X_silent_s18 rfl ?_
    refine z_ret X_silent_d19 rfl ?_
    refine ⟨?_, hz⟩
    unfold sSilent
    first
      | (rw [if_pos (And.intro g1 g2)]; done)
      | rw [if_neg (fun z => (show ¬ (0 ≤ h ∧ h ≤ 23) from zB_eq0.mp h6) z.1)]
      | rw [if_neg (fun z => (show ¬ (0 ≤ dd ∧ dd ≤ 99) from zB_eq0.mp h15) z.2)]
  · refine zb X_silent_s9 rfl ?_
    refine zcallS X_silent_d12 k10_170 (by omega) (x_isWithin _ _) rfl rfl (Nat.le_of_ble_eq_true rfl) ?_
    rintro _ μx ⟨rfl, hx⟩
    rw [hx]
    clear hx μx
    refine z_ne X_silent_d15 (tgt := 20) rfl (fun h15 => ?_) (fun h15 => ?_)
    · have g1 : 0 ≤ h ∧ h ≤ 23 := zB_ne0.mp h6
      have g2 : 0 ≤ dd ∧ dd ≤ 99 := zB_ne0.mp h15
      refine zb X_silent_s20 rfl ?_
      refine zcallV X_silent_d26 k10_234 (by omega) (x_unheard g2.1 (by omega) ho) rfl rfl rfl (Nat.le_of_ble_eq_true rfl) ?_
      rintro _ μ1 ⟨rfl, hz1⟩
      replace hz := hz.tr hz1
      replace ho := ho.q hz1
      clear hz1
      refine z_ret X_silent_d29 rfl ?_
      refine ⟨?_, hz⟩
      unfold sSilent
      first
        | (rw [if_pos (And.intro g1 g2)]; done)
        | rw [if_neg (fun z => (show ¬ (0 ≤ h ∧ h ≤ 23) from zB_eq0.mp h6) z.1)]
        | rw [if_neg (fun z => (show ¬ (0 ≤ dd ∧ dd ≤ 99) from zB_eq0.mp h15) z.2)]
    · refine zb X_silent_s18 rfl ?_
      refine z_ret X_silent_d19 rfl ?_
      refine ⟨?_, hz⟩
      unfold sSilent
      first
        | (rw [if_pos (And.intro g1 g2)]; done)
        | rw [if_neg (fun z => (show ¬ (0 ≤ h ∧ h ≤ 23) from zB_eq0.mp h6) z.1)]
        | rw [if_neg (fun z => (show ¬ (0 ≤ dd ∧ dd ≤ 99) from zB_eq0.mp h15) z.2)]
