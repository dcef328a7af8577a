/-! the class: since when; the face -/
theorem tri_eq (t o p q c : Int32) : t + (o - p) + q = c ↔ c - t - o + p = q := by
  constructor <;> intro h <;> grind
theorem add_sub_r (a b c : Int32) : a + b - c = a - c + b := by grind
theorem zsum_off {f g : Nat → Int32} {v : Nat} : ∀ n : Nat, v < n → (∀ u, u < n → ¬ u = v → f u = g u) → zsum f n - f v = zsum g n - g v
  | 0, h, _ => absurd h (Nat.not_lt_zero _)
  | n + 1, h, ho => by
    rw [zsum_s, zsum_s]
    by_cases q : v = n
    · have e : zsum f n = zsum g n := zsum_congr n (fun u hu => ho u (by omega) (by omega))
      rw [q, e]
      grind
    · rw [add_sub_r, add_sub_r, zsum_off n (by omega) (fun u hu hne => ho u (by omega) hne), ho n (by omega) (fun z => q z.symm)]
theorem so_snc {F : zF} {b D v n s : Nat} {h : Int32} {c : Nat → Int32} (hv : v < fV F) (hb : fbell F v = nI b) (hD : D + n ≤ 999) (hs : s < 1000) : soP F b D h v c n s ↔ sncP (dueF F b D h c v) (aftF F v h) (giv F v (nI b) 1 0 h) D n s := by
  unfold sncP
  refine forall_congr' (fun i => forall_congr' (fun hi => ?_))
  have hle : D + i ≤ 998 := by omega
  have e1 : beT (fsag F v 999) b D h v i = offs F (nI b) (nI (D + i)) h - pu F v (nI b) (nI (D + i)) h := by
    unfold beT
    rw [if_pos hle]
    have k := zsum_off (f := offT (fsag F v 999) (nI b) (nI (D + i)) h) (g := offT F (nI b) (nI (D + i)) h) (v := v) (fV F) hv (fun u hu hne => by
      unfold offT
      show (if fbell F u = nI b then pu (fsag F v 999) u (nI b) (nI (D + i)) h else 0) = _
      by_cases q : fbell F u = nI b
      · rw [if_pos q, if_pos q]
        have e : fag (fsag F v 999) u = fag F u := if_neg hne
        have e2 : kept (fsag F v 999) u (nI (D + i)) ↔ kept F u (nI (D + i)) := by
          show (_ ∨ (_ ∧ fag (fsag F v 999) u ≤ _)) ↔ _
          unfold kept
          rw [e]
          exact Iff.rfl
        unfold pu
        rw [zB_cong e2]
        rfl
      · rw [if_neg q, if_neg q])
    have o1 : offT (fsag F v 999) (nI b) (nI (D + i)) h v = pu (fsag F v 999) v (nI b) (nI (D + i)) h := if_pos hb
    have o2 : offT F (nI b) (nI (D + i)) h v = pu F v (nI b) (nI (D + i)) h := if_pos hb
    rw [o1, o2] at k
    exact k
  have e2 : pu (fsbr (fsag F v 999) v (nI s)) v (nI b) (nI (D + i)) h = if D + i < s then giv F v (nI b) 1 0 h else aftF F v h (D + i - s) := by
    have ebr : fbr (fsbr (fsag F v 999) v (nI s)) v = nI s := if_pos rfl
    have eag : fag (fsbr (fsag F v 999) v (nI s)) v = 999 := if_pos rfl
    have hk : kept (fsbr (fsag F v 999) v (nI s)) v (nI (D + i)) ↔ D + i < s := by
      unfold kept
      rw [ebr, eag, nI_ltI (by omega) (by omega)]
      exact ⟨fun z => z.elim id (fun y => absurd y.2 (nI_ge (b := 999) (by omega) (by omega))), Or.inl⟩
    unfold pu
    rw [zB_cong hk, ebr]
    by_cases q : D + i < s
    · rw [if_pos q, zB_t q]
      show giv F v (nI b) 1 (nI (D + i) - nI s) h = _
      unfold giv
      rw [if_neg (by decide), if_neg (by decide)]
    · rw [if_neg q, zB_f q, pk_sub (by omega)]
      unfold aftF
      rw [hb]
      rfl
  rw [e1, e2]
  have et : ftone (fsbr (fsag F v 999) v (nI s)) b = ftone F b := rfl
  unfold dueF
  rw [hb]
  exact ⟨fun z => (tri_eq _ _ _ _ _).mp z.2, fun z => ⟨hle, (tri_eq _ _ _ _ _).mpr z⟩⟩
theorem br_none {F : zF} {b D n : Nat} {h : Int32} {c : Nat → Int32} (hD : ¬ D + n ≤ 999) (hn : n ≤ 60) (hD2 : D ≤ 998) : brS F b D h c n = (-2, 0) := by
  have hno : ∀ v s, ¬ soP F b D h v c n s := fun v s z => by
    have := (z (n - 1) (by omega)).1
    omega
  have h1 : ∀ v N t, zfold (brDay F b D h c n v) 0 N t = t := by
    intro v N t
    induction N with
    | zero => rfl
    | succ N ih =>
      rw [zf0, ih]
      unfold brDay
      exact if_neg (hno v N)
  have h2 : ∀ N t, zfold (brV F b D h c n) 0 N t = t := by
    intro N t
    induction N with
    | zero => rfl
    | succ N ih =>
      rw [zf0, ih]
      unfold brV
      split
      · exact h1 _ _ _
      · rfl
  exact h2 _ _
def fsOK (t : Int32 × Int32) : Prop := t.1 = -2 ∨ 0 ≤ t.1
theorem brDay_ok {F : zF} {b D n v s : Nat} {h : Int32} {c : Nat → Int32} {t : Int32 × Int32} (hv : v < 12) (hs : s < 1000) (ht : fsOK t) : fsOK (brDay F b D h c n v s t) := by
  unfold brDay
  split
  · unfold fsOK
    dsimp only
    split
    · refine Or.inr ?_
      rw [show (1000 : Int32) = nI 1000 from rfl, pk_mul, nI_add]
      exact nI_pos' (by omega)
    · exact ht
  · exact ht
def opBroke (S : zS) (s b dh w : Int32) : Int32 := if (0 ≤ s ∧ s < 6) ∧ isB S.1 b ∧ tim dh ∧ (0 ≤ w ∧ w ≤ 1) then barW (hHeld S s.toNatClampNeg) (hSort S s.toNatClampNeg) (if w = 0 then (brS S.1 b.toNatClampNeg (dh / 100).toNatClampNeg (hro dh) (hInt S s.toNatClampNeg) (hSize S s.toNatClampNeg).toNatClampNeg).1 else (brS S.1 b.toNatClampNeg (dh / 100).toNatClampNeg (hro dh) (hInt S s.toNatClampNeg) (hSize S s.toNatClampNeg).toNatClampNeg).2) else -1
theorem lst_le {L : Nat} (hL : L < 2 ^ 30) : nI L - 1 ≤ 998 ↔ L ≤ 999 := by
  rw [Int32.le_iff_toInt_le, show (1 : Int32) = nI 1 from rfl, pk_sub_toInt (by omega) (by decide), show (998 : Int32).toInt = 998 from rfl]
  omega

set_option maxRecDepth 100000 in
set_option maxHeartbeats 4000000 in
theorem w_left_0 {g : zG} {d : Nat} {F : zF} {μ0 : zMem} {b D : Nat} {h : Int32} {n : Nat} {cc : Nat → Int32} (hn : n ≤ 60) (hsz : μ0.1 13 3 = nI n) (hce : ∀ t, t < 60 → (μ0.2.1 19 t).toInt32 = cc t) (hF : okF F) (hb : b < fB F) (hD : D ≤ 998) (hd : 6 ≤ d) : ∀ (j i : Nat) (μ : zMem), i + j = n → oX F μ → zq (n1 66) μ0 μ → (∀ k, k < i → μ.1 66 k = lefF F b D h cc k) → zW g L_fillLeft d 3 [some (.ref 5), some (.ref 13), some (.int (nI b)), some (.int (nI D)), some (.int h), some (.int (nI i))] [] μ (fun r μ' => r = none ∧ zq (n1 66) μ0 μ' ∧ ∀ k, k < n → μ'.1 66 k = lefF F b D h cc k) := by
  intro j
  induction j with
  | zero =>
    intro i  μ hi ho hz hv0
    have h6 := ho.b6
    have hsz2 : μ.1 13 3 = nI n := by rw [hz.1 13 3 rfl]; exact hsz
    have hce2 : ∀ t, t < 60 → (μ.2.1 19 t).toInt32 = cc t := fun t ht => by rw [hz.2]; exact hce t ht
    have hi : n = i := by omega
    subst hi
    refine zb L_fillLeft_s3 rfl ?_
    refine z_cge L_fillLeft_d9 (tgt := 58) rfl (fun h9 => ?_) (fun h9 => absurd (show μ.1 13 3 ≤ nI n by rw [hsz2]; exact Int32.le_refl _) h9)
    refine z_retV L_fillLeft_d58 rfl ?_
    exact ⟨rfl, hz, hv0⟩
  | succ j ih =>
    intro i  μ hi ho hz hv0
    have h6 := ho.b6
    have hsz2 : μ.1 13 3 = nI n := by rw [hz.1 13 3 rfl]; exact hsz
    have hce2 : ∀ t, t < 60 → (μ.2.1 19 t).toInt32 = cc t := fun t ht => by rw [hz.2]; exact hce t ht
    have hilt : i < n := by omega
    have ei : (nI i).toNatClampNeg = i := nI_clamp (by omega)
    have hvi : vp_in (nI i) 60 := vp_in_nI (by omega) (by omega)
    have hvb : vp_in (nI b) 6 := vp_in_nI (by omega) (by omega)
    have eb : (nI b).toNatClampNeg = b := nI_clamp (by omega)
    have e54 := ho.e54
    have hci := hce2 i (by omega)
    refine zb L_fillLeft_s3 rfl ?_
    refine z_cge L_fillLeft_d9 (tgt := 58) rfl (fun h9 => absurd h9 (show ¬ μ.1 13 3 ≤ nI i by rw [hsz2]; exact nI_ge hilt (by omega))) (fun h9 => ?_)
    refine zb2 L_fillLeft_s12 rfl (by first | exact hvi | exact hvb) (by first | exact hvi | exact hvb) ?_
    rw [nI_add, e54, eb, ei, hci]
    refine zcallV L_fillLeft_d47 k5_60 (by omega) (x_offOfN hF (by omega) ho) rfl rfl rfl (Nat.le_of_ble_eq_true rfl) ?_
    rintro _ μ1 ⟨rfl, hz1⟩
    have hv0a : ∀ k, k < i → μ1.1 66 k = lefF F b D h cc k := fun k hk => by rw [hz1.1 66 k rfl]; exact hv0 k hk
    replace hz := hz.tr (hz1.mono nS_n1)
    replace ho := ho.q (hz1.mono nS_sX)
    refine zb1 L_fillLeft_s50 rfl (by first | exact hvi | exact hvb) ?_
    (try rw [ei])
    rw [nI_1]
    refine ih (i + 1) _ (by omega) (ho.q (zq.w (m := sX) rfl)) (hz.tr (zq.w rfl)) (fun k hk => ?_)
    rw [zpI_at]
    by_cases y : k = i
    · rw [if_pos y, y]
      rfl
    · rw [if_neg y]
      exact hv0a k (by omega)

set_option maxRecDepth 100000 in
set_option maxHeartbeats 4000000 in
theorem x_left_0 {g : zG} {d : Nat} {F : zF} {μ0 : zMem} {b D : Nat} {h : Int32} {n : Nat} {cc : Nat → Int32} (hn : n ≤ 60) (hsz : μ0.1 13 3 = nI n) (hce : ∀ t, t < 60 → (μ0.2.1 19 t).toInt32 = cc t) (hF : okF F) (hb : b < fB F) (hD : D ≤ 998) (hd : 6 ≤ d) (ho : oX F μ0) : zM g d L_fillLeft [.ref 5, .ref 13, .int (nI b), .int (nI D), .int h] μ0 (fun r μ' => r = none ∧ zq (n1 66) μ0 μ' ∧ ∀ k, k < n → μ'.1 66 k = lefF F b D h cc k) := by
  refine zM_of (by decide +kernel) rfl rfl (Nat.le_of_ble_eq_true rfl) rfl ?_
  refine zb L_fillLeft_s0 rfl ?_
  exact w_left_0 hn hsz hce hF hb hD hd n 0 μ0 (by omega) ho zq.rf (fun k hk => by omega)

set_option maxRecDepth 100000 in
set_option maxHeartbeats 4000000 in
theorem w_brI_0 {g : zG} {d : Nat} {F : zF} {μ1 : zMem} {b D n v k : Nat} {h w x : Int32} {cc : Nat → Int32} {t0 : Int32 × Int32} {Q : Option Value → zMem → Prop} (hd : 2 ≤ d) (hn : n ≤ 60) (hDn : D + n ≤ 999) (hsz : μ1.1 13 3 = nI n) (hvV : v < fV F) (hV : fV F ≤ 12) (hbv : fbell F v = nI b) (hk : ldP (μ1.1 67) x n k) (hrow : ∀ s, s < 1000 → sncP (μ1.1 67) (μ1.1 68) x D n s = sncP (dueF F b D h cc v) (aftF F v h) (giv F v (nI b) 1 0 h) D n s) (hQ : ∀ (a6 a7 : Int32) (y9 y10 : Option Value), fsOK (a6, a7) → (a6, a7) = zfold (brDay F b D h cc n v) 0 1000 t0 → zW g L_sinceWhen d 183 [some (.ref 5), some (.ref 13), some (.int (nI b)), some (.int (nI D)), some (.int h), some (.int w), some (.int a6), some (.int a7), some (.int (nI v)), y9, y10] [] μ1 Q) : ∀ (j i : Nat) (a6 : Int32) (a7 : Int32) (μ : zMem), i + j = 1000 → (μ = μ1) → (fsOK (a6, a7)) → ((a6, a7) = zfold (brDay F b D h cc n v) 0 i t0) → zW g L_sinceWhen d 129 [some (.ref 5), some (.ref 13), some (.int (nI b)), some (.int (nI D)), some (.int h), some (.int w), some (.int a6), some (.int a7), some (.int (nI v)), some (.int (nI k)), some (.int (nI i))] [] μ (Q) := by
  intro j
  induction j with
  | zero =>
    intro i a6 a7 μ hi  hv0 hv1 hv2
    have hi : 1000 = i := by omega
    subst hi
    refine zb L_sinceWhen_s129 rfl ?_
    refine z_cgt L_sinceWhen_d134 (tgt := 183) rfl (fun h134 => ?_) (fun h134 => absurd (show (999 : Int32) < nI 1000 by decide) h134)
    rw [hv0]
    exact hQ a6 a7 _ _ hv1 hv2
  | succ j ih =>
    intro i a6 a7 μ hi  hv0 hv1 hv2
    have hilt : i < 1000 := by omega
    have ei : (nI i).toNatClampNeg = i := nI_clamp (by omega)
    subst hv0
    have hstep := brDay_ok (F := F) (b := b) (D := D) (n := n) (h := h) (c := cc) (show v < 12 by omega) hilt hv1
    have hz0 : zfold (brDay F b D h cc n v) 0 (i + 1) t0 = brDay F b D h cc n v i (a6, a7) := by rw [zf0, ← hv2]
    refine zb L_sinceWhen_s129 rfl ?_
    refine z_cgt L_sinceWhen_d134 (tgt := 183) rfl (fun h134 => absurd h134 (Int32.not_lt.mpr (nI_le (b := 999) (by omega) (by omega)))) (fun h134 => ?_)
    refine zb L_sinceWhen_s137 rfl ?_
    rw [hsz]
    refine zcallV L_sinceWhen_d147 k5_133 (by omega) (x_isSince (by omega) hn hDn (by omega) hk) rfl rfl rfl (Nat.le_of_ble_eq_true rfl) ?_
    rintro _ μ2 ⟨⟨w9, rfl, hw9, hs9⟩, hμ2⟩
    rw [hμ2]
    clear hμ2 μ2
    have hso := (so_snc (c := cc) (h := h) hvV hbv hDn hilt).symm
    rw [hrow i hilt] at hs9
    replace hs9 := hs9.trans hso
    refine z_eq L_sinceWhen_d150 (tgt := 177) rfl (fun h150 => ?_) (fun h150 => ?_)
    · refine zb L_sinceWhen_s177 rfl ?_
      rw [nI_1]
      (try rw [nI_1])
      first
        | (have e : brDay F b D h cc n v i (a6, a7) = (a6, a7) := if_neg (fun z => absurd (hs9.mpr z) (fun y => y h150))
           rw [e] at hstep hz0
           exact ih (i + 1) _ _ _ (by omega) rfl hstep hz0.symm)
        | (have hso9 := hs9.mp h150
           have e : brDay F b D h cc n v i (a6, a7) = (if a6 = -2 then 1000 * nI v + nI i else a6, a7 + 1) := if_pos hso9
           first
             | (have h6n : ¬ a6 = -2 := fun z => by rw [z] at h158; exact absurd h158 (by decide)
                rw [if_neg h6n] at e
                rw [e] at hstep hz0
                exact ih (i + 1) _ _ _ (by omega) rfl hstep hz0.symm)
             | (have h6y : a6 = -2 := hv1.resolve_right h158
                rw [if_pos h6y] at e
                rw [e] at hstep hz0
                exact ih (i + 1) _ _ _ (by omega) rfl hstep hz0.symm))
    · refine zb L_sinceWhen_s153 rfl ?_
      refine z_ge L_sinceWhen_d158 (tgt := 173) rfl (fun h158 => ?_) (fun h158 => ?_)
      · refine zb L_sinceWhen_s173 rfl ?_
        rw [nI_1]
        (try rw [nI_1])
        first
          | (have e : brDay F b D h cc n v i (a6, a7) = (a6, a7) := if_neg (fun z => absurd (hs9.mpr z) (fun y => y h150))
             rw [e] at hstep hz0
             exact ih (i + 1) _ _ _ (by omega) rfl hstep hz0.symm)
          | (have hso9 := hs9.mp h150
             have e : brDay F b D h cc n v i (a6, a7) = (if a6 = -2 then 1000 * nI v + nI i else a6, a7 + 1) := if_pos hso9
             first
               | (have h6n : ¬ a6 = -2 := fun z => by rw [z] at h158; exact absurd h158 (by decide)
                  rw [if_neg h6n] at e
                  rw [e] at hstep hz0
                  exact ih (i + 1) _ _ _ (by omega) rfl hstep hz0.symm)
               | (have h6y : a6 = -2 := hv1.resolve_right h158
                  rw [if_pos h6y] at e
                  rw [e] at hstep hz0
                  exact ih (i + 1) _ _ _ (by omega) rfl hstep hz0.symm))
      · refine zb L_sinceWhen_s161 rfl ?_
        rw [nI_1]
        (try rw [nI_1])
        first
          | (have e : brDay F b D h cc n v i (a6, a7) = (a6, a7) := if_neg (fun z => absurd (hs9.mpr z) (fun y => y h150))
             rw [e] at hstep hz0
             exact ih (i + 1) _ _ _ (by omega) rfl hstep hz0.symm)
          | (have hso9 := hs9.mp h150
             have e : brDay F b D h cc n v i (a6, a7) = (if a6 = -2 then 1000 * nI v + nI i else a6, a7 + 1) := if_pos hso9
             first
               | (have h6n : ¬ a6 = -2 := fun z => by rw [z] at h158; exact absurd h158 (by decide)
                  rw [if_neg h6n] at e
                  rw [e] at hstep hz0
                  exact ih (i + 1) _ _ _ (by omega) rfl hstep hz0.symm)
               | (have h6y : a6 = -2 := hv1.resolve_right h158
                  rw [if_pos h6y] at e
                  rw [e] at hstep hz0
                  exact ih (i + 1) _ _ _ (by omega) rfl hstep hz0.symm))

set_option maxRecDepth 100000 in
set_option maxHeartbeats 4000000 in
theorem w_broke_0 {g : zG} {d : Nat} {F : zF} {μ0 : zMem} {b D : Nat} {h w : Int32} {n : Nat} {cc : Nat → Int32} (hn : n ≤ 60) (hsz : μ0.1 13 3 = nI n) (hF : okF F) (hb : b < fB F) (hDn : D + n ≤ 999) (hD : D ≤ 998) (hd : 7 ≤ d) : ∀ (j i : Nat) (a6 : Int32) (a7 : Int32) (y9 : Option Value) (y10 : Option Value) (μ : zMem), i + j = fV F → oX F μ → zq sX μ0 μ → (∀ k, k < n → μ.1 66 k = lefF F b D h cc k) → (fsOK (a6, a7)) → ((a6, a7) = zfold (brV F b D h cc n) 0 i (-2, 0)) → zW g L_sinceWhen d 45 [some (.ref 5), some (.ref 13), some (.int (nI b)), some (.int (nI D)), some (.int h), some (.int w), some (.int a6), some (.int a7), some (.int (nI i)), y9, y10] [] μ (fun r μ' => r = some (.int (if w = 0 then (brS F b D h cc n).1 else (brS F b D h cc n).2)) ∧ zq sX μ0 μ') := by
  intro j
  induction j with
  | zero =>
    intro i a6 a7 y9 y10 μ hi ho hz hv0 hv1 hv2
    have hbd := ho.v
    have h12 := ho.v12
    have h6 := ho.b6
    have hsz2 : μ.1 13 3 = nI n := by rw [hz.1 13 3 rfl]; exact hsz
    have hi : fV F = i := by omega
    subst hi
    refine zb L_sinceWhen_s45 rfl ?_
    refine z_cge L_sinceWhen_d54 (tgt := 189) rfl (fun h54 => ?_) (fun h54 => absurd (show μ.1 2 8 ≤ nI (fV F) by first | exact Int32.le_refl _ | (rw [hbd]; exact Int32.le_refl _)) h54)
    refine zb L_sinceWhen_s189 rfl ?_
    refine z_ne L_sinceWhen_d191 (tgt := 199) rfl (fun h191 => ?_) (fun h191 => ?_)
    · refine zb L_sinceWhen_s199 rfl ?_
      refine z_ret L_sinceWhen_d201 rfl ?_
      have e : brS F b D h cc n = (a6, a7) := hv2.symm
      refine ⟨?_, hz⟩
      rw [e]
      first
        | (rw [if_pos h191]; done)
        | (rw [if_neg h191]; done)
    · refine zb L_sinceWhen_s194 rfl ?_
      refine z_ret L_sinceWhen_d201 rfl ?_
      have e : brS F b D h cc n = (a6, a7) := hv2.symm
      refine ⟨?_, hz⟩
      rw [e]
      first
        | (rw [if_pos h191]; done)
        | (rw [if_neg h191]; done)
  | succ j ih =>
    intro i a6 a7 y9 y10 μ hi ho hz hv0 hv1 hv2
    have hbd := ho.v
    have h12 := ho.v12
    have h6 := ho.b6
    have hsz2 : μ.1 13 3 = nI n := by rw [hz.1 13 3 rfl]; exact hsz
    have hilt : i < fV F := by omega
    have ei : (nI i).toNatClampNeg = i := nI_clamp (by omega)
    have hvi : vp_in (nI i) 12 := vp_in_nI (by omega) (by omega)
    have e56 := ho.e56
    have hz0 : zfold (brV F b D h cc n) 0 (i + 1) (-2, 0) = brV F b D h cc n i (a6, a7) := by rw [zf0, ← hv2]
    refine zb L_sinceWhen_s45 rfl ?_
    refine z_cge L_sinceWhen_d54 (tgt := 189) rfl (fun h54 => absurd h54 (show ¬ μ.1 2 8 ≤ nI i by first | exact nI_ge hilt (by omega) | (rw [hbd]; exact nI_ge hilt (by omega)))) (fun h54 => ?_)
    refine zb1 L_sinceWhen_s57 rfl hvi ?_
    refine z_ceq L_sinceWhen_d68 (tgt := 74) rfl (fun h68 => ?_) (fun h68 => ?_)
    · refine zb L_sinceWhen_s74 rfl ?_
      rw [hsz2]
      refine zcallV L_sinceWhen_d84 k5_122 (by omega) (x_due (b := b) (c := cc) hF hilt hn hv0 hD (by omega) ho) rfl rfl rfl (Nat.le_of_ble_eq_true rfl) ?_
      rintro _ μ1 ⟨rfl, hz1, hr1⟩
      have hzx1 := hz1.mono (n1_sX (fun _ => rfl))
      have hla : ∀ k, k < n → μ1.1 66 k = lefF F b D h cc k := fun k hk => by rw [hz1.1 66 k rfl]; exact hv0 k hk
      have ho1 := ho.q hzx1
      refine zb L_sinceWhen_s87 rfl ?_
      rw [show μ1.1 13 3 = nI n by rw [hz1.1 13 3 rfl]; exact hsz2, nI_add]
      refine zcallV L_sinceWhen_d100 k5_126 (by omega) (x_after (L := D + n) (v := i) (by omega) hDn (by omega) ho1) rfl rfl rfl (Nat.le_of_ble_eq_true rfl) ?_
      rintro _ μ2 ⟨rfl, hz2, hr2⟩
      have hzx2 := hz2.mono (n1_sX (fun _ => rfl))
      have hlb : ∀ k, k < n → μ2.1 66 k = lefF F b D h cc k := fun k hk => by rw [hz2.1 66 k rfl]; exact hla k hk
      have hdb : ∀ k, k < n → μ2.1 67 k = dueF F b D h cc i k := fun k hk => by rw [hz2.1 67 k rfl]; exact hr1 k hk
      have ho2 := ho1.q hzx2
      have hsz4 : μ2.1 13 3 = nI n := by rw [hz2.1 13 3 rfl, hz1.1 13 3 rfl]; exact hsz2
      refine zb L_sinceWhen_s103 rfl ?_
      refine zcallV L_sinceWhen_d118 k5_53 (by omega) (x_offIf (by omega) (by omega) ho2) rfl rfl rfl (Nat.le_of_ble_eq_true rfl) ?_
      rintro _ μ3 ⟨rfl, hz3⟩
      have hzx3 := hz3.mono nS_sX
      have hlc : ∀ k, k < n → μ3.1 66 k = lefF F b D h cc k := fun k hk => by rw [hz3.1 66 k rfl]; exact hlb k hk
      have hdc : ∀ k, k < n → μ3.1 67 k = dueF F b D h cc i k := fun k hk => by rw [hz3.1 67 k rfl]; exact hdb k hk
      have hac : ∀ k, k < D + n → μ3.1 68 k = aftF F i h k := fun k hk => by rw [hz3.1 68 k rfl]; exact hr2 k hk
      have ho3 := ho2.q hzx3
      have hsz5 : μ3.1 13 3 = nI n := by rw [hz3.1 13 3 rfl]; exact hsz4
      have hzz := ((hz.tr hzx1).tr hzx2).tr hzx3
      rw [ofI_giv1 F i (nI b) 0 h, hsz4]
      skip
      refine zcallV L_sinceWhen_d121 k5_130 (by omega) (x_lead hn) rfl rfl rfl (Nat.le_of_ble_eq_true rfl) ?_
      rintro _ μ4 ⟨⟨k, rfl, hk⟩, hμ4⟩
      rw [hμ4]
      clear hμ4 μ4
      refine zb L_sinceWhen_s124 rfl ?_
      rw [e56, ei] at h68
      have e : brV F b D h cc n i (a6, a7) = zfold (brDay F b D h cc n i) 0 1000 (a6, a7) := if_pos h68
      rw [e] at hz0
      refine w_brI_0 (F := F) (cc := cc) (x := giv F i (nI b) 1 0 h) (t0 := (a6, a7)) (by omega) hn hDn hsz5 hilt h12 h68 hk (fun s hs => ?_) (fun b6 b7 z9 z10 hb1 hb2 => ?_) 1000 0 a6 a7 _ (by omega) rfl hv1 rfl
      · refine propext (forall_congr' (fun q => forall_congr' (fun hq => ?_)))
        rw [hdc q hq]
        by_cases y : D + q < s
        · rw [if_pos y, if_pos y]
        · rw [if_neg y, if_neg y, hac _ (by omega)]
      · refine zb L_sinceWhen_s183 rfl ?_
        rw [nI_1]
        exact ih (i + 1) _ _ _ _ _ (by omega) ho3 hzz hlc hb1 (hb2.trans hz0.symm)
    · refine zb L_sinceWhen_s71 rfl ?_
      rw [e56, ei] at h68
      rw [nI_1]
      have e : brV F b D h cc n i (a6, a7) = (a6, a7) := if_neg h68
      rw [e] at hz0
      exact ih (i + 1) _ _ _ _ _ (by omega) ho hz hv0 hv1 hz0.symm

set_option maxRecDepth 100000 in
set_option maxHeartbeats 4000000 in
theorem x_since_0 {g : zG} {d : Nat} {F : zF} {μ0 : zMem} {b D : Nat} {h w : Int32} {n : Nat} {cc : Nat → Int32} (hn : n ≤ 60) (hsz : μ0.1 13 3 = nI n) (hce : ∀ t, t < 60 → (μ0.2.1 19 t).toInt32 = cc t) (hF : okF F) (hb : b < fB F) (hD : D ≤ 998) (hd : 7 ≤ d) (ho : oX F μ0) : zM g d L_sinceWhen [.ref 5, .ref 13, .int (nI b), .int (nI D), .int h, .int w] μ0 (fun r μ' => r = some (.int (if w = 0 then (brS F b D h cc n).1 else (brS F b D h cc n).2)) ∧ zq sX μ0 μ') := by
  refine zM_of (by decide +kernel) rfl rfl (Nat.le_of_ble_eq_true rfl) rfl ?_
  refine zb L_sinceWhen_s0 rfl ?_
  rw [hsz, nI_add]
  refine z_cle L_sinceWhen_d11 (tgt := 26) rfl (fun h11 => ?_) (fun h11 => ?_)
  · refine zb L_sinceWhen_s26 rfl ?_
    refine zcallV L_sinceWhen_d39 k5_118 (by omega) (x_left_0 hn hsz hce hF hb hD (by omega) ho) rfl rfl rfl (Nat.le_of_ble_eq_true rfl) ?_
    rintro _ μ1 ⟨rfl, hz1, hr1⟩
    have hzx1 := hz1.mono (n1_sX (fun _ => rfl))
    refine zb L_sinceWhen_s42 rfl ?_
    exact w_broke_0 hn hsz hF hb ((lst_le (by omega)).mp h11) hD hd (fV F) 0 _ _ _ _ μ1 (by omega) (ho.q hzx1) hzx1 hr1 (Or.inl rfl) rfl
  · refine zb L_sinceWhen_s14 rfl ?_
    refine z_ne L_sinceWhen_d16 (tgt := 24) rfl (fun h16 => ?_) (fun h16 => ?_)
    · refine zb L_sinceWhen_s24 rfl ?_
      refine z_ret L_sinceWhen_d25 rfl ?_
      have e := br_none (F := F) (b := b) (h := h) (c := cc) (fun z => h11 ((lst_le (by omega)).mpr z)) hn hD
      refine ⟨?_, zq.rf⟩
      rw [e]
      first
        | (rw [if_pos h16]; done)
        | (rw [if_neg h16]; done)
    · refine zb L_sinceWhen_s19 rfl ?_
      refine z_ret L_sinceWhen_d25 rfl ?_
      have e := br_none (F := F) (b := b) (h := h) (c := cc) (fun z => h11 ((lst_le (by omega)).mpr z)) hn hD
      refine ⟨?_, zq.rf⟩
      rw [e]
      first
        | (rw [if_pos h16]; done)
        | (rw [if_neg h16]; done)

set_option maxRecDepth 100000 in
set_option maxHeartbeats 4000000 in
theorem w_left_1 {g : zG} {d : Nat} {F : zF} {μ0 : zMem} {b D : Nat} {h : Int32} {n : Nat} {cc : Nat → Int32} (hn : n ≤ 60) (hsz : μ0.1 14 3 = nI n) (hce : ∀ t, t < 60 → (μ0.2.1 20 t).toInt32 = cc t) (hF : okF F) (hb : b < fB F) (hD : D ≤ 998) (hd : 6 ≤ d) : ∀ (j i : Nat) (μ : zMem), i + j = n → oX F μ → zq (n1 66) μ0 μ → (∀ k, k < i → μ.1 66 k = lefF F b D h cc k) → zW g L_fillLeft d 3 [some (.ref 5), some (.ref 14), some (.int (nI b)), some (.int (nI D)), some (.int h), some (.int (nI i))] [] μ (fun r μ' => r = none ∧ zq (n1 66) μ0 μ' ∧ ∀ k, k < n → μ'.1 66 k = lefF F b D h cc k) := by
  intro j
  induction j with
  | zero =>
    intro i  μ hi ho hz hv0
    have h6 := ho.b6
    have hsz2 : μ.1 14 3 = nI n := by rw [hz.1 14 3 rfl]; exact hsz
    have hce2 : ∀ t, t < 60 → (μ.2.1 20 t).toInt32 = cc t := fun t ht => by rw [hz.2]; exact hce t ht
    have hi : n = i := by omega
    subst hi
    refine zb L_fillLeft_s3 rfl ?_
    refine z_cge L_fillLeft_d9 (tgt := 58) rfl (fun h9 => ?_) (fun h9 => absurd (show μ.1 14 3 ≤ nI n by rw [hsz2]; exact Int32.le_refl _) h9)
    refine z_retV L_fillLeft_d58 rfl ?_
    exact ⟨rfl, hz, hv0⟩
  | succ j ih =>
    intro i  μ hi ho hz hv0
    have h6 := ho.b6
    have hsz2 : μ.1 14 3 = nI n := by rw [hz.1 14 3 rfl]; exact hsz
    have hce2 : ∀ t, t < 60 → (μ.2.1 20 t).toInt32 = cc t := fun t ht => by rw [hz.2]; exact hce t ht
    have hilt : i < n := by omega
    have ei : (nI i).toNatClampNeg = i := nI_clamp (by omega)
    have hvi : vp_in (nI i) 60 := vp_in_nI (by omega) (by omega)
    have hvb : vp_in (nI b) 6 := vp_in_nI (by omega) (by omega)
    have eb : (nI b).toNatClampNeg = b := nI_clamp (by omega)
    have e54 := ho.e54
    have hci := hce2 i (by omega)
    refine zb L_fillLeft_s3 rfl ?_
    refine z_cge L_fillLeft_d9 (tgt := 58) rfl (fun h9 => absurd h9 (show ¬ μ.1 14 3 ≤ nI i by rw [hsz2]; exact nI_ge hilt (by omega))) (fun h9 => ?_)
    refine zb2 L_fillLeft_s12 rfl (by first | exact hvi | exact hvb) (by first | exact hvi | exact hvb) ?_
    rw [nI_add, e54, eb, ei, hci]
    refine zcallV L_fillLeft_d47 k5_60 (by omega) (x_offOfN hF (by omega) ho) rfl rfl rfl (Nat.le_of_ble_eq_true rfl) ?_
    rintro _ μ1 ⟨rfl, hz1⟩
    have hv0a : ∀ k, k < i → μ1.1 66 k = lefF F b D h cc k := fun k hk => by rw [hz1.1 66 k rfl]; exact hv0 k hk
    replace hz := hz.tr (hz1.mono nS_n1)
    replace ho := ho.q (hz1.mono nS_sX)
    refine zb1 L_fillLeft_s50 rfl (by first | exact hvi | exact hvb) ?_
    (try rw [ei])
    rw [nI_1]
    refine ih (i + 1) _ (by omega) (ho.q (zq.w (m := sX) rfl)) (hz.tr (zq.w rfl)) (fun k hk => ?_)
    rw [zpI_at]
    by_cases y : k = i
    · rw [if_pos y, y]
      rfl
    · rw [if_neg y]
      exact hv0a k (by omega)

set_option maxRecDepth 100000 in
set_option maxHeartbeats 4000000 in
theorem x_left_1 {g : zG} {d : Nat} {F : zF} {μ0 : zMem} {b D : Nat} {h : Int32} {n : Nat} {cc : Nat → Int32} (hn : n ≤ 60) (hsz : μ0.1 14 3 = nI n) (hce : ∀ t, t < 60 → (μ0.2.1 20 t).toInt32 = cc t) (hF : okF F) (hb : b < fB F) (hD : D ≤ 998) (hd : 6 ≤ d) (ho : oX F μ0) : zM g d L_fillLeft [.ref 5, .ref 14, .int (nI b), .int (nI D), .int h] μ0 (fun r μ' => r = none ∧ zq (n1 66) μ0 μ' ∧ ∀ k, k < n → μ'.1 66 k = lefF F b D h cc k) := by
  refine zM_of (by decide +kernel) rfl rfl (Nat.le_of_ble_eq_true rfl) rfl ?_
  refine zb L_fillLeft_s0 rfl ?_
  exact w_left_1 hn hsz hce hF hb hD hd n 0 μ0 (by omega) ho zq.rf (fun k hk => by omega)

set_option maxRecDepth 100000 in
set_option maxHeartbeats 4000000 in
theorem w_brI_1 {g : zG} {d : Nat} {F : zF} {μ1 : zMem} {b D n v k : Nat} {h w x : Int32} {cc : Nat → Int32} {t0 : Int32 × Int32} {Q : Option Value → zMem → Prop} (hd : 2 ≤ d) (hn : n ≤ 60) (hDn : D + n ≤ 999) (hsz : μ1.1 14 3 = nI n) (hvV : v < fV F) (hV : fV F ≤ 12) (hbv : fbell F v = nI b) (hk : ldP (μ1.1 67) x n k) (hrow : ∀ s, s < 1000 → sncP (μ1.1 67) (μ1.1 68) x D n s = sncP (dueF F b D h cc v) (aftF F v h) (giv F v (nI b) 1 0 h) D n s) (hQ : ∀ (a6 a7 : Int32) (y9 y10 : Option Value), fsOK (a6, a7) → (a6, a7) = zfold (brDay F b D h cc n v) 0 1000 t0 → zW g L_sinceWhen d 183 [some (.ref 5), some (.ref 14), some (.int (nI b)), some (.int (nI D)), some (.int h), some (.int w), some (.int a6), some (.int a7), some (.int (nI v)), y9, y10] [] μ1 Q) : ∀ (j i : Nat) (a6 : Int32) (a7 : Int32) (μ : zMem), i + j = 1000 → (μ = μ1) → (fsOK (a6, a7)) → ((a6, a7) = zfold (brDay F b D h cc n v) 0 i t0) → zW g L_sinceWhen d 129 [some (.ref 5), some (.ref 14), some (.int (nI b)), some (.int (nI D)), some (.int h), some (.int w), some (.int a6), some (.int a7), some (.int (nI v)), some (.int (nI k)), some (.int (nI i))] [] μ (Q) := by
  intro j
  induction j with
  | zero =>
    intro i a6 a7 μ hi  hv0 hv1 hv2
    have hi : 1000 = i := by omega
    subst hi
    refine zb L_sinceWhen_s129 rfl ?_
    refine z_cgt L_sinceWhen_d134 (tgt := 183) rfl (fun h134 => ?_) (fun h134 => absurd (show (999 : Int32) < nI 1000 by decide) h134)
    rw [hv0]
    exact hQ a6 a7 _ _ hv1 hv2
  | succ j ih =>
    intro i a6 a7 μ hi  hv0 hv1 hv2
    have hilt : i < 1000 := by omega
    have ei : (nI i).toNatClampNeg = i := nI_clamp (by omega)
    subst hv0
    have hstep := brDay_ok (F := F) (b := b) (D := D) (n := n) (h := h) (c := cc) (show v < 12 by omega) hilt hv1
    have hz0 : zfold (brDay F b D h cc n v) 0 (i + 1) t0 = brDay F b D h cc n v i (a6, a7) := by rw [zf0, ← hv2]
    refine zb L_sinceWhen_s129 rfl ?_
    refine z_cgt L_sinceWhen_d134 (tgt := 183) rfl (fun h134 => absurd h134 (Int32.not_lt.mpr (nI_le (b := 999) (by omega) (by omega)))) (fun h134 => ?_)
    refine zb L_sinceWhen_s137 rfl ?_
    rw [hsz]
    refine zcallV L_sinceWhen_d147 k5_133 (by omega) (x_isSince (by omega) hn hDn (by omega) hk) rfl rfl rfl (Nat.le_of_ble_eq_true rfl) ?_
    rintro _ μ2 ⟨⟨w9, rfl, hw9, hs9⟩, hμ2⟩
    rw [hμ2]
    clear hμ2 μ2
    have hso := (so_snc (c := cc) (h := h) hvV hbv hDn hilt).symm
    rw [hrow i hilt] at hs9
    replace hs9 := hs9.trans hso
    refine z_eq L_sinceWhen_d150 (tgt := 177) rfl (fun h150 => ?_) (fun h150 => ?_)
    · refine zb L_sinceWhen_s177 rfl ?_
      rw [nI_1]
      (try rw [nI_1])
      first
        | (have e : brDay F b D h cc n v i (a6, a7) = (a6, a7) := if_neg (fun z => absurd (hs9.mpr z) (fun y => y h150))
           rw [e] at hstep hz0
           exact ih (i + 1) _ _ _ (by omega) rfl hstep hz0.symm)
        | (have hso9 := hs9.mp h150
           have e : brDay F b D h cc n v i (a6, a7) = (if a6 = -2 then 1000 * nI v + nI i else a6, a7 + 1) := if_pos hso9
           first
             | (have h6n : ¬ a6 = -2 := fun z => by rw [z] at h158; exact absurd h158 (by decide)
                rw [if_neg h6n] at e
                rw [e] at hstep hz0
                exact ih (i + 1) _ _ _ (by omega) rfl hstep hz0.symm)
             | (have h6y : a6 = -2 := hv1.resolve_right h158
                rw [if_pos h6y] at e
                rw [e] at hstep hz0
                exact ih (i + 1) _ _ _ (by omega) rfl hstep hz0.symm))
    · refine zb L_sinceWhen_s153 rfl ?_
      refine z_ge L_sinceWhen_d158 (tgt := 173) rfl (fun h158 => ?_) (fun h158 => ?_)
      · refine zb L_sinceWhen_s173 rfl ?_
        rw [nI_1]
        (try rw [nI_1])
        first
          | (have e : brDay F b D h cc n v i (a6, a7) = (a6, a7) := if_neg (fun z => absurd (hs9.mpr z) (fun y => y h150))
             rw [e] at hstep hz0
             exact ih (i + 1) _ _ _ (by omega) rfl hstep hz0.symm)
          | (have hso9 := hs9.mp h150
             have e : brDay F b D h cc n v i (a6, a7) = (if a6 = -2 then 1000 * nI v + nI i else a6, a7 + 1) := if_pos hso9
             first
               | (have h6n : ¬ a6 = -2 := fun z => by rw [z] at h158; exact absurd h158 (by decide)
                  rw [if_neg h6n] at e
                  rw [e] at hstep hz0
                  exact ih (i + 1) _ _ _ (by omega) rfl hstep hz0.symm)
               | (have h6y : a6 = -2 := hv1.resolve_right h158
                  rw [if_pos h6y] at e
                  rw [e] at hstep hz0
                  exact ih (i + 1) _ _ _ (by omega) rfl hstep hz0.symm))
      · refine zb L_sinceWhen_s161 rfl ?_
        rw [nI_1]
        (try rw [nI_1])
        first
          | (have e : brDay F b D h cc n v i (a6, a7) = (a6, a7) := if_neg (fun z => absurd (hs9.mpr z) (fun y => y h150))
             rw [e] at hstep hz0
             exact ih (i + 1) _ _ _ (by omega) rfl hstep hz0.symm)
          | (have hso9 := hs9.mp h150
             have e : brDay F b D h cc n v i (a6, a7) = (if a6 = -2 then 1000 * nI v + nI i else a6, a7 + 1) := if_pos hso9
             first
               | (have h6n : ¬ a6 = -2 := fun z => by rw [z] at h158; exact absurd h158 (by decide)
                  rw [if_neg h6n] at e
                  rw [e] at hstep hz0
                  exact ih (i + 1) _ _ _ (by omega) rfl hstep hz0.symm)
               | (have h6y : a6 = -2 := hv1.resolve_right h158
                  rw [if_pos h6y] at e
                  rw [e] at hstep hz0
                  exact ih (i + 1) _ _ _ (by omega) rfl hstep hz0.symm))

set_option maxRecDepth 100000 in
set_option maxHeartbeats 4000000 in
theorem w_broke_1 {g : zG} {d : Nat} {F : zF} {μ0 : zMem} {b D : Nat} {h w : Int32} {n : Nat} {cc : Nat → Int32} (hn : n ≤ 60) (hsz : μ0.1 14 3 = nI n) (hF : okF F) (hb : b < fB F) (hDn : D + n ≤ 999) (hD : D ≤ 998) (hd : 7 ≤ d) : ∀ (j i : Nat) (a6 : Int32) (a7 : Int32) (y9 : Option Value) (y10 : Option Value) (μ : zMem), i + j = fV F → oX F μ → zq sX μ0 μ → (∀ k, k < n → μ.1 66 k = lefF F b D h cc k) → (fsOK (a6, a7)) → ((a6, a7) = zfold (brV F b D h cc n) 0 i (-2, 0)) → zW g L_sinceWhen d 45 [some (.ref 5), some (.ref 14), some (.int (nI b)), some (.int (nI D)), some (.int h), some (.int w), some (.int a6), some (.int a7), some (.int (nI i)), y9, y10] [] μ (fun r μ' => r = some (.int (if w = 0 then (brS F b D h cc n).1 else (brS F b D h cc n).2)) ∧ zq sX μ0 μ') := by
  intro j
  induction j with
  | zero =>
    intro i a6 a7 y9 y10 μ hi ho hz hv0 hv1 hv2
    have hbd := ho.v
    have h12 := ho.v12
    have h6 := ho.b6
    have hsz2 : μ.1 14 3 = nI n := by rw [hz.1 14 3 rfl]; exact hsz
    have hi : fV F = i := by omega
    subst hi
    refine zb L_sinceWhen_s45 rfl ?_
    refine z_cge L_sinceWhen_d54 (tgt := 189) rfl (fun h54 => ?_) (fun h54 => absurd (show μ.1 2 8 ≤ nI (fV F) by first | exact Int32.le_refl _ | (rw [hbd]; exact Int32.le_refl _)) h54)
    refine zb L_sinceWhen_s189 rfl ?_
    refine z_ne L_sinceWhen_d191 (tgt := 199) rfl (fun h191 => ?_) (fun h191 => ?_)
    · refine zb L_sinceWhen_s199 rfl ?_
      refine z_ret L_sinceWhen_d201 rfl ?_
      have e : brS F b D h cc n = (a6, a7) := hv2.symm
      refine ⟨?_, hz⟩
      rw [e]
      first
        | (rw [if_pos h191]; done)
        | (rw [if_neg h191]; done)
    · refine zb L_sinceWhen_s194 rfl ?_
      refine z_ret L_sinceWhen_d201 rfl ?_
      have e : brS F b D h cc n = (a6, a7) := hv2.symm
      refine ⟨?_, hz⟩
      rw [e]
      first
        | (rw [if_pos h191]; done)
        | (rw [if_neg h191]; done)
  | succ j ih =>
    intro i a6 a7 y9 y10 μ hi ho hz hv0 hv1 hv2
    have hbd := ho.v
    have h12 := ho.v12
    have h6 := ho.b6
    have hsz2 : μ.1 14 3 = nI n := by rw [hz.1 14 3 rfl]; exact hsz
    have hilt : i < fV F := by omega
    have ei : (nI i).toNatClampNeg = i := nI_clamp (by omega)
    have hvi : vp_in (nI i) 12 := vp_in_nI (by omega) (by omega)
    have e56 := ho.e56
    have hz0 : zfold (brV F b D h cc n) 0 (i + 1) (-2, 0) = brV F b D h cc n i (a6, a7) := by rw [zf0, ← hv2]
    refine zb L_sinceWhen_s45 rfl ?_
    refine z_cge L_sinceWhen_d54 (tgt := 189) rfl (fun h54 => absurd h54 (show ¬ μ.1 2 8 ≤ nI i by first | exact nI_ge hilt (by omega) | (rw [hbd]; exact nI_ge hilt (by omega)))) (fun h54 => ?_)
    refine zb1 L_sinceWhen_s57 rfl hvi ?_
    refine z_ceq L_sinceWhen_d68 (tgt := 74) rfl (fun h68 => ?_) (fun h68 => ?_)
    · refine zb L_sinceWhen_s74 rfl ?_
      rw [hsz2]
      refine zcallV L_sinceWhen_d84 k5_122 (by omega) (x_due (b := b) (c := cc) hF hilt hn hv0 hD (by omega) ho) rfl rfl rfl (Nat.le_of_ble_eq_true rfl) ?_
      rintro _ μ1 ⟨rfl, hz1, hr1⟩
      have hzx1 := hz1.mono (n1_sX (fun _ => rfl))
      have hla : ∀ k, k < n → μ1.1 66 k = lefF F b D h cc k := fun k hk => by rw [hz1.1 66 k rfl]; exact hv0 k hk
      have ho1 := ho.q hzx1
      refine zb L_sinceWhen_s87 rfl ?_
      rw [show μ1.1 14 3 = nI n by rw [hz1.1 14 3 rfl]; exact hsz2, nI_add]
      refine zcallV L_sinceWhen_d100 k5_126 (by omega) (x_after (L := D + n) (v := i) (by omega) hDn (by omega) ho1) rfl rfl rfl (Nat.le_of_ble_eq_true rfl) ?_
      rintro _ μ2 ⟨rfl, hz2, hr2⟩
      have hzx2 := hz2.mono (n1_sX (fun _ => rfl))
      have hlb : ∀ k, k < n → μ2.1 66 k = lefF F b D h cc k := fun k hk => by rw [hz2.1 66 k rfl]; exact hla k hk
      have hdb : ∀ k, k < n → μ2.1 67 k = dueF F b D h cc i k := fun k hk => by rw [hz2.1 67 k rfl]; exact hr1 k hk
      have ho2 := ho1.q hzx2
      have hsz4 : μ2.1 14 3 = nI n := by rw [hz2.1 14 3 rfl, hz1.1 14 3 rfl]; exact hsz2
      refine zb L_sinceWhen_s103 rfl ?_
      refine zcallV L_sinceWhen_d118 k5_53 (by omega) (x_offIf (by omega) (by omega) ho2) rfl rfl rfl (Nat.le_of_ble_eq_true rfl) ?_
      rintro _ μ3 ⟨rfl, hz3⟩
      have hzx3 := hz3.mono nS_sX
      have hlc : ∀ k, k < n → μ3.1 66 k = lefF F b D h cc k := fun k hk => by rw [hz3.1 66 k rfl]; exact hlb k hk
      have hdc : ∀ k, k < n → μ3.1 67 k = dueF F b D h cc i k := fun k hk => by rw [hz3.1 67 k rfl]; exact hdb k hk
      have hac : ∀ k, k < D + n → μ3.1 68 k = aftF F i h k := fun k hk => by rw [hz3.1 68 k rfl]; exact hr2 k hk
      have ho3 := ho2.q hzx3
      have hsz5 : μ3.1 14 3 = nI n := by rw [hz3.1 14 3 rfl]; exact hsz4
      have hzz := ((hz.tr hzx1).tr hzx2).tr hzx3
      rw [ofI_giv1 F i (nI b) 0 h, hsz4]
      skip
      refine zcallV L_sinceWhen_d121 k5_130 (by omega) (x_lead hn) rfl rfl rfl (Nat.le_of_ble_eq_true rfl) ?_
      rintro _ μ4 ⟨⟨k, rfl, hk⟩, hμ4⟩
      rw [hμ4]
      clear hμ4 μ4
      refine zb L_sinceWhen_s124 rfl ?_
      rw [e56, ei] at h68
      have e : brV F b D h cc n i (a6, a7) = zfold (brDay F b D h cc n i) 0 1000 (a6, a7) := if_pos h68
      rw [e] at hz0
      refine w_brI_1 (F := F) (cc := cc) (x := giv F i (nI b) 1 0 h) (t0 := (a6, a7)) (by omega) hn hDn hsz5 hilt h12 h68 hk (fun s hs => ?_) (fun b6 b7 z9 z10 hb1 hb2 => ?_) 1000 0 a6 a7 _ (by omega) rfl hv1 rfl
      · refine propext (forall_congr' (fun q => forall_congr' (fun hq => ?_)))
        rw [hdc q hq]
        by_cases y : D + q < s
        · rw [if_pos y, if_pos y]
        · rw [if_neg y, if_neg y, hac _ (by omega)]
      · refine zb L_sinceWhen_s183 rfl ?_
        rw [nI_1]
        exact ih (i + 1) _ _ _ _ _ (by omega) ho3 hzz hlc hb1 (hb2.trans hz0.symm)
    · refine zb L_sinceWhen_s71 rfl ?_
      rw [e56, ei] at h68
      rw [nI_1]
      have e : brV F b D h cc n i (a6, a7) = (a6, a7) := if_neg h68
      rw [e] at hz0
      exact ih (i + 1) _ _ _ _ _ (by omega) ho hz hv0 hv1 hz0.symm

set_option maxRecDepth 100000 in
set_option maxHeartbeats 4000000 in
theorem x_since_1 {g : zG} {d : Nat} {F : zF} {μ0 : zMem} {b D : Nat} {h w : Int32} {n : Nat} {cc : Nat → Int32} (hn : n ≤ 60) (hsz : μ0.1 14 3 = nI n) (hce : ∀ t, t < 60 → (μ0.2.1 20 t).toInt32 = cc t) (hF : okF F) (hb : b < fB F) (hD : D ≤ 998) (hd : 7 ≤ d) (ho : oX F μ0) : zM g d L_sinceWhen [.ref 5, .ref 14, .int (nI b), .int (nI D), .int h, .int w] μ0 (fun r μ' => r = some (.int (if w = 0 then (brS F b D h cc n).1 else (brS F b D h cc n).2)) ∧ zq sX μ0 μ') := by
  refine zM_of (by decide +kernel) rfl rfl (Nat.le_of_ble_eq_true rfl) rfl ?_
  refine zb L_sinceWhen_s0 rfl ?_
  rw [hsz, nI_add]
  refine z_cle L_sinceWhen_d11 (tgt := 26) rfl (fun h11 => ?_) (fun h11 => ?_)
  · refine zb L_sinceWhen_s26 rfl ?_
    refine zcallV L_sinceWhen_d39 k5_118 (by omega) (x_left_1 hn hsz hce hF hb hD (by omega) ho) rfl rfl rfl (Nat.le_of_ble_eq_true rfl) ?_
    rintro _ μ1 ⟨rfl, hz1, hr1⟩
    have hzx1 := hz1.mono (n1_sX (fun _ => rfl))
    refine zb L_sinceWhen_s42 rfl ?_
    exact w_broke_1 hn hsz hF hb ((lst_le (by omega)).mp h11) hD hd (fV F) 0 _ _ _ _ μ1 (by omega) (ho.q hzx1) hzx1 hr1 (Or.inl rfl) rfl
  · refine zb L_sinceWhen_s14 rfl ?_
    refine z_ne L_sinceWhen_d16 (tgt := 24) rfl (fun h16 => ?_) (fun h16 => ?_)
    · refine zb L_sinceWhen_s24 rfl ?_
      refine z_ret L_sinceWhen_d25 rfl ?_
      have e := br_none (F := F) (b := b) (h := h) (c := cc) (fun z => h11 ((lst_le (by omega)).mpr z)) hn hD
      refine ⟨?_, zq.rf⟩
      rw [e]
      first
        | (rw [if_pos h16]; done)
        | (rw [if_neg h16]; done)
    · refine zb L_sinceWhen_s19 rfl ?_
      refine z_ret L_sinceWhen_d25 rfl ?_
      have e := br_none (F := F) (b := b) (h := h) (c := cc) (fun z => h11 ((lst_le (by omega)).mpr z)) hn hD
      refine ⟨?_, zq.rf⟩
      rw [e]
      first
        | (rw [if_pos h16]; done)
        | (rw [if_neg h16]; done)

set_option maxRecDepth 100000 in
set_option maxHeartbeats 4000000 in
theorem w_left_2 {g : zG} {d : Nat} {F : zF} {μ0 : zMem} {b D : Nat} {h : Int32} {n : Nat} {cc : Nat → Int32} (hn : n ≤ 60) (hsz : μ0.1 15 3 = nI n) (hce : ∀ t, t < 60 → (μ0.2.1 21 t).toInt32 = cc t) (hF : okF F) (hb : b < fB F) (hD : D ≤ 998) (hd : 6 ≤ d) : ∀ (j i : Nat) (μ : zMem), i + j = n → oX F μ → zq (n1 66) μ0 μ → (∀ k, k < i → μ.1 66 k = lefF F b D h cc k) → zW g L_fillLeft d 3 [some (.ref 5), some (.ref 15), some (.int (nI b)), some (.int (nI D)), some (.int h), some (.int (nI i))] [] μ (fun r μ' => r = none ∧ zq (n1 66) μ0 μ' ∧ ∀ k, k < n → μ'.1 66 k = lefF F b D h cc k) := by
  intro j
  induction j with
  | zero =>
    intro i  μ hi ho hz hv0
    have h6 := ho.b6
    have hsz2 : μ.1 15 3 = nI n := by rw [hz.1 15 3 rfl]; exact hsz
    have hce2 : ∀ t, t < 60 → (μ.2.1 21 t).toInt32 = cc t := fun t ht => by rw [hz.2]; exact hce t ht
    have hi : n = i := by omega
    subst hi
    refine zb L_fillLeft_s3 rfl ?_
    refine z_cge L_fillLeft_d9 (tgt := 58) rfl (fun h9 => ?_) (fun h9 => absurd (show μ.1 15 3 ≤ nI n by rw [hsz2]; exact Int32.le_refl _) h9)
    refine z_retV L_fillLeft_d58 rfl ?_
    exact ⟨rfl, hz, hv0⟩
  | succ j ih =>
    intro i  μ hi ho hz hv0
    have h6 := ho.b6
    have hsz2 : μ.1 15 3 = nI n := by rw [hz.1 15 3 rfl]; exact hsz
    have hce2 : ∀ t, t < 60 → (μ.2.1 21 t).toInt32 = cc t := fun t ht => by rw [hz.2]; exact hce t ht
    have hilt : i < n := by omega
    have ei : (nI i).toNatClampNeg = i := nI_clamp (by omega)
    have hvi : vp_in (nI i) 60 := vp_in_nI (by omega) (by omega)
    have hvb : vp_in (nI b) 6 := vp_in_nI (by omega) (by omega)
    have eb : (nI b).toNatClampNeg = b := nI_clamp (by omega)
    have e54 := ho.e54
    have hci := hce2 i (by omega)
    refine zb L_fillLeft_s3 rfl ?_
    refine z_cge L_fillLeft_d9 (tgt := 58) rfl (fun h9 => absurd h9 (show ¬ μ.1 15 3 ≤ nI i by rw [hsz2]; exact nI_ge hilt (by omega))) (fun h9 => ?_)
    refine zb2 L_fillLeft_s12 rfl (by first | exact hvi | exact hvb) (by first | exact hvi | exact hvb) ?_
    rw [nI_add, e54, eb, ei, hci]
    refine zcallV L_fillLeft_d47 k5_60 (by omega) (x_offOfN hF (by omega) ho) rfl rfl rfl (Nat.le_of_ble_eq_true rfl) ?_
    rintro _ μ1 ⟨rfl, hz1⟩
    have hv0a : ∀ k, k < i → μ1.1 66 k = lefF F b D h cc k := fun k hk => by rw [hz1.1 66 k rfl]; exact hv0 k hk
    replace hz := hz.tr (hz1.mono nS_n1)
    replace ho := ho.q (hz1.mono nS_sX)
    refine zb1 L_fillLeft_s50 rfl (by first | exact hvi | exact hvb) ?_
    (try rw [ei])
    rw [nI_1]
    refine ih (i + 1) _ (by omega) (ho.q (zq.w (m := sX) rfl)) (hz.tr (zq.w rfl)) (fun k hk => ?_)
    rw [zpI_at]
    by_cases y : k = i
    · rw [if_pos y, y]
      rfl
    · rw [if_neg y]
      exact hv0a k (by omega)

set_option maxRecDepth 100000 in
set_option maxHeartbeats 4000000 in
theorem x_left_2 {g : zG} {d : Nat} {F : zF} {μ0 : zMem} {b D : Nat} {h : Int32} {n : Nat} {cc : Nat → Int32} (hn : n ≤ 60) (hsz : μ0.1 15 3 = nI n) (hce : ∀ t, t < 60 → (μ0.2.1 21 t).toInt32 = cc t) (hF : okF F) (hb : b < fB F) (hD : D ≤ 998) (hd : 6 ≤ d) (ho : oX F μ0) : zM g d L_fillLeft [.ref 5, .ref 15, .int (nI b), .int (nI D), .int h] μ0 (fun r μ' => r = none ∧ zq (n1 66) μ0 μ' ∧ ∀ k, k < n → μ'.1 66 k = lefF F b D h cc k) := by
  refine zM_of (by decide +kernel) rfl rfl (Nat.le_of_ble_eq_true rfl) rfl ?_
  refine zb L_fillLeft_s0 rfl ?_
  exact w_left_2 hn hsz hce hF hb hD hd n 0 μ0 (by omega) ho zq.rf (fun k hk => by omega)

set_option maxRecDepth 100000 in
set_option maxHeartbeats 4000000 in
theorem w_brI_2 {g : zG} {d : Nat} {F : zF} {μ1 : zMem} {b D n v k : Nat} {h w x : Int32} {cc : Nat → Int32} {t0 : Int32 × Int32} {Q : Option Value → zMem → Prop} (hd : 2 ≤ d) (hn : n ≤ 60) (hDn : D + n ≤ 999) (hsz : μ1.1 15 3 = nI n) (hvV : v < fV F) (hV : fV F ≤ 12) (hbv : fbell F v = nI b) (hk : ldP (μ1.1 67) x n k) (hrow : ∀ s, s < 1000 → sncP (μ1.1 67) (μ1.1 68) x D n s = sncP (dueF F b D h cc v) (aftF F v h) (giv F v (nI b) 1 0 h) D n s) (hQ : ∀ (a6 a7 : Int32) (y9 y10 : Option Value), fsOK (a6, a7) → (a6, a7) = zfold (brDay F b D h cc n v) 0 1000 t0 → zW g L_sinceWhen d 183 [some (.ref 5), some (.ref 15), some (.int (nI b)), some (.int (nI D)), some (.int h), some (.int w), some (.int a6), some (.int a7), some (.int (nI v)), y9, y10] [] μ1 Q) : ∀ (j i : Nat) (a6 : Int32) (a7 : Int32) (μ : zMem), i + j = 1000 → (μ = μ1) → (fsOK (a6, a7)) → ((a6, a7) = zfold (brDay F b D h cc n v) 0 i t0) → zW g L_sinceWhen d 129 [some (.ref 5), some (.ref 15), some (.int (nI b)), some (.int (nI D)), some (.int h), some (.int w), some (.int a6), some (.int a7), some (.int (nI v)), some (.int (nI k)), some (.int (nI i))] [] μ (Q) := by
  intro j
  induction j with
  | zero =>
    intro i a6 a7 μ hi  hv0 hv1 hv2
    have hi : 1000 = i := by omega
    subst hi
    refine zb L_sinceWhen_s129 rfl ?_
    refine z_cgt L_sinceWhen_d134 (tgt := 183) rfl (fun h134 => ?_) (fun h134 => absurd (show (999 : Int32) < nI 1000 by decide) h134)
    rw [hv0]
    exact hQ a6 a7 _ _ hv1 hv2
  | succ j ih =>
    intro i a6 a7 μ hi  hv0 hv1 hv2
    have hilt : i < 1000 := by omega
    have ei : (nI i).toNatClampNeg = i := nI_clamp (by omega)
    subst hv0
    have hstep := brDay_ok (F := F) (b := b) (D := D) (n := n) (h := h) (c := cc) (show v < 12 by omega) hilt hv1
    have hz0 : zfold (brDay F b D h cc n v) 0 (i + 1) t0 = brDay F b D h cc n v i (a6, a7) := by rw [zf0, ← hv2]
    refine zb L_sinceWhen_s129 rfl ?_
    refine z_cgt L_sinceWhen_d134 (tgt := 183) rfl (fun h134 => absurd h134 (Int32.not_lt.mpr (nI_le (b := 999) (by omega) (by omega)))) (fun h134 => ?_)
    refine zb L_sinceWhen_s137 rfl ?_
    rw [hsz]
    refine zcallV L_sinceWhen_d147 k5_133 (by omega) (x_isSince (by omega) hn hDn (by omega) hk) rfl rfl rfl (Nat.le_of_ble_eq_true rfl) ?_
    rintro _ μ2 ⟨⟨w9, rfl, hw9, hs9⟩, hμ2⟩
    rw [hμ2]
    clear hμ2 μ2
    have hso := (so_snc (c := cc) (h := h) hvV hbv hDn hilt).symm
    rw [hrow i hilt] at hs9
    replace hs9 := hs9.trans hso
    refine z_eq L_sinceWhen_d150 (tgt := 177) rfl (fun h150 => ?_) (fun h150 => ?_)
    · refine zb L_sinceWhen_s177 rfl ?_
      rw [nI_1]
      (try rw [nI_1])
      first
        | (have e : brDay F b D h cc n v i (a6, a7) = (a6, a7) := if_neg (fun z => absurd (hs9.mpr z) (fun y => y h150))
           rw [e] at hstep hz0
           exact ih (i + 1) _ _ _ (by omega) rfl hstep hz0.symm)
        | (have hso9 := hs9.mp h150
           have e : brDay F b D h cc n v i (a6, a7) = (if a6 = -2 then 1000 * nI v + nI i else a6, a7 + 1) := if_pos hso9
           first
             | (have h6n : ¬ a6 = -2 := fun z => by rw [z] at h158; exact absurd h158 (by decide)
                rw [if_neg h6n] at e
                rw [e] at hstep hz0
                exact ih (i + 1) _ _ _ (by omega) rfl hstep hz0.symm)
             | (have h6y : a6 = -2 := hv1.resolve_right h158
                rw [if_pos h6y] at e
                rw [e] at hstep hz0
                exact ih (i + 1) _ _ _ (by omega) rfl hstep hz0.symm))
    · refine zb L_sinceWhen_s153 rfl ?_
      refine z_ge L_sinceWhen_d158 (tgt := 173) rfl (fun h158 => ?_) (fun h158 => ?_)
      · refine zb L_sinceWhen_s173 rfl ?_
        rw [nI_1]
        (try rw [nI_1])
        first
          | (have e : brDay F b D h cc n v i (a6, a7) = (a6, a7) := if_neg (fun z => absurd (hs9.mpr z) (fun y => y h150))
             rw [e] at hstep hz0
             exact ih (i + 1) _ _ _ (by omega) rfl hstep hz0.symm)
          | (have hso9 := hs9.mp h150
             have e : brDay F b D h cc n v i (a6, a7) = (if a6 = -2 then 1000 * nI v + nI i else a6, a7 + 1) := if_pos hso9
             first
               | (have h6n : ¬ a6 = -2 := fun z => by rw [z] at h158; exact absurd h158 (by decide)
                  rw [if_neg h6n] at e
                  rw [e] at hstep hz0
                  exact ih (i + 1) _ _ _ (by omega) rfl hstep hz0.symm)
               | (have h6y : a6 = -2 := hv1.resolve_right h158
                  rw [if_pos h6y] at e
                  rw [e] at hstep hz0
                  exact ih (i + 1) _ _ _ (by omega) rfl hstep hz0.symm))
      · refine zb L_sinceWhen_s161 rfl ?_
        rw [nI_1]
        (try rw [nI_1])
        first
          | (have e : brDay F b D h cc n v i (a6, a7) = (a6, a7) := if_neg (fun z => absurd (hs9.mpr z) (fun y => y h150))
             rw [e] at hstep hz0
             exact ih (i + 1) _ _ _ (by omega) rfl hstep hz0.symm)
          | (have hso9 := hs9.mp h150
             have e : brDay F b D h cc n v i (a6, a7) = (if a6 = -2 then 1000 * nI v + nI i else a6, a7 + 1) := if_pos hso9
             first
               | (have h6n : ¬ a6 = -2 := fun z => by rw [z] at h158; exact absurd h158 (by decide)
                  rw [if_neg h6n] at e
                  rw [e] at hstep hz0
                  exact ih (i + 1) _ _ _ (by omega) rfl hstep hz0.symm)
               | (have h6y : a6 = -2 := hv1.resolve_right h158
                  rw [if_pos h6y] at e
                  rw [e] at hstep hz0
                  exact ih (i + 1) _ _ _ (by omega) rfl hstep hz0.symm))

set_option maxRecDepth 100000 in
set_option maxHeartbeats 4000000 in
theorem w_broke_2 {g : zG} {d : Nat} {F : zF} {μ0 : zMem} {b D : Nat} {h w : Int32} {n : Nat} {cc : Nat → Int32} (hn : n ≤ 60) (hsz : μ0.1 15 3 = nI n) (hF : okF F) (hb : b < fB F) (hDn : D + n ≤ 999) (hD : D ≤ 998) (hd : 7 ≤ d) : ∀ (j i : Nat) (a6 : Int32) (a7 : Int32) (y9 : Option Value) (y10 : Option Value) (μ : zMem), i + j = fV F → oX F μ → zq sX μ0 μ → (∀ k, k < n → μ.1 66 k = lefF F b D h cc k) → (fsOK (a6, a7)) → ((a6, a7) = zfold (brV F b D h cc n) 0 i (-2, 0)) → zW g L_sinceWhen d 45 [some (.ref 5), some (.ref 15), some (.int (nI b)), some (.int (nI D)), some (.int h), some (.int w), some (.int a6), some (.int a7), some (.int (nI i)), y9, y10] [] μ (fun r μ' => r = some (.int (if w = 0 then (brS F b D h cc n).1 else (brS F b D h cc n).2)) ∧ zq sX μ0 μ') := by
  intro j
  induction j with
  | zero =>
    intro i a6 a7 y9 y10 μ hi ho hz hv0 hv1 hv2
    have hbd := ho.v
    have h12 := ho.v12
    have h6 := ho.b6
    have hsz2 : μ.1 15 3 = nI n := by rw [hz.1 15 3 rfl]; exact hsz
    have hi : fV F = i := by omega
    subst hi
    refine zb L_sinceWhen_s45 rfl ?_
    refine z_cge L_sinceWhen_d54 (tgt := 189) rfl (fun h54 => ?_) (fun h54 => absurd (show μ.1 2 8 ≤ nI (fV F) by first | exact Int32.le_refl _ | (rw [hbd]; exact Int32.le_refl _)) h54)
    refine zb L_sinceWhen_s189 rfl ?_
    refine z_ne L_sinceWhen_d191 (tgt := 199) rfl (fun h191 => ?_) (fun h191 => ?_)
    · refine zb L_sinceWhen_s199 rfl ?_
      refine z_ret L_sinceWhen_d201 rfl ?_
      have e : brS F b D h cc n = (a6, a7) := hv2.symm
      refine ⟨?_, hz⟩
      rw [e]
      first
        | (rw [if_pos h191]; done)
        | (rw [if_neg h191]; done)
    · refine zb L_sinceWhen_s194 rfl ?_
      refine z_ret L_sinceWhen_d201 rfl ?_
      have e : brS F b D h cc n = (a6, a7) := hv2.symm
      refine ⟨?_, hz⟩
      rw [e]
      first
        | (rw [if_pos h191]; done)
        | (rw [if_neg h191]; done)
  | succ j ih =>
    intro i a6 a7 y9 y10 μ hi ho hz hv0 hv1 hv2
    have hbd := ho.v
    have h12 := ho.v12
    have h6 := ho.b6
    have hsz2 : μ.1 15 3 = nI n := by rw [hz.1 15 3 rfl]; exact hsz
    have hilt : i < fV F := by omega
    have ei : (nI i).toNatClampNeg = i := nI_clamp (by omega)
    have hvi : vp_in (nI i) 12 := vp_in_nI (by omega) (by omega)
    have e56 := ho.e56
    have hz0 : zfold (brV F b D h cc n) 0 (i + 1) (-2, 0) = brV F b D h cc n i (a6, a7) := by rw [zf0, ← hv2]
    refine zb L_sinceWhen_s45 rfl ?_
    refine z_cge L_sinceWhen_d54 (tgt := 189) rfl (fun h54 => absurd h54 (show ¬ μ.1 2 8 ≤ nI i by first | exact nI_ge hilt (by omega) | (rw [hbd]; exact nI_ge hilt (by omega)))) (fun h54 => ?_)
    refine zb1 L_sinceWhen_s57 rfl hvi ?_
    refine z_ceq L_sinceWhen_d68 (tgt := 74) rfl (fun h68 => ?_) (fun h68 => ?_)
    · refine zb L_sinceWhen_s74 rfl ?_
      rw [hsz2]
      refine zcallV L_sinceWhen_d84 k5_122 (by omega) (x_due (b := b) (c := cc) hF hilt hn hv0 hD (by omega) ho) rfl rfl rfl (Nat.le_of_ble_eq_true rfl) ?_
      rintro _ μ1 ⟨rfl, hz1, hr1⟩
      have hzx1 := hz1.mono (n1_sX (fun _ => rfl))
      have hla : ∀ k, k < n → μ1.1 66 k = lefF F b D h cc k := fun k hk => by rw [hz1.1 66 k rfl]; exact hv0 k hk
      have ho1 := ho.q hzx1
      refine zb L_sinceWhen_s87 rfl ?_
      rw [show μ1.1 15 3 = nI n by rw [hz1.1 15 3 rfl]; exact hsz2, nI_add]
      refine zcallV L_sinceWhen_d100 k5_126 (by omega) (x_after (L := D + n) (v := i) (by omega) hDn (by omega) ho1) rfl rfl rfl (Nat.le_of_ble_eq_true rfl) ?_
      rintro _ μ2 ⟨rfl, hz2, hr2⟩
      have hzx2 := hz2.mono (n1_sX (fun _ => rfl))
      have hlb : ∀ k, k < n → μ2.1 66 k = lefF F b D h cc k := fun k hk => by rw [hz2.1 66 k rfl]; exact hla k hk
      have hdb : ∀ k, k < n → μ2.1 67 k = dueF F b D h cc i k := fun k hk => by rw [hz2.1 67 k rfl]; exact hr1 k hk
      have ho2 := ho1.q hzx2
      have hsz4 : μ2.1 15 3 = nI n := by rw [hz2.1 15 3 rfl, hz1.1 15 3 rfl]; exact hsz2
      refine zb L_sinceWhen_s103 rfl ?_
      refine zcallV L_sinceWhen_d118 k5_53 (by omega) (x_offIf (by omega) (by omega) ho2) rfl rfl rfl (Nat.le_of_ble_eq_true rfl) ?_
      rintro _ μ3 ⟨rfl, hz3⟩
      have hzx3 := hz3.mono nS_sX
      have hlc : ∀ k, k < n → μ3.1 66 k = lefF F b D h cc k := fun k hk => by rw [hz3.1 66 k rfl]; exact hlb k hk
      have hdc : ∀ k, k < n → μ3.1 67 k = dueF F b D h cc i k := fun k hk => by rw [hz3.1 67 k rfl]; exact hdb k hk
      have hac : ∀ k, k < D + n → μ3.1 68 k = aftF F i h k := fun k hk => by rw [hz3.1 68 k rfl]; exact hr2 k hk
      have ho3 := ho2.q hzx3
      have hsz5 : μ3.1 15 3 = nI n := by rw [hz3.1 15 3 rfl]; exact hsz4
      have hzz := ((hz.tr hzx1).tr hzx2).tr hzx3
      rw [ofI_giv1 F i (nI b) 0 h, hsz4]
      skip
      refine zcallV L_sinceWhen_d121 k5_130 (by omega) (x_lead hn) rfl rfl rfl (Nat.le_of_ble_eq_true rfl) ?_
      rintro _ μ4 ⟨⟨k, rfl, hk⟩, hμ4⟩
      rw [hμ4]
      clear hμ4 μ4
      refine zb L_sinceWhen_s124 rfl ?_
      rw [e56, ei] at h68
      have e : brV F b D h cc n i (a6, a7) = zfold (brDay F b D h cc n i) 0 1000 (a6, a7) := if_pos h68
      rw [e] at hz0
      refine w_brI_2 (F := F) (cc := cc) (x := giv F i (nI b) 1 0 h) (t0 := (a6, a7)) (by omega) hn hDn hsz5 hilt h12 h68 hk (fun s hs => ?_) (fun b6 b7 z9 z10 hb1 hb2 => ?_) 1000 0 a6 a7 _ (by omega) rfl hv1 rfl
      · refine propext (forall_congr' (fun q => forall_congr' (fun hq => ?_)))
        rw [hdc q hq]
        by_cases y : D + q < s
        · rw [if_pos y, if_pos y]
        · rw [if_neg y, if_neg y, hac _ (by omega)]
      · refine zb L_sinceWhen_s183 rfl ?_
        rw [nI_1]
        exact ih (i + 1) _ _ _ _ _ (by omega) ho3 hzz hlc hb1 (hb2.trans hz0.symm)
    · refine zb L_sinceWhen_s71 rfl ?_
      rw [e56, ei] at h68
      rw [nI_1]
      have e : brV F b D h cc n i (a6, a7) = (a6, a7) := if_neg h68
      rw [e] at hz0
      exact ih (i + 1) _ _ _ _ _ (by omega) ho hz hv0 hv1 hz0.symm

set_option maxRecDepth 100000 in
set_option maxHeartbeats 4000000 in
theorem x_since_2 {g : zG} {d : Nat} {F : zF} {μ0 : zMem} {b D : Nat} {h w : Int32} {n : Nat} {cc : Nat → Int32} (hn : n ≤ 60) (hsz : μ0.1 15 3 = nI n) (hce : ∀ t, t < 60 → (μ0.2.1 21 t).toInt32 = cc t) (hF : okF F) (hb : b < fB F) (hD : D ≤ 998) (hd : 7 ≤ d) (ho : oX F μ0) : zM g d L_sinceWhen [.ref 5, .ref 15, .int (nI b), .int (nI D), .int h, .int w] μ0 (fun r μ' => r = some (.int (if w = 0 then (brS F b D h cc n).1 else (brS F b D h cc n).2)) ∧ zq sX μ0 μ') := by
  refine zM_of (by decide +kernel) rfl rfl (Nat.le_of_ble_eq_true rfl) rfl ?_
  refine zb L_sinceWhen_s0 rfl ?_
  rw [hsz, nI_add]
  refine z_cle L_sinceWhen_d11 (tgt := 26) rfl (fun h11 => ?_) (fun h11 => ?_)
  · refine zb L_sinceWhen_s26 rfl ?_
    refine zcallV L_sinceWhen_d39 k5_118 (by omega) (x_left_2 hn hsz hce hF hb hD (by omega) ho) rfl rfl rfl (Nat.le_of_ble_eq_true rfl) ?_
    rintro _ μ1 ⟨rfl, hz1, hr1⟩
    have hzx1 := hz1.mono (n1_sX (fun _ => rfl))
    refine zb L_sinceWhen_s42 rfl ?_
    exact w_broke_2 hn hsz hF hb ((lst_le (by omega)).mp h11) hD hd (fV F) 0 _ _ _ _ μ1 (by omega) (ho.q hzx1) hzx1 hr1 (Or.inl rfl) rfl
  · refine zb L_sinceWhen_s14 rfl ?_
    refine z_ne L_sinceWhen_d16 (tgt := 24) rfl (fun h16 => ?_) (fun h16 => ?_)
    · refine zb L_sinceWhen_s24 rfl ?_
      refine z_ret L_sinceWhen_d25 rfl ?_
      have e := br_none (F := F) (b := b) (h := h) (c := cc) (fun z => h11 ((lst_le (by omega)).mpr z)) hn hD
      refine ⟨?_, zq.rf⟩
      rw [e]
      first
        | (rw [if_pos h16]; done)
        | (rw [if_neg h16]; done)
    · refine zb L_sinceWhen_s19 rfl ?_
      refine z_ret L_sinceWhen_d25 rfl ?_
      have e := br_none (F := F) (b := b) (h := h) (c := cc) (fun z => h11 ((lst_le (by omega)).mpr z)) hn hD
      refine ⟨?_, zq.rf⟩
      rw [e]
      first
        | (rw [if_pos h16]; done)
        | (rw [if_neg h16]; done)

set_option maxRecDepth 100000 in
set_option maxHeartbeats 4000000 in
theorem w_left_3 {g : zG} {d : Nat} {F : zF} {μ0 : zMem} {b D : Nat} {h : Int32} {n : Nat} {cc : Nat → Int32} (hn : n ≤ 60) (hsz : μ0.1 16 3 = nI n) (hce : ∀ t, t < 60 → (μ0.2.1 22 t).toInt32 = cc t) (hF : okF F) (hb : b < fB F) (hD : D ≤ 998) (hd : 6 ≤ d) : ∀ (j i : Nat) (μ : zMem), i + j = n → oX F μ → zq (n1 66) μ0 μ → (∀ k, k < i → μ.1 66 k = lefF F b D h cc k) → zW g L_fillLeft d 3 [some (.ref 5), some (.ref 16), some (.int (nI b)), some (.int (nI D)), some (.int h), some (.int (nI i))] [] μ (fun r μ' => r = none ∧ zq (n1 66) μ0 μ' ∧ ∀ k, k < n → μ'.1 66 k = lefF F b D h cc k) := by
  intro j
  induction j with
  | zero =>
    intro i  μ hi ho hz hv0
    have h6 := ho.b6
    have hsz2 : μ.1 16 3 = nI n := by rw [hz.1 16 3 rfl]; exact hsz
    have hce2 : ∀ t, t < 60 → (μ.2.1 22 t).toInt32 = cc t := fun t ht => by rw [hz.2]; exact hce t ht
    have hi : n = i := by omega
    subst hi
    refine zb L_fillLeft_s3 rfl ?_
    refine z_cge L_fillLeft_d9 (tgt := 58) rfl (fun h9 => ?_) (fun h9 => absurd (show μ.1 16 3 ≤ nI n by rw [hsz2]; exact Int32.le_refl _) h9)
    refine z_retV L_fillLeft_d58 rfl ?_
    exact ⟨rfl, hz, hv0⟩
  | succ j ih =>
    intro i  μ hi ho hz hv0
    have h6 := ho.b6
    have hsz2 : μ.1 16 3 = nI n := by rw [hz.1 16 3 rfl]; exact hsz
    have hce2 : ∀ t, t < 60 → (μ.2.1 22 t).toInt32 = cc t := fun t ht => by rw [hz.2]; exact hce t ht
    have hilt : i < n := by omega
    have ei : (nI i).toNatClampNeg = i := nI_clamp (by omega)
    have hvi : vp_in (nI i) 60 := vp_in_nI (by omega) (by omega)
    have hvb : vp_in (nI b) 6 := vp_in_nI (by omega) (by omega)
    have eb : (nI b).toNatClampNeg = b := nI_clamp (by omega)
    have e54 := ho.e54
    have hci := hce2 i (by omega)
    refine zb L_fillLeft_s3 rfl ?_
    refine z_cge L_fillLeft_d9 (tgt := 58) rfl (fun h9 => absurd h9 (show ¬ μ.1 16 3 ≤ nI i by rw [hsz2]; exact nI_ge hilt (by omega))) (fun h9 => ?_)
    refine zb2 L_fillLeft_s12 rfl (by first | exact hvi | exact hvb) (by first | exact hvi | exact hvb) ?_
    rw [nI_add, e54, eb, ei, hci]
    refine zcallV L_fillLeft_d47 k5_60 (by omega) (x_offOfN hF (by omega) ho) rfl rfl rfl (Nat.le_of_ble_eq_true rfl) ?_
    rintro _ μ1 ⟨rfl, hz1⟩
    have hv0a : ∀ k, k < i → μ1.1 66 k = lefF F b D h cc k := fun k hk => by rw [hz1.1 66 k rfl]; exact hv0 k hk
    replace hz := hz.tr (hz1.mono nS_n1)
    replace ho := ho.q (hz1.mono nS_sX)
    refine zb1 L_fillLeft_s50 rfl (by first | exact hvi | exact hvb) ?_
    (try rw [ei])
    rw [nI_1]
    refine ih (i + 1) _ (by omega) (ho.q (zq.w (m := sX) rfl)) (hz.tr (zq.w rfl)) (fun k hk => ?_)
    rw [zpI_at]
    by_cases y : k = i
    · rw [if_pos y, y]
      rfl
    · rw [if_neg y]
      exact hv0a k (by omega)

set_option maxRecDepth 100000 in
set_option maxHeartbeats 4000000 in
theorem x_left_3 {g : zG} {d : Nat} {F : zF} {μ0 : zMem} {b D : Nat} {h : Int32} {n : Nat} {cc : Nat → Int32} (hn : n ≤ 60) (hsz : μ0.1 16 3 = nI n) (hce : ∀ t, t < 60 → (μ0.2.1 22 t).toInt32 = cc t) (hF : okF F) (hb : b < fB F) (hD : D ≤ 998) (hd : 6 ≤ d) (ho : oX F μ0) : zM g d L_fillLeft [.ref 5, .ref 16, .int (nI b), .int (nI D), .int h] μ0 (fun r μ' => r = none ∧ zq (n1 66) μ0 μ' ∧ ∀ k, k < n → μ'.1 66 k = lefF F b D h cc k) := by
  refine zM_of (by decide +kernel) rfl rfl (Nat.le_of_ble_eq_true rfl) rfl ?_
  refine zb L_fillLeft_s0 rfl ?_
  exact w_left_3 hn hsz hce hF hb hD hd n 0 μ0 (by omega) ho zq.rf (fun k hk => by omega)

set_option maxRecDepth 100000 in
set_option maxHeartbeats 4000000 in
theorem w_brI_3 {g : zG} {d : Nat} {F : zF} {μ1 : zMem} {b D n v k : Nat} {h w x : Int32} {cc : Nat → Int32} {t0 : Int32 × Int32} {Q : Option Value → zMem → Prop} (hd : 2 ≤ d) (hn : n ≤ 60) (hDn : D + n ≤ 999) (hsz : μ1.1 16 3 = nI n) (hvV : v < fV F) (hV : fV F ≤ 12) (hbv : fbell F v = nI b) (hk : ldP (μ1.1 67) x n k) (hrow : ∀ s, s < 1000 → sncP (μ1.1 67) (μ1.1 68) x D n s = sncP (dueF F b D h cc v) (aftF F v h) (giv F v (nI b) 1 0 h) D n s) (hQ : ∀ (a6 a7 : Int32) (y9 y10 : Option Value), fsOK (a6, a7) → (a6, a7) = zfold (brDay F b D h cc n v) 0 1000 t0 → zW g L_sinceWhen d 183 [some (.ref 5), some (.ref 16), some (.int (nI b)), some (.int (nI D)), some (.int h), some (.int w), some (.int a6), some (.int a7), some (.int (nI v)), y9, y10] [] μ1 Q) : ∀ (j i : Nat) (a6 : Int32) (a7 : Int32) (μ : zMem), i + j = 1000 → (μ = μ1) → (fsOK (a6, a7)) → ((a6, a7) = zfold (brDay F b D h cc n v) 0 i t0) → zW g L_sinceWhen d 129 [some (.ref 5), some (.ref 16), some (.int (nI b)), some (.int (nI D)), some (.int h), some (.int w), some (.int a6), some (.int a7), some (.int (nI v)), some (.int (nI k)), some (.int (nI i))] [] μ (Q) := by
  intro j
  induction j with
  | zero =>
    intro i a6 a7 μ hi  hv0 hv1 hv2
    have hi : 1000 = i := by omega
    subst hi
    refine zb L_sinceWhen_s129 rfl ?_
    refine z_cgt L_sinceWhen_d134 (tgt := 183) rfl (fun h134 => ?_) (fun h134 => absurd (show (999 : Int32) < nI 1000 by decide) h134)
    rw [hv0]
    exact hQ a6 a7 _ _ hv1 hv2
  | succ j ih =>
    intro i a6 a7 μ hi  hv0 hv1 hv2
    have hilt : i < 1000 := by omega
    have ei : (nI i).toNatClampNeg = i := nI_clamp (by omega)
    subst hv0
    have hstep := brDay_ok (F := F) (b := b) (D := D) (n := n) (h := h) (c := cc) (show v < 12 by omega) hilt hv1
    have hz0 : zfold (brDay F b D h cc n v) 0 (i + 1) t0 = brDay F b D h cc n v i (a6, a7) := by rw [zf0, ← hv2]
    refine zb L_sinceWhen_s129 rfl ?_
    refine z_cgt L_sinceWhen_d134 (tgt := 183) rfl (fun h134 => absurd h134 (Int32.not_lt.mpr (nI_le (b := 999) (by omega) (by omega)))) (fun h134 => ?_)
    refine zb L_sinceWhen_s137 rfl ?_
    rw [hsz]
    refine zcallV L_sinceWhen_d147 k5_133 (by omega) (x_isSince (by omega) hn hDn (by omega) hk) rfl rfl rfl (Nat.le_of_ble_eq_true rfl) ?_
    rintro _ μ2 ⟨⟨w9, rfl, hw9, hs9⟩, hμ2⟩
    rw [hμ2]
    clear hμ2 μ2
    have hso := (so_snc (c := cc) (h := h) hvV hbv hDn hilt).symm
    rw [hrow i hilt] at hs9
    replace hs9 := hs9.trans hso
    refine z_eq L_sinceWhen_d150 (tgt := 177) rfl (fun h150 => ?_) (fun h150 => ?_)
    · refine zb L_sinceWhen_s177 rfl ?_
      rw [nI_1]
      (try rw [nI_1])
      first
        | (have e : brDay F b D h cc n v i (a6, a7) = (a6, a7) := if_neg (fun z => absurd (hs9.mpr z) (fun y => y h150))
           rw [e] at hstep hz0
           exact ih (i + 1) _ _ _ (by omega) rfl hstep hz0.symm)
        | (have hso9 := hs9.mp h150
           have e : brDay F b D h cc n v i (a6, a7) = (if a6 = -2 then 1000 * nI v + nI i else a6, a7 + 1) := if_pos hso9
           first
             | (have h6n : ¬ a6 = -2 := fun z => by rw [z] at h158; exact absurd h158 (by decide)
                rw [if_neg h6n] at e
                rw [e] at hstep hz0
                exact ih (i + 1) _ _ _ (by omega) rfl hstep hz0.symm)
             | (have h6y : a6 = -2 := hv1.resolve_right h158
                rw [if_pos h6y] at e
                rw [e] at hstep hz0
                exact ih (i + 1) _ _ _ (by omega) rfl hstep hz0.symm))
    · refine zb L_sinceWhen_s153 rfl ?_
      refine z_ge L_sinceWhen_d158 (tgt := 173) rfl (fun h158 => ?_) (fun h158 => ?_)
      · refine zb L_sinceWhen_s173 rfl ?_
        rw [nI_1]
        (try rw [nI_1])
        first
          | (have e : brDay F b D h cc n v i (a6, a7) = (a6, a7) := if_neg (fun z => absurd (hs9.mpr z) (fun y => y h150))
             rw [e] at hstep hz0
             exact ih (i + 1) _ _ _ (by omega) rfl hstep hz0.symm)
          | (have hso9 := hs9.mp h150
             have e : brDay F b D h cc n v i (a6, a7) = (if a6 = -2 then 1000 * nI v + nI i else a6, a7 + 1) := if_pos hso9
             first
               | (have h6n : ¬ a6 = -2 := fun z => by rw [z] at h158; exact absurd h158 (by decide)
                  rw [if_neg h6n] at e
                  rw [e] at hstep hz0
                  exact ih (i + 1) _ _ _ (by omega) rfl hstep hz0.symm)
               | (have h6y : a6 = -2 := hv1.resolve_right h158
                  rw [if_pos h6y] at e
                  rw [e] at hstep hz0
                  exact ih (i + 1) _ _ _ (by omega) rfl hstep hz0.symm))
      · refine zb L_sinceWhen_s161 rfl ?_
        rw [nI_1]
        (try rw [nI_1])
        first
          | (have e : brDay F b D h cc n v i (a6, a7) = (a6, a7) := if_neg (fun z => absurd (hs9.mpr z) (fun y => y h150))
             rw [e] at hstep hz0
             exact ih (i + 1) _ _ _ (by omega) rfl hstep hz0.symm)
          | (have hso9 := hs9.mp h150
             have e : brDay F b D h cc n v i (a6, a7) = (if a6 = -2 then 1000 * nI v + nI i else a6, a7 + 1) := if_pos hso9
             first
               | (have h6n : ¬ a6 = -2 := fun z => by rw [z] at h158; exact absurd h158 (by decide)
                  rw [if_neg h6n] at e
                  rw [e] at hstep hz0
                  exact ih (i + 1) _ _ _ (by omega) rfl hstep hz0.symm)
               | (have h6y : a6 = -2 := hv1.resolve_right h158
                  rw [if_pos h6y] at e
                  rw [e] at hstep hz0
                  exact ih (i + 1) _ _ _ (by omega) rfl hstep hz0.symm))

set_option maxRecDepth 100000 in
set_option maxHeartbeats 4000000 in
theorem w_broke_3 {g : zG} {d : Nat} {F : zF} {μ0 : zMem} {b D : Nat} {h w : Int32} {n : Nat} {cc : Nat → Int32} (hn : n ≤ 60) (hsz : μ0.1 16 3 = nI n) (hF : okF F) (hb : b < fB F) (hDn : D + n ≤ 999) (hD : D ≤ 998) (hd : 7 ≤ d) : ∀ (j i : Nat) (a6 : Int32) (a7 : Int32) (y9 : Option Value) (y10 : Option Value) (μ : zMem), i + j = fV F → oX F μ → zq sX μ0 μ → (∀ k, k < n → μ.1 66 k = lefF F b D h cc k) → (fsOK (a6, a7)) → ((a6, a7) = zfold (brV F b D h cc n) 0 i (-2, 0)) → zW g L_sinceWhen d 45 [some (.ref 5), some (.ref 16), some (.int (nI b)), some (.int (nI D)), some (.int h), some (.int w), some (.int a6), some (.int a7), some (.int (nI i)), y9, y10] [] μ (fun r μ' => r = some (.int (if w = 0 then (brS F b D h cc n).1 else (brS F b D h cc n).2)) ∧ zq sX μ0 μ') := by
  intro j
  induction j with
  | zero =>
    intro i a6 a7 y9 y10 μ hi ho hz hv0 hv1 hv2
    have hbd := ho.v
    have h12 := ho.v12
    have h6 := ho.b6
    have hsz2 : μ.1 16 3 = nI n := by rw [hz.1 16 3 rfl]; exact hsz
    have hi : fV F = i := by omega
    subst hi
    refine zb L_sinceWhen_s45 rfl ?_
    refine z_cge L_sinceWhen_d54 (tgt := 189) rfl (fun h54 => ?_) (fun h54 => absurd (show μ.1 2 8 ≤ nI (fV F) by first | exact Int32.le_refl _ | (rw [hbd]; exact Int32.le_refl _)) h54)
    refine zb L_sinceWhen_s189 rfl ?_
    refine z_ne L_sinceWhen_d191 (tgt := 199) rfl (fun h191 => ?_) (fun h191 => ?_)
    · refine zb L_sinceWhen_s199 rfl ?_
      refine z_ret L_sinceWhen_d201 rfl ?_
      have e : brS F b D h cc n = (a6, a7) := hv2.symm
      refine ⟨?_, hz⟩
      rw [e]
      first
        | (rw [if_pos h191]; done)
        | (rw [if_neg h191]; done)
    · refine zb L_sinceWhen_s194 rfl ?_
      refine z_ret L_sinceWhen_d201 rfl ?_
      have e : brS F b D h cc n = (a6, a7) := hv2.symm
      refine ⟨?_, hz⟩
      rw [e]
      first
        | (rw [if_pos h191]; done)
        | (rw [if_neg h191]; done)
  | succ j ih =>
    intro i a6 a7 y9 y10 μ hi ho hz hv0 hv1 hv2
    have hbd := ho.v
    have h12 := ho.v12
    have h6 := ho.b6
    have hsz2 : μ.1 16 3 = nI n := by rw [hz.1 16 3 rfl]; exact hsz
    have hilt : i < fV F := by omega
    have ei : (nI i).toNatClampNeg = i := nI_clamp (by omega)
    have hvi : vp_in (nI i) 12 := vp_in_nI (by omega) (by omega)
    have e56 := ho.e56
    have hz0 : zfold (brV F b D h cc n) 0 (i + 1) (-2, 0) = brV F b D h cc n i (a6, a7) := by rw [zf0, ← hv2]
    refine zb L_sinceWhen_s45 rfl ?_
    refine z_cge L_sinceWhen_d54 (tgt := 189) rfl (fun h54 => absurd h54 (show ¬ μ.1 2 8 ≤ nI i by first | exact nI_ge hilt (by omega) | (rw [hbd]; exact nI_ge hilt (by omega)))) (fun h54 => ?_)
    refine zb1 L_sinceWhen_s57 rfl hvi ?_
    refine z_ceq L_sinceWhen_d68 (tgt := 74) rfl (fun h68 => ?_) (fun h68 => ?_)
    · refine zb L_sinceWhen_s74 rfl ?_
      rw [hsz2]
      refine zcallV L_sinceWhen_d84 k5_122 (by omega) (x_due (b := b) (c := cc) hF hilt hn hv0 hD (by omega) ho) rfl rfl rfl (Nat.le_of_ble_eq_true rfl) ?_
      rintro _ μ1 ⟨rfl, hz1, hr1⟩
      have hzx1 := hz1.mono (n1_sX (fun _ => rfl))
      have hla : ∀ k, k < n → μ1.1 66 k = lefF F b D h cc k := fun k hk => by rw [hz1.1 66 k rfl]; exact hv0 k hk
      have ho1 := ho.q hzx1
      refine zb L_sinceWhen_s87 rfl ?_
      rw [show μ1.1 16 3 = nI n by rw [hz1.1 16 3 rfl]; exact hsz2, nI_add]
      refine zcallV L_sinceWhen_d100 k5_126 (by omega) (x_after (L := D + n) (v := i) (by omega) hDn (by omega) ho1) rfl rfl rfl (Nat.le_of_ble_eq_true rfl) ?_
      rintro _ μ2 ⟨rfl, hz2, hr2⟩
      have hzx2 := hz2.mono (n1_sX (fun _ => rfl))
      have hlb : ∀ k, k < n → μ2.1 66 k = lefF F b D h cc k := fun k hk => by rw [hz2.1 66 k rfl]; exact hla k hk
      have hdb : ∀ k, k < n → μ2.1 67 k = dueF F b D h cc i k := fun k hk => by rw [hz2.1 67 k rfl]; exact hr1 k hk
      have ho2 := ho1.q hzx2
      have hsz4 : μ2.1 16 3 = nI n := by rw [hz2.1 16 3 rfl, hz1.1 16 3 rfl]; exact hsz2
      refine zb L_sinceWhen_s103 rfl ?_
      refine zcallV L_sinceWhen_d118 k5_53 (by omega) (x_offIf (by omega) (by omega) ho2) rfl rfl rfl (Nat.le_of_ble_eq_true rfl) ?_
      rintro _ μ3 ⟨rfl, hz3⟩
      have hzx3 := hz3.mono nS_sX
      have hlc : ∀ k, k < n → μ3.1 66 k = lefF F b D h cc k := fun k hk => by rw [hz3.1 66 k rfl]; exact hlb k hk
      have hdc : ∀ k, k < n → μ3.1 67 k = dueF F b D h cc i k := fun k hk => by rw [hz3.1 67 k rfl]; exact hdb k hk
      have hac : ∀ k, k < D + n → μ3.1 68 k = aftF F i h k := fun k hk => by rw [hz3.1 68 k rfl]; exact hr2 k hk
      have ho3 := ho2.q hzx3
      have hsz5 : μ3.1 16 3 = nI n := by rw [hz3.1 16 3 rfl]; exact hsz4
      have hzz := ((hz.tr hzx1).tr hzx2).tr hzx3
      rw [ofI_giv1 F i (nI b) 0 h, hsz4]
      skip
      refine zcallV L_sinceWhen_d121 k5_130 (by omega) (x_lead hn) rfl rfl rfl (Nat.le_of_ble_eq_true rfl) ?_
      rintro _ μ4 ⟨⟨k, rfl, hk⟩, hμ4⟩
      rw [hμ4]
      clear hμ4 μ4
      refine zb L_sinceWhen_s124 rfl ?_
      rw [e56, ei] at h68
      have e : brV F b D h cc n i (a6, a7) = zfold (brDay F b D h cc n i) 0 1000 (a6, a7) := if_pos h68
      rw [e] at hz0
      refine w_brI_3 (F := F) (cc := cc) (x := giv F i (nI b) 1 0 h) (t0 := (a6, a7)) (by omega) hn hDn hsz5 hilt h12 h68 hk (fun s hs => ?_) (fun b6 b7 z9 z10 hb1 hb2 => ?_) 1000 0 a6 a7 _ (by omega) rfl hv1 rfl
      · refine propext (forall_congr' (fun q => forall_congr' (fun hq => ?_)))
        rw [hdc q hq]
        by_cases y : D + q < s
        · rw [if_pos y, if_pos y]
        · rw [if_neg y, if_neg y, hac _ (by omega)]
      · refine zb L_sinceWhen_s183 rfl ?_
        rw [nI_1]
        exact ih (i + 1) _ _ _ _ _ (by omega) ho3 hzz hlc hb1 (hb2.trans hz0.symm)
    · refine zb L_sinceWhen_s71 rfl ?_
      rw [e56, ei] at h68
      rw [nI_1]
      have e : brV F b D h cc n i (a6, a7) = (a6, a7) := if_neg h68
      rw [e] at hz0
      exact ih (i + 1) _ _ _ _ _ (by omega) ho hz hv0 hv1 hz0.symm

set_option maxRecDepth 100000 in
set_option maxHeartbeats 4000000 in
theorem x_since_3 {g : zG} {d : Nat} {F : zF} {μ0 : zMem} {b D : Nat} {h w : Int32} {n : Nat} {cc : Nat → Int32} (hn : n ≤ 60) (hsz : μ0.1 16 3 = nI n) (hce : ∀ t, t < 60 → (μ0.2.1 22 t).toInt32 = cc t) (hF : okF F) (hb : b < fB F) (hD : D ≤ 998) (hd : 7 ≤ d) (ho : oX F μ0) : zM g d L_sinceWhen [.ref 5, .ref 16, .int (nI b), .int (nI D), .int h, .int w] μ0 (fun r μ' => r = some (.int (if w = 0 then (brS F b D h cc n).1 else (brS F b D h cc n).2)) ∧ zq sX μ0 μ') := by
  refine zM_of (by decide +kernel) rfl rfl (Nat.le_of_ble_eq_true rfl) rfl ?_
  refine zb L_sinceWhen_s0 rfl ?_
  rw [hsz, nI_add]
  refine z_cle L_sinceWhen_d11 (tgt := 26) rfl (fun h11 => ?_) (fun h11 => ?_)
  · refine zb L_sinceWhen_s26 rfl ?_
    refine zcallV L_sinceWhen_d39 k5_118 (by omega) (x_left_3 hn hsz hce hF hb hD (by omega) ho) rfl rfl rfl (Nat.le_of_ble_eq_true rfl) ?_
    rintro _ μ1 ⟨rfl, hz1, hr1⟩
    have hzx1 := hz1.mono (n1_sX (fun _ => rfl))
    refine zb L_sinceWhen_s42 rfl ?_
    exact w_broke_3 hn hsz hF hb ((lst_le (by omega)).mp h11) hD hd (fV F) 0 _ _ _ _ μ1 (by omega) (ho.q hzx1) hzx1 hr1 (Or.inl rfl) rfl
  · refine zb L_sinceWhen_s14 rfl ?_
    refine z_ne L_sinceWhen_d16 (tgt := 24) rfl (fun h16 => ?_) (fun h16 => ?_)
    · refine zb L_sinceWhen_s24 rfl ?_
      refine z_ret L_sinceWhen_d25 rfl ?_
      have e := br_none (F := F) (b := b) (h := h) (c := cc) (fun z => h11 ((lst_le (by omega)).mpr z)) hn hD
      refine ⟨?_, zq.rf⟩
      rw [e]
      first
        | (rw [if_pos h16]; done)
        | (rw [if_neg h16]; done)
    · refine zb L_sinceWhen_s19 rfl ?_
      refine z_ret L_sinceWhen_d25 rfl ?_
      have e := br_none (F := F) (b := b) (h := h) (c := cc) (fun z => h11 ((lst_le (by omega)).mpr z)) hn hD
      refine ⟨?_, zq.rf⟩
      rw [e]
      first
        | (rw [if_pos h16]; done)
        | (rw [if_neg h16]; done)

set_option maxRecDepth 100000 in
set_option maxHeartbeats 4000000 in
theorem w_left_4 {g : zG} {d : Nat} {F : zF} {μ0 : zMem} {b D : Nat} {h : Int32} {n : Nat} {cc : Nat → Int32} (hn : n ≤ 60) (hsz : μ0.1 17 3 = nI n) (hce : ∀ t, t < 60 → (μ0.2.1 23 t).toInt32 = cc t) (hF : okF F) (hb : b < fB F) (hD : D ≤ 998) (hd : 6 ≤ d) : ∀ (j i : Nat) (μ : zMem), i + j = n → oX F μ → zq (n1 66) μ0 μ → (∀ k, k < i → μ.1 66 k = lefF F b D h cc k) → zW g L_fillLeft d 3 [some (.ref 5), some (.ref 17), some (.int (nI b)), some (.int (nI D)), some (.int h), some (.int (nI i))] [] μ (fun r μ' => r = none ∧ zq (n1 66) μ0 μ' ∧ ∀ k, k < n → μ'.1 66 k = lefF F b D h cc k) := by
  intro j
  induction j with
  | zero =>
    intro i  μ hi ho hz hv0
    have h6 := ho.b6
    have hsz2 : μ.1 17 3 = nI n := by rw [hz.1 17 3 rfl]; exact hsz
    have hce2 : ∀ t, t < 60 → (μ.2.1 23 t).toInt32 = cc t := fun t ht => by rw [hz.2]; exact hce t ht
    have hi : n = i := by omega
    subst hi
    refine zb L_fillLeft_s3 rfl ?_
    refine z_cge L_fillLeft_d9 (tgt := 58) rfl (fun h9 => ?_) (fun h9 => absurd (show μ.1 17 3 ≤ nI n by rw [hsz2]; exact Int32.le_refl _) h9)
    refine z_retV L_fillLeft_d58 rfl ?_
    exact ⟨rfl, hz, hv0⟩
  | succ j ih =>
    intro i  μ hi ho hz hv0
    have h6 := ho.b6
    have hsz2 : μ.1 17 3 = nI n := by rw [hz.1 17 3 rfl]; exact hsz
    have hce2 : ∀ t, t < 60 → (μ.2.1 23 t).toInt32 = cc t := fun t ht => by rw [hz.2]; exact hce t ht
    have hilt : i < n := by omega
    have ei : (nI i).toNatClampNeg = i := nI_clamp (by omega)
    have hvi : vp_in (nI i) 60 := vp_in_nI (by omega) (by omega)
    have hvb : vp_in (nI b) 6 := vp_in_nI (by omega) (by omega)
    have eb : (nI b).toNatClampNeg = b := nI_clamp (by omega)
    have e54 := ho.e54
    have hci := hce2 i (by omega)
    refine zb L_fillLeft_s3 rfl ?_
    refine z_cge L_fillLeft_d9 (tgt := 58) rfl (fun h9 => absurd h9 (show ¬ μ.1 17 3 ≤ nI i by rw [hsz2]; exact nI_ge hilt (by omega))) (fun h9 => ?_)
    refine zb2 L_fillLeft_s12 rfl (by first | exact hvi | exact hvb) (by first | exact hvi | exact hvb) ?_
    rw [nI_add, e54, eb, ei, hci]
    refine zcallV L_fillLeft_d47 k5_60 (by omega) (x_offOfN hF (by omega) ho) rfl rfl rfl (Nat.le_of_ble_eq_true rfl) ?_
    rintro _ μ1 ⟨rfl, hz1⟩
    have hv0a : ∀ k, k < i → μ1.1 66 k = lefF F b D h cc k := fun k hk => by rw [hz1.1 66 k rfl]; exact hv0 k hk
    replace hz := hz.tr (hz1.mono nS_n1)
    replace ho := ho.q (hz1.mono nS_sX)
    refine zb1 L_fillLeft_s50 rfl (by first | exact hvi | exact hvb) ?_
    (try rw [ei])
    rw [nI_1]
    refine ih (i + 1) _ (by omega) (ho.q (zq.w (m := sX) rfl)) (hz.tr (zq.w rfl)) (fun k hk => ?_)
    rw [zpI_at]
    by_cases y : k = i
    · rw [if_pos y, y]
      rfl
    · rw [if_neg y]
      exact hv0a k (by omega)

set_option maxRecDepth 100000 in
set_option maxHeartbeats 4000000 in
theorem x_left_4 {g : zG} {d : Nat} {F : zF} {μ0 : zMem} {b D : Nat} {h : Int32} {n : Nat} {cc : Nat → Int32} (hn : n ≤ 60) (hsz : μ0.1 17 3 = nI n) (hce : ∀ t, t < 60 → (μ0.2.1 23 t).toInt32 = cc t) (hF : okF F) (hb : b < fB F) (hD : D ≤ 998) (hd : 6 ≤ d) (ho : oX F μ0) : zM g d L_fillLeft [.ref 5, .ref 17, .int (nI b), .int (nI D), .int h] μ0 (fun r μ' => r = none ∧ zq (n1 66) μ0 μ' ∧ ∀ k, k < n → μ'.1 66 k = lefF F b D h cc k) := by
  refine zM_of (by decide +kernel) rfl rfl (Nat.le_of_ble_eq_true rfl) rfl ?_
  refine zb L_fillLeft_s0 rfl ?_
  exact w_left_4 hn hsz hce hF hb hD hd n 0 μ0 (by omega) ho zq.rf (fun k hk => by omega)

set_option maxRecDepth 100000 in
set_option maxHeartbeats 4000000 in
theorem w_brI_4 {g : zG} {d : Nat} {F : zF} {μ1 : zMem} {b D n v k : Nat} {h w x : Int32} {cc : Nat → Int32} {t0 : Int32 × Int32} {Q : Option Value → zMem → Prop} (hd : 2 ≤ d) (hn : n ≤ 60) (hDn : D + n ≤ 999) (hsz : μ1.1 17 3 = nI n) (hvV : v < fV F) (hV : fV F ≤ 12) (hbv : fbell F v = nI b) (hk : ldP (μ1.1 67) x n k) (hrow : ∀ s, s < 1000 → sncP (μ1.1 67) (μ1.1 68) x D n s = sncP (dueF F b D h cc v) (aftF F v h) (giv F v (nI b) 1 0 h) D n s) (hQ : ∀ (a6 a7 : Int32) (y9 y10 : Option Value), fsOK (a6, a7) → (a6, a7) = zfold (brDay F b D h cc n v) 0 1000 t0 → zW g L_sinceWhen d 183 [some (.ref 5), some (.ref 17), some (.int (nI b)), some (.int (nI D)), some (.int h), some (.int w), some (.int a6), some (.int a7), some (.int (nI v)), y9, y10] [] μ1 Q) : ∀ (j i : Nat) (a6 : Int32) (a7 : Int32) (μ : zMem), i + j = 1000 → (μ = μ1) → (fsOK (a6, a7)) → ((a6, a7) = zfold (brDay F b D h cc n v) 0 i t0) → zW g L_sinceWhen d 129 [some (.ref 5), some (.ref 17), some (.int (nI b)), some (.int (nI D)), some (.int h), some (.int w), some (.int a6), some (.int a7), some (.int (nI v)), some (.int (nI k)), some (.int (nI i))] [] μ (Q) := by
  intro j
  induction j with
  | zero =>
    intro i a6 a7 μ hi  hv0 hv1 hv2
    have hi : 1000 = i := by omega
    subst hi
    refine zb L_sinceWhen_s129 rfl ?_
    refine z_cgt L_sinceWhen_d134 (tgt := 183) rfl (fun h134 => ?_) (fun h134 => absurd (show (999 : Int32) < nI 1000 by decide) h134)
    rw [hv0]
    exact hQ a6 a7 _ _ hv1 hv2
  | succ j ih =>
    intro i a6 a7 μ hi  hv0 hv1 hv2
    have hilt : i < 1000 := by omega
    have ei : (nI i).toNatClampNeg = i := nI_clamp (by omega)
    subst hv0
    have hstep := brDay_ok (F := F) (b := b) (D := D) (n := n) (h := h) (c := cc) (show v < 12 by omega) hilt hv1
    have hz0 : zfold (brDay F b D h cc n v) 0 (i + 1) t0 = brDay F b D h cc n v i (a6, a7) := by rw [zf0, ← hv2]
    refine zb L_sinceWhen_s129 rfl ?_
    refine z_cgt L_sinceWhen_d134 (tgt := 183) rfl (fun h134 => absurd h134 (Int32.not_lt.mpr (nI_le (b := 999) (by omega) (by omega)))) (fun h134 => ?_)
    refine zb L_sinceWhen_s137 rfl ?_
    rw [hsz]
    refine zcallV L_sinceWhen_d147 k5_133 (by omega) (x_isSince (by omega) hn hDn (by omega) hk) rfl rfl rfl (Nat.le_of_ble_eq_true rfl) ?_
    rintro _ μ2 ⟨⟨w9, rfl, hw9, hs9⟩, hμ2⟩
    rw [hμ2]
    clear hμ2 μ2
    have hso := (so_snc (c := cc) (h := h) hvV hbv hDn hilt).symm
    rw [hrow i hilt] at hs9
    replace hs9 := hs9.trans hso
    refine z_eq L_sinceWhen_d150 (tgt := 177) rfl (fun h150 => ?_) (fun h150 => ?_)
    · refine zb L_sinceWhen_s177 rfl ?_
      rw [nI_1]
      (try rw [nI_1])
      first
        | (have e : brDay F b D h cc n v i (a6, a7) = (a6, a7) := if_neg (fun z => absurd (hs9.mpr z) (fun y => y h150))
           rw [e] at hstep hz0
           exact ih (i + 1) _ _ _ (by omega) rfl hstep hz0.symm)
        | (have hso9 := hs9.mp h150
           have e : brDay F b D h cc n v i (a6, a7) = (if a6 = -2 then 1000 * nI v + nI i else a6, a7 + 1) := if_pos hso9
           first
             | (have h6n : ¬ a6 = -2 := fun z => by rw [z] at h158; exact absurd h158 (by decide)
                rw [if_neg h6n] at e
                rw [e] at hstep hz0
                exact ih (i + 1) _ _ _ (by omega) rfl hstep hz0.symm)
             | (have h6y : a6 = -2 := hv1.resolve_right h158
                rw [if_pos h6y] at e
                rw [e] at hstep hz0
                exact ih (i + 1) _ _ _ (by omega) rfl hstep hz0.symm))
    · refine zb L_sinceWhen_s153 rfl ?_
      refine z_ge L_sinceWhen_d158 (tgt := 173) rfl (fun h158 => ?_) (fun h158 => ?_)
      · refine zb L_sinceWhen_s173 rfl ?_
        rw [nI_1]
        (try rw [nI_1])
        first
          | (have e : brDay F b D h cc n v i (a6, a7) = (a6, a7) := if_neg (fun z => absurd (hs9.mpr z) (fun y => y h150))
             rw [e] at hstep hz0
             exact ih (i + 1) _ _ _ (by omega) rfl hstep hz0.symm)
          | (have hso9 := hs9.mp h150
             have e : brDay F b D h cc n v i (a6, a7) = (if a6 = -2 then 1000 * nI v + nI i else a6, a7 + 1) := if_pos hso9
             first
               | (have h6n : ¬ a6 = -2 := fun z => by rw [z] at h158; exact absurd h158 (by decide)
                  rw [if_neg h6n] at e
                  rw [e] at hstep hz0
                  exact ih (i + 1) _ _ _ (by omega) rfl hstep hz0.symm)
               | (have h6y : a6 = -2 := hv1.resolve_right h158
                  rw [if_pos h6y] at e
                  rw [e] at hstep hz0
                  exact ih (i + 1) _ _ _ (by omega) rfl hstep hz0.symm))
      · refine zb L_sinceWhen_s161 rfl ?_
        rw [nI_1]
        (try rw [nI_1])
        first
          | (have e : brDay F b D h cc n v i (a6, a7) = (a6, a7) := if_neg (fun z => absurd (hs9.mpr z) (fun y => y h150))
             rw [e] at hstep hz0
             exact ih (i + 1) _ _ _ (by omega) rfl hstep hz0.symm)
          | (have hso9 := hs9.mp h150
             have e : brDay F b D h cc n v i (a6, a7) = (if a6 = -2 then 1000 * nI v + nI i else a6, a7 + 1) := if_pos hso9
             first
               | (have h6n : ¬ a6 = -2 := fun z => by rw [z] at h158; exact absurd h158 (by decide)
                  rw [if_neg h6n] at e
                  rw [e] at hstep hz0
                  exact ih (i + 1) _ _ _ (by omega) rfl hstep hz0.symm)
               | (have h6y : a6 = -2 := hv1.resolve_right h158
                  rw [if_pos h6y] at e
                  rw [e] at hstep hz0
                  exact ih (i + 1) _ _ _ (by omega) rfl hstep hz0.symm))

set_option maxRecDepth 100000 in
set_option maxHeartbeats 4000000 in
theorem w_broke_4 {g : zG} {d : Nat} {F : zF} {μ0 : zMem} {b D : Nat} {h w : Int32} {n : Nat} {cc : Nat → Int32} (hn : n ≤ 60) (hsz : μ0.1 17 3 = nI n) (hF : okF F) (hb : b < fB F) (hDn : D + n ≤ 999) (hD : D ≤ 998) (hd : 7 ≤ d) : ∀ (j i : Nat) (a6 : Int32) (a7 : Int32) (y9 : Option Value) (y10 : Option Value) (μ : zMem), i + j = fV F → oX F μ → zq sX μ0 μ → (∀ k, k < n → μ.1 66 k = lefF F b D h cc k) → (fsOK (a6, a7)) → ((a6, a7) = zfold (brV F b D h cc n) 0 i (-2, 0)) → zW g L_sinceWhen d 45 [some (.ref 5), some (.ref 17), some (.int (nI b)), some (.int (nI D)), some (.int h), some (.int w), some (.int a6), some (.int a7), some (.int (nI i)), y9, y10] [] μ (fun r μ' => r = some (.int (if w = 0 then (brS F b D h cc n).1 else (brS F b D h cc n).2)) ∧ zq sX μ0 μ') := by
  intro j
  induction j with
  | zero =>
    intro i a6 a7 y9 y10 μ hi ho hz hv0 hv1 hv2
    have hbd := ho.v
    have h12 := ho.v12
    have h6 := ho.b6
    have hsz2 : μ.1 17 3 = nI n := by rw [hz.1 17 3 rfl]; exact hsz
    have hi : fV F = i := by omega
    subst hi
    refine zb L_sinceWhen_s45 rfl ?_
    refine z_cge L_sinceWhen_d54 (tgt := 189) rfl (fun h54 => ?_) (fun h54 => absurd (show μ.1 2 8 ≤ nI (fV F) by first | exact Int32.le_refl _ | (rw [hbd]; exact Int32.le_refl _)) h54)
    refine zb L_sinceWhen_s189 rfl ?_
    refine z_ne L_sinceWhen_d191 (tgt := 199) rfl (fun h191 => ?_) (fun h191 => ?_)
    · refine zb L_sinceWhen_s199 rfl ?_
      refine z_ret L_sinceWhen_d201 rfl ?_
      have e : brS F b D h cc n = (a6, a7) := hv2.symm
      refine ⟨?_, hz⟩
      rw [e]
      first
        | (rw [if_pos h191]; done)
        | (rw [if_neg h191]; done)
    · refine zb L_sinceWhen_s194 rfl ?_
      refine z_ret L_sinceWhen_d201 rfl ?_
      have e : brS F b D h cc n = (a6, a7) := hv2.symm
      refine ⟨?_, hz⟩
      rw [e]
      first
        | (rw [if_pos h191]; done)
        | (rw [if_neg h191]; done)
  | succ j ih =>
    intro i a6 a7 y9 y10 μ hi ho hz hv0 hv1 hv2
    have hbd := ho.v
    have h12 := ho.v12
    have h6 := ho.b6
    have hsz2 : μ.1 17 3 = nI n := by rw [hz.1 17 3 rfl]; exact hsz
    have hilt : i < fV F := by omega
    have ei : (nI i).toNatClampNeg = i := nI_clamp (by omega)
    have hvi : vp_in (nI i) 12 := vp_in_nI (by omega) (by omega)
    have e56 := ho.e56
    have hz0 : zfold (brV F b D h cc n) 0 (i + 1) (-2, 0) = brV F b D h cc n i (a6, a7) := by rw [zf0, ← hv2]
    refine zb L_sinceWhen_s45 rfl ?_
    refine z_cge L_sinceWhen_d54 (tgt := 189) rfl (fun h54 => absurd h54 (show ¬ μ.1 2 8 ≤ nI i by first | exact nI_ge hilt (by omega) | (rw [hbd]; exact nI_ge hilt (by omega)))) (fun h54 => ?_)
    refine zb1 L_sinceWhen_s57 rfl hvi ?_
    refine z_ceq L_sinceWhen_d68 (tgt := 74) rfl (fun h68 => ?_) (fun h68 => ?_)
    · refine zb L_sinceWhen_s74 rfl ?_
      rw [hsz2]
      refine zcallV L_sinceWhen_d84 k5_122 (by omega) (x_due (b := b) (c := cc) hF hilt hn hv0 hD (by omega) ho) rfl rfl rfl (Nat.le_of_ble_eq_true rfl) ?_
      rintro _ μ1 ⟨rfl, hz1, hr1⟩
      have hzx1 := hz1.mono (n1_sX (fun _ => rfl))
      have hla : ∀ k, k < n → μ1.1 66 k = lefF F b D h cc k := fun k hk => by rw [hz1.1 66 k rfl]; exact hv0 k hk
      have ho1 := ho.q hzx1
      refine zb L_sinceWhen_s87 rfl ?_
      rw [show μ1.1 17 3 = nI n by rw [hz1.1 17 3 rfl]; exact hsz2, nI_add]
      refine zcallV L_sinceWhen_d100 k5_126 (by omega) (x_after (L := D + n) (v := i) (by omega) hDn (by omega) ho1) rfl rfl rfl (Nat.le_of_ble_eq_true rfl) ?_
      rintro _ μ2 ⟨rfl, hz2, hr2⟩
      have hzx2 := hz2.mono (n1_sX (fun _ => rfl))
      have hlb : ∀ k, k < n → μ2.1 66 k = lefF F b D h cc k := fun k hk => by rw [hz2.1 66 k rfl]; exact hla k hk
      have hdb : ∀ k, k < n → μ2.1 67 k = dueF F b D h cc i k := fun k hk => by rw [hz2.1 67 k rfl]; exact hr1 k hk
      have ho2 := ho1.q hzx2
      have hsz4 : μ2.1 17 3 = nI n := by rw [hz2.1 17 3 rfl, hz1.1 17 3 rfl]; exact hsz2
      refine zb L_sinceWhen_s103 rfl ?_
      refine zcallV L_sinceWhen_d118 k5_53 (by omega) (x_offIf (by omega) (by omega) ho2) rfl rfl rfl (Nat.le_of_ble_eq_true rfl) ?_
      rintro _ μ3 ⟨rfl, hz3⟩
      have hzx3 := hz3.mono nS_sX
      have hlc : ∀ k, k < n → μ3.1 66 k = lefF F b D h cc k := fun k hk => by rw [hz3.1 66 k rfl]; exact hlb k hk
      have hdc : ∀ k, k < n → μ3.1 67 k = dueF F b D h cc i k := fun k hk => by rw [hz3.1 67 k rfl]; exact hdb k hk
      have hac : ∀ k, k < D + n → μ3.1 68 k = aftF F i h k := fun k hk => by rw [hz3.1 68 k rfl]; exact hr2 k hk
      have ho3 := ho2.q hzx3
      have hsz5 : μ3.1 17 3 = nI n := by rw [hz3.1 17 3 rfl]; exact hsz4
      have hzz := ((hz.tr hzx1).tr hzx2).tr hzx3
      rw [ofI_giv1 F i (nI b) 0 h, hsz4]
      skip
      refine zcallV L_sinceWhen_d121 k5_130 (by omega) (x_lead hn) rfl rfl rfl (Nat.le_of_ble_eq_true rfl) ?_
      rintro _ μ4 ⟨⟨k, rfl, hk⟩, hμ4⟩
      rw [hμ4]
      clear hμ4 μ4
      refine zb L_sinceWhen_s124 rfl ?_
      rw [e56, ei] at h68
      have e : brV F b D h cc n i (a6, a7) = zfold (brDay F b D h cc n i) 0 1000 (a6, a7) := if_pos h68
      rw [e] at hz0
      refine w_brI_4 (F := F) (cc := cc) (x := giv F i (nI b) 1 0 h) (t0 := (a6, a7)) (by omega) hn hDn hsz5 hilt h12 h68 hk (fun s hs => ?_) (fun b6 b7 z9 z10 hb1 hb2 => ?_) 1000 0 a6 a7 _ (by omega) rfl hv1 rfl
      · refine propext (forall_congr' (fun q => forall_congr' (fun hq => ?_)))
        rw [hdc q hq]
        by_cases y : D + q < s
        · rw [if_pos y, if_pos y]
        · rw [if_neg y, if_neg y, hac _ (by omega)]
      · refine zb L_sinceWhen_s183 rfl ?_
        rw [nI_1]
        exact ih (i + 1) _ _ _ _ _ (by omega) ho3 hzz hlc hb1 (hb2.trans hz0.symm)
    · refine zb L_sinceWhen_s71 rfl ?_
      rw [e56, ei] at h68
      rw [nI_1]
      have e : brV F b D h cc n i (a6, a7) = (a6, a7) := if_neg h68
      rw [e] at hz0
      exact ih (i + 1) _ _ _ _ _ (by omega) ho hz hv0 hv1 hz0.symm

set_option maxRecDepth 100000 in
set_option maxHeartbeats 4000000 in
theorem x_since_4 {g : zG} {d : Nat} {F : zF} {μ0 : zMem} {b D : Nat} {h w : Int32} {n : Nat} {cc : Nat → Int32} (hn : n ≤ 60) (hsz : μ0.1 17 3 = nI n) (hce : ∀ t, t < 60 → (μ0.2.1 23 t).toInt32 = cc t) (hF : okF F) (hb : b < fB F) (hD : D ≤ 998) (hd : 7 ≤ d) (ho : oX F μ0) : zM g d L_sinceWhen [.ref 5, .ref 17, .int (nI b), .int (nI D), .int h, .int w] μ0 (fun r μ' => r = some (.int (if w = 0 then (brS F b D h cc n).1 else (brS F b D h cc n).2)) ∧ zq sX μ0 μ') := by
  refine zM_of (by decide +kernel) rfl rfl (Nat.le_of_ble_eq_true rfl) rfl ?_
  refine zb L_sinceWhen_s0 rfl ?_
  rw [hsz, nI_add]
  refine z_cle L_sinceWhen_d11 (tgt := 26) rfl (fun h11 => ?_) (fun h11 => ?_)
  · refine zb L_sinceWhen_s26 rfl ?_
    refine zcallV L_sinceWhen_d39 k5_118 (by omega) (x_left_4 hn hsz hce hF hb hD (by omega) ho) rfl rfl rfl (Nat.le_of_ble_eq_true rfl) ?_
    rintro _ μ1 ⟨rfl, hz1, hr1⟩
    have hzx1 := hz1.mono (n1_sX (fun _ => rfl))
    refine zb L_sinceWhen_s42 rfl ?_
    exact w_broke_4 hn hsz hF hb ((lst_le (by omega)).mp h11) hD hd (fV F) 0 _ _ _ _ μ1 (by omega) (ho.q hzx1) hzx1 hr1 (Or.inl rfl) rfl
  · refine zb L_sinceWhen_s14 rfl ?_
    refine z_ne L_sinceWhen_d16 (tgt := 24) rfl (fun h16 => ?_) (fun h16 => ?_)
    · refine zb L_sinceWhen_s24 rfl ?_
      refine z_ret L_sinceWhen_d25 rfl ?_
      have e := br_none (F := F) (b := b) (h := h) (c := cc) (fun z => h11 ((lst_le (by omega)).mpr z)) hn hD
      refine ⟨?_, zq.rf⟩
      rw [e]
      first
        | (rw [if_pos h16]; done)
        | (rw [if_neg h16]; done)
    · refine zb L_sinceWhen_s19 rfl ?_
      refine z_ret L_sinceWhen_d25 rfl ?_
      have e := br_none (F := F) (b := b) (h := h) (c := cc) (fun z => h11 ((lst_le (by omega)).mpr z)) hn hD
      refine ⟨?_, zq.rf⟩
      rw [e]
      first
        | (rw [if_pos h16]; done)
        | (rw [if_neg h16]; done)

set_option maxRecDepth 100000 in
set_option maxHeartbeats 4000000 in
theorem w_left_5 {g : zG} {d : Nat} {F : zF} {μ0 : zMem} {b D : Nat} {h : Int32} {n : Nat} {cc : Nat → Int32} (hn : n ≤ 60) (hsz : μ0.1 18 3 = nI n) (hce : ∀ t, t < 60 → (μ0.2.1 24 t).toInt32 = cc t) (hF : okF F) (hb : b < fB F) (hD : D ≤ 998) (hd : 6 ≤ d) : ∀ (j i : Nat) (μ : zMem), i + j = n → oX F μ → zq (n1 66) μ0 μ → (∀ k, k < i → μ.1 66 k = lefF F b D h cc k) → zW g L_fillLeft d 3 [some (.ref 5), some (.ref 18), some (.int (nI b)), some (.int (nI D)), some (.int h), some (.int (nI i))] [] μ (fun r μ' => r = none ∧ zq (n1 66) μ0 μ' ∧ ∀ k, k < n → μ'.1 66 k = lefF F b D h cc k) := by
  intro j
  induction j with
  | zero =>
    intro i  μ hi ho hz hv0
    have h6 := ho.b6
    have hsz2 : μ.1 18 3 = nI n := by rw [hz.1 18 3 rfl]; exact hsz
    have hce2 : ∀ t, t < 60 → (μ.2.1 24 t).toInt32 = cc t := fun t ht => by rw [hz.2]; exact hce t ht
    have hi : n = i := by omega
    subst hi
    refine zb L_fillLeft_s3 rfl ?_
    refine z_cge L_fillLeft_d9 (tgt := 58) rfl (fun h9 => ?_) (fun h9 => absurd (show μ.1 18 3 ≤ nI n by rw [hsz2]; exact Int32.le_refl _) h9)
    refine z_retV L_fillLeft_d58 rfl ?_
    exact ⟨rfl, hz, hv0⟩
  | succ j ih =>
    intro i  μ hi ho hz hv0
    have h6 := ho.b6
    have hsz2 : μ.1 18 3 = nI n := by rw [hz.1 18 3 rfl]; exact hsz
    have hce2 : ∀ t, t < 60 → (μ.2.1 24 t).toInt32 = cc t := fun t ht => by rw [hz.2]; exact hce t ht
    have hilt : i < n := by omega
    have ei : (nI i).toNatClampNeg = i := nI_clamp (by omega)
    have hvi : vp_in (nI i) 60 := vp_in_nI (by omega) (by omega)
    have hvb : vp_in (nI b) 6 := vp_in_nI (by omega) (by omega)
    have eb : (nI b).toNatClampNeg = b := nI_clamp (by omega)
    have e54 := ho.e54
    have hci := hce2 i (by omega)
    refine zb L_fillLeft_s3 rfl ?_
    refine z_cge L_fillLeft_d9 (tgt := 58) rfl (fun h9 => absurd h9 (show ¬ μ.1 18 3 ≤ nI i by rw [hsz2]; exact nI_ge hilt (by omega))) (fun h9 => ?_)
    refine zb2 L_fillLeft_s12 rfl (by first | exact hvi | exact hvb) (by first | exact hvi | exact hvb) ?_
    rw [nI_add, e54, eb, ei, hci]
    refine zcallV L_fillLeft_d47 k5_60 (by omega) (x_offOfN hF (by omega) ho) rfl rfl rfl (Nat.le_of_ble_eq_true rfl) ?_
    rintro _ μ1 ⟨rfl, hz1⟩
    have hv0a : ∀ k, k < i → μ1.1 66 k = lefF F b D h cc k := fun k hk => by rw [hz1.1 66 k rfl]; exact hv0 k hk
    replace hz := hz.tr (hz1.mono nS_n1)
    replace ho := ho.q (hz1.mono nS_sX)
    refine zb1 L_fillLeft_s50 rfl (by first | exact hvi | exact hvb) ?_
    (try rw [ei])
    rw [nI_1]
    refine ih (i + 1) _ (by omega) (ho.q (zq.w (m := sX) rfl)) (hz.tr (zq.w rfl)) (fun k hk => ?_)
    rw [zpI_at]
    by_cases y : k = i
    · rw [if_pos y, y]
      rfl
    · rw [if_neg y]
      exact hv0a k (by omega)

set_option maxRecDepth 100000 in
set_option maxHeartbeats 4000000 in
theorem x_left_5 {g : zG} {d : Nat} {F : zF} {μ0 : zMem} {b D : Nat} {h : Int32} {n : Nat} {cc : Nat → Int32} (hn : n ≤ 60) (hsz : μ0.1 18 3 = nI n) (hce : ∀ t, t < 60 → (μ0.2.1 24 t).toInt32 = cc t) (hF : okF F) (hb : b < fB F) (hD : D ≤ 998) (hd : 6 ≤ d) (ho : oX F μ0) : zM g d L_fillLeft [.ref 5, .ref 18, .int (nI b), .int (nI D), .int h] μ0 (fun r μ' => r = none ∧ zq (n1 66) μ0 μ' ∧ ∀ k, k < n → μ'.1 66 k = lefF F b D h cc k) := by
  refine zM_of (by decide +kernel) rfl rfl (Nat.le_of_ble_eq_true rfl) rfl ?_
  refine zb L_fillLeft_s0 rfl ?_
  exact w_left_5 hn hsz hce hF hb hD hd n 0 μ0 (by omega) ho zq.rf (fun k hk => by omega)

set_option maxRecDepth 100000 in
set_option maxHeartbeats 4000000 in
theorem w_brI_5 {g : zG} {d : Nat} {F : zF} {μ1 : zMem} {b D n v k : Nat} {h w x : Int32} {cc : Nat → Int32} {t0 : Int32 × Int32} {Q : Option Value → zMem → Prop} (hd : 2 ≤ d) (hn : n ≤ 60) (hDn : D + n ≤ 999) (hsz : μ1.1 18 3 = nI n) (hvV : v < fV F) (hV : fV F ≤ 12) (hbv : fbell F v = nI b) (hk : ldP (μ1.1 67) x n k) (hrow : ∀ s, s < 1000 → sncP (μ1.1 67) (μ1.1 68) x D n s = sncP (dueF F b D h cc v) (aftF F v h) (giv F v (nI b) 1 0 h) D n s) (hQ : ∀ (a6 a7 : Int32) (y9 y10 : Option Value), fsOK (a6, a7) → (a6, a7) = zfold (brDay F b D h cc n v) 0 1000 t0 → zW g L_sinceWhen d 183 [some (.ref 5), some (.ref 18), some (.int (nI b)), some (.int (nI D)), some (.int h), some (.int w), some (.int a6), some (.int a7), some (.int (nI v)), y9, y10] [] μ1 Q) : ∀ (j i : Nat) (a6 : Int32) (a7 : Int32) (μ : zMem), i + j = 1000 → (μ = μ1) → (fsOK (a6, a7)) → ((a6, a7) = zfold (brDay F b D h cc n v) 0 i t0) → zW g L_sinceWhen d 129 [some (.ref 5), some (.ref 18), some (.int (nI b)), some (.int (nI D)), some (.int h), some (.int w), some (.int a6), some (.int a7), some (.int (nI v)), some (.int (nI k)), some (.int (nI i))] [] μ (Q) := by
  intro j
  induction j with
  | zero =>
    intro i a6 a7 μ hi  hv0 hv1 hv2
    have hi : 1000 = i := by omega
    subst hi
    refine zb L_sinceWhen_s129 rfl ?_
    refine z_cgt L_sinceWhen_d134 (tgt := 183) rfl (fun h134 => ?_) (fun h134 => absurd (show (999 : Int32) < nI 1000 by decide) h134)
    rw [hv0]
    exact hQ a6 a7 _ _ hv1 hv2
  | succ j ih =>
    intro i a6 a7 μ hi  hv0 hv1 hv2
    have hilt : i < 1000 := by omega
    have ei : (nI i).toNatClampNeg = i := nI_clamp (by omega)
    subst hv0
    have hstep := brDay_ok (F := F) (b := b) (D := D) (n := n) (h := h) (c := cc) (show v < 12 by omega) hilt hv1
    have hz0 : zfold (brDay F b D h cc n v) 0 (i + 1) t0 = brDay F b D h cc n v i (a6, a7) := by rw [zf0, ← hv2]
    refine zb L_sinceWhen_s129 rfl ?_
    refine z_cgt L_sinceWhen_d134 (tgt := 183) rfl (fun h134 => absurd h134 (Int32.not_lt.mpr (nI_le (b := 999) (by omega) (by omega)))) (fun h134 => ?_)
    refine zb L_sinceWhen_s137 rfl ?_
    rw [hsz]
    refine zcallV L_sinceWhen_d147 k5_133 (by omega) (x_isSince (by omega) hn hDn (by omega) hk) rfl rfl rfl (Nat.le_of_ble_eq_true rfl) ?_
    rintro _ μ2 ⟨⟨w9, rfl, hw9, hs9⟩, hμ2⟩
    rw [hμ2]
    clear hμ2 μ2
    have hso := (so_snc (c := cc) (h := h) hvV hbv hDn hilt).symm
    rw [hrow i hilt] at hs9
    replace hs9 := hs9.trans hso
    refine z_eq L_sinceWhen_d150 (tgt := 177) rfl (fun h150 => ?_) (fun h150 => ?_)
    · refine zb L_sinceWhen_s177 rfl ?_
      rw [nI_1]
      (try rw [nI_1])
      first
        | (have e : brDay F b D h cc n v i (a6, a7) = (a6, a7) := if_neg (fun z => absurd (hs9.mpr z) (fun y => y h150))
           rw [e] at hstep hz0
           exact ih (i + 1) _ _ _ (by omega) rfl hstep hz0.symm)
        | (have hso9 := hs9.mp h150
           have e : brDay F b D h cc n v i (a6, a7) = (if a6 = -2 then 1000 * nI v + nI i else a6, a7 + 1) := if_pos hso9
           first
             | (have h6n : ¬ a6 = -2 := fun z => by rw [z] at h158; exact absurd h158 (by decide)
                rw [if_neg h6n] at e
                rw [e] at hstep hz0
                exact ih (i + 1) _ _ _ (by omega) rfl hstep hz0.symm)
             | (have h6y : a6 = -2 := hv1.resolve_right h158
                rw [if_pos h6y] at e
                rw [e] at hstep hz0
                exact ih (i + 1) _ _ _ (by omega) rfl hstep hz0.symm))
    · refine zb L_sinceWhen_s153 rfl ?_
      refine z_ge L_sinceWhen_d158 (tgt := 173) rfl (fun h158 => ?_) (fun h158 => ?_)
      · refine zb L_sinceWhen_s173 rfl ?_
        rw [nI_1]
        (try rw [nI_1])
        first
          | (have e : brDay F b D h cc n v i (a6, a7) = (a6, a7) := if_neg (fun z => absurd (hs9.mpr z) (fun y => y h150))
             rw [e] at hstep hz0
             exact ih (i + 1) _ _ _ (by omega) rfl hstep hz0.symm)
          | (have hso9 := hs9.mp h150
             have e : brDay F b D h cc n v i (a6, a7) = (if a6 = -2 then 1000 * nI v + nI i else a6, a7 + 1) := if_pos hso9
             first
               | (have h6n : ¬ a6 = -2 := fun z => by rw [z] at h158; exact absurd h158 (by decide)
                  rw [if_neg h6n] at e
                  rw [e] at hstep hz0
                  exact ih (i + 1) _ _ _ (by omega) rfl hstep hz0.symm)
               | (have h6y : a6 = -2 := hv1.resolve_right h158
                  rw [if_pos h6y] at e
                  rw [e] at hstep hz0
                  exact ih (i + 1) _ _ _ (by omega) rfl hstep hz0.symm))
      · refine zb L_sinceWhen_s161 rfl ?_
        rw [nI_1]
        (try rw [nI_1])
        first
          | (have e : brDay F b D h cc n v i (a6, a7) = (a6, a7) := if_neg (fun z => absurd (hs9.mpr z) (fun y => y h150))
             rw [e] at hstep hz0
             exact ih (i + 1) _ _ _ (by omega) rfl hstep hz0.symm)
          | (have hso9 := hs9.mp h150
             have e : brDay F b D h cc n v i (a6, a7) = (if a6 = -2 then 1000 * nI v + nI i else a6, a7 + 1) := if_pos hso9
             first
               | (have h6n : ¬ a6 = -2 := fun z => by rw [z] at h158; exact absurd h158 (by decide)
                  rw [if_neg h6n] at e
                  rw [e] at hstep hz0
                  exact ih (i + 1) _ _ _ (by omega) rfl hstep hz0.symm)
               | (have h6y : a6 = -2 := hv1.resolve_right h158
                  rw [if_pos h6y] at e
                  rw [e] at hstep hz0
                  exact ih (i + 1) _ _ _ (by omega) rfl hstep hz0.symm))

set_option maxRecDepth 100000 in
set_option maxHeartbeats 4000000 in
theorem w_broke_5 {g : zG} {d : Nat} {F : zF} {μ0 : zMem} {b D : Nat} {h w : Int32} {n : Nat} {cc : Nat → Int32} (hn : n ≤ 60) (hsz : μ0.1 18 3 = nI n) (hF : okF F) (hb : b < fB F) (hDn : D + n ≤ 999) (hD : D ≤ 998) (hd : 7 ≤ d) : ∀ (j i : Nat) (a6 : Int32) (a7 : Int32) (y9 : Option Value) (y10 : Option Value) (μ : zMem), i + j = fV F → oX F μ → zq sX μ0 μ → (∀ k, k < n → μ.1 66 k = lefF F b D h cc k) → (fsOK (a6, a7)) → ((a6, a7) = zfold (brV F b D h cc n) 0 i (-2, 0)) → zW g L_sinceWhen d 45 [some (.ref 5), some (.ref 18), some (.int (nI b)), some (.int (nI D)), some (.int h), some (.int w), some (.int a6), some (.int a7), some (.int (nI i)), y9, y10] [] μ (fun r μ' => r = some (.int (if w = 0 then (brS F b D h cc n).1 else (brS F b D h cc n).2)) ∧ zq sX μ0 μ') := by
  intro j
  induction j with
  | zero =>
    intro i a6 a7 y9 y10 μ hi ho hz hv0 hv1 hv2
    have hbd := ho.v
    have h12 := ho.v12
    have h6 := ho.b6
    have hsz2 : μ.1 18 3 = nI n := by rw [hz.1 18 3 rfl]; exact hsz
    have hi : fV F = i := by omega
    subst hi
    refine zb L_sinceWhen_s45 rfl ?_
    refine z_cge L_sinceWhen_d54 (tgt := 189) rfl (fun h54 => ?_) (fun h54 => absurd (show μ.1 2 8 ≤ nI (fV F) by first | exact Int32.le_refl _ | (rw [hbd]; exact Int32.le_refl _)) h54)
    refine zb L_sinceWhen_s189 rfl ?_
    refine z_ne L_sinceWhen_d191 (tgt := 199) rfl (fun h191 => ?_) (fun h191 => ?_)
    · refine zb L_sinceWhen_s199 rfl ?_
      refine z_ret L_sinceWhen_d201 rfl ?_
      have e : brS F b D h cc n = (a6, a7) := hv2.symm
      refine ⟨?_, hz⟩
      rw [e]
      first
        | (rw [if_pos h191]; done)
        | (rw [if_neg h191]; done)
    · refine zb L_sinceWhen_s194 rfl ?_
      refine z_ret L_sinceWhen_d201 rfl ?_
      have e : brS F b D h cc n = (a6, a7) := hv2.symm
      refine ⟨?_, hz⟩
      rw [e]
      first
        | (rw [if_pos h191]; done)
        | (rw [if_neg h191]; done)
  | succ j ih =>
    intro i a6 a7 y9 y10 μ hi ho hz hv0 hv1 hv2
    have hbd := ho.v
    have h12 := ho.v12
    have h6 := ho.b6
    have hsz2 : μ.1 18 3 = nI n := by rw [hz.1 18 3 rfl]; exact hsz
    have hilt : i < fV F := by omega
    have ei : (nI i).toNatClampNeg = i := nI_clamp (by omega)
    have hvi : vp_in (nI i) 12 := vp_in_nI (by omega) (by omega)
    have e56 := ho.e56
    have hz0 : zfold (brV F b D h cc n) 0 (i + 1) (-2, 0) = brV F b D h cc n i (a6, a7) := by rw [zf0, ← hv2]
    refine zb L_sinceWhen_s45 rfl ?_
    refine z_cge L_sinceWhen_d54 (tgt := 189) rfl (fun h54 => absurd h54 (show ¬ μ.1 2 8 ≤ nI i by first | exact nI_ge hilt (by omega) | (rw [hbd]; exact nI_ge hilt (by omega)))) (fun h54 => ?_)
    refine zb1 L_sinceWhen_s57 rfl hvi ?_
    refine z_ceq L_sinceWhen_d68 (tgt := 74) rfl (fun h68 => ?_) (fun h68 => ?_)
    · refine zb L_sinceWhen_s74 rfl ?_
      rw [hsz2]
      refine zcallV L_sinceWhen_d84 k5_122 (by omega) (x_due (b := b) (c := cc) hF hilt hn hv0 hD (by omega) ho) rfl rfl rfl (Nat.le_of_ble_eq_true rfl) ?_
      rintro _ μ1 ⟨rfl, hz1, hr1⟩
      have hzx1 := hz1.mono (n1_sX (fun _ => rfl))
      have hla : ∀ k, k < n → μ1.1 66 k = lefF F b D h cc k := fun k hk => by rw [hz1.1 66 k rfl]; exact hv0 k hk
      have ho1 := ho.q hzx1
      refine zb L_sinceWhen_s87 rfl ?_
      rw [show μ1.1 18 3 = nI n by rw [hz1.1 18 3 rfl]; exact hsz2, nI_add]
      refine zcallV L_sinceWhen_d100 k5_126 (by omega) (x_after (L := D + n) (v := i) (by omega) hDn (by omega) ho1) rfl rfl rfl (Nat.le_of_ble_eq_true rfl) ?_
      rintro _ μ2 ⟨rfl, hz2, hr2⟩
      have hzx2 := hz2.mono (n1_sX (fun _ => rfl))
      have hlb : ∀ k, k < n → μ2.1 66 k = lefF F b D h cc k := fun k hk => by rw [hz2.1 66 k rfl]; exact hla k hk
      have hdb : ∀ k, k < n → μ2.1 67 k = dueF F b D h cc i k := fun k hk => by rw [hz2.1 67 k rfl]; exact hr1 k hk
      have ho2 := ho1.q hzx2
      have hsz4 : μ2.1 18 3 = nI n := by rw [hz2.1 18 3 rfl, hz1.1 18 3 rfl]; exact hsz2
      refine zb L_sinceWhen_s103 rfl ?_
      refine zcallV L_sinceWhen_d118 k5_53 (by omega) (x_offIf (by omega) (by omega) ho2) rfl rfl rfl (Nat.le_of_ble_eq_true rfl) ?_
      rintro _ μ3 ⟨rfl, hz3⟩
      have hzx3 := hz3.mono nS_sX
      have hlc : ∀ k, k < n → μ3.1 66 k = lefF F b D h cc k := fun k hk => by rw [hz3.1 66 k rfl]; exact hlb k hk
      have hdc : ∀ k, k < n → μ3.1 67 k = dueF F b D h cc i k := fun k hk => by rw [hz3.1 67 k rfl]; exact hdb k hk
      have hac : ∀ k, k < D + n → μ3.1 68 k = aftF F i h k := fun k hk => by rw [hz3.1 68 k rfl]; exact hr2 k hk
      have ho3 := ho2.q hzx3
      have hsz5 : μ3.1 18 3 = nI n := by rw [hz3.1 18 3 rfl]; exact hsz4
      have hzz := ((hz.tr hzx1).tr hzx2).tr hzx3
      rw [ofI_giv1 F i (nI b) 0 h, hsz4]
      skip
      refine zcallV L_sinceWhen_d121 k5_130 (by omega) (x_lead hn) rfl rfl rfl (Nat.le_of_ble_eq_true rfl) ?_
      rintro _ μ4 ⟨⟨k, rfl, hk⟩, hμ4⟩
      rw [hμ4]
      clear hμ4 μ4
      refine zb L_sinceWhen_s124 rfl ?_
      rw [e56, ei] at h68
      have e : brV F b D h cc n i (a6, a7) = zfold (brDay F b D h cc n i) 0 1000 (a6, a7) := if_pos h68
      rw [e] at hz0
      refine w_brI_5 (F := F) (cc := cc) (x := giv F i (nI b) 1 0 h) (t0 := (a6, a7)) (by omega) hn hDn hsz5 hilt h12 h68 hk (fun s hs => ?_) (fun b6 b7 z9 z10 hb1 hb2 => ?_) 1000 0 a6 a7 _ (by omega) rfl hv1 rfl
      · refine propext (forall_congr' (fun q => forall_congr' (fun hq => ?_)))
        rw [hdc q hq]
        by_cases y : D + q < s
        · rw [if_pos y, if_pos y]
        · rw [if_neg y, if_neg y, hac _ (by omega)]
      · refine zb L_sinceWhen_s183 rfl ?_
        rw [nI_1]
        exact ih (i + 1) _ _ _ _ _ (by omega) ho3 hzz hlc hb1 (hb2.trans hz0.symm)
    · refine zb L_sinceWhen_s71 rfl ?_
      rw [e56, ei] at h68
      rw [nI_1]
      have e : brV F b D h cc n i (a6, a7) = (a6, a7) := if_neg h68
      rw [e] at hz0
      exact ih (i + 1) _ _ _ _ _ (by omega) ho hz hv0 hv1 hz0.symm

set_option maxRecDepth 100000 in
set_option maxHeartbeats 4000000 in
theorem x_since_5 {g : zG} {d : Nat} {F : zF} {μ0 : zMem} {b D : Nat} {h w : Int32} {n : Nat} {cc : Nat → Int32} (hn : n ≤ 60) (hsz : μ0.1 18 3 = nI n) (hce : ∀ t, t < 60 → (μ0.2.1 24 t).toInt32 = cc t) (hF : okF F) (hb : b < fB F) (hD : D ≤ 998) (hd : 7 ≤ d) (ho : oX F μ0) : zM g d L_sinceWhen [.ref 5, .ref 18, .int (nI b), .int (nI D), .int h, .int w] μ0 (fun r μ' => r = some (.int (if w = 0 then (brS F b D h cc n).1 else (brS F b D h cc n).2)) ∧ zq sX μ0 μ') := by
  refine zM_of (by decide +kernel) rfl rfl (Nat.le_of_ble_eq_true rfl) rfl ?_
  refine zb L_sinceWhen_s0 rfl ?_
  rw [hsz, nI_add]
  refine z_cle L_sinceWhen_d11 (tgt := 26) rfl (fun h11 => ?_) (fun h11 => ?_)
  · refine zb L_sinceWhen_s26 rfl ?_
    refine zcallV L_sinceWhen_d39 k5_118 (by omega) (x_left_5 hn hsz hce hF hb hD (by omega) ho) rfl rfl rfl (Nat.le_of_ble_eq_true rfl) ?_
    rintro _ μ1 ⟨rfl, hz1, hr1⟩
    have hzx1 := hz1.mono (n1_sX (fun _ => rfl))
    refine zb L_sinceWhen_s42 rfl ?_
    exact w_broke_5 hn hsz hF hb ((lst_le (by omega)).mp h11) hD hd (fV F) 0 _ _ _ _ μ1 (by omega) (ho.q hzx1) hzx1 hr1 (Or.inl rfl) rfl
  · refine zb L_sinceWhen_s14 rfl ?_
    refine z_ne L_sinceWhen_d16 (tgt := 24) rfl (fun h16 => ?_) (fun h16 => ?_)
    · refine zb L_sinceWhen_s24 rfl ?_
      refine z_ret L_sinceWhen_d25 rfl ?_
      have e := br_none (F := F) (b := b) (h := h) (c := cc) (fun z => h11 ((lst_le (by omega)).mpr z)) hn hD
      refine ⟨?_, zq.rf⟩
      rw [e]
      first
        | (rw [if_pos h16]; done)
        | (rw [if_neg h16]; done)
    · refine zb L_sinceWhen_s19 rfl ?_
      refine z_ret L_sinceWhen_d25 rfl ?_
      have e := br_none (F := F) (b := b) (h := h) (c := cc) (fun z => h11 ((lst_le (by omega)).mpr z)) hn hD
      refine ⟨?_, zq.rf⟩
      rw [e]
      first
        | (rw [if_pos h16]; done)
        | (rw [if_neg h16]; done)

set_option maxRecDepth 100000 in
set_option maxHeartbeats 4000000 in
theorem xs_broke_0 {g : zG} {d : Nat} {S : zS} {μ : zMem} {b dh w : Int32} (hF : okF S.1) (hd9 : 9 ≤ d) (hS : xS S μ) (hok : okH S) : zM g d X_broke [.ref 1, .int (nI 0), .int b, .int dh, .int w] μ (fun r μ' => r = some (.int (opBroke S (nI 0) b dh w)) ∧ zq sX μ μ') := by
  refine zM_of (by decide +kernel) rfl rfl (Nat.le_of_ble_eq_true rfl) rfl ?_
  obtain ⟨ho, h2, hT, hC, hD, hI, hA, hH⟩ := hS
  have hS : xS S μ := ⟨ho, h2, hT, hC, hD, hI, hA, hH⟩
  have hb := ho.b
  have hv := ho.v
  have hB6 := ho.b6
  have hV12 := ho.v12
  have hz : zq sX μ μ := zq.rf
  have xs := xsh (s := 0) hS hok (by omega)
  have hF9 := hF
  refine zb X_broke_s0 rfl ?_
  refine zcallV X_broke_d2 k10_93 (by omega) (x_shelf_0 (by omega)) rfl rfl rfl (Nat.le_of_ble_eq_true rfl) ?_
  rintro _ μx ⟨rfl, hx⟩
  rw [hx]
  clear hx μx
  refine zb X_broke_s5 rfl ?_
  refine z_null X_broke_d9 ?_
  refine zb X_broke_s12 rfl ?_
  refine zcallV X_broke_d17 k10_167 (by omega) (x_hasBell _ ho) rfl rfl rfl (Nat.le_of_ble_eq_true rfl) ?_
  rintro _ μx ⟨rfl, hx⟩
  rw [hx]
  clear hx μx
  refine z_eq X_broke_d20 (tgt := 39) rfl (fun h20 => ?_) (fun h20 => ?_)
  · refine zb X_broke_s39 rfl ?_
    refine z_ret X_broke_d40 rfl ?_
    refine ⟨congrArg (fun z => some (Value.int z)) ?_, hz⟩
    unfold opBroke
    rw [show (nI 0).toNatClampNeg = 0 from rfl]
    first
      | rw [if_neg (fun z => (show ¬ isB S.1 b from zB_eq0.mp h20) z.2.1)]
      | rw [if_neg (fun z => (show ¬ tim dh from zB_eq0.mp h27) z.2.2.1)]
      | rw [if_neg (fun z => (show ¬ (0 ≤ w ∧ w ≤ 1) from zB_eq0.mp h36) z.2.2.2)]
      | (rw [if_pos (And.intro (And.intro (by decide) (by decide)) (And.intro q1 (And.intro q2 q3)))]
         unfold barW
         rw [if_neg (show ¬ hHeld S 0 = 0 by rw [g2.1]; decide), if_pos g2, em, nI_clamp (show m < 2 ^ 31 by omega), eb, eD, nI_clamp (show D < 2 ^ 31 by omega)])
      | (rw [if_pos (And.intro (And.intro (by decide) (by decide)) (And.intro (show isB S.1 b from zB_ne0.mp h20) (And.intro (show tim dh from zB_ne0.mp h27) (show 0 ≤ w ∧ w ≤ 1 from zB_ne0.mp h36))))]
         unfold barW
         by_cases z : bE 13 μ
         · rw [if_pos z]
           rcases xs with y | y | y
           · rw [if_pos y.1]
           · exact absurd z y.2.1
           · exact absurd z y.2.1
         · rw [if_neg z]
           rw [if_neg z] at h51
           by_cases u : bR 13 μ ∧ μ.1 13 2 = 1
           · rw [if_pos u] at h51; exact absurd rfl h51
           · rw [if_neg u]
             rcases xs with y | y | y
             · exact absurd y.2.1 z
             · rw [y.1, if_neg (by decide), if_neg (fun v => absurd v.1 (by decide))]
             · rw [y.1, if_neg (by decide), if_neg (fun v => u ⟨y.2.2.1, y.2.2.2.1.trans v.2⟩)])
  · refine zb X_broke_s23 rfl ?_
    refine zcallS X_broke_d24 k10_160 (by omega) (x_isDayHour _) rfl rfl (Nat.le_of_ble_eq_true rfl) ?_
    rintro _ μx ⟨rfl, hx⟩
    rw [hx]
    clear hx μx
    refine z_eq X_broke_d27 (tgt := 39) rfl (fun h27 => ?_) (fun h27 => ?_)
    · refine zb X_broke_s39 rfl ?_
      refine z_ret X_broke_d40 rfl ?_
      refine ⟨congrArg (fun z => some (Value.int z)) ?_, hz⟩
      unfold opBroke
      rw [show (nI 0).toNatClampNeg = 0 from rfl]
      first
        | rw [if_neg (fun z => (show ¬ isB S.1 b from zB_eq0.mp h20) z.2.1)]
        | rw [if_neg (fun z => (show ¬ tim dh from zB_eq0.mp h27) z.2.2.1)]
        | rw [if_neg (fun z => (show ¬ (0 ≤ w ∧ w ≤ 1) from zB_eq0.mp h36) z.2.2.2)]
        | (rw [if_pos (And.intro (And.intro (by decide) (by decide)) (And.intro q1 (And.intro q2 q3)))]
           unfold barW
           rw [if_neg (show ¬ hHeld S 0 = 0 by rw [g2.1]; decide), if_pos g2, em, nI_clamp (show m < 2 ^ 31 by omega), eb, eD, nI_clamp (show D < 2 ^ 31 by omega)])
        | (rw [if_pos (And.intro (And.intro (by decide) (by decide)) (And.intro (show isB S.1 b from zB_ne0.mp h20) (And.intro (show tim dh from zB_ne0.mp h27) (show 0 ≤ w ∧ w ≤ 1 from zB_ne0.mp h36))))]
           unfold barW
           by_cases z : bE 13 μ
           · rw [if_pos z]
             rcases xs with y | y | y
             · rw [if_pos y.1]
             · exact absurd z y.2.1
             · exact absurd z y.2.1
           · rw [if_neg z]
             rw [if_neg z] at h51
             by_cases u : bR 13 μ ∧ μ.1 13 2 = 1
             · rw [if_pos u] at h51; exact absurd rfl h51
             · rw [if_neg u]
               rcases xs with y | y | y
               · exact absurd y.2.1 z
               · rw [y.1, if_neg (by decide), if_neg (fun v => absurd v.1 (by decide))]
               · rw [y.1, if_neg (by decide), if_neg (fun v => u ⟨y.2.2.1, y.2.2.2.1.trans v.2⟩)])
    · refine zb X_broke_s30 rfl ?_
      refine zcallS X_broke_d33 k10_170 (by omega) (x_isWithin _ _) rfl rfl (Nat.le_of_ble_eq_true rfl) ?_
      rintro _ μx ⟨rfl, hx⟩
      rw [hx]
      clear hx μx
      refine z_ne X_broke_d36 (tgt := 41) rfl (fun h36 => ?_) (fun h36 => ?_)
      · refine zb X_broke_s41 rfl ?_
        refine zcallV X_broke_d44 k10_247 (by omega) (x_refFor_0 (by omega)) rfl rfl rfl (Nat.le_of_ble_eq_true rfl) ?_
        rintro _ μx ⟨rfl, hx⟩
        rw [hx]
        clear hx μx
        refine zb X_broke_s47 rfl ?_
        refine z_eq X_broke_d51 (tgt := 59) rfl (fun h51 => ?_) (fun h51 => ?_)
        · have g1 : ¬ bE 13 μ ∧ bR 13 μ ∧ μ.1 13 2 = 1 := by
            by_cases z : bE 13 μ
            · rw [if_pos z] at h51; exact absurd h51 (by decide)
            · rw [if_neg z] at h51
              by_cases y : bR 13 μ ∧ μ.1 13 2 = 1
              · exact ⟨z, y⟩
              · rw [if_neg y] at h51; exact absurd h51 (by decide)
          have g2 : hHeld S 0 = 2 ∧ hSort S 0 = 1 := by
            rcases xs with z | z | z
            · exact absurd z.2.1 g1.1
            · exact absurd g1.2.1 z.2.2.1
            · exact And.intro z.1 (z.2.2.2.1.symm.trans g1.2.2)
          obtain ⟨m, hm, em, hrow⟩ : ∃ m, m ≤ 60 ∧ hSize S 0 = nI m ∧ (∀ i, i < 60 → (hInt S 0 i).toInt64 = hCell S 0 i) := by
            rcases hok 0 (by omega) with z | z | z
            · rw [g2.1] at z; exact absurd z (by decide)
            · rw [g2.1] at z; exact absurd z.1 (by decide)
            · obtain ⟨m, h1, h2⟩ := z.2.2.1
              exact ⟨m, h1, h2, z.2.2.2 g2.2⟩
          have hszS : μ.1 13 3 = nI m := (xS_hz (s := 0) hS (by omega) g2.1).trans em
          have hceS : ∀ t, t < 60 → (μ.2.1 19 t).toInt32 = hInt S 0 t := xS_hc (s := 0) hS (by omega)
          have q1 : isB S.1 b := zB_ne0.mp h20
          have q2 : tim dh := zB_ne0.mp h27
          have q3 : 0 ≤ w ∧ w ≤ 1 := zB_ne0.mp h36
          obtain ⟨b, hbB, rfl, eb⟩ := zix q1.1 q1.2 (by omega)
          obtain ⟨D, hD, eD⟩ := nI_of2 (M := 998) (n := 998) rfl (Int32.not_lt.mpr (tim_nn q2)) q2.2.1
          refine zb2 X_broke_s59 rfl (by decide) (by decide) ?_
          rw [show dh - dh / 100 * 100 = hro dh from rfl, eD]
          refine zcallV X_broke_d76 k10_257 (by omega) (x_since_0 (h := hro dh) hm hszS hceS hF hbB hD (by omega) ho) rfl rfl rfl (Nat.le_of_ble_eq_true rfl) ?_
          rintro _ μ1 ⟨rfl, hz1⟩
          replace hz := hz.tr hz1
          replace ho := ho.q hz1
          clear hz1
          refine z_ret X_broke_d79 rfl ?_
          refine ⟨congrArg (fun z => some (Value.int z)) ?_, hz⟩
          unfold opBroke
          rw [show (nI 0).toNatClampNeg = 0 from rfl]
          first
            | rw [if_neg (fun z => (show ¬ isB S.1 b from zB_eq0.mp h20) z.2.1)]
            | rw [if_neg (fun z => (show ¬ tim dh from zB_eq0.mp h27) z.2.2.1)]
            | rw [if_neg (fun z => (show ¬ (0 ≤ w ∧ w ≤ 1) from zB_eq0.mp h36) z.2.2.2)]
            | (rw [if_pos (And.intro (And.intro (by decide) (by decide)) (And.intro q1 (And.intro q2 q3)))]
               unfold barW
               rw [if_neg (show ¬ hHeld S 0 = 0 by rw [g2.1]; decide), if_pos g2, em, nI_clamp (show m < 2 ^ 31 by omega), eb, eD, nI_clamp (show D < 2 ^ 31 by omega)])
            | (rw [if_pos (And.intro (And.intro (by decide) (by decide)) (And.intro (show isB S.1 b from zB_ne0.mp h20) (And.intro (show tim dh from zB_ne0.mp h27) (show 0 ≤ w ∧ w ≤ 1 from zB_ne0.mp h36))))]
               unfold barW
               by_cases z : bE 13 μ
               · rw [if_pos z]
                 rcases xs with y | y | y
                 · rw [if_pos y.1]
                 · exact absurd z y.2.1
                 · exact absurd z y.2.1
               · rw [if_neg z]
                 rw [if_neg z] at h51
                 by_cases u : bR 13 μ ∧ μ.1 13 2 = 1
                 · rw [if_pos u] at h51; exact absurd rfl h51
                 · rw [if_neg u]
                   rcases xs with y | y | y
                   · exact absurd y.2.1 z
                   · rw [y.1, if_neg (by decide), if_neg (fun v => absurd v.1 (by decide))]
                   · rw [y.1, if_neg (by decide), if_neg (fun v => u ⟨y.2.2.1, y.2.2.2.1.trans v.2⟩)])
        · refine zb X_broke_s54 rfl ?_
          refine z_ret X_broke_d79 rfl ?_
          refine ⟨congrArg (fun z => some (Value.int z)) ?_, hz⟩
          unfold opBroke
          rw [show (nI 0).toNatClampNeg = 0 from rfl]
          first
            | rw [if_neg (fun z => (show ¬ isB S.1 b from zB_eq0.mp h20) z.2.1)]
            | rw [if_neg (fun z => (show ¬ tim dh from zB_eq0.mp h27) z.2.2.1)]
            | rw [if_neg (fun z => (show ¬ (0 ≤ w ∧ w ≤ 1) from zB_eq0.mp h36) z.2.2.2)]
            | (rw [if_pos (And.intro (And.intro (by decide) (by decide)) (And.intro q1 (And.intro q2 q3)))]
               unfold barW
               rw [if_neg (show ¬ hHeld S 0 = 0 by rw [g2.1]; decide), if_pos g2, em, nI_clamp (show m < 2 ^ 31 by omega), eb, eD, nI_clamp (show D < 2 ^ 31 by omega)])
            | (rw [if_pos (And.intro (And.intro (by decide) (by decide)) (And.intro (show isB S.1 b from zB_ne0.mp h20) (And.intro (show tim dh from zB_ne0.mp h27) (show 0 ≤ w ∧ w ≤ 1 from zB_ne0.mp h36))))]
               unfold barW
               by_cases z : bE 13 μ
               · rw [if_pos z]
                 rcases xs with y | y | y
                 · rw [if_pos y.1]
                 · exact absurd z y.2.1
                 · exact absurd z y.2.1
               · rw [if_neg z]
                 rw [if_neg z] at h51
                 by_cases u : bR 13 μ ∧ μ.1 13 2 = 1
                 · rw [if_pos u] at h51; exact absurd rfl h51
                 · rw [if_neg u]
                   rcases xs with y | y | y
                   · exact absurd y.2.1 z
                   · rw [y.1, if_neg (by decide), if_neg (fun v => absurd v.1 (by decide))]
                   · rw [y.1, if_neg (by decide), if_neg (fun v => u ⟨y.2.2.1, y.2.2.2.1.trans v.2⟩)])
      · refine zb X_broke_s39 rfl ?_
        refine z_ret X_broke_d40 rfl ?_
        refine ⟨congrArg (fun z => some (Value.int z)) ?_, hz⟩
        unfold opBroke
        rw [show (nI 0).toNatClampNeg = 0 from rfl]
        first
          | rw [if_neg (fun z => (show ¬ isB S.1 b from zB_eq0.mp h20) z.2.1)]
          | rw [if_neg (fun z => (show ¬ tim dh from zB_eq0.mp h27) z.2.2.1)]
          | rw [if_neg (fun z => (show ¬ (0 ≤ w ∧ w ≤ 1) from zB_eq0.mp h36) z.2.2.2)]
          | (rw [if_pos (And.intro (And.intro (by decide) (by decide)) (And.intro q1 (And.intro q2 q3)))]
             unfold barW
             rw [if_neg (show ¬ hHeld S 0 = 0 by rw [g2.1]; decide), if_pos g2, em, nI_clamp (show m < 2 ^ 31 by omega), eb, eD, nI_clamp (show D < 2 ^ 31 by omega)])
          | (rw [if_pos (And.intro (And.intro (by decide) (by decide)) (And.intro (show isB S.1 b from zB_ne0.mp h20) (And.intro (show tim dh from zB_ne0.mp h27) (show 0 ≤ w ∧ w ≤ 1 from zB_ne0.mp h36))))]
             unfold barW
             by_cases z : bE 13 μ
             · rw [if_pos z]
               rcases xs with y | y | y
               · rw [if_pos y.1]
               · exact absurd z y.2.1
               · exact absurd z y.2.1
             · rw [if_neg z]
               rw [if_neg z] at h51
               by_cases u : bR 13 μ ∧ μ.1 13 2 = 1
               · rw [if_pos u] at h51; exact absurd rfl h51
               · rw [if_neg u]
                 rcases xs with y | y | y
                 · exact absurd y.2.1 z
                 · rw [y.1, if_neg (by decide), if_neg (fun v => absurd v.1 (by decide))]
                 · rw [y.1, if_neg (by decide), if_neg (fun v => u ⟨y.2.2.1, y.2.2.2.1.trans v.2⟩)])

set_option maxRecDepth 100000 in
set_option maxHeartbeats 4000000 in
theorem xs_broke_1 {g : zG} {d : Nat} {S : zS} {μ : zMem} {b dh w : Int32} (hF : okF S.1) (hd9 : 9 ≤ d) (hS : xS S μ) (hok : okH S) : zM g d X_broke [.ref 1, .int (nI 1), .int b, .int dh, .int w] μ (fun r μ' => r = some (.int (opBroke S (nI 1) b dh w)) ∧ zq sX μ μ') := by
  refine zM_of (by decide +kernel) rfl rfl (Nat.le_of_ble_eq_true rfl) rfl ?_
  obtain ⟨ho, h2, hT, hC, hD, hI, hA, hH⟩ := hS
  have hS : xS S μ := ⟨ho, h2, hT, hC, hD, hI, hA, hH⟩
  have hb := ho.b
  have hv := ho.v
  have hB6 := ho.b6
  have hV12 := ho.v12
  have hz : zq sX μ μ := zq.rf
  have xs := xsh (s := 1) hS hok (by omega)
  have hF9 := hF
  refine zb X_broke_s0 rfl ?_
  refine zcallV X_broke_d2 k10_93 (by omega) (x_shelf_1 (by omega)) rfl rfl rfl (Nat.le_of_ble_eq_true rfl) ?_
  rintro _ μx ⟨rfl, hx⟩
  rw [hx]
  clear hx μx
  refine zb X_broke_s5 rfl ?_
  refine z_null X_broke_d9 ?_
  refine zb X_broke_s12 rfl ?_
  refine zcallV X_broke_d17 k10_167 (by omega) (x_hasBell _ ho) rfl rfl rfl (Nat.le_of_ble_eq_true rfl) ?_
  rintro _ μx ⟨rfl, hx⟩
  rw [hx]
  clear hx μx
  refine z_eq X_broke_d20 (tgt := 39) rfl (fun h20 => ?_) (fun h20 => ?_)
  · refine zb X_broke_s39 rfl ?_
    refine z_ret X_broke_d40 rfl ?_
    refine ⟨congrArg (fun z => some (Value.int z)) ?_, hz⟩
    unfold opBroke
    rw [show (nI 1).toNatClampNeg = 1 from rfl]
    first
      | rw [if_neg (fun z => (show ¬ isB S.1 b from zB_eq0.mp h20) z.2.1)]
      | rw [if_neg (fun z => (show ¬ tim dh from zB_eq0.mp h27) z.2.2.1)]
      | rw [if_neg (fun z => (show ¬ (0 ≤ w ∧ w ≤ 1) from zB_eq0.mp h36) z.2.2.2)]
      | (rw [if_pos (And.intro (And.intro (by decide) (by decide)) (And.intro q1 (And.intro q2 q3)))]
         unfold barW
         rw [if_neg (show ¬ hHeld S 1 = 0 by rw [g2.1]; decide), if_pos g2, em, nI_clamp (show m < 2 ^ 31 by omega), eb, eD, nI_clamp (show D < 2 ^ 31 by omega)])
      | (rw [if_pos (And.intro (And.intro (by decide) (by decide)) (And.intro (show isB S.1 b from zB_ne0.mp h20) (And.intro (show tim dh from zB_ne0.mp h27) (show 0 ≤ w ∧ w ≤ 1 from zB_ne0.mp h36))))]
         unfold barW
         by_cases z : bE 14 μ
         · rw [if_pos z]
           rcases xs with y | y | y
           · rw [if_pos y.1]
           · exact absurd z y.2.1
           · exact absurd z y.2.1
         · rw [if_neg z]
           rw [if_neg z] at h51
           by_cases u : bR 14 μ ∧ μ.1 14 2 = 1
           · rw [if_pos u] at h51; exact absurd rfl h51
           · rw [if_neg u]
             rcases xs with y | y | y
             · exact absurd y.2.1 z
             · rw [y.1, if_neg (by decide), if_neg (fun v => absurd v.1 (by decide))]
             · rw [y.1, if_neg (by decide), if_neg (fun v => u ⟨y.2.2.1, y.2.2.2.1.trans v.2⟩)])
  · refine zb X_broke_s23 rfl ?_
    refine zcallS X_broke_d24 k10_160 (by omega) (x_isDayHour _) rfl rfl (Nat.le_of_ble_eq_true rfl) ?_
    rintro _ μx ⟨rfl, hx⟩
    rw [hx]
    clear hx μx
    refine z_eq X_broke_d27 (tgt := 39) rfl (fun h27 => ?_) (fun h27 => ?_)
    · refine zb X_broke_s39 rfl ?_
      refine z_ret X_broke_d40 rfl ?_
      refine ⟨congrArg (fun z => some (Value.int z)) ?_, hz⟩
      unfold opBroke
      rw [show (nI 1).toNatClampNeg = 1 from rfl]
      first
        | rw [if_neg (fun z => (show ¬ isB S.1 b from zB_eq0.mp h20) z.2.1)]
        | rw [if_neg (fun z => (show ¬ tim dh from zB_eq0.mp h27) z.2.2.1)]
        | rw [if_neg (fun z => (show ¬ (0 ≤ w ∧ w ≤ 1) from zB_eq0.mp h36) z.2.2.2)]
        | (rw [if_pos (And.intro (And.intro (by decide) (by decide)) (And.intro q1 (And.intro q2 q3)))]
           unfold barW
           rw [if_neg (show ¬ hHeld S 1 = 0 by rw [g2.1]; decide), if_pos g2, em, nI_clamp (show m < 2 ^ 31 by omega), eb, eD, nI_clamp (show D < 2 ^ 31 by omega)])
        | (rw [if_pos (And.intro (And.intro (by decide) (by decide)) (And.intro (show isB S.1 b from zB_ne0.mp h20) (And.intro (show tim dh from zB_ne0.mp h27) (show 0 ≤ w ∧ w ≤ 1 from zB_ne0.mp h36))))]
           unfold barW
           by_cases z : bE 14 μ
           · rw [if_pos z]
             rcases xs with y | y | y
             · rw [if_pos y.1]
             · exact absurd z y.2.1
             · exact absurd z y.2.1
           · rw [if_neg z]
             rw [if_neg z] at h51
             by_cases u : bR 14 μ ∧ μ.1 14 2 = 1
             · rw [if_pos u] at h51; exact absurd rfl h51
             · rw [if_neg u]
               rcases xs with y | y | y
               · exact absurd y.2.1 z
               · rw [y.1, if_neg (by decide), if_neg (fun v => absurd v.1 (by decide))]
               · rw [y.1, if_neg (by decide), if_neg (fun v => u ⟨y.2.2.1, y.2.2.2.1.trans v.2⟩)])
    · refine zb X_broke_s30 rfl ?_
      refine zcallS X_broke_d33 k10_170 (by omega) (x_isWithin _ _) rfl rfl (Nat.le_of_ble_eq_true rfl) ?_
      rintro _ μx ⟨rfl, hx⟩
      rw [hx]
      clear hx μx
      refine z_ne X_broke_d36 (tgt := 41) rfl (fun h36 => ?_) (fun h36 => ?_)
      · refine zb X_broke_s41 rfl ?_
        refine zcallV X_broke_d44 k10_247 (by omega) (x_refFor_1 (by omega)) rfl rfl rfl (Nat.le_of_ble_eq_true rfl) ?_
        rintro _ μx ⟨rfl, hx⟩
        rw [hx]
        clear hx μx
        refine zb X_broke_s47 rfl ?_
        refine z_eq X_broke_d51 (tgt := 59) rfl (fun h51 => ?_) (fun h51 => ?_)
        · have g1 : ¬ bE 14 μ ∧ bR 14 μ ∧ μ.1 14 2 = 1 := by
            by_cases z : bE 14 μ
            · rw [if_pos z] at h51; exact absurd h51 (by decide)
            · rw [if_neg z] at h51
              by_cases y : bR 14 μ ∧ μ.1 14 2 = 1
              · exact ⟨z, y⟩
              · rw [if_neg y] at h51; exact absurd h51 (by decide)
          have g2 : hHeld S 1 = 2 ∧ hSort S 1 = 1 := by
            rcases xs with z | z | z
            · exact absurd z.2.1 g1.1
            · exact absurd g1.2.1 z.2.2.1
            · exact And.intro z.1 (z.2.2.2.1.symm.trans g1.2.2)
          obtain ⟨m, hm, em, hrow⟩ : ∃ m, m ≤ 60 ∧ hSize S 1 = nI m ∧ (∀ i, i < 60 → (hInt S 1 i).toInt64 = hCell S 1 i) := by
            rcases hok 1 (by omega) with z | z | z
            · rw [g2.1] at z; exact absurd z (by decide)
            · rw [g2.1] at z; exact absurd z.1 (by decide)
            · obtain ⟨m, h1, h2⟩ := z.2.2.1
              exact ⟨m, h1, h2, z.2.2.2 g2.2⟩
          have hszS : μ.1 14 3 = nI m := (xS_hz (s := 1) hS (by omega) g2.1).trans em
          have hceS : ∀ t, t < 60 → (μ.2.1 20 t).toInt32 = hInt S 1 t := xS_hc (s := 1) hS (by omega)
          have q1 : isB S.1 b := zB_ne0.mp h20
          have q2 : tim dh := zB_ne0.mp h27
          have q3 : 0 ≤ w ∧ w ≤ 1 := zB_ne0.mp h36
          obtain ⟨b, hbB, rfl, eb⟩ := zix q1.1 q1.2 (by omega)
          obtain ⟨D, hD, eD⟩ := nI_of2 (M := 998) (n := 998) rfl (Int32.not_lt.mpr (tim_nn q2)) q2.2.1
          refine zb2 X_broke_s59 rfl (by decide) (by decide) ?_
          rw [show dh - dh / 100 * 100 = hro dh from rfl, eD]
          refine zcallV X_broke_d76 k10_257 (by omega) (x_since_1 (h := hro dh) hm hszS hceS hF hbB hD (by omega) ho) rfl rfl rfl (Nat.le_of_ble_eq_true rfl) ?_
          rintro _ μ1 ⟨rfl, hz1⟩
          replace hz := hz.tr hz1
          replace ho := ho.q hz1
          clear hz1
          refine z_ret X_broke_d79 rfl ?_
          refine ⟨congrArg (fun z => some (Value.int z)) ?_, hz⟩
          unfold opBroke
          rw [show (nI 1).toNatClampNeg = 1 from rfl]
          first
            | rw [if_neg (fun z => (show ¬ isB S.1 b from zB_eq0.mp h20) z.2.1)]
            | rw [if_neg (fun z => (show ¬ tim dh from zB_eq0.mp h27) z.2.2.1)]
            | rw [if_neg (fun z => (show ¬ (0 ≤ w ∧ w ≤ 1) from zB_eq0.mp h36) z.2.2.2)]
            | (rw [if_pos (And.intro (And.intro (by decide) (by decide)) (And.intro q1 (And.intro q2 q3)))]
               unfold barW
               rw [if_neg (show ¬ hHeld S 1 = 0 by rw [g2.1]; decide), if_pos g2, em, nI_clamp (show m < 2 ^ 31 by omega), eb, eD, nI_clamp (show D < 2 ^ 31 by omega)])
            | (rw [if_pos (And.intro (And.intro (by decide) (by decide)) (And.intro (show isB S.1 b from zB_ne0.mp h20) (And.intro (show tim dh from zB_ne0.mp h27) (show 0 ≤ w ∧ w ≤ 1 from zB_ne0.mp h36))))]
               unfold barW
               by_cases z : bE 14 μ
               · rw [if_pos z]
                 rcases xs with y | y | y
                 · rw [if_pos y.1]
                 · exact absurd z y.2.1
                 · exact absurd z y.2.1
               · rw [if_neg z]
                 rw [if_neg z] at h51
                 by_cases u : bR 14 μ ∧ μ.1 14 2 = 1
                 · rw [if_pos u] at h51; exact absurd rfl h51
                 · rw [if_neg u]
                   rcases xs with y | y | y
                   · exact absurd y.2.1 z
                   · rw [y.1, if_neg (by decide), if_neg (fun v => absurd v.1 (by decide))]
                   · rw [y.1, if_neg (by decide), if_neg (fun v => u ⟨y.2.2.1, y.2.2.2.1.trans v.2⟩)])
        · refine zb X_broke_s54 rfl ?_
          refine z_ret X_broke_d79 rfl ?_
          refine ⟨congrArg (fun z => some (Value.int z)) ?_, hz⟩
          unfold opBroke
          rw [show (nI 1).toNatClampNeg = 1 from rfl]
          first
            | rw [if_neg (fun z => (show ¬ isB S.1 b from zB_eq0.mp h20) z.2.1)]
            | rw [if_neg (fun z => (show ¬ tim dh from zB_eq0.mp h27) z.2.2.1)]
            | rw [if_neg (fun z => (show ¬ (0 ≤ w ∧ w ≤ 1) from zB_eq0.mp h36) z.2.2.2)]
            | (rw [if_pos (And.intro (And.intro (by decide) (by decide)) (And.intro q1 (And.intro q2 q3)))]
               unfold barW
               rw [if_neg (show ¬ hHeld S 1 = 0 by rw [g2.1]; decide), if_pos g2, em, nI_clamp (show m < 2 ^ 31 by omega), eb, eD, nI_clamp (show D < 2 ^ 31 by omega)])
            | (rw [if_pos (And.intro (And.intro (by decide) (by decide)) (And.intro (show isB S.1 b from zB_ne0.mp h20) (And.intro (show tim dh from zB_ne0.mp h27) (show 0 ≤ w ∧ w ≤ 1 from zB_ne0.mp h36))))]
               unfold barW
               by_cases z : bE 14 μ
               · rw [if_pos z]
                 rcases xs with y | y | y
                 · rw [if_pos y.1]
                 · exact absurd z y.2.1
                 · exact absurd z y.2.1
               · rw [if_neg z]
                 rw [if_neg z] at h51
                 by_cases u : bR 14 μ ∧ μ.1 14 2 = 1
                 · rw [if_pos u] at h51; exact absurd rfl h51
                 · rw [if_neg u]
                   rcases xs with y | y | y
                   · exact absurd y.2.1 z
                   · rw [y.1, if_neg (by decide), if_neg (fun v => absurd v.1 (by decide))]
                   · rw [y.1, if_neg (by decide), if_neg (fun v => u ⟨y.2.2.1, y.2.2.2.1.trans v.2⟩)])
      · refine zb X_broke_s39 rfl ?_
        refine z_ret X_broke_d40 rfl ?_
        refine ⟨congrArg (fun z => some (Value.int z)) ?_, hz⟩
        unfold opBroke
        rw [show (nI 1).toNatClampNeg = 1 from rfl]
        first
          | rw [if_neg (fun z => (show ¬ isB S.1 b from zB_eq0.mp h20) z.2.1)]
          | rw [if_neg (fun z => (show ¬ tim dh from zB_eq0.mp h27) z.2.2.1)]
          | rw [if_neg (fun z => (show ¬ (0 ≤ w ∧ w ≤ 1) from zB_eq0.mp h36) z.2.2.2)]
          | (rw [if_pos (And.intro (And.intro (by decide) (by decide)) (And.intro q1 (And.intro q2 q3)))]
             unfold barW
             rw [if_neg (show ¬ hHeld S 1 = 0 by rw [g2.1]; decide), if_pos g2, em, nI_clamp (show m < 2 ^ 31 by omega), eb, eD, nI_clamp (show D < 2 ^ 31 by omega)])
          | (rw [if_pos (And.intro (And.intro (by decide) (by decide)) (And.intro (show isB S.1 b from zB_ne0.mp h20) (And.intro (show tim dh from zB_ne0.mp h27) (show 0 ≤ w ∧ w ≤ 1 from zB_ne0.mp h36))))]
             unfold barW
             by_cases z : bE 14 μ
             · rw [if_pos z]
               rcases xs with y | y | y
               · rw [if_pos y.1]
               · exact absurd z y.2.1
               · exact absurd z y.2.1
             · rw [if_neg z]
               rw [if_neg z] at h51
               by_cases u : bR 14 μ ∧ μ.1 14 2 = 1
               · rw [if_pos u] at h51; exact absurd rfl h51
               · rw [if_neg u]
                 rcases xs with y | y | y
                 · exact absurd y.2.1 z
                 · rw [y.1, if_neg (by decide), if_neg (fun v => absurd v.1 (by decide))]
                 · rw [y.1, if_neg (by decide), if_neg (fun v => u ⟨y.2.2.1, y.2.2.2.1.trans v.2⟩)])

set_option maxRecDepth 100000 in
set_option maxHeartbeats 4000000 in
theorem xs_broke_2 {g : zG} {d : Nat} {S : zS} {μ : zMem} {b dh w : Int32} (hF : okF S.1) (hd9 : 9 ≤ d) (hS : xS S μ) (hok : okH S) : zM g d X_broke [.ref 1, .int (nI 2), .int b, .int dh, .int w] μ (fun r μ' => r = some (.int (opBroke S (nI 2) b dh w)) ∧ zq sX μ μ') := by
  refine zM_of (by decide +kernel) rfl rfl (Nat.le_of_ble_eq_true rfl) rfl ?_
  obtain ⟨ho, h2, hT, hC, hD, hI, hA, hH⟩ := hS
  have hS : xS S μ := ⟨ho, h2, hT, hC, hD, hI, hA, hH⟩
  have hb := ho.b
  have hv := ho.v
  have hB6 := ho.b6
  have hV12 := ho.v12
  have hz : zq sX μ μ := zq.rf
  have xs := xsh (s := 2) hS hok (by omega)
  have hF9 := hF
  refine zb X_broke_s0 rfl ?_
  refine zcallV X_broke_d2 k10_93 (by omega) (x_shelf_2 (by omega)) rfl rfl rfl (Nat.le_of_ble_eq_true rfl) ?_
  rintro _ μx ⟨rfl, hx⟩
  rw [hx]
  clear hx μx
  refine zb X_broke_s5 rfl ?_
  refine z_null X_broke_d9 ?_
  refine zb X_broke_s12 rfl ?_
  refine zcallV X_broke_d17 k10_167 (by omega) (x_hasBell _ ho) rfl rfl rfl (Nat.le_of_ble_eq_true rfl) ?_
  rintro _ μx ⟨rfl, hx⟩
  rw [hx]
  clear hx μx
  refine z_eq X_broke_d20 (tgt := 39) rfl (fun h20 => ?_) (fun h20 => ?_)
  · refine zb X_broke_s39 rfl ?_
    refine z_ret X_broke_d40 rfl ?_
    refine ⟨congrArg (fun z => some (Value.int z)) ?_, hz⟩
    unfold opBroke
    rw [show (nI 2).toNatClampNeg = 2 from rfl]
    first
      | rw [if_neg (fun z => (show ¬ isB S.1 b from zB_eq0.mp h20) z.2.1)]
      | rw [if_neg (fun z => (show ¬ tim dh from zB_eq0.mp h27) z.2.2.1)]
      | rw [if_neg (fun z => (show ¬ (0 ≤ w ∧ w ≤ 1) from zB_eq0.mp h36) z.2.2.2)]
      | (rw [if_pos (And.intro (And.intro (by decide) (by decide)) (And.intro q1 (And.intro q2 q3)))]
         unfold barW
         rw [if_neg (show ¬ hHeld S 2 = 0 by rw [g2.1]; decide), if_pos g2, em, nI_clamp (show m < 2 ^ 31 by omega), eb, eD, nI_clamp (show D < 2 ^ 31 by omega)])
      | (rw [if_pos (And.intro (And.intro (by decide) (by decide)) (And.intro (show isB S.1 b from zB_ne0.mp h20) (And.intro (show tim dh from zB_ne0.mp h27) (show 0 ≤ w ∧ w ≤ 1 from zB_ne0.mp h36))))]
         unfold barW
         by_cases z : bE 15 μ
         · rw [if_pos z]
           rcases xs with y | y | y
           · rw [if_pos y.1]
           · exact absurd z y.2.1
           · exact absurd z y.2.1
         · rw [if_neg z]
           rw [if_neg z] at h51
           by_cases u : bR 15 μ ∧ μ.1 15 2 = 1
           · rw [if_pos u] at h51; exact absurd rfl h51
           · rw [if_neg u]
             rcases xs with y | y | y
             · exact absurd y.2.1 z
             · rw [y.1, if_neg (by decide), if_neg (fun v => absurd v.1 (by decide))]
             · rw [y.1, if_neg (by decide), if_neg (fun v => u ⟨y.2.2.1, y.2.2.2.1.trans v.2⟩)])
  · refine zb X_broke_s23 rfl ?_
    refine zcallS X_broke_d24 k10_160 (by omega) (x_isDayHour _) rfl rfl (Nat.le_of_ble_eq_true rfl) ?_
    rintro _ μx ⟨rfl, hx⟩
    rw [hx]
    clear hx μx
    refine z_eq X_broke_d27 (tgt := 39) rfl (fun h27 => ?_) (fun h27 => ?_)
    · refine zb X_broke_s39 rfl ?_
      refine z_ret X_broke_d40 rfl ?_
      refine ⟨congrArg (fun z => some (Value.int z)) ?_, hz⟩
      unfold opBroke
      rw [show (nI 2).toNatClampNeg = 2 from rfl]
      first
        | rw [if_neg (fun z => (show ¬ isB S.1 b from zB_eq0.mp h20) z.2.1)]
        | rw [if_neg (fun z => (show ¬ tim dh from zB_eq0.mp h27) z.2.2.1)]
        | rw [if_neg (fun z => (show ¬ (0 ≤ w ∧ w ≤ 1) from zB_eq0.mp h36) z.2.2.2)]
        | (rw [if_pos (And.intro (And.intro (by decide) (by decide)) (And.intro q1 (And.intro q2 q3)))]
           unfold barW
           rw [if_neg (show ¬ hHeld S 2 = 0 by rw [g2.1]; decide), if_pos g2, em, nI_clamp (show m < 2 ^ 31 by omega), eb, eD, nI_clamp (show D < 2 ^ 31 by omega)])
        | (rw [if_pos (And.intro (And.intro (by decide) (by decide)) (And.intro (show isB S.1 b from zB_ne0.mp h20) (And.intro (show tim dh from zB_ne0.mp h27) (show 0 ≤ w ∧ w ≤ 1 from zB_ne0.mp h36))))]
           unfold barW
           by_cases z : bE 15 μ
           · rw [if_pos z]
             rcases xs with y | y | y
             · rw [if_pos y.1]
             · exact absurd z y.2.1
             · exact absurd z y.2.1
           · rw [if_neg z]
             rw [if_neg z] at h51
             by_cases u : bR 15 μ ∧ μ.1 15 2 = 1
             · rw [if_pos u] at h51; exact absurd rfl h51
             · rw [if_neg u]
               rcases xs with y | y | y
               · exact absurd y.2.1 z
               · rw [y.1, if_neg (by decide), if_neg (fun v => absurd v.1 (by decide))]
               · rw [y.1, if_neg (by decide), if_neg (fun v => u ⟨y.2.2.1, y.2.2.2.1.trans v.2⟩)])
    · refine zb X_broke_s30 rfl ?_
      refine zcallS X_broke_d33 k10_170 (by omega) (x_isWithin _ _) rfl rfl (Nat.le_of_ble_eq_true rfl) ?_
      rintro _ μx ⟨rfl, hx⟩
      rw [hx]
      clear hx μx
      refine z_ne X_broke_d36 (tgt := 41) rfl (fun h36 => ?_) (fun h36 => ?_)
      · refine zb X_broke_s41 rfl ?_
        refine zcallV X_broke_d44 k10_247 (by omega) (x_refFor_2 (by omega)) rfl rfl rfl (Nat.le_of_ble_eq_true rfl) ?_
        rintro _ μx ⟨rfl, hx⟩
        rw [hx]
        clear hx μx
        refine zb X_broke_s47 rfl ?_
        refine z_eq X_broke_d51 (tgt := 59) rfl (fun h51 => ?_) (fun h51 => ?_)
        · have g1 : ¬ bE 15 μ ∧ bR 15 μ ∧ μ.1 15 2 = 1 := by
            by_cases z : bE 15 μ
            · rw [if_pos z] at h51; exact absurd h51 (by decide)
            · rw [if_neg z] at h51
              by_cases y : bR 15 μ ∧ μ.1 15 2 = 1
              · exact ⟨z, y⟩
              · rw [if_neg y] at h51; exact absurd h51 (by decide)
          have g2 : hHeld S 2 = 2 ∧ hSort S 2 = 1 := by
            rcases xs with z | z | z
            · exact absurd z.2.1 g1.1
            · exact absurd g1.2.1 z.2.2.1
            · exact And.intro z.1 (z.2.2.2.1.symm.trans g1.2.2)
          obtain ⟨m, hm, em, hrow⟩ : ∃ m, m ≤ 60 ∧ hSize S 2 = nI m ∧ (∀ i, i < 60 → (hInt S 2 i).toInt64 = hCell S 2 i) := by
            rcases hok 2 (by omega) with z | z | z
            · rw [g2.1] at z; exact absurd z (by decide)
            · rw [g2.1] at z; exact absurd z.1 (by decide)
            · obtain ⟨m, h1, h2⟩ := z.2.2.1
              exact ⟨m, h1, h2, z.2.2.2 g2.2⟩
          have hszS : μ.1 15 3 = nI m := (xS_hz (s := 2) hS (by omega) g2.1).trans em
          have hceS : ∀ t, t < 60 → (μ.2.1 21 t).toInt32 = hInt S 2 t := xS_hc (s := 2) hS (by omega)
          have q1 : isB S.1 b := zB_ne0.mp h20
          have q2 : tim dh := zB_ne0.mp h27
          have q3 : 0 ≤ w ∧ w ≤ 1 := zB_ne0.mp h36
          obtain ⟨b, hbB, rfl, eb⟩ := zix q1.1 q1.2 (by omega)
          obtain ⟨D, hD, eD⟩ := nI_of2 (M := 998) (n := 998) rfl (Int32.not_lt.mpr (tim_nn q2)) q2.2.1
          refine zb2 X_broke_s59 rfl (by decide) (by decide) ?_
          rw [show dh - dh / 100 * 100 = hro dh from rfl, eD]
          refine zcallV X_broke_d76 k10_257 (by omega) (x_since_2 (h := hro dh) hm hszS hceS hF hbB hD (by omega) ho) rfl rfl rfl (Nat.le_of_ble_eq_true rfl) ?_
          rintro _ μ1 ⟨rfl, hz1⟩
          replace hz := hz.tr hz1
          replace ho := ho.q hz1
          clear hz1
          refine z_ret X_broke_d79 rfl ?_
          refine ⟨congrArg (fun z => some (Value.int z)) ?_, hz⟩
          unfold opBroke
          rw [show (nI 2).toNatClampNeg = 2 from rfl]
          first
            | rw [if_neg (fun z => (show ¬ isB S.1 b from zB_eq0.mp h20) z.2.1)]
            | rw [if_neg (fun z => (show ¬ tim dh from zB_eq0.mp h27) z.2.2.1)]
            | rw [if_neg (fun z => (show ¬ (0 ≤ w ∧ w ≤ 1) from zB_eq0.mp h36) z.2.2.2)]
            | (rw [if_pos (And.intro (And.intro (by decide) (by decide)) (And.intro q1 (And.intro q2 q3)))]
               unfold barW
               rw [if_neg (show ¬ hHeld S 2 = 0 by rw [g2.1]; decide), if_pos g2, em, nI_clamp (show m < 2 ^ 31 by omega), eb, eD, nI_clamp (show D < 2 ^ 31 by omega)])
            | (rw [if_pos (And.intro (And.intro (by decide) (by decide)) (And.intro (show isB S.1 b from zB_ne0.mp h20) (And.intro (show tim dh from zB_ne0.mp h27) (show 0 ≤ w ∧ w ≤ 1 from zB_ne0.mp h36))))]
               unfold barW
               by_cases z : bE 15 μ
               · rw [if_pos z]
                 rcases xs with y | y | y
                 · rw [if_pos y.1]
                 · exact absurd z y.2.1
                 · exact absurd z y.2.1
               · rw [if_neg z]
                 rw [if_neg z] at h51
                 by_cases u : bR 15 μ ∧ μ.1 15 2 = 1
                 · rw [if_pos u] at h51; exact absurd rfl h51
                 · rw [if_neg u]
                   rcases xs with y | y | y
                   · exact absurd y.2.1 z
                   · rw [y.1, if_neg (by decide), if_neg (fun v => absurd v.1 (by decide))]
                   · rw [y.1, if_neg (by decide), if_neg (fun v => u ⟨y.2.2.1, y.2.2.2.1.trans v.2⟩)])
        · refine zb X_broke_s54 rfl ?_
          refine z_ret X_broke_d79 rfl ?_
          refine ⟨congrArg (fun z => some (Value.int z)) ?_, hz⟩
          unfold opBroke
          rw [show (nI 2).toNatClampNeg = 2 from rfl]
          first
            | rw [if_neg (fun z => (show ¬ isB S.1 b from zB_eq0.mp h20) z.2.1)]
            | rw [if_neg (fun z => (show ¬ tim dh from zB_eq0.mp h27) z.2.2.1)]
            | rw [if_neg (fun z => (show ¬ (0 ≤ w ∧ w ≤ 1) from zB_eq0.mp h36) z.2.2.2)]
            | (rw [if_pos (And.intro (And.intro (by decide) (by decide)) (And.intro q1 (And.intro q2 q3)))]
               unfold barW
               rw [if_neg (show ¬ hHeld S 2 = 0 by rw [g2.1]; decide), if_pos g2, em, nI_clamp (show m < 2 ^ 31 by omega), eb, eD, nI_clamp (show D < 2 ^ 31 by omega)])
            | (rw [if_pos (And.intro (And.intro (by decide) (by decide)) (And.intro (show isB S.1 b from zB_ne0.mp h20) (And.intro (show tim dh from zB_ne0.mp h27) (show 0 ≤ w ∧ w ≤ 1 from zB_ne0.mp h36))))]
               unfold barW
               by_cases z : bE 15 μ
               · rw [if_pos z]
                 rcases xs with y | y | y
                 · rw [if_pos y.1]
                 · exact absurd z y.2.1
                 · exact absurd z y.2.1
               · rw [if_neg z]
                 rw [if_neg z] at h51
                 by_cases u : bR 15 μ ∧ μ.1 15 2 = 1
                 · rw [if_pos u] at h51; exact absurd rfl h51
                 · rw [if_neg u]
                   rcases xs with y | y | y
                   · exact absurd y.2.1 z
                   · rw [y.1, if_neg (by decide), if_neg (fun v => absurd v.1 (by decide))]
                   · rw [y.1, if_neg (by decide), if_neg (fun v => u ⟨y.2.2.1, y.2.2.2.1.trans v.2⟩)])
      · refine zb X_broke_s39 rfl ?_
        refine z_ret X_broke_d40 rfl ?_
        refine ⟨congrArg (fun z => some (Value.int z)) ?_, hz⟩
        unfold opBroke
        rw [show (nI 2).toNatClampNeg = 2 from rfl]
        first
          | rw [if_neg (fun z => (show ¬ isB S.1 b from zB_eq0.mp h20) z.2.1)]
          | rw [if_neg (fun z => (show ¬ tim dh from zB_eq0.mp h27) z.2.2.1)]
          | rw [if_neg (fun z => (show ¬ (0 ≤ w ∧ w ≤ 1) from zB_eq0.mp h36) z.2.2.2)]
          | (rw [if_pos (And.intro (And.intro (by decide) (by decide)) (And.intro q1 (And.intro q2 q3)))]
             unfold barW
             rw [if_neg (show ¬ hHeld S 2 = 0 by rw [g2.1]; decide), if_pos g2, em, nI_clamp (show m < 2 ^ 31 by omega), eb, eD, nI_clamp (show D < 2 ^ 31 by omega)])
          | (rw [if_pos (And.intro (And.intro (by decide) (by decide)) (And.intro (show isB S.1 b from zB_ne0.mp h20) (And.intro (show tim dh from zB_ne0.mp h27) (show 0 ≤ w ∧ w ≤ 1 from zB_ne0.mp h36))))]
             unfold barW
             by_cases z : bE 15 μ
             · rw [if_pos z]
               rcases xs with y | y | y
               · rw [if_pos y.1]
               · exact absurd z y.2.1
               · exact absurd z y.2.1
             · rw [if_neg z]
               rw [if_neg z] at h51
               by_cases u : bR 15 μ ∧ μ.1 15 2 = 1
               · rw [if_pos u] at h51; exact absurd rfl h51
               · rw [if_neg u]
                 rcases xs with y | y | y
                 · exact absurd y.2.1 z
                 · rw [y.1, if_neg (by decide), if_neg (fun v => absurd v.1 (by decide))]
                 · rw [y.1, if_neg (by decide), if_neg (fun v => u ⟨y.2.2.1, y.2.2.2.1.trans v.2⟩)])

set_option maxRecDepth 100000 in
set_option maxHeartbeats 4000000 in
theorem xs_broke_3 {g : zG} {d : Nat} {S : zS} {μ : zMem} {b dh w : Int32} (hF : okF S.1) (hd9 : 9 ≤ d) (hS : xS S μ) (hok : okH S) : zM g d X_broke [.ref 1, .int (nI 3), .int b, .int dh, .int w] μ (fun r μ' => r = some (.int (opBroke S (nI 3) b dh w)) ∧ zq sX μ μ') := by
  refine zM_of (by decide +kernel) rfl rfl (Nat.le_of_ble_eq_true rfl) rfl ?_
  obtain ⟨ho, h2, hT, hC, hD, hI, hA, hH⟩ := hS
  have hS : xS S μ := ⟨ho, h2, hT, hC, hD, hI, hA, hH⟩
  have hb := ho.b
  have hv := ho.v
  have hB6 := ho.b6
  have hV12 := ho.v12
  have hz : zq sX μ μ := zq.rf
  have xs := xsh (s := 3) hS hok (by omega)
  have hF9 := hF
  refine zb X_broke_s0 rfl ?_
  refine zcallV X_broke_d2 k10_93 (by omega) (x_shelf_3 (by omega)) rfl rfl rfl (Nat.le_of_ble_eq_true rfl) ?_
  rintro _ μx ⟨rfl, hx⟩
  rw [hx]
  clear hx μx
  refine zb X_broke_s5 rfl ?_
  refine z_null X_broke_d9 ?_
  refine zb X_broke_s12 rfl ?_
  refine zcallV X_broke_d17 k10_167 (by omega) (x_hasBell _ ho) rfl rfl rfl (Nat.le_of_ble_eq_true rfl) ?_
  rintro _ μx ⟨rfl, hx⟩
  rw [hx]
  clear hx μx
  refine z_eq X_broke_d20 (tgt := 39) rfl (fun h20 => ?_) (fun h20 => ?_)
  · refine zb X_broke_s39 rfl ?_
    refine z_ret X_broke_d40 rfl ?_
    refine ⟨congrArg (fun z => some (Value.int z)) ?_, hz⟩
    unfold opBroke
    rw [show (nI 3).toNatClampNeg = 3 from rfl]
    first
      | rw [if_neg (fun z => (show ¬ isB S.1 b from zB_eq0.mp h20) z.2.1)]
      | rw [if_neg (fun z => (show ¬ tim dh from zB_eq0.mp h27) z.2.2.1)]
      | rw [if_neg (fun z => (show ¬ (0 ≤ w ∧ w ≤ 1) from zB_eq0.mp h36) z.2.2.2)]
      | (rw [if_pos (And.intro (And.intro (by decide) (by decide)) (And.intro q1 (And.intro q2 q3)))]
         unfold barW
         rw [if_neg (show ¬ hHeld S 3 = 0 by rw [g2.1]; decide), if_pos g2, em, nI_clamp (show m < 2 ^ 31 by omega), eb, eD, nI_clamp (show D < 2 ^ 31 by omega)])
      | (rw [if_pos (And.intro (And.intro (by decide) (by decide)) (And.intro (show isB S.1 b from zB_ne0.mp h20) (And.intro (show tim dh from zB_ne0.mp h27) (show 0 ≤ w ∧ w ≤ 1 from zB_ne0.mp h36))))]
         unfold barW
         by_cases z : bE 16 μ
         · rw [if_pos z]
           rcases xs with y | y | y
           · rw [if_pos y.1]
           · exact absurd z y.2.1
           · exact absurd z y.2.1
         · rw [if_neg z]
           rw [if_neg z] at h51
           by_cases u : bR 16 μ ∧ μ.1 16 2 = 1
           · rw [if_pos u] at h51; exact absurd rfl h51
           · rw [if_neg u]
             rcases xs with y | y | y
             · exact absurd y.2.1 z
             · rw [y.1, if_neg (by decide), if_neg (fun v => absurd v.1 (by decide))]
             · rw [y.1, if_neg (by decide), if_neg (fun v => u ⟨y.2.2.1, y.2.2.2.1.trans v.2⟩)])
  · refine zb X_broke_s23 rfl ?_
    refine zcallS X_broke_d24 k10_160 (by omega) (x_isDayHour _) rfl rfl (Nat.le_of_ble_eq_true rfl) ?_
    rintro _ μx ⟨rfl, hx⟩
    rw [hx]
    clear hx μx
    refine z_eq X_broke_d27 (tgt := 39) rfl (fun h27 => ?_) (fun h27 => ?_)
    · refine zb X_broke_s39 rfl ?_
      refine z_ret X_broke_d40 rfl ?_
      refine ⟨congrArg (fun z => some (Value.int z)) ?_, hz⟩
      unfold opBroke
      rw [show (nI 3).toNatClampNeg = 3 from rfl]
      first
        | rw [if_neg (fun z => (show ¬ isB S.1 b from zB_eq0.mp h20) z.2.1)]
        | rw [if_neg (fun z => (show ¬ tim dh from zB_eq0.mp h27) z.2.2.1)]
        | rw [if_neg (fun z => (show ¬ (0 ≤ w ∧ w ≤ 1) from zB_eq0.mp h36) z.2.2.2)]
        | (rw [if_pos (And.intro (And.intro (by decide) (by decide)) (And.intro q1 (And.intro q2 q3)))]
           unfold barW
           rw [if_neg (show ¬ hHeld S 3 = 0 by rw [g2.1]; decide), if_pos g2, em, nI_clamp (show m < 2 ^ 31 by omega), eb, eD, nI_clamp (show D < 2 ^ 31 by omega)])
        | (rw [if_pos (And.intro (And.intro (by decide) (by decide)) (And.intro (show isB S.1 b from zB_ne0.mp h20) (And.intro (show tim dh from zB_ne0.mp h27) (show 0 ≤ w ∧ w ≤ 1 from zB_ne0.mp h36))))]
           unfold barW
           by_cases z : bE 16 μ
           · rw [if_pos z]
             rcases xs with y | y | y
             · rw [if_pos y.1]
             · exact absurd z y.2.1
             · exact absurd z y.2.1
           · rw [if_neg z]
             rw [if_neg z] at h51
             by_cases u : bR 16 μ ∧ μ.1 16 2 = 1
             · rw [if_pos u] at h51; exact absurd rfl h51
             · rw [if_neg u]
               rcases xs with y | y | y
               · exact absurd y.2.1 z
               · rw [y.1, if_neg (by decide), if_neg (fun v => absurd v.1 (by decide))]
               · rw [y.1, if_neg (by decide), if_neg (fun v => u ⟨y.2.2.1, y.2.2.2.1.trans v.2⟩)])
    · refine zb X_broke_s30 rfl ?_
      refine zcallS X_broke_d33 k10_170 (by omega) (x_isWithin _ _) rfl rfl (Nat.le_of_ble_eq_true rfl) ?_
      rintro _ μx ⟨rfl, hx⟩
      rw [hx]
      clear hx μx
      refine z_ne X_broke_d36 (tgt := 41) rfl (fun h36 => ?_) (fun h36 => ?_)
      · refine zb X_broke_s41 rfl ?_
        refine zcallV X_broke_d44 k10_247 (by omega) (x_refFor_3 (by omega)) rfl rfl rfl (Nat.le_of_ble_eq_true rfl) ?_
        rintro _ μx ⟨rfl, hx⟩
        rw [hx]
        clear hx μx
        refine zb X_broke_s47 rfl ?_
        refine z_eq X_broke_d51 (tgt := 59) rfl (fun h51 => ?_) (fun h51 => ?_)
        · have g1 : ¬ bE 16 μ ∧ bR 16 μ ∧ μ.1 16 2 = 1 := by
            by_cases z : bE 16 μ
            · rw [if_pos z] at h51; exact absurd h51 (by decide)
            · rw [if_neg z] at h51
              by_cases y : bR 16 μ ∧ μ.1 16 2 = 1
              · exact ⟨z, y⟩
              · rw [if_neg y] at h51; exact absurd h51 (by decide)
          have g2 : hHeld S 3 = 2 ∧ hSort S 3 = 1 := by
            rcases xs with z | z | z
            · exact absurd z.2.1 g1.1
            · exact absurd g1.2.1 z.2.2.1
            · exact And.intro z.1 (z.2.2.2.1.symm.trans g1.2.2)
          obtain ⟨m, hm, em, hrow⟩ : ∃ m, m ≤ 60 ∧ hSize S 3 = nI m ∧ (∀ i, i < 60 → (hInt S 3 i).toInt64 = hCell S 3 i) := by
            rcases hok 3 (by omega) with z | z | z
            · rw [g2.1] at z; exact absurd z (by decide)
            · rw [g2.1] at z; exact absurd z.1 (by decide)
            · obtain ⟨m, h1, h2⟩ := z.2.2.1
              exact ⟨m, h1, h2, z.2.2.2 g2.2⟩
          have hszS : μ.1 16 3 = nI m := (xS_hz (s := 3) hS (by omega) g2.1).trans em
          have hceS : ∀ t, t < 60 → (μ.2.1 22 t).toInt32 = hInt S 3 t := xS_hc (s := 3) hS (by omega)
          have q1 : isB S.1 b := zB_ne0.mp h20
          have q2 : tim dh := zB_ne0.mp h27
          have q3 : 0 ≤ w ∧ w ≤ 1 := zB_ne0.mp h36
          obtain ⟨b, hbB, rfl, eb⟩ := zix q1.1 q1.2 (by omega)
          obtain ⟨D, hD, eD⟩ := nI_of2 (M := 998) (n := 998) rfl (Int32.not_lt.mpr (tim_nn q2)) q2.2.1
          refine zb2 X_broke_s59 rfl (by decide) (by decide) ?_
          rw [show dh - dh / 100 * 100 = hro dh from rfl, eD]
          refine zcallV X_broke_d76 k10_257 (by omega) (x_since_3 (h := hro dh) hm hszS hceS hF hbB hD (by omega) ho) rfl rfl rfl (Nat.le_of_ble_eq_true rfl) ?_
          rintro _ μ1 ⟨rfl, hz1⟩
          replace hz := hz.tr hz1
          replace ho := ho.q hz1
          clear hz1
          refine z_ret X_broke_d79 rfl ?_
          refine ⟨congrArg (fun z => some (Value.int z)) ?_, hz⟩
          unfold opBroke
          rw [show (nI 3).toNatClampNeg = 3 from rfl]
          first
            | rw [if_neg (fun z => (show ¬ isB S.1 b from zB_eq0.mp h20) z.2.1)]
            | rw [if_neg (fun z => (show ¬ tim dh from zB_eq0.mp h27) z.2.2.1)]
            | rw [if_neg (fun z => (show ¬ (0 ≤ w ∧ w ≤ 1) from zB_eq0.mp h36) z.2.2.2)]
            | (rw [if_pos (And.intro (And.intro (by decide) (by decide)) (And.intro q1 (And.intro q2 q3)))]
               unfold barW
               rw [if_neg (show ¬ hHeld S 3 = 0 by rw [g2.1]; decide), if_pos g2, em, nI_clamp (show m < 2 ^ 31 by omega), eb, eD, nI_clamp (show D < 2 ^ 31 by omega)])
            | (rw [if_pos (And.intro (And.intro (by decide) (by decide)) (And.intro (show isB S.1 b from zB_ne0.mp h20) (And.intro (show tim dh from zB_ne0.mp h27) (show 0 ≤ w ∧ w ≤ 1 from zB_ne0.mp h36))))]
               unfold barW
               by_cases z : bE 16 μ
               · rw [if_pos z]
                 rcases xs with y | y | y
                 · rw [if_pos y.1]
                 · exact absurd z y.2.1
                 · exact absurd z y.2.1
               · rw [if_neg z]
                 rw [if_neg z] at h51
                 by_cases u : bR 16 μ ∧ μ.1 16 2 = 1
                 · rw [if_pos u] at h51; exact absurd rfl h51
                 · rw [if_neg u]
                   rcases xs with y | y | y
                   · exact absurd y.2.1 z
                   · rw [y.1, if_neg (by decide), if_neg (fun v => absurd v.1 (by decide))]
                   · rw [y.1, if_neg (by decide), if_neg (fun v => u ⟨y.2.2.1, y.2.2.2.1.trans v.2⟩)])
        · refine zb X_broke_s54 rfl ?_
          refine z_ret X_broke_d79 rfl ?_
          refine ⟨congrArg (fun z => some (Value.int z)) ?_, hz⟩
          unfold opBroke
          rw [show (nI 3).toNatClampNeg = 3 from rfl]
          first
            | rw [if_neg (fun z => (show ¬ isB S.1 b from zB_eq0.mp h20) z.2.1)]
            | rw [if_neg (fun z => (show ¬ tim dh from zB_eq0.mp h27) z.2.2.1)]
            | rw [if_neg (fun z => (show ¬ (0 ≤ w ∧ w ≤ 1) from zB_eq0.mp h36) z.2.2.2)]
            | (rw [if_pos (And.intro (And.intro (by decide) (by decide)) (And.intro q1 (And.intro q2 q3)))]
               unfold barW
               rw [if_neg (show ¬ hHeld S 3 = 0 by rw [g2.1]; decide), if_pos g2, em, nI_clamp (show m < 2 ^ 31 by omega), eb, eD, nI_clamp (show D < 2 ^ 31 by omega)])
            | (rw [if_pos (And.intro (And.intro (by decide) (by decide)) (And.intro (show isB S.1 b from zB_ne0.mp h20) (And.intro (show tim dh from zB_ne0.mp h27) (show 0 ≤ w ∧ w ≤ 1 from zB_ne0.mp h36))))]
               unfold barW
               by_cases z : bE 16 μ
               · rw [if_pos z]
                 rcases xs with y | y | y
                 · rw [if_pos y.1]
                 · exact absurd z y.2.1
                 · exact absurd z y.2.1
               · rw [if_neg z]
                 rw [if_neg z] at h51
                 by_cases u : bR 16 μ ∧ μ.1 16 2 = 1
                 · rw [if_pos u] at h51; exact absurd rfl h51
                 · rw [if_neg u]
                   rcases xs with y | y | y
                   · exact absurd y.2.1 z
                   · rw [y.1, if_neg (by decide), if_neg (fun v => absurd v.1 (by decide))]
                   · rw [y.1, if_neg (by decide), if_neg (fun v => u ⟨y.2.2.1, y.2.2.2.1.trans v.2⟩)])
      · refine zb X_broke_s39 rfl ?_
        refine z_ret X_broke_d40 rfl ?_
        refine ⟨congrArg (fun z => some (Value.int z)) ?_, hz⟩
        unfold opBroke
        rw [show (nI 3).toNatClampNeg = 3 from rfl]
        first
          | rw [if_neg (fun z => (show ¬ isB S.1 b from zB_eq0.mp h20) z.2.1)]
          | rw [if_neg (fun z => (show ¬ tim dh from zB_eq0.mp h27) z.2.2.1)]
          | rw [if_neg (fun z => (show ¬ (0 ≤ w ∧ w ≤ 1) from zB_eq0.mp h36) z.2.2.2)]
          | (rw [if_pos (And.intro (And.intro (by decide) (by decide)) (And.intro q1 (And.intro q2 q3)))]
             unfold barW
             rw [if_neg (show ¬ hHeld S 3 = 0 by rw [g2.1]; decide), if_pos g2, em, nI_clamp (show m < 2 ^ 31 by omega), eb, eD, nI_clamp (show D < 2 ^ 31 by omega)])
          | (rw [if_pos (And.intro (And.intro (by decide) (by decide)) (And.intro (show isB S.1 b from zB_ne0.mp h20) (And.intro (show tim dh from zB_ne0.mp h27) (show 0 ≤ w ∧ w ≤ 1 from zB_ne0.mp h36))))]
             unfold barW
             by_cases z : bE 16 μ
             · rw [if_pos z]
               rcases xs with y | y | y
               · rw [if_pos y.1]
               · exact absurd z y.2.1
               · exact absurd z y.2.1
             · rw [if_neg z]
               rw [if_neg z] at h51
               by_cases u : bR 16 μ ∧ μ.1 16 2 = 1
               · rw [if_pos u] at h51; exact absurd rfl h51
               · rw [if_neg u]
                 rcases xs with y | y | y
                 · exact absurd y.2.1 z
                 · rw [y.1, if_neg (by decide), if_neg (fun v => absurd v.1 (by decide))]
                 · rw [y.1, if_neg (by decide), if_neg (fun v => u ⟨y.2.2.1, y.2.2.2.1.trans v.2⟩)])

set_option maxRecDepth 100000 in
set_option maxHeartbeats 4000000 in
theorem xs_broke_4 {g : zG} {d : Nat} {S : zS} {μ : zMem} {b dh w : Int32} (hF : okF S.1) (hd9 : 9 ≤ d) (hS : xS S μ) (hok : okH S) : zM g d X_broke [.ref 1, .int (nI 4), .int b, .int dh, .int w] μ (fun r μ' => r = some (.int (opBroke S (nI 4) b dh w)) ∧ zq sX μ μ') := by
  refine zM_of (by decide +kernel) rfl rfl (Nat.le_of_ble_eq_true rfl) rfl ?_
  obtain ⟨ho, h2, hT, hC, hD, hI, hA, hH⟩ := hS
  have hS : xS S μ := ⟨ho, h2, hT, hC, hD, hI, hA, hH⟩
  have hb := ho.b
  have hv := ho.v
  have hB6 := ho.b6
  have hV12 := ho.v12
  have hz : zq sX μ μ := zq.rf
  have xs := xsh (s := 4) hS hok (by omega)
  have hF9 := hF
  refine zb X_broke_s0 rfl ?_
  refine zcallV X_broke_d2 k10_93 (by omega) (x_shelf_4 (by omega)) rfl rfl rfl (Nat.le_of_ble_eq_true rfl) ?_
  rintro _ μx ⟨rfl, hx⟩
  rw [hx]
  clear hx μx
  refine zb X_broke_s5 rfl ?_
  refine z_null X_broke_d9 ?_
  refine zb X_broke_s12 rfl ?_
  refine zcallV X_broke_d17 k10_167 (by omega) (x_hasBell _ ho) rfl rfl rfl (Nat.le_of_ble_eq_true rfl) ?_
  rintro _ μx ⟨rfl, hx⟩
  rw [hx]
  clear hx μx
  refine z_eq X_broke_d20 (tgt := 39) rfl (fun h20 => ?_) (fun h20 => ?_)
  · refine zb X_broke_s39 rfl ?_
    refine z_ret X_broke_d40 rfl ?_
    refine ⟨congrArg (fun z => some (Value.int z)) ?_, hz⟩
    unfold opBroke
    rw [show (nI 4).toNatClampNeg = 4 from rfl]
    first
      | rw [if_neg (fun z => (show ¬ isB S.1 b from zB_eq0.mp h20) z.2.1)]
      | rw [if_neg (fun z => (show ¬ tim dh from zB_eq0.mp h27) z.2.2.1)]
      | rw [if_neg (fun z => (show ¬ (0 ≤ w ∧ w ≤ 1) from zB_eq0.mp h36) z.2.2.2)]
      | (rw [if_pos (And.intro (And.intro (by decide) (by decide)) (And.intro q1 (And.intro q2 q3)))]
         unfold barW
         rw [if_neg (show ¬ hHeld S 4 = 0 by rw [g2.1]; decide), if_pos g2, em, nI_clamp (show m < 2 ^ 31 by omega), eb, eD, nI_clamp (show D < 2 ^ 31 by omega)])
      | (rw [if_pos (And.intro (And.intro (by decide) (by decide)) (And.intro (show isB S.1 b from zB_ne0.mp h20) (And.intro (show tim dh from zB_ne0.mp h27) (show 0 ≤ w ∧ w ≤ 1 from zB_ne0.mp h36))))]
         unfold barW
         by_cases z : bE 17 μ
         · rw [if_pos z]
           rcases xs with y | y | y
           · rw [if_pos y.1]
           · exact absurd z y.2.1
           · exact absurd z y.2.1
         · rw [if_neg z]
           rw [if_neg z] at h51
           by_cases u : bR 17 μ ∧ μ.1 17 2 = 1
           · rw [if_pos u] at h51; exact absurd rfl h51
           · rw [if_neg u]
             rcases xs with y | y | y
             · exact absurd y.2.1 z
             · rw [y.1, if_neg (by decide), if_neg (fun v => absurd v.1 (by decide))]
             · rw [y.1, if_neg (by decide), if_neg (fun v => u ⟨y.2.2.1, y.2.2.2.1.trans v.2⟩)])
  · refine zb X_broke_s23 rfl ?_
    refine zcallS X_broke_d24 k10_160 (by omega) (x_isDayHour _) rfl rfl (Nat.le_of_ble_eq_true rfl) ?_
    rintro _ μx ⟨rfl, hx⟩
    rw [hx]
    clear hx μx
    refine z_eq X_broke_d27 (tgt := 39) rfl (fun h27 => ?_) (fun h27 => ?_)
    · refine zb X_broke_s39 rfl ?_
      refine z_ret X_broke_d40 rfl ?_
      refine ⟨congrArg (fun z => some (Value.int z)) ?_, hz⟩
      unfold opBroke
      rw [show (nI 4).toNatClampNeg = 4 from rfl]
      first
        | rw [if_neg (fun z => (show ¬ isB S.1 b from zB_eq0.mp h20) z.2.1)]
        | rw [if_neg (fun z => (show ¬ tim dh from zB_eq0.mp h27) z.2.2.1)]
        | rw [if_neg (fun z => (show ¬ (0 ≤ w ∧ w ≤ 1) from zB_eq0.mp h36) z.2.2.2)]
        | (rw [if_pos (And.intro (And.intro (by decide) (by decide)) (And.intro q1 (And.intro q2 q3)))]
           unfold barW
           rw [if_neg (show ¬ hHeld S 4 = 0 by rw [g2.1]; decide), if_pos g2, em, nI_clamp (show m < 2 ^ 31 by omega), eb, eD, nI_clamp (show D < 2 ^ 31 by omega)])
        | (rw [if_pos (And.intro (And.intro (by decide) (by decide)) (And.intro (show isB S.1 b from zB_ne0.mp h20) (And.intro (show tim dh from zB_ne0.mp h27) (show 0 ≤ w ∧ w ≤ 1 from zB_ne0.mp h36))))]
           unfold barW
           by_cases z : bE 17 μ
           · rw [if_pos z]
             rcases xs with y | y | y
             · rw [if_pos y.1]
             · exact absurd z y.2.1
             · exact absurd z y.2.1
           · rw [if_neg z]
             rw [if_neg z] at h51
             by_cases u : bR 17 μ ∧ μ.1 17 2 = 1
             · rw [if_pos u] at h51; exact absurd rfl h51
             · rw [if_neg u]
               rcases xs with y | y | y
               · exact absurd y.2.1 z
               · rw [y.1, if_neg (by decide), if_neg (fun v => absurd v.1 (by decide))]
               · rw [y.1, if_neg (by decide), if_neg (fun v => u ⟨y.2.2.1, y.2.2.2.1.trans v.2⟩)])
    · refine zb X_broke_s30 rfl ?_
      refine zcallS X_broke_d33 k10_170 (by omega) (x_isWithin _ _) rfl rfl (Nat.le_of_ble_eq_true rfl) ?_
      rintro _ μx ⟨rfl, hx⟩
      rw [hx]
      clear hx μx
      refine z_ne X_broke_d36 (tgt := 41) rfl (fun h36 => ?_) (fun h36 => ?_)
      · refine zb X_broke_s41 rfl ?_
        refine zcallV X_broke_d44 k10_247 (by omega) (x_refFor_4 (by omega)) rfl rfl rfl (Nat.le_of_ble_eq_true rfl) ?_
        rintro _ μx ⟨rfl, hx⟩
        rw [hx]
        clear hx μx
        refine zb X_broke_s47 rfl ?_
        refine z_eq X_broke_d51 (tgt := 59) rfl (fun h51 => ?_) (fun h51 => ?_)
        · have g1 : ¬ bE 17 μ ∧ bR 17 μ ∧ μ.1 17 2 = 1 := by
            by_cases z : bE 17 μ
            · rw [if_pos z] at h51; exact absurd h51 (by decide)
            · rw [if_neg z] at h51
              by_cases y : bR 17 μ ∧ μ.1 17 2 = 1
              · exact ⟨z, y⟩
              · rw [if_neg y] at h51; exact absurd h51 (by decide)
          have g2 : hHeld S 4 = 2 ∧ hSort S 4 = 1 := by
            rcases xs with z | z | z
            · exact absurd z.2.1 g1.1
            · exact absurd g1.2.1 z.2.2.1
            · exact And.intro z.1 (z.2.2.2.1.symm.trans g1.2.2)
          obtain ⟨m, hm, em, hrow⟩ : ∃ m, m ≤ 60 ∧ hSize S 4 = nI m ∧ (∀ i, i < 60 → (hInt S 4 i).toInt64 = hCell S 4 i) := by
            rcases hok 4 (by omega) with z | z | z
            · rw [g2.1] at z; exact absurd z (by decide)
            · rw [g2.1] at z; exact absurd z.1 (by decide)
            · obtain ⟨m, h1, h2⟩ := z.2.2.1
              exact ⟨m, h1, h2, z.2.2.2 g2.2⟩
          have hszS : μ.1 17 3 = nI m := (xS_hz (s := 4) hS (by omega) g2.1).trans em
          have hceS : ∀ t, t < 60 → (μ.2.1 23 t).toInt32 = hInt S 4 t := xS_hc (s := 4) hS (by omega)
          have q1 : isB S.1 b := zB_ne0.mp h20
          have q2 : tim dh := zB_ne0.mp h27
          have q3 : 0 ≤ w ∧ w ≤ 1 := zB_ne0.mp h36
          obtain ⟨b, hbB, rfl, eb⟩ := zix q1.1 q1.2 (by omega)
          obtain ⟨D, hD, eD⟩ := nI_of2 (M := 998) (n := 998) rfl (Int32.not_lt.mpr (tim_nn q2)) q2.2.1
          refine zb2 X_broke_s59 rfl (by decide) (by decide) ?_
          rw [show dh - dh / 100 * 100 = hro dh from rfl, eD]
          refine zcallV X_broke_d76 k10_257 (by omega) (x_since_4 (h := hro dh) hm hszS hceS hF hbB hD (by omega) ho) rfl rfl rfl (Nat.le_of_ble_eq_true rfl) ?_
          rintro _ μ1 ⟨rfl, hz1⟩
          replace hz := hz.tr hz1
          replace ho := ho.q hz1
          clear hz1
          refine z_ret X_broke_d79 rfl ?_
          refine ⟨congrArg (fun z => some (Value.int z)) ?_, hz⟩
          unfold opBroke
          rw [show (nI 4).toNatClampNeg = 4 from rfl]
          first
            | rw [if_neg (fun z => (show ¬ isB S.1 b from zB_eq0.mp h20) z.2.1)]
            | rw [if_neg (fun z => (show ¬ tim dh from zB_eq0.mp h27) z.2.2.1)]
            | rw [if_neg (fun z => (show ¬ (0 ≤ w ∧ w ≤ 1) from zB_eq0.mp h36) z.2.2.2)]
            | (rw [if_pos (And.intro (And.intro (by decide) (by decide)) (And.intro q1 (And.intro q2 q3)))]
               unfold barW
               rw [if_neg (show ¬ hHeld S 4 = 0 by rw [g2.1]; decide), if_pos g2, em, nI_clamp (show m < 2 ^ 31 by omega), eb, eD, nI_clamp (show D < 2 ^ 31 by omega)])
            | (rw [if_pos (And.intro (And.intro (by decide) (by decide)) (And.intro (show isB S.1 b from zB_ne0.mp h20) (And.intro (show tim dh from zB_ne0.mp h27) (show 0 ≤ w ∧ w ≤ 1 from zB_ne0.mp h36))))]
               unfold barW
               by_cases z : bE 17 μ
               · rw [if_pos z]
                 rcases xs with y | y | y
                 · rw [if_pos y.1]
                 · exact absurd z y.2.1
                 · exact absurd z y.2.1
               · rw [if_neg z]
                 rw [if_neg z] at h51
                 by_cases u : bR 17 μ ∧ μ.1 17 2 = 1
                 · rw [if_pos u] at h51; exact absurd rfl h51
                 · rw [if_neg u]
                   rcases xs with y | y | y
                   · exact absurd y.2.1 z
                   · rw [y.1, if_neg (by decide), if_neg (fun v => absurd v.1 (by decide))]
                   · rw [y.1, if_neg (by decide), if_neg (fun v => u ⟨y.2.2.1, y.2.2.2.1.trans v.2⟩)])
        · refine zb X_broke_s54 rfl ?_
          refine z_ret X_broke_d79 rfl ?_
          refine ⟨congrArg (fun z => some (Value.int z)) ?_, hz⟩
          unfold opBroke
          rw [show (nI 4).toNatClampNeg = 4 from rfl]
          first
            | rw [if_neg (fun z => (show ¬ isB S.1 b from zB_eq0.mp h20) z.2.1)]
            | rw [if_neg (fun z => (show ¬ tim dh from zB_eq0.mp h27) z.2.2.1)]
            | rw [if_neg (fun z => (show ¬ (0 ≤ w ∧ w ≤ 1) from zB_eq0.mp h36) z.2.2.2)]
            | (rw [if_pos (And.intro (And.intro (by decide) (by decide)) (And.intro q1 (And.intro q2 q3)))]
               unfold barW
               rw [if_neg (show ¬ hHeld S 4 = 0 by rw [g2.1]; decide), if_pos g2, em, nI_clamp (show m < 2 ^ 31 by omega), eb, eD, nI_clamp (show D < 2 ^ 31 by omega)])
            | (rw [if_pos (And.intro (And.intro (by decide) (by decide)) (And.intro (show isB S.1 b from zB_ne0.mp h20) (And.intro (show tim dh from zB_ne0.mp h27) (show 0 ≤ w ∧ w ≤ 1 from zB_ne0.mp h36))))]
               unfold barW
               by_cases z : bE 17 μ
               · rw [if_pos z]
                 rcases xs with y | y | y
                 · rw [if_pos y.1]
                 · exact absurd z y.2.1
                 · exact absurd z y.2.1
               · rw [if_neg z]
                 rw [if_neg z] at h51
                 by_cases u : bR 17 μ ∧ μ.1 17 2 = 1
                 · rw [if_pos u] at h51; exact absurd rfl h51
                 · rw [if_neg u]
                   rcases xs with y | y | y
                   · exact absurd y.2.1 z
                   · rw [y.1, if_neg (by decide), if_neg (fun v => absurd v.1 (by decide))]
                   · rw [y.1, if_neg (by decide), if_neg (fun v => u ⟨y.2.2.1, y.2.2.2.1.trans v.2⟩)])
      · refine zb X_broke_s39 rfl ?_
        refine z_ret X_broke_d40 rfl ?_
        refine ⟨congrArg (fun z => some (Value.int z)) ?_, hz⟩
        unfold opBroke
        rw [show (nI 4).toNatClampNeg = 4 from rfl]
        first
          | rw [if_neg (fun z => (show ¬ isB S.1 b from zB_eq0.mp h20) z.2.1)]
          | rw [if_neg (fun z => (show ¬ tim dh from zB_eq0.mp h27) z.2.2.1)]
          | rw [if_neg (fun z => (show ¬ (0 ≤ w ∧ w ≤ 1) from zB_eq0.mp h36) z.2.2.2)]
          | (rw [if_pos (And.intro (And.intro (by decide) (by decide)) (And.intro q1 (And.intro q2 q3)))]
             unfold barW
             rw [if_neg (show ¬ hHeld S 4 = 0 by rw [g2.1]; decide), if_pos g2, em, nI_clamp (show m < 2 ^ 31 by omega), eb, eD, nI_clamp (show D < 2 ^ 31 by omega)])
          | (rw [if_pos (And.intro (And.intro (by decide) (by decide)) (And.intro (show isB S.1 b from zB_ne0.mp h20) (And.intro (show tim dh from zB_ne0.mp h27) (show 0 ≤ w ∧ w ≤ 1 from zB_ne0.mp h36))))]
             unfold barW
             by_cases z : bE 17 μ
             · rw [if_pos z]
               rcases xs with y | y | y
               · rw [if_pos y.1]
               · exact absurd z y.2.1
               · exact absurd z y.2.1
             · rw [if_neg z]
               rw [if_neg z] at h51
               by_cases u : bR 17 μ ∧ μ.1 17 2 = 1
               · rw [if_pos u] at h51; exact absurd rfl h51
               · rw [if_neg u]
                 rcases xs with y | y | y
                 · exact absurd y.2.1 z
                 · rw [y.1, if_neg (by decide), if_neg (fun v => absurd v.1 (by decide))]
                 · rw [y.1, if_neg (by decide), if_neg (fun v => u ⟨y.2.2.1, y.2.2.2.1.trans v.2⟩)])

set_option maxRecDepth 100000 in
set_option maxHeartbeats 4000000 in
theorem xs_broke_5 {g : zG} {d : Nat} {S : zS} {μ : zMem} {b dh w : Int32} (hF : okF S.1) (hd9 : 9 ≤ d) (hS : xS S μ) (hok : okH S) : zM g d X_broke [.ref 1, .int (nI 5), .int b, .int dh, .int w] μ (fun r μ' => r = some (.int (opBroke S (nI 5) b dh w)) ∧ zq sX μ μ') := by
  refine zM_of (by decide +kernel) rfl rfl (Nat.le_of_ble_eq_true rfl) rfl ?_
  obtain ⟨ho, h2, hT, hC, hD, hI, hA, hH⟩ := hS
  have hS : xS S μ := ⟨ho, h2, hT, hC, hD, hI, hA, hH⟩
  have hb := ho.b
  have hv := ho.v
  have hB6 := ho.b6
  have hV12 := ho.v12
  have hz : zq sX μ μ := zq.rf
  have xs := xsh (s := 5) hS hok (by omega)
  have hF9 := hF
  refine zb X_broke_s0 rfl ?_
  refine zcallV X_broke_d2 k10_93 (by omega) (x_shelf_5 (by omega)) rfl rfl rfl (Nat.le_of_ble_eq_true rfl) ?_
  rintro _ μx ⟨rfl, hx⟩
  rw [hx]
  clear hx μx
  refine zb X_broke_s5 rfl ?_
  refine z_null X_broke_d9 ?_
  refine zb X_broke_s12 rfl ?_
  refine zcallV X_broke_d17 k10_167 (by omega) (x_hasBell _ ho) rfl rfl rfl (Nat.le_of_ble_eq_true rfl) ?_
  rintro _ μx ⟨rfl, hx⟩
  rw [hx]
  clear hx μx
  refine z_eq X_broke_d20 (tgt := 39) rfl (fun h20 => ?_) (fun h20 => ?_)
  · refine zb X_broke_s39 rfl ?_
    refine z_ret X_broke_d40 rfl ?_
    refine ⟨congrArg (fun z => some (Value.int z)) ?_, hz⟩
    unfold opBroke
    rw [show (nI 5).toNatClampNeg = 5 from rfl]
    first
      | rw [if_neg (fun z => (show ¬ isB S.1 b from zB_eq0.mp h20) z.2.1)]
      | rw [if_neg (fun z => (show ¬ tim dh from zB_eq0.mp h27) z.2.2.1)]
      | rw [if_neg (fun z => (show ¬ (0 ≤ w ∧ w ≤ 1) from zB_eq0.mp h36) z.2.2.2)]
      | (rw [if_pos (And.intro (And.intro (by decide) (by decide)) (And.intro q1 (And.intro q2 q3)))]
         unfold barW
         rw [if_neg (show ¬ hHeld S 5 = 0 by rw [g2.1]; decide), if_pos g2, em, nI_clamp (show m < 2 ^ 31 by omega), eb, eD, nI_clamp (show D < 2 ^ 31 by omega)])
      | (rw [if_pos (And.intro (And.intro (by decide) (by decide)) (And.intro (show isB S.1 b from zB_ne0.mp h20) (And.intro (show tim dh from zB_ne0.mp h27) (show 0 ≤ w ∧ w ≤ 1 from zB_ne0.mp h36))))]
         unfold barW
         by_cases z : bE 18 μ
         · rw [if_pos z]
           rcases xs with y | y | y
           · rw [if_pos y.1]
           · exact absurd z y.2.1
           · exact absurd z y.2.1
         · rw [if_neg z]
           rw [if_neg z] at h51
           by_cases u : bR 18 μ ∧ μ.1 18 2 = 1
           · rw [if_pos u] at h51; exact absurd rfl h51
           · rw [if_neg u]
             rcases xs with y | y | y
             · exact absurd y.2.1 z
             · rw [y.1, if_neg (by decide), if_neg (fun v => absurd v.1 (by decide))]
             · rw [y.1, if_neg (by decide), if_neg (fun v => u ⟨y.2.2.1, y.2.2.2.1.trans v.2⟩)])
  · refine zb X_broke_s23 rfl ?_
    refine zcallS X_broke_d24 k10_160 (by omega) (x_isDayHour _) rfl rfl (Nat.le_of_ble_eq_true rfl) ?_
    rintro _ μx ⟨rfl, hx⟩
    rw [hx]
    clear hx μx
    refine z_eq X_broke_d27 (tgt := 39) rfl (fun h27 => ?_) (fun h27 => ?_)
    · refine zb X_broke_s39 rfl ?_
      refine z_ret X_broke_d40 rfl ?_
      refine ⟨congrArg (fun z => some (Value.int z)) ?_, hz⟩
      unfold opBroke
      rw [show (nI 5).toNatClampNeg = 5 from rfl]
      first
        | rw [if_neg (fun z => (show ¬ isB S.1 b from zB_eq0.mp h20) z.2.1)]
        | rw [if_neg (fun z => (show ¬ tim dh from zB_eq0.mp h27) z.2.2.1)]
        | rw [if_neg (fun z => (show ¬ (0 ≤ w ∧ w ≤ 1) from zB_eq0.mp h36) z.2.2.2)]
        | (rw [if_pos (And.intro (And.intro (by decide) (by decide)) (And.intro q1 (And.intro q2 q3)))]
           unfold barW
           rw [if_neg (show ¬ hHeld S 5 = 0 by rw [g2.1]; decide), if_pos g2, em, nI_clamp (show m < 2 ^ 31 by omega), eb, eD, nI_clamp (show D < 2 ^ 31 by omega)])
        | (rw [if_pos (And.intro (And.intro (by decide) (by decide)) (And.intro (show isB S.1 b from zB_ne0.mp h20) (And.intro (show tim dh from zB_ne0.mp h27) (show 0 ≤ w ∧ w ≤ 1 from zB_ne0.mp h36))))]
           unfold barW
           by_cases z : bE 18 μ
           · rw [if_pos z]
             rcases xs with y | y | y
             · rw [if_pos y.1]
             · exact absurd z y.2.1
             · exact absurd z y.2.1
           · rw [if_neg z]
             rw [if_neg z] at h51
             by_cases u : bR 18 μ ∧ μ.1 18 2 = 1
             · rw [if_pos u] at h51; exact absurd rfl h51
             · rw [if_neg u]
               rcases xs with y | y | y
               · exact absurd y.2.1 z
               · rw [y.1, if_neg (by decide), if_neg (fun v => absurd v.1 (by decide))]
               · rw [y.1, if_neg (by decide), if_neg (fun v => u ⟨y.2.2.1, y.2.2.2.1.trans v.2⟩)])
    · refine zb X_broke_s30 rfl ?_
      refine zcallS X_broke_d33 k10_170 (by omega) (x_isWithin _ _) rfl rfl (Nat.le_of_ble_eq_true rfl) ?_
      rintro _ μx ⟨rfl, hx⟩
      rw [hx]
      clear hx μx
      refine z_ne X_broke_d36 (tgt := 41) rfl (fun h36 => ?_) (fun h36 => ?_)
      · refine zb X_broke_s41 rfl ?_
        refine zcallV X_broke_d44 k10_247 (by omega) (x_refFor_5 (by omega)) rfl rfl rfl (Nat.le_of_ble_eq_true rfl) ?_
        rintro _ μx ⟨rfl, hx⟩
        rw [hx]
        clear hx μx
        refine zb X_broke_s47 rfl ?_
        refine z_eq X_broke_d51 (tgt := 59) rfl (fun h51 => ?_) (fun h51 => ?_)
        · have g1 : ¬ bE 18 μ ∧ bR 18 μ ∧ μ.1 18 2 = 1 := by
            by_cases z : bE 18 μ
            · rw [if_pos z] at h51; exact absurd h51 (by decide)
            · rw [if_neg z] at h51
              by_cases y : bR 18 μ ∧ μ.1 18 2 = 1
              · exact ⟨z, y⟩
              · rw [if_neg y] at h51; exact absurd h51 (by decide)
          have g2 : hHeld S 5 = 2 ∧ hSort S 5 = 1 := by
            rcases xs with z | z | z
            · exact absurd z.2.1 g1.1
            · exact absurd g1.2.1 z.2.2.1
            · exact And.intro z.1 (z.2.2.2.1.symm.trans g1.2.2)
          obtain ⟨m, hm, em, hrow⟩ : ∃ m, m ≤ 60 ∧ hSize S 5 = nI m ∧ (∀ i, i < 60 → (hInt S 5 i).toInt64 = hCell S 5 i) := by
            rcases hok 5 (by omega) with z | z | z
            · rw [g2.1] at z; exact absurd z (by decide)
            · rw [g2.1] at z; exact absurd z.1 (by decide)
            · obtain ⟨m, h1, h2⟩ := z.2.2.1
              exact ⟨m, h1, h2, z.2.2.2 g2.2⟩
          have hszS : μ.1 18 3 = nI m := (xS_hz (s := 5) hS (by omega) g2.1).trans em
          have hceS : ∀ t, t < 60 → (μ.2.1 24 t).toInt32 = hInt S 5 t := xS_hc (s := 5) hS (by omega)
          have q1 : isB S.1 b := zB_ne0.mp h20
          have q2 : tim dh := zB_ne0.mp h27
          have q3 : 0 ≤ w ∧ w ≤ 1 := zB_ne0.mp h36
          obtain ⟨b, hbB, rfl, eb⟩ := zix q1.1 q1.2 (by omega)
          obtain ⟨D, hD, eD⟩ := nI_of2 (M := 998) (n := 998) rfl (Int32.not_lt.mpr (tim_nn q2)) q2.2.1
          refine zb2 X_broke_s59 rfl (by decide) (by decide) ?_
          rw [show dh - dh / 100 * 100 = hro dh from rfl, eD]
          refine zcallV X_broke_d76 k10_257 (by omega) (x_since_5 (h := hro dh) hm hszS hceS hF hbB hD (by omega) ho) rfl rfl rfl (Nat.le_of_ble_eq_true rfl) ?_
          rintro _ μ1 ⟨rfl, hz1⟩
          replace hz := hz.tr hz1
          replace ho := ho.q hz1
          clear hz1
          refine z_ret X_broke_d79 rfl ?_
          refine ⟨congrArg (fun z => some (Value.int z)) ?_, hz⟩
          unfold opBroke
          rw [show (nI 5).toNatClampNeg = 5 from rfl]
          first
            | rw [if_neg (fun z => (show ¬ isB S.1 b from zB_eq0.mp h20) z.2.1)]
            | rw [if_neg (fun z => (show ¬ tim dh from zB_eq0.mp h27) z.2.2.1)]
            | rw [if_neg (fun z => (show ¬ (0 ≤ w ∧ w ≤ 1) from zB_eq0.mp h36) z.2.2.2)]
            | (rw [if_pos (And.intro (And.intro (by decide) (by decide)) (And.intro q1 (And.intro q2 q3)))]
               unfold barW
               rw [if_neg (show ¬ hHeld S 5 = 0 by rw [g2.1]; decide), if_pos g2, em, nI_clamp (show m < 2 ^ 31 by omega), eb, eD, nI_clamp (show D < 2 ^ 31 by omega)])
            | (rw [if_pos (And.intro (And.intro (by decide) (by decide)) (And.intro (show isB S.1 b from zB_ne0.mp h20) (And.intro (show tim dh from zB_ne0.mp h27) (show 0 ≤ w ∧ w ≤ 1 from zB_ne0.mp h36))))]
               unfold barW
               by_cases z : bE 18 μ
               · rw [if_pos z]
                 rcases xs with y | y | y
                 · rw [if_pos y.1]
                 · exact absurd z y.2.1
                 · exact absurd z y.2.1
               · rw [if_neg z]
                 rw [if_neg z] at h51
                 by_cases u : bR 18 μ ∧ μ.1 18 2 = 1
                 · rw [if_pos u] at h51; exact absurd rfl h51
                 · rw [if_neg u]
                   rcases xs with y | y | y
                   · exact absurd y.2.1 z
                   · rw [y.1, if_neg (by decide), if_neg (fun v => absurd v.1 (by decide))]
                   · rw [y.1, if_neg (by decide), if_neg (fun v => u ⟨y.2.2.1, y.2.2.2.1.trans v.2⟩)])
        · refine zb X_broke_s54 rfl ?_
          refine z_ret X_broke_d79 rfl ?_
          refine ⟨congrArg (fun z => some (Value.int z)) ?_, hz⟩
          unfold opBroke
          rw [show (nI 5).toNatClampNeg = 5 from rfl]
          first
            | rw [if_neg (fun z => (show ¬ isB S.1 b from zB_eq0.mp h20) z.2.1)]
            | rw [if_neg (fun z => (show ¬ tim dh from zB_eq0.mp h27) z.2.2.1)]
            | rw [if_neg (fun z => (show ¬ (0 ≤ w ∧ w ≤ 1) from zB_eq0.mp h36) z.2.2.2)]
            | (rw [if_pos (And.intro (And.intro (by decide) (by decide)) (And.intro q1 (And.intro q2 q3)))]
               unfold barW
               rw [if_neg (show ¬ hHeld S 5 = 0 by rw [g2.1]; decide), if_pos g2, em, nI_clamp (show m < 2 ^ 31 by omega), eb, eD, nI_clamp (show D < 2 ^ 31 by omega)])
            | (rw [if_pos (And.intro (And.intro (by decide) (by decide)) (And.intro (show isB S.1 b from zB_ne0.mp h20) (And.intro (show tim dh from zB_ne0.mp h27) (show 0 ≤ w ∧ w ≤ 1 from zB_ne0.mp h36))))]
               unfold barW
               by_cases z : bE 18 μ
               · rw [if_pos z]
                 rcases xs with y | y | y
                 · rw [if_pos y.1]
                 · exact absurd z y.2.1
                 · exact absurd z y.2.1
               · rw [if_neg z]
                 rw [if_neg z] at h51
                 by_cases u : bR 18 μ ∧ μ.1 18 2 = 1
                 · rw [if_pos u] at h51; exact absurd rfl h51
                 · rw [if_neg u]
                   rcases xs with y | y | y
                   · exact absurd y.2.1 z
                   · rw [y.1, if_neg (by decide), if_neg (fun v => absurd v.1 (by decide))]
                   · rw [y.1, if_neg (by decide), if_neg (fun v => u ⟨y.2.2.1, y.2.2.2.1.trans v.2⟩)])
      · refine zb X_broke_s39 rfl ?_
        refine z_ret X_broke_d40 rfl ?_
        refine ⟨congrArg (fun z => some (Value.int z)) ?_, hz⟩
        unfold opBroke
        rw [show (nI 5).toNatClampNeg = 5 from rfl]
        first
          | rw [if_neg (fun z => (show ¬ isB S.1 b from zB_eq0.mp h20) z.2.1)]
          | rw [if_neg (fun z => (show ¬ tim dh from zB_eq0.mp h27) z.2.2.1)]
          | rw [if_neg (fun z => (show ¬ (0 ≤ w ∧ w ≤ 1) from zB_eq0.mp h36) z.2.2.2)]
          | (rw [if_pos (And.intro (And.intro (by decide) (by decide)) (And.intro q1 (And.intro q2 q3)))]
             unfold barW
             rw [if_neg (show ¬ hHeld S 5 = 0 by rw [g2.1]; decide), if_pos g2, em, nI_clamp (show m < 2 ^ 31 by omega), eb, eD, nI_clamp (show D < 2 ^ 31 by omega)])
          | (rw [if_pos (And.intro (And.intro (by decide) (by decide)) (And.intro (show isB S.1 b from zB_ne0.mp h20) (And.intro (show tim dh from zB_ne0.mp h27) (show 0 ≤ w ∧ w ≤ 1 from zB_ne0.mp h36))))]
             unfold barW
             by_cases z : bE 18 μ
             · rw [if_pos z]
               rcases xs with y | y | y
               · rw [if_pos y.1]
               · exact absurd z y.2.1
               · exact absurd z y.2.1
             · rw [if_neg z]
               rw [if_neg z] at h51
               by_cases u : bR 18 μ ∧ μ.1 18 2 = 1
               · rw [if_pos u] at h51; exact absurd rfl h51
               · rw [if_neg u]
                 rcases xs with y | y | y
                 · exact absurd y.2.1 z
                 · rw [y.1, if_neg (by decide), if_neg (fun v => absurd v.1 (by decide))]
                 · rw [y.1, if_neg (by decide), if_neg (fun v => u ⟨y.2.2.1, y.2.2.2.1.trans v.2⟩)])

set_option maxRecDepth 100000 in
set_option maxHeartbeats 4000000 in
theorem xs_broke_o {g : zG} {d : Nat} {S : zS} {μ : zMem} {s b dh w : Int32} (hd9 : 9 ≤ d) (hs : ¬ (0 ≤ s ∧ s ≤ 5)) : zM g d X_broke [.ref 1, .int s, .int b, .int dh, .int w] μ (fun r μ' => r = some (.int (opBroke S s b dh w)) ∧ zq sX μ μ') := by
  refine zM_of (by decide +kernel) rfl rfl (Nat.le_of_ble_eq_true rfl) rfl ?_
  refine zb X_broke_s0 rfl ?_
  refine zcallV X_broke_d2 k10_93 (by omega) (x_shelf_out (by omega) hs) rfl rfl rfl (Nat.le_of_ble_eq_true rfl) ?_
  rintro _ μx ⟨rfl, hx⟩
  rw [hx]
  clear hx μx
  refine zb X_broke_s5 rfl ?_
  refine z_nullN X_broke_d9 (tgt := 39) rfl ?_
  refine zb X_broke_s39 rfl ?_
  refine z_ret X_broke_d40 rfl ?_
  unfold opBroke
  rw [if_neg (fun z => hs (g6 z.1))]
  exact ⟨rfl, zq.rf⟩

theorem xs_broke {g : zG} {d : Nat} {S : zS} {μ : zMem} {s b dh w : Int32} (hF : okF S.1) (hd9 : 9 ≤ d) (hS : xS S μ) (hok : okH S) : zM g d X_broke [.ref 1, .int s, .int b, .int dh, .int w] μ (fun r μ' => r = some (.int (opBroke S s b dh w)) ∧ zq sX μ μ') := by
  by_cases hs : 0 ≤ s ∧ s ≤ 5
  · rcases s5 hs with rfl | rfl | rfl | rfl | rfl | rfl
    · exact xs_broke_0 hF hd9 hS hok
    · exact xs_broke_1 hF hd9 hS hok
    · exact xs_broke_2 hF hd9 hS hok
    · exact xs_broke_3 hF hd9 hS hok
    · exact xs_broke_4 hF hd9 hS hok
    · exact xs_broke_5 hF hd9 hS hok
  · exact xs_broke_o hd9 hs
