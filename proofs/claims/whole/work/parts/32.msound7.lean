/-! the reference: judging, since when, casting, exchanges -/
def barW (a b x : Int32) : Int32 := if a = 0 then -11 else if a = 2 ∧ b = 1 then x else -12
def judW (F : zF) (b D : Nat) (h : Int32) (c : Nat → Int32) (n : Nat) : Int32 := zfind (fun i => ¬ judP F b D h c i) 0 n
def fsb (F : zF) (v : Nat) (x : Int32) : zF := (F.1, F.2.1, F.2.2.1, fu (fbell F) v x, F.2.2.2.2)
def fsbr (F : zF) (v : Nat) (x : Int32) : zF := (F.1, ftone F, ftune F, fbell F, fwt F, fby F, fu (fbr F) v x, fag F, flaw F)
def fsag (F : zF) (v : Nat) (x : Int32) : zF := (F.1, ftone F, ftune F, fbell F, fwt F, fby F, fbr F, fu (fag F) v x, flaw F)
theorem fu_me (f : Nat → Int32) (v : Nat) : fu f v (f v) = f := by funext j; unfold fu; split <;> simp_all
theorem fu_2 (f : Nat → Int32) (v : Nat) (x y : Int32) : fu (fu f v x) v y = fu f v y := by funext j; unfold fu; split <;> simp_all
theorem fsb_2 (F : zF) (v : Nat) (x y : Int32) : fsb (fsb F v x) v y = fsb F v y := by unfold fsb fbell; dsimp only; rw [fu_2]
theorem fsb_me (F : zF) (v : Nat) : fsb F v (fbell F v) = F := by unfold fsb; rw [fu_me]; rfl
theorem fsbr_2 (F : zF) (v : Nat) (x y : Int32) : fsbr (fsbr F v x) v y = fsbr F v y := by unfold fsbr fbr; dsimp only; rw [fu_2]; rfl
theorem fsbr_me (F : zF) (v : Nat) : fsbr F v (fbr F v) = F := by unfold fsbr; rw [fu_me]; rfl
theorem fsag_me (F : zF) (v : Nat) : fsag F v (fag F v) = F := by unfold fsag; rw [fu_me]; rfl
section OMP
variable {F : zF} {μ μ0 : zMem} {v : Nat} {x : Int32}
theorem oM.p27 (h : oM F μ) : oM (fsb F v x) (zpI μ 27 v x) := ⟨h.1, by rw [← h.2]; rfl⟩
theorem oM.p30 (h : oM F μ) : oM (fsbr F v x) (zpI μ 30 v x) := ⟨h.1, by rw [← h.2]; rfl⟩
theorem oM.p31 (h : oM F μ) : oM (fsag F v x) (zpI μ 31 v x) := ⟨h.1, by rw [← h.2]; rfl⟩
theorem zpI_ne {c k c' : Nat} (h : c' ≠ c) : (zpI μ c k x).1 c' = μ.1 c' := by funext p; simp [zpI, zu, h]
theorem zq.w {m : Nat → Nat → Bool} {c k : Nat} (hm : m c k = true) : zq m μ (zpI μ c k x) := zq.rf.put hm
theorem zmem_ext {a b : zMem} (h : ∀ c k, a.1 c k = b.1 c k) (h2 : a.2 = b.2) : a = b := by
  obtain ⟨a1, a2⟩ := a
  obtain ⟨b1, b2⟩ := b
  have e : a1 = b1 := funext fun c => funext fun k => h c k
  subst e
  cases h2
  rfl
theorem zpI_2 {c k : Nat} {y : Int32} : zpI (zpI μ c k x) c k y = zpI μ c k y := by
  refine zmem_ext (fun c' k' => ?_) rfl
  simp only [zpI, zu]
  split <;> (try split) <;> simp_all
theorem zpI_me {c k : Nat} : zpI μ c k (μ.1 c k) = μ := by
  refine zmem_ext (fun c' k' => ?_) rfl
  simp only [zpI, zu]
  split <;> (try split) <;> simp_all
theorem zpI_sw {c k c' k' : Nat} {y : Int32} (h : c ≠ c' ∨ k ≠ k') : zpI (zpI μ c k x) c' k' y = zpI (zpI μ c' k' y) c k x := by
  refine zmem_ext (fun d j => ?_) rfl
  simp only [zpI, zu]
  by_cases a : d = c <;> by_cases b : d = c' <;> by_cases e : j = k <;> by_cases f : j = k' <;> simp_all
theorem zq.up {m : Nat → Nat → Bool} (h : zq m μ0 μ) {c k : Nat} : zq m (zpI μ0 c k x) (zpI μ c k x) := by
  refine ⟨fun d j hm => ?_, h.2⟩
  have := h.1 d j hm
  simp only [zpI, zu]
  split <;> (try split) <;> simp_all
end OMP
def beT (F : zF) (b D : Nat) (h : Int32) (v i : Nat) : Int32 := if D + i ≤ 998 then offs F (nI b) (nI (D + i)) h - pu F v (nI b) (nI (D + i)) h else 0
abbrev soB (F : zF) (b D : Nat) (h : Int32) (v : Nat) (c bs : Nat → Int32) (n : Nat) : Prop := ∀ i, i < n → D + i ≤ 998 ∧ ftone F b + bs i + pu F v (nI b) (nI (D + i)) h = c i
abbrev soP (F : zF) (b D : Nat) (h : Int32) (v : Nat) (c : Nat → Int32) (n : Nat) (day : Nat) : Prop := soB (fsbr (fsag F v 999) v (nI day)) b D h v c (beT (fsag F v 999) b D h v) n
def brDay (F : zF) (b D : Nat) (h : Int32) (c : Nat → Int32) (n v : Nat) (day : Nat) (t : Int32 × Int32) : Int32 × Int32 := if soP F b D h v c n day then (if t.1 = -2 then 1000 * nI v + nI day else t.1, t.2 + 1) else t
def brV (F : zF) (b D : Nat) (h : Int32) (c : Nat → Int32) (n : Nat) (v : Nat) (t : Int32 × Int32) : Int32 × Int32 := if fbell F v = nI b then zfold (brDay F b D h c n v) 0 1000 t else t
def brS (F : zF) (b D : Nat) (h : Int32) (c : Nat → Int32) (n : Nat) : Int32 × Int32 := zfold (brV F b D h c n) 0 (fV F) (-2, 0)
def casSum (F : zF) (N : Nat) (h : Int32) : Int32 := zsum (fun day => manyOff F (nI day) h) (N + 1)
def casStep (F : zF) (v N : Nat) (h : Int32) (b : Nat) (t : Int32 × Int32) : Int32 × Int32 := if t.1 = -2 ∨ casSum (fsb F v (nI b)) N h < t.2 then (nI b, casSum (fsb F v (nI b)) N h) else t
def casS (F : zF) (v N : Nat) (h : Int32) : Int32 × Int32 := zfold (casStep F v N h) 0 (fB F) (-2, 0)
def prStep (F : zF) (day h : Int32) (a b : Nat) (t : Int32 × Int32) : Int32 × Int32 := if fbell F a = fbell F b then t else if manyOff (fsb (fsb F a (fbell F b)) b (fbell F a)) day h < t.2 then (20 * nI a + nI b, manyOff (fsb (fsb F a (fbell F b)) b (fbell F a)) day h) else t
def prA (F : zF) (day h : Int32) (a : Nat) (t : Int32 × Int32) : Int32 × Int32 := zfold (prStep F day h a) (a + 1) (fV F - (a + 1)) t
def sPairs (F : zF) (dh : Int32) : Int32 := if tim dh then (zfold (prA F (dh / 100) (hro dh)) 0 (fV F) (-2, manyOff F (dh / 100) (hro dh))).1 else -1

set_option maxRecDepth 100000 in
set_option maxHeartbeats 4000000 in
theorem w_M_judged {g : zG} {d : Nat} {F : zF} {μ0 : zMem} {s n b D : Nat} {c : Nat → Int32} {dh : Int32} (hb6 : b < 6) (hD : dh / 100 = nI D) (hD2 : D ≤ 998) (hd : 48 ≤ d) : ∀ (j i : Nat) (x5 : Option Value) (μ : zMem), i + j = n → oM F μ → zq sM μ0 μ → oR s n c μ → (zfind (fun i => ¬ judP F b D (hro dh) c i) i (n - i) = judW F b D (hro dh) c n) → zW g M_judged d 3 [some (.ref 0), some (.int (nI s)), some (.int (nI b)), some (.int dh), some (.int (nI i)), x5] [] μ (fun r μ' => r = some (.int (judW F b D (hro dh) c n)) ∧ zq sM μ0 μ') := by
  intro j
  induction j with
  | zero =>
    intro i x5 μ hi ho hz hr hv0
    have hs6 := hr.1
    have hn60 := hr.2.1
    have hsz := hr.2.2.1
    have hvs : vp_in (nI s) 6 := vp_in_nI (by omega) (by omega)
    have es : (nI s).toNatClampNeg = s := nI_clamp (by omega)
    have eb : (nI b).toNatClampNeg = b := nI_clamp (by omega)
    have hvb : vp_in (nI b) 6 := vp_in_nI (by omega) (by omega)
    have hi : n = i := by omega
    subst hi
    refine zb1 M_judged_s3 rfl hvs ?_
    refine z_cge M_judged_d11 (tgt := 68) rfl (fun h11 => ?_) (fun h11 => absurd (show μ.1 50 (nI s).toNatClampNeg ≤ nI n by rw [es, hsz]; exact Int32.le_refl _) h11)
    refine zb M_judged_s68 rfl ?_
    refine z_ret M_judged_d70 rfl ?_
    exact ⟨by rw [← hv0, Nat.sub_self]; rfl, hz⟩
  | succ j ih =>
    intro i x5 μ hi ho hz hr hv0
    have hs6 := hr.1
    have hn60 := hr.2.1
    have hsz := hr.2.2.1
    have hvs : vp_in (nI s) 6 := vp_in_nI (by omega) (by omega)
    have es : (nI s).toNatClampNeg = s := nI_clamp (by omega)
    have eb : (nI b).toNatClampNeg = b := nI_clamp (by omega)
    have hvb : vp_in (nI b) 6 := vp_in_nI (by omega) (by omega)
    have hilt : i < n := by omega
    have ei : (nI i).toNatClampNeg = i := nI_clamp (by omega)
    have hDi : dh / 100 + nI i = nI (D + i) := by rw [hD, nI_add]
    refine zb1 M_judged_s3 rfl (by first | exact hvs | exact hvb | decide | exact vp_in_nI (by omega) (by omega)) ?_
    refine z_cge M_judged_d11 (tgt := 68) rfl (fun h11 => absurd h11 (show ¬ μ.1 50 (nI s).toNatClampNeg ≤ nI i by rw [es, hsz]; exact nI_ge hilt (by omega))) (fun h11 => ?_)
    refine zb1 M_judged_s14 rfl (by first | exact hvs | exact hvb | decide | exact vp_in_nI (by omega) (by omega)) ?_
    refine z_cgt M_judged_d28 (tgt := 59) rfl (fun h28 => ?_) (fun h28 => ?_)
    · refine zb M_judged_s59 rfl ?_
      refine z_ret M_judged_d61 rfl ?_
      refine ⟨?_, hz⟩
      rw [← hv0, show n - i = (n - (i + 1)) + 1 by omega]
      simp only [zfind]
      first
        | rw [if_pos (fun z => h56 z.2)]
        | (rw [hDi] at h28
           rw [if_pos (fun z => by
             have h3 : nI 998 < nI (D + i) := h28
             rw [nI_ltI (by omega) (by omega)] at h3
             omega)])
    · rw [hDi] at h28
      replace h28 : ¬ nI 998 < nI (D + i) := h28
      rw [nI_ltI (by omega) (by omega)] at h28
      refine zb2 M_judged_s31 rfl (by first | exact hvs | exact hvb | decide | exact vp_in_nI (by omega) (by omega)) (by first | exact hvs | exact hvb | decide | exact vp_in_nI (by omega) (by omega)) ?_
      rw [ho.e25, eb, hDi]
      refine zcallV M_judged_d45 k11_264 (by omega) (o_offOf (by omega) ho) rfl rfl rfl (Nat.le_of_ble_eq_true rfl) ?_
      rintro _ μ1 ⟨rfl, hz1⟩
      replace hz := hz.tr hz1.gm
      replace ho := ho.q hz1.gm
      replace hr := hr.q hz1.gm
      clear hz1
      refine zb M_judged_s48 rfl ?_
      refine zcallV M_judged_d53 k11_127 (by omega) (o_intAt hr (by omega)) rfl rfl rfl (Nat.le_of_ble_eq_true rfl) ?_
      rintro _ μx ⟨rfl, hx⟩
      rw [hx]
      clear hx μx
      refine z_ceq M_judged_d56 (tgt := 62) rfl (fun h56 => ?_) (fun h56 => ?_)
      · refine zb M_judged_s62 rfl ?_
        rw [nI_1]
        refine ih (i + 1) _ _ (by omega) ho hz hr ?_
        rw [← hv0, show n - i = (n - (i + 1)) + 1 by omega]
        simp only [zfind]
        rw [if_neg (fun z => z ⟨by omega, h56⟩)]
      · refine zb M_judged_s59 rfl ?_
        refine z_ret M_judged_d61 rfl ?_
        refine ⟨?_, hz⟩
        rw [← hv0, show n - i = (n - (i + 1)) + 1 by omega]
        simp only [zfind]
        first
          | rw [if_pos (fun z => h56 z.2)]
          | (rw [hDi] at h28
             rw [if_pos (fun z => by
               have h3 : nI 998 < nI (D + i) := h28
               rw [nI_ltI (by omega) (by omega)] at h3
               omega)])

set_option maxRecDepth 100000 in
set_option maxHeartbeats 4000000 in
theorem o_judged {g : zG} {d : Nat} {F : zF} {μ : zMem} {s n b D : Nat} {c : Nat → Int32} {dh : Int32} (hb6 : b < 6) (hD : dh / 100 = nI D) (hD2 : D ≤ 998) (hd : 48 ≤ d) (ho : oM F μ) (hr : oR s n c μ) : zM g d M_judged [.ref 0, .int (nI s), .int (nI b), .int dh] μ (fun r μ' => r = some (.int (judW F b D (hro dh) c n)) ∧ zq sM μ μ') := by
  refine zM_of (by decide +kernel) rfl rfl (Nat.le_of_ble_eq_true rfl) rfl ?_
  refine zb M_judged_s0 rfl ?_
  exact w_M_judged hb6 hD hD2 hd n 0 _ μ (by omega) ho zq.rf hr rfl

set_option maxRecDepth 100000 in
set_option maxHeartbeats 4000000 in
theorem o_judge {g : zG} {d n : Nat} {F : zF} {μ : zMem} {c : Nat → Int32} {s b dh : Int32} (hd : 49 ≤ d) (ho : oM F μ) (hR : ∀ q, q < 6 → s = nI q → μ.1 48 q = 2 → oR q n c μ) : zM g d M_judge [.ref 0, .int s, .int b, .int dh] μ (fun r μ' => r = some (.int (if (0 ≤ s ∧ s < 6) ∧ isB F b ∧ tim dh then barW (μ.1 48 s.toNatClampNeg) (μ.1 49 s.toNatClampNeg) (judW F b.toNatClampNeg (dh / 100).toNatClampNeg (hro dh) c n) else -1)) ∧ zq sM μ μ') := by
  refine zM_of (by decide +kernel) rfl rfl (Nat.le_of_ble_eq_true rfl) rfl ?_
  have hz : zq sM μ μ := zq.rf
  have h12 := ho.v12
  have h6 := ho.b6
  refine zb M_judge_s0 rfl ?_
  refine zcallV M_judge_d2 k11_124 (by omega) (o_isShelf _) rfl rfl rfl (Nat.le_of_ble_eq_true rfl) ?_
  rintro _ μx ⟨rfl, hx⟩
  rw [hx]
  clear hx μx
  refine z_eq M_judge_d5 (tgt := 24) rfl (fun h5 => ?_) (fun h5 => ?_)
  · refine zb M_judge_s24 rfl ?_
    refine z_ret M_judge_d25 rfl ?_
    first
      | exact ⟨by rw [if_neg (fun z => (zB_eq0.mp h5) z.1)], hz⟩
      | exact ⟨by rw [if_neg (fun z => (zB_eq0.mp h13) z.2.1)], hz⟩
      | exact ⟨by rw [if_neg (fun z => (zB_eq0.mp h21) z.2.2)], hz⟩
      | exact ⟨rfl, hz⟩
      | (refine ⟨?_, hz⟩
         by_cases z : μ.1 48 q = 0
         · rw [if_pos z, if_pos z]
         · rw [if_neg z, if_neg z]
           by_cases y : μ.1 48 q = 2 ∧ μ.1 49 q = 1
           · exact absurd (by rw [if_neg z, if_pos y]) h31
           · rw [if_neg y, if_neg y])
  · refine zb M_judge_s8 rfl ?_
    refine zcallV M_judge_d10 k11_116 (by omega) (c_M_isBell _) rfl rfl rfl (Nat.le_of_ble_eq_true rfl) ?_
    rintro _ μx ⟨rfl, hx⟩
    rw [hx]
    clear hx μx
    rw [ho.b]
    refine z_eq M_judge_d13 (tgt := 24) rfl (fun h13 => ?_) (fun h13 => ?_)
    · refine zb M_judge_s24 rfl ?_
      refine z_ret M_judge_d25 rfl ?_
      first
        | exact ⟨by rw [if_neg (fun z => (zB_eq0.mp h5) z.1)], hz⟩
        | exact ⟨by rw [if_neg (fun z => (zB_eq0.mp h13) z.2.1)], hz⟩
        | exact ⟨by rw [if_neg (fun z => (zB_eq0.mp h21) z.2.2)], hz⟩
        | exact ⟨rfl, hz⟩
        | (refine ⟨?_, hz⟩
           by_cases z : μ.1 48 q = 0
           · rw [if_pos z, if_pos z]
           · rw [if_neg z, if_neg z]
             by_cases y : μ.1 48 q = 2 ∧ μ.1 49 q = 1
             · exact absurd (by rw [if_neg z, if_pos y]) h31
             · rw [if_neg y, if_neg y])
    · refine zb M_judge_s16 rfl ?_
      refine zcallV M_judge_d18 k11_256 (by omega) (c_M_isTime _) rfl rfl rfl (Nat.le_of_ble_eq_true rfl) ?_
      rintro _ μx ⟨rfl, hx⟩
      rw [hx]
      clear hx μx
      refine z_ne M_judge_d21 (tgt := 26) rfl (fun h21 => ?_) (fun h21 => ?_)
      · have g1 := zB_ne0.mp h5
        obtain ⟨q, hs6, rfl, es⟩ := zix (n := 6) g1.1 g1.2 (by omega)
        have g3 := zB_ne0.mp h13
        obtain ⟨b, hb, rfl, eb⟩ := zix g3.1 g3.2 (by omega)
        have g4 := zB_ne0.mp h21
        obtain ⟨e, he, eq⟩ := nI_of (Int32.not_lt.mpr g4.1)
        have hD : dh / 100 = nI (e / 100) := by rw [eq]; exact pk_div (d := 100) he (by omega) (by omega)
        have hD2 : e / 100 ≤ 998 := by
          have := g4.2.1
          rw [hD] at this
          exact (nI_leI (b := 998) (by omega) (by omega)).mp this
        have ed : (dh / 100).toNatClampNeg = e / 100 := by rw [hD, nI_clamp (by omega)]
        rw [if_pos ⟨g1, g3, g4⟩, es, eb, ed]
        unfold barW
        refine zb M_judge_s26 rfl ?_
        refine zcallV M_judge_d28 k11_319 (by omega) (o_barsOf hs6) rfl rfl rfl (Nat.le_of_ble_eq_true rfl) ?_
        rintro _ μx ⟨rfl, hx⟩
        rw [hx]
        clear hx μx
        refine z_eq M_judge_d31 (tgt := 42) rfl (fun h31 => ?_) (fun h31 => ?_)
        · have g2 : ¬ μ.1 48 q = 0 ∧ (μ.1 48 q = 2 ∧ μ.1 49 q = 1) := by
            by_cases z : μ.1 48 q = 0
            · rw [if_pos z] at h31; exact absurd h31 (by decide)
            · rw [if_neg z] at h31
              by_cases y : μ.1 48 q = 2 ∧ μ.1 49 q = 1
              · exact ⟨z, y⟩
              · rw [if_neg y] at h31; exact absurd h31 (by decide)
          rw [if_neg g2.1, if_pos g2.2]
          have hr := hR q hs6 rfl g2.2.1
          refine zb M_judge_s42 rfl ?_
          refine zcallV M_judge_d46 k11_325 (by omega) (o_judged (by omega) hD hD2 (by omega) ho hr) rfl rfl rfl (Nat.le_of_ble_eq_true rfl) ?_
          rintro _ μ1 ⟨rfl, hz1⟩
          replace hz := hz.tr hz1
          refine z_ret M_judge_d49 rfl ?_
          first
            | exact ⟨by rw [if_neg (fun z => (zB_eq0.mp h5) z.1)], hz⟩
            | exact ⟨by rw [if_neg (fun z => (zB_eq0.mp h13) z.2.1)], hz⟩
            | exact ⟨by rw [if_neg (fun z => (zB_eq0.mp h21) z.2.2)], hz⟩
            | exact ⟨rfl, hz⟩
            | (refine ⟨?_, hz⟩
               by_cases z : μ.1 48 q = 0
               · rw [if_pos z, if_pos z]
               · rw [if_neg z, if_neg z]
                 by_cases y : μ.1 48 q = 2 ∧ μ.1 49 q = 1
                 · exact absurd (by rw [if_neg z, if_pos y]) h31
                 · rw [if_neg y, if_neg y])
        · refine zb M_judge_s34 rfl ?_
          refine zcallV M_judge_d36 k11_319 (by omega) (o_barsOf hs6) rfl rfl rfl (Nat.le_of_ble_eq_true rfl) ?_
          rintro _ μx ⟨rfl, hx⟩
          rw [hx]
          clear hx μx
          refine zb M_judge_s39 rfl ?_
          refine z_ret M_judge_d49 rfl ?_
          first
            | exact ⟨by rw [if_neg (fun z => (zB_eq0.mp h5) z.1)], hz⟩
            | exact ⟨by rw [if_neg (fun z => (zB_eq0.mp h13) z.2.1)], hz⟩
            | exact ⟨by rw [if_neg (fun z => (zB_eq0.mp h21) z.2.2)], hz⟩
            | exact ⟨rfl, hz⟩
            | (refine ⟨?_, hz⟩
               by_cases z : μ.1 48 q = 0
               · rw [if_pos z, if_pos z]
               · rw [if_neg z, if_neg z]
                 by_cases y : μ.1 48 q = 2 ∧ μ.1 49 q = 1
                 · exact absurd (by rw [if_neg z, if_pos y]) h31
                 · rw [if_neg y, if_neg y])
      · refine zb M_judge_s24 rfl ?_
        refine z_ret M_judge_d25 rfl ?_
        first
          | exact ⟨by rw [if_neg (fun z => (zB_eq0.mp h5) z.1)], hz⟩
          | exact ⟨by rw [if_neg (fun z => (zB_eq0.mp h13) z.2.1)], hz⟩
          | exact ⟨by rw [if_neg (fun z => (zB_eq0.mp h21) z.2.2)], hz⟩
          | exact ⟨rfl, hz⟩
          | (refine ⟨?_, hz⟩
             by_cases z : μ.1 48 q = 0
             · rw [if_pos z, if_pos z]
             · rw [if_neg z, if_neg z]
               by_cases y : μ.1 48 q = 2 ∧ μ.1 49 q = 1
               · exact absurd (by rw [if_neg z, if_pos y]) h31
               · rw [if_neg y, if_neg y])

set_option maxRecDepth 100000 in
set_option maxHeartbeats 4000000 in
theorem w_M_tells {g : zG} {d : Nat} {F : zF} {μ0 : zMem} {s n b D : Nat} {c : Nat → Int32} {dh : Int32} (hb6 : b < 6) (hD : dh / 100 = nI D) (hD2 : D ≤ 998) {v : Nat} (hv12 : v < 12) (hd : 48 ≤ d) : ∀ (j i : Nat) (x6 : Option Value) (μ : zMem), i + j = n → oM F μ → zq sM μ0 μ → oR s n c μ → (∀ k, k < i → μ.1 42 k = beT F b D (hro dh) v k) → zW g M_tellsBeside d 3 [some (.ref 0), some (.int (nI s)), some (.int (nI b)), some (.int dh), some (.int (nI v)), some (.int (nI i)), x6] [] μ (fun r μ' => r = none ∧ zq sM μ0 μ' ∧ ∀ k, k < n → μ'.1 42 k = beT F b D (hro dh) v k) := by
  intro j
  induction j with
  | zero =>
    intro i x6 μ hi ho hz hr hv0
    have hs6 := hr.1
    have hn60 := hr.2.1
    have hsz := hr.2.2.1
    have hvs : vp_in (nI s) 6 := vp_in_nI (by omega) (by omega)
    have es : (nI s).toNatClampNeg = s := nI_clamp (by omega)
    have eb : (nI b).toNatClampNeg = b := nI_clamp (by omega)
    have hvb : vp_in (nI b) 6 := vp_in_nI (by omega) (by omega)
    have hi : n = i := by omega
    subst hi
    refine zb1 M_tellsBeside_s3 rfl hvs ?_
    refine z_cge M_tellsBeside_d11 (tgt := 73) rfl (fun h11 => ?_) (fun h11 => absurd (show μ.1 50 (nI s).toNatClampNeg ≤ nI n by rw [es, hsz]; exact Int32.le_refl _) h11)
    refine z_retV M_tellsBeside_d73 rfl ?_
    exact ⟨rfl, hz, hv0⟩
  | succ j ih =>
    intro i x6 μ hi ho hz hr hv0
    have hs6 := hr.1
    have hn60 := hr.2.1
    have hsz := hr.2.2.1
    have hvs : vp_in (nI s) 6 := vp_in_nI (by omega) (by omega)
    have es : (nI s).toNatClampNeg = s := nI_clamp (by omega)
    have eb : (nI b).toNatClampNeg = b := nI_clamp (by omega)
    have hvb : vp_in (nI b) 6 := vp_in_nI (by omega) (by omega)
    have hilt : i < n := by omega
    have ei : (nI i).toNatClampNeg = i := nI_clamp (by omega)
    have hDi : dh / 100 + nI i = nI (D + i) := by rw [hD, nI_add]
    refine zb1 M_tellsBeside_s3 rfl (by first | exact hvs | exact hvb | decide | exact vp_in_nI (by omega) (by omega)) ?_
    refine z_cge M_tellsBeside_d11 (tgt := 73) rfl (fun h11 => absurd h11 (show ¬ μ.1 50 (nI s).toNatClampNeg ≤ nI i by rw [es, hsz]; exact nI_ge hilt (by omega))) (fun h11 => ?_)
    refine zb1 M_tellsBeside_s14 rfl (by first | exact hvs | exact hvb | decide | exact vp_in_nI (by omega) (by omega)) ?_
    refine z_cle M_tellsBeside_d34 (tgt := 41) rfl (fun h34 => ?_) (fun h34 => ?_)
    · rw [hDi] at h34
      rw [hDi]
      replace h34 : nI (D + i) ≤ nI 998 := h34
      rw [nI_leI (by omega) (by omega)] at h34
      have hw : beT F b D (hro dh) v i = offs F (nI b) (nI (D + i)) (hro dh) - pu F v (nI b) (nI (D + i)) (hro dh) := if_pos h34
      refine zb1 M_tellsBeside_s41 rfl (by first | exact hvs | exact hvb | decide | exact vp_in_nI (by omega) (by omega)) ?_
      refine zcallV M_tellsBeside_d49 k11_264 (by omega) (o_offOf (by omega) ho) rfl rfl rfl (Nat.le_of_ble_eq_true rfl) ?_
      rintro _ μ1 ⟨rfl, hz1⟩
      replace hz := hz.tr hz1.gm
      replace ho := ho.q hz1.gm
      replace hr := hr.q hz1.gm
      replace hv0 : ∀ k, k < i → μ1.1 42 k = beT F b D (hro dh) v k := fun k hk => by rw [hz1.1 42 k rfl]; exact hv0 k hk
      clear hz1
      refine zb1 M_tellsBeside_s52 rfl (by first | exact hvs | exact hvb | decide | exact vp_in_nI (by omega) (by omega)) ?_
      refine zcallV M_tellsBeside_d62 k11_259 (by omega) (o_putsOn (by omega) (by omega) ho) rfl rfl rfl (Nat.le_of_ble_eq_true rfl) ?_
      rintro _ μ1 ⟨rfl, hz1⟩
      replace hz := hz.tr hz1.gm
      replace ho := ho.q hz1.gm
      replace hr := hr.q hz1.gm
      replace hv0 : ∀ k, k < i → μ1.1 42 k = beT F b D (hro dh) v k := fun k hk => by rw [hz1.1 42 k rfl]; exact hv0 k hk
      clear hz1
      refine zb1 M_tellsBeside_s65 rfl (by first | exact hvs | exact hvb | decide | exact vp_in_nI (by omega) (by omega)) ?_
      rw [nI_1, ei, ← hw]
      refine ih (i + 1) _ _ (by omega) (ho.q (zq.w rfl)) (hz.tr (zq.w rfl)) (hr.q (zq.w rfl)) (fun k hk => ?_)
      rw [zpI_at]
      by_cases y : k = i
      · rw [if_pos y, y]
      · rw [if_neg y]
        exact hv0 k (by omega)
    · rw [hDi] at h34
      rw [hDi]
      replace h34 : ¬ nI (D + i) ≤ nI 998 := h34
      rw [nI_leI (by omega) (by omega)] at h34
      have hw : beT F b D (hro dh) v i = 0 := if_neg h34
      refine zb1 M_tellsBeside_s37 rfl (by first | exact hvs | exact hvb | decide | exact vp_in_nI (by omega) (by omega)) ?_
      rw [nI_1, ei, ← hw]
      refine ih (i + 1) _ _ (by omega) (ho.q (zq.w rfl)) (hz.tr (zq.w rfl)) (hr.q (zq.w rfl)) (fun k hk => ?_)
      rw [zpI_at]
      by_cases y : k = i
      · rw [if_pos y, y]
      · rw [if_neg y]
        exact hv0 k (by omega)

set_option maxRecDepth 100000 in
set_option maxHeartbeats 4000000 in
theorem o_tells {g : zG} {d : Nat} {F : zF} {μ : zMem} {s n b D : Nat} {c : Nat → Int32} {dh : Int32} (hb6 : b < 6) (hD : dh / 100 = nI D) (hD2 : D ≤ 998) {v : Nat} (hv12 : v < 12) (hd : 48 ≤ d) (ho : oM F μ) (hr : oR s n c μ) : zM g d M_tellsBeside [.ref 0, .int (nI s), .int (nI b), .int dh, .int (nI v)] μ (fun r μ' => r = none ∧ zq sM μ μ' ∧ ∀ k, k < n → μ'.1 42 k = beT F b D (hro dh) v k) := by
  refine zM_of (by decide +kernel) rfl rfl (Nat.le_of_ble_eq_true rfl) rfl ?_
  refine zb M_tellsBeside_s0 rfl ?_
  exact w_M_tells hb6 hD hD2 hv12 hd n 0 _ μ (by omega) ho zq.rf hr (fun k hk => by omega)

set_option maxRecDepth 100000 in
set_option maxHeartbeats 4000000 in
theorem w_M_isSo {g : zG} {d : Nat} {F : zF} {μ0 : zMem} {s n b D : Nat} {c : Nat → Int32} {dh : Int32} (hb6 : b < 6) (hD : dh / 100 = nI D) (hD2 : D ≤ 998) {v : Nat} {bs : Nat → Int32} (hv12 : v < 12) (hd : 47 ≤ d) : ∀ (j i : Nat) (x6 : Option Value) (μ : zMem), i + j = n → oM F μ → zq sG μ0 μ → oR s n c μ → (∀ k, k < n → μ.1 42 k = bs k) → (∀ k, k < i → D + k ≤ 998 ∧ ftone F b + bs k + pu F v (nI b) (nI (D + k)) (hro dh) = c k) → zW g M_isSoWith d 3 [some (.ref 0), some (.int (nI s)), some (.int (nI b)), some (.int dh), some (.int (nI v)), some (.int (nI i)), x6] [] μ (fun r μ' => r = some (.int (zB (soB F b D (hro dh) v c bs n))) ∧ zq sG μ0 μ') := by
  intro j
  induction j with
  | zero =>
    intro i x6 μ hi ho hz hr hv0 hv1
    have hs6 := hr.1
    have hn60 := hr.2.1
    have hsz := hr.2.2.1
    have hvs : vp_in (nI s) 6 := vp_in_nI (by omega) (by omega)
    have es : (nI s).toNatClampNeg = s := nI_clamp (by omega)
    have eb : (nI b).toNatClampNeg = b := nI_clamp (by omega)
    have hvb : vp_in (nI b) 6 := vp_in_nI (by omega) (by omega)
    have hi : n = i := by omega
    subst hi
    refine zb1 M_isSoWith_s3 rfl hvs ?_
    refine z_cge M_isSoWith_d11 (tgt := 77) rfl (fun h11 => ?_) (fun h11 => absurd (show μ.1 50 (nI s).toNatClampNeg ≤ nI n by rw [es, hsz]; exact Int32.le_refl _) h11)
    refine zb M_isSoWith_s77 rfl ?_
    refine z_retZ M_isSoWith_d78 rfl (by first | exact Or.inl rfl | exact Or.inr rfl) ?_
    exact ⟨by rw [zB_t (by exact hv1)], hz⟩
  | succ j ih =>
    intro i x6 μ hi ho hz hr hv0 hv1
    have hs6 := hr.1
    have hn60 := hr.2.1
    have hsz := hr.2.2.1
    have hvs : vp_in (nI s) 6 := vp_in_nI (by omega) (by omega)
    have es : (nI s).toNatClampNeg = s := nI_clamp (by omega)
    have eb : (nI b).toNatClampNeg = b := nI_clamp (by omega)
    have hvb : vp_in (nI b) 6 := vp_in_nI (by omega) (by omega)
    have hilt : i < n := by omega
    have ei : (nI i).toNatClampNeg = i := nI_clamp (by omega)
    have hDi : dh / 100 + nI i = nI (D + i) := by rw [hD, nI_add]
    refine zb1 M_isSoWith_s3 rfl (by first | exact hvs | exact hvb | decide | exact vp_in_nI (by omega) (by omega)) ?_
    refine z_cge M_isSoWith_d11 (tgt := 77) rfl (fun h11 => absurd h11 (show ¬ μ.1 50 (nI s).toNatClampNeg ≤ nI i by rw [es, hsz]; exact nI_ge hilt (by omega))) (fun h11 => ?_)
    refine zb1 M_isSoWith_s14 rfl (by first | exact hvs | exact hvb | decide | exact vp_in_nI (by omega) (by omega)) ?_
    refine z_cgt M_isSoWith_d28 (tgt := 69) rfl (fun h28 => ?_) (fun h28 => ?_)
    · (try (rw [hDi] at h28))
      refine zb M_isSoWith_s69 rfl ?_
      refine z_retZ M_isSoWith_d70 rfl (by first | exact Or.inl rfl | exact Or.inr rfl) ?_
      first
        | exact ⟨by rw [zB_f (fun z => h66 (z i hilt).2)], hz⟩
        | exact ⟨by rw [zB_f (fun z => by
            have h3 : nI 998 < nI (D + i) := h28
            rw [nI_ltI (by omega) (by omega)] at h3
            have := (z i hilt).1
            omega)], hz⟩
    · rw [hDi] at h28
      replace h28 : ¬ nI 998 < nI (D + i) := h28
      rw [nI_ltI (by omega) (by omega)] at h28
      refine zb3 M_isSoWith_s31 rfl (by first | exact hvs | exact hvb | decide | exact vp_in_nI (by omega) (by omega)) (by first | exact hvs | exact hvb | decide | exact vp_in_nI (by omega) (by omega)) (by first | exact hvs | exact hvb | decide | exact vp_in_nI (by omega) (by omega)) ?_
      rw [ho.e25, eb, ei, hDi, hv0 i hilt]
      refine zcallV M_isSoWith_d55 k11_259 (by omega) (o_putsOn (by omega) (by omega) ho) rfl rfl rfl (Nat.le_of_ble_eq_true rfl) ?_
      rintro _ μ1 ⟨rfl, hz1⟩
      replace hz := hz.tr hz1
      replace ho := ho.q hz1.gm
      replace hr := hr.q hz1.gm
      replace hv0 : ∀ k, k < n → μ1.1 42 k = bs k := fun k hk => by rw [hz1.1 42 k rfl]; exact hv0 k hk
      clear hz1
      refine zb M_isSoWith_s58 rfl ?_
      refine zcallV M_isSoWith_d63 k11_127 (by omega) (o_intAt hr (by omega)) rfl rfl rfl (Nat.le_of_ble_eq_true rfl) ?_
      rintro _ μx ⟨rfl, hx⟩
      rw [hx]
      clear hx μx
      refine z_ceq M_isSoWith_d66 (tgt := 71) rfl (fun h66 => ?_) (fun h66 => ?_)
      · refine zb M_isSoWith_s71 rfl ?_
        rw [nI_1]
        refine ih (i + 1) _ _ (by omega) ho hz hr hv0 (fun k hk => ?_)
        rcases Nat.lt_or_ge k i with q | q
        · exact hv1 k q
        · rw [show k = i by omega]
          exact ⟨by omega, h66⟩
      · (try (rw [hDi] at h28))
        refine zb M_isSoWith_s69 rfl ?_
        refine z_retZ M_isSoWith_d70 rfl (by first | exact Or.inl rfl | exact Or.inr rfl) ?_
        first
          | exact ⟨by rw [zB_f (fun z => h66 (z i hilt).2)], hz⟩
          | exact ⟨by rw [zB_f (fun z => by
              have h3 : nI 998 < nI (D + i) := h28
              rw [nI_ltI (by omega) (by omega)] at h3
              have := (z i hilt).1
              omega)], hz⟩

set_option maxRecDepth 100000 in
set_option maxHeartbeats 4000000 in
theorem o_isSo {g : zG} {d : Nat} {F : zF} {μ : zMem} {s n b D : Nat} {c : Nat → Int32} {dh : Int32} (hb6 : b < 6) (hD : dh / 100 = nI D) (hD2 : D ≤ 998) {v : Nat} {bs : Nat → Int32} (hv12 : v < 12) (hd : 47 ≤ d) (ho : oM F μ) (hr : oR s n c μ) (hbs : ∀ k, k < n → μ.1 42 k = bs k) : zM g d M_isSoWith [.ref 0, .int (nI s), .int (nI b), .int dh, .int (nI v)] μ (fun r μ' => r = some (.int (zB (soB F b D (hro dh) v c bs n))) ∧ zq sG μ μ') := by
  refine zM_of (by decide +kernel) rfl rfl (Nat.le_of_ble_eq_true rfl) rfl ?_
  refine zb M_isSoWith_s0 rfl ?_
  exact w_M_isSo hb6 hD hD2 hv12 hd n 0 _ μ (by omega) ho zq.rf hr hbs (fun k hk => by omega)

theorem rest2 {μ0 : zMem} {v : Nat} {y : Int32} : zpI (zpI (zpI (zpI μ0 31 v 999) 30 v y) 30 v (μ0.1 30 v)) 31 v (μ0.1 31 v) = μ0 := by
  rw [zpI_2, zpI_sw (Or.inl (by decide)), zpI_2, zpI_sw (Or.inl (by decide)), zpI_me]
  exact zpI_me
theorem oM.rest {F : zF} {v : Nat} {y : Int32} {μ : zMem} (h : oM (fsbr (fsag F v 999) v y) μ) : oM F (zpI (zpI μ 30 v (fbr F v)) 31 v (fag F v)) := by
  have h1 := (h.p30 (v := v) (x := fbr F v)).p31 (v := v) (x := fag F v)
  have e : fsag (fsbr (fsbr (fsag F v 999) v y) v (fbr F v)) v (fag F v) = F := by
    rw [fsbr_2]
    unfold fsag fsbr fbr fag ftone ftune fbell fwt fby flaw
    dsimp only
    rw [fu_2, fu_me, fu_me]
  rw [e] at h1
  exact h1

set_option maxRecDepth 100000 in
set_option maxHeartbeats 4000000 in
theorem w_M_brday {g : zG} {d : Nat} {F : zF} {μ0 : zMem} {s n b D : Nat} {c : Nat → Int32} {dh : Int32} (hb6 : b < 6) (hD : dh / 100 = nI D) (hD2 : D ≤ 998) {v : Nat} {w : Int32} (hd : 49 ≤ d) (hv12 : v < 12) (h30 : μ0.1 30 v = fbr F v) (h31 : μ0.1 31 v = fag F v) {Q : Option Value → zMem → Prop} {t0 : Int32 × Int32} (hQ : ∀ (a5 a6 : Int32) (μ : zMem) (x8 x9 x10 : Option Value), oM F μ → zq sM μ0 μ → oR s n c μ → (a5, a6) = zfold (brDay F b D (hro dh) c n v) 0 1000 t0 → zW g M_broke d 61 [some (.ref 0), some (.int (nI s)), some (.int (nI b)), some (.int dh), some (.int w), some (.int a5), some (.int a6), some (.int (nI (v + 1))), x8, x9, x10] [] μ Q) : ∀ (j i : Nat) (a5 : Int32) (a6 : Int32) (y : Int32) (μ : zMem), i + j = 1000 → oM (fsbr (fsag F v 999) v y) μ → zq sM (zpI (zpI μ0 31 v 999) 30 v y) μ → oR s n c μ → (∀ k, k < n → μ.1 42 k = beT (fsag F v 999) b D (hro dh) v k) → ((a5, a6) = zfold (brDay F b D (hro dh) c n v) 0 i t0) → zW g M_broke d 124 [some (.ref 0), some (.int (nI s)), some (.int (nI b)), some (.int dh), some (.int w), some (.int a5), some (.int a6), some (.int (nI v)), some (.int (fbr F v)), some (.int (fag F v)), some (.int (nI i))] [] μ (Q) := by
  intro j
  induction j with
  | zero =>
    intro i a5 a6 y μ hi ho hz hr hv0 hv1
    have ev : (nI v).toNatClampNeg = v := nI_clamp (by omega)
    have hvv : vp_in (nI v) 12 := vp_in_nI (by omega) (by omega)
    have hi : 1000 = i := by omega
    subst hi
    refine zb M_broke_s124 rfl ?_
    refine z_cgt M_broke_d129 (tgt := 188) rfl (fun h129 => ?_) (fun h129 => absurd (show (999 : Int32) < nI 1000 by decide) h129)
    refine zb2 M_broke_s188 rfl hvv hvv ?_
    rw [nI_1, ev]
    have hz2 : zq sM μ0 (zpI (zpI μ 30 v (fbr F v)) 31 v (fag F v)) := by
      have := (hz.up (c := 30) (k := v) (x := fbr F v)).up (c := 31) (k := v) (x := fag F v)
      rw [← h30, ← h31, rest2] at this
      rw [← h30, ← h31]
      exact this
    exact hQ _ _ _ _ _ _ ho.rest hz2 ⟨hr.1, hr.2.1, hr.2.2.1, hr.2.2.2⟩ hv1
  | succ j ih =>
    intro i a5 a6 y μ hi ho hz hr hv0 hv1
    have ev : (nI v).toNatClampNeg = v := nI_clamp (by omega)
    have hvv : vp_in (nI v) 12 := vp_in_nI (by omega) (by omega)
    have hilt : i < 1000 := by omega
    have ei : (nI i).toNatClampNeg = i := nI_clamp (by omega)
    refine zb M_broke_s124 rfl ?_
    refine z_cgt M_broke_d129 (tgt := 188) rfl (fun h129 => absurd h129 (show ¬ (999 : Int32) < nI i from nI_nlt (a := 999) (by omega) (by omega))) (fun h129 => ?_)
    refine zb1 M_broke_s132 rfl hvv ?_
    rw [ev]
    have ho2 := ho.p30 (v := v) (x := nI i)
    rw [fsbr_2] at ho2
    have hz2 := hz.up (c := 30) (k := v) (x := nI i)
    rw [zpI_2] at hz2
    have hb2 : ∀ k, k < n → (zpI μ 30 v (nI i)).1 42 k = beT (fsag F v 999) b D (hro dh) v k := hv0
    have hr2 : oR s n c (zpI μ 30 v (nI i)) := ⟨hr.1, hr.2.1, hr.2.2.1, hr.2.2.2⟩
    refine zcallV M_broke_d147 k11_332 (by omega) (o_isSo hb6 hD hD2 hv12 (by omega) ho2 hr2 hb2) rfl rfl rfl (Nat.le_of_ble_eq_true rfl) ?_
    rintro _ μ1 ⟨rfl, hz1⟩
    replace hz := hz2.tr hz1.gm
    replace ho := ho2.q hz1.gm
    replace hr := hr2.q hz1.gm
    replace hv0 : ∀ k, k < n → μ1.1 42 k = beT (fsag F v 999) b D (hro dh) v k := fun k hk => by rw [hz1.1 42 k rfl]; exact hb2 k hk
    clear hz1 hz2 ho2 hr2 hb2
    refine z_ne M_broke_d150 (tgt := 156) rfl (fun h150 => ?_) (fun h150 => ?_)
    · refine zb M_broke_s156 rfl ?_
      refine z_cne M_broke_d160 (tgt := 175) rfl (fun h160 => ?_) (fun h160 => ?_)
      · refine zb M_broke_s175 rfl ?_
        rw [nI_1]
        refine ih (i + 1) _ _ _ _ (by omega) ho hz hr hv0 ?_
        rw [zf0, ← hv1]
        unfold brDay
        first
          | rw [if_neg (zB_eq0.mp h150)]
          | (rw [if_pos (zB_ne0.mp h150)]; dsimp only; rw [if_pos h160])
          | (rw [if_pos (zB_ne0.mp h150)]; dsimp only; rw [if_neg h160])
      · refine zb M_broke_s163 rfl ?_
        rw [nI_1]
        refine ih (i + 1) _ _ _ _ (by omega) ho hz hr hv0 ?_
        rw [zf0, ← hv1]
        unfold brDay
        first
          | rw [if_neg (zB_eq0.mp h150)]
          | (rw [if_pos (zB_ne0.mp h150)]; dsimp only; rw [if_pos h160])
          | (rw [if_pos (zB_ne0.mp h150)]; dsimp only; rw [if_neg h160])
    · refine zb M_broke_s153 rfl ?_
      rw [nI_1]
      refine ih (i + 1) _ _ _ _ (by omega) ho hz hr hv0 ?_
      rw [zf0, ← hv1]
      unfold brDay
      first
        | rw [if_neg (zB_eq0.mp h150)]
        | (rw [if_pos (zB_ne0.mp h150)]; dsimp only; rw [if_pos h160])
        | (rw [if_pos (zB_ne0.mp h150)]; dsimp only; rw [if_neg h160])

set_option maxRecDepth 100000 in
set_option maxHeartbeats 4000000 in
theorem w_M_broke {g : zG} {d : Nat} {F : zF} {μ0 : zMem} {s n b D : Nat} {c : Nat → Int32} {dh : Int32} (hb6 : b < 6) (hD : dh / 100 = nI D) (hD2 : D ≤ 998) {w : Int32} (hd : 50 ≤ d) : ∀ (j i : Nat) (a5 : Int32) (a6 : Int32) (x8 : Option Value) (x9 : Option Value) (x10 : Option Value) (μ : zMem), i + j = fV F → oM F μ → zq sM μ0 μ → oR s n c μ → ((a5, a6) = zfold (brV F b D (hro dh) c n) 0 i (-2, 0)) → zW g M_broke d 61 [some (.ref 0), some (.int (nI s)), some (.int (nI b)), some (.int dh), some (.int w), some (.int a5), some (.int a6), some (.int (nI i)), x8, x9, x10] [] μ (fun r μ' => r = some (.int (if w = 0 then (brS F b D (hro dh) c n).1 else (brS F b D (hro dh) c n).2)) ∧ zq sM μ0 μ') := by
  intro j
  induction j with
  | zero =>
    intro i a5 a6 x8 x9 x10 μ hi ho hz hr hv0
    have hbd := ho.v
    have h12 := ho.v12
    have h6 := ho.b6
    have hi : fV F = i := by omega
    subst hi
    refine zb M_broke_s61 rfl ?_
    refine z_cge M_broke_d67 (tgt := 212) rfl (fun h67 => ?_) (fun h67 => absurd (show μ.1 0 1 ≤ nI (fV F) by first | exact Int32.le_refl _ | (rw [hbd]; exact Int32.le_refl _)) h67)
    refine zb M_broke_s212 rfl ?_
    refine z_ne M_broke_d214 (tgt := 222) rfl (fun h214 => ?_) (fun h214 => ?_)
    · refine zb M_broke_s222 rfl ?_
      refine z_ret M_broke_d224 rfl ?_
      rw [show brS F b D (hro dh) c n = (a5, a6) from hv0.symm]
      first | exact ⟨by rw [if_pos h214], hz⟩ | exact ⟨by rw [if_neg h214], hz⟩
    · refine zb M_broke_s217 rfl ?_
      refine z_ret M_broke_d224 rfl ?_
      rw [show brS F b D (hro dh) c n = (a5, a6) from hv0.symm]
      first | exact ⟨by rw [if_pos h214], hz⟩ | exact ⟨by rw [if_neg h214], hz⟩
  | succ j ih =>
    intro i a5 a6 x8 x9 x10 μ hi ho hz hr hv0
    have hbd := ho.v
    have h12 := ho.v12
    have h6 := ho.b6
    have hilt : i < fV F := by omega
    have ei : (nI i).toNatClampNeg = i := nI_clamp (by omega)
    refine zb M_broke_s61 rfl ?_
    refine z_cge M_broke_d67 (tgt := 212) rfl (fun h67 => absurd h67 (show ¬ μ.1 0 1 ≤ nI i by first | exact nI_ge hilt (by omega) | (rw [hbd]; exact nI_ge hilt (by omega)))) (fun h67 => ?_)
    refine zb1 M_broke_s70 rfl (by first | assumption | exact vp_in_nI (by omega) (by omega) | decide) ?_
    refine z_ceq M_broke_d78 (tgt := 84) rfl (fun h78 => ?_) (fun h78 => ?_)
    · refine zb3 M_broke_s84 rfl (by first | assumption | exact vp_in_nI (by omega) (by omega) | decide) (by first | assumption | exact vp_in_nI (by omega) (by omega) | decide) (by first | assumption | exact vp_in_nI (by omega) (by omega) | decide) ?_
      rw [ho.e30, ho.e31, ei]
      have h30 : μ.1 30 i = fbr F i := by rw [ho.e30]
      have h31 : μ.1 31 i = fag F i := by rw [ho.e31]
      have hbe : fbell F i = nI b := by rw [ho.e27, ei] at h78; exact h78
      have hz2 : zq sM (zpI (zpI μ 31 i 999) 30 i (fbr F i)) (zpI μ 31 i 999) := by
        have e := zpI_me (μ := zpI μ 31 i 999) (c := 30) (k := i)
        have e2 : (zpI μ 31 i 999).1 30 i = fbr F i := h30
        rw [e2] at e
        rw [e]
        exact zq.rf
      have ho2 : oM (fsbr (fsag F i 999) i (fbr F i)) (zpI μ 31 i 999) := by
        rw [show fsbr (fsag F i 999) i (fbr F i) = fsag F i 999 from fsbr_me (fsag F i 999) i]
        exact ho.p31
      have hr2 : oR s n c (zpI μ 31 i 999) := ⟨hr.1, hr.2.1, hr.2.2.1, hr.2.2.2⟩
      refine zcallV M_broke_d118 k11_328 (by omega) (o_tells hb6 hD hD2 (by omega) (by omega) (show oM (fsag F i 999) _ from ho.p31) hr2) rfl rfl rfl (Nat.le_of_ble_eq_true rfl) ?_
      rintro _ μ1 ⟨rfl, hz1, hb1⟩
      replace hz2 := hz2.tr hz1
      replace ho2 := ho2.q hz1
      replace hr2 := hr2.q hz1
      clear hz1
      refine zb M_broke_s121 rfl ?_
      refine w_M_brday (v := i) (t0 := (a5, a6)) hb6 hD hD2 (by omega) (by omega) h30 h31 (fun b5 b6 μ2 y8 y9 y10 ho3 hz3 hr3 he => ih (i + 1) _ _ _ _ _ _ (by omega) ho3 (hz.tr hz3) hr3 ?_) 1000 0 _ _ _ _ (by omega) ho2 hz2 hr2 hb1 rfl
      rw [zf0, ← hv0]
      unfold brV
      rw [if_pos hbe]
      exact he
    · refine zb M_broke_s81 rfl ?_
      rw [nI_1]
      refine ih (i + 1) _ _ _ _ _ _ (by omega) ho hz hr ?_
      rw [zf0, ← hv0]
      unfold brV
      rw [if_neg (fun z => h78 (by rw [ho.e27, ei]; exact z))]

set_option maxRecDepth 100000 in
set_option maxHeartbeats 4000000 in
theorem o_broke {g : zG} {d n : Nat} {F : zF} {μ : zMem} {c : Nat → Int32} {s b dh w : Int32} (hd : 50 ≤ d) (ho : oM F μ) (hR : ∀ q, q < 6 → s = nI q → μ.1 48 q = 2 → oR q n c μ) : zM g d M_broke [.ref 0, .int s, .int b, .int dh, .int w] μ (fun r μ' => r = some (.int (if (0 ≤ s ∧ s < 6) ∧ isB F b ∧ tim dh ∧ (0 ≤ w ∧ w ≤ 1) then barW (μ.1 48 s.toNatClampNeg) (μ.1 49 s.toNatClampNeg) (if w = 0 then (brS F b.toNatClampNeg (dh / 100).toNatClampNeg (hro dh) c n).1 else (brS F b.toNatClampNeg (dh / 100).toNatClampNeg (hro dh) c n).2) else -1)) ∧ zq sM μ μ') := by
  refine zM_of (by decide +kernel) rfl rfl (Nat.le_of_ble_eq_true rfl) rfl ?_
  have hz : zq sM μ μ := zq.rf
  have h12 := ho.v12
  have h6 := ho.b6
  refine zb M_broke_s0 rfl ?_
  refine zcallV M_broke_d2 k11_124 (by omega) (o_isShelf _) rfl rfl rfl (Nat.le_of_ble_eq_true rfl) ?_
  rintro _ μx ⟨rfl, hx⟩
  rw [hx]
  clear hx μx
  refine z_eq M_broke_d5 (tgt := 35) rfl (fun h5 => ?_) (fun h5 => ?_)
  · refine zb M_broke_s35 rfl ?_
    refine z_ret M_broke_d36 rfl ?_
    first
      | exact ⟨by rw [if_neg (fun z => (zB_eq0.mp h5) z.1)], hz⟩
      | exact ⟨by rw [if_neg (fun z => (zB_eq0.mp h13) z.2.1)], hz⟩
      | exact ⟨by rw [if_neg (fun z => (zB_eq0.mp h21) z.2.2.1)], hz⟩
      | exact ⟨by rw [if_neg (fun z => (zB_eq0.mp h32) z.2.2.2)], hz⟩
      | (refine ⟨?_, hz⟩
         by_cases z : μ.1 48 q = 0
         · rw [if_pos z, if_pos z]
         · rw [if_neg z, if_neg z]
           by_cases y : μ.1 48 q = 2 ∧ μ.1 49 q = 1
           · exact absurd (by rw [if_neg z, if_pos y]) h42
           · rw [if_neg y, if_neg y])
  · refine zb M_broke_s8 rfl ?_
    refine zcallV M_broke_d10 k11_116 (by omega) (c_M_isBell _) rfl rfl rfl (Nat.le_of_ble_eq_true rfl) ?_
    rintro _ μx ⟨rfl, hx⟩
    rw [hx]
    clear hx μx
    rw [ho.b]
    refine z_eq M_broke_d13 (tgt := 35) rfl (fun h13 => ?_) (fun h13 => ?_)
    · refine zb M_broke_s35 rfl ?_
      refine z_ret M_broke_d36 rfl ?_
      first
        | exact ⟨by rw [if_neg (fun z => (zB_eq0.mp h5) z.1)], hz⟩
        | exact ⟨by rw [if_neg (fun z => (zB_eq0.mp h13) z.2.1)], hz⟩
        | exact ⟨by rw [if_neg (fun z => (zB_eq0.mp h21) z.2.2.1)], hz⟩
        | exact ⟨by rw [if_neg (fun z => (zB_eq0.mp h32) z.2.2.2)], hz⟩
        | (refine ⟨?_, hz⟩
           by_cases z : μ.1 48 q = 0
           · rw [if_pos z, if_pos z]
           · rw [if_neg z, if_neg z]
             by_cases y : μ.1 48 q = 2 ∧ μ.1 49 q = 1
             · exact absurd (by rw [if_neg z, if_pos y]) h42
             · rw [if_neg y, if_neg y])
    · refine zb M_broke_s16 rfl ?_
      refine zcallV M_broke_d18 k11_256 (by omega) (c_M_isTime _) rfl rfl rfl (Nat.le_of_ble_eq_true rfl) ?_
      rintro _ μx ⟨rfl, hx⟩
      rw [hx]
      clear hx μx
      refine z_eq M_broke_d21 (tgt := 35) rfl (fun h21 => ?_) (fun h21 => ?_)
      · refine zb M_broke_s35 rfl ?_
        refine z_ret M_broke_d36 rfl ?_
        first
          | exact ⟨by rw [if_neg (fun z => (zB_eq0.mp h5) z.1)], hz⟩
          | exact ⟨by rw [if_neg (fun z => (zB_eq0.mp h13) z.2.1)], hz⟩
          | exact ⟨by rw [if_neg (fun z => (zB_eq0.mp h21) z.2.2.1)], hz⟩
          | exact ⟨by rw [if_neg (fun z => (zB_eq0.mp h32) z.2.2.2)], hz⟩
          | (refine ⟨?_, hz⟩
             by_cases z : μ.1 48 q = 0
             · rw [if_pos z, if_pos z]
             · rw [if_neg z, if_neg z]
               by_cases y : μ.1 48 q = 2 ∧ μ.1 49 q = 1
               · exact absurd (by rw [if_neg z, if_pos y]) h42
               · rw [if_neg y, if_neg y])
      · refine zb M_broke_s24 rfl ?_
        refine zcallV M_broke_d29 k11_112 (by omega) (c_M_isIn _ _ _) rfl rfl rfl (Nat.le_of_ble_eq_true rfl) ?_
        rintro _ μx ⟨rfl, hx⟩
        rw [hx]
        clear hx μx
        refine z_ne M_broke_d32 (tgt := 37) rfl (fun h32 => ?_) (fun h32 => ?_)
        · have g1 := zB_ne0.mp h5
          obtain ⟨q, hs6, rfl, es⟩ := zix (n := 6) g1.1 g1.2 (by omega)
          have g3 := zB_ne0.mp h13
          obtain ⟨b, hb, rfl, eb⟩ := zix g3.1 g3.2 (by omega)
          have g4 := zB_ne0.mp h21
          obtain ⟨e, he, eq⟩ := nI_of (Int32.not_lt.mpr g4.1)
          have hD : dh / 100 = nI (e / 100) := by rw [eq]; exact pk_div (d := 100) he (by omega) (by omega)
          have hD2 : e / 100 ≤ 998 := by
            have := g4.2.1
            rw [hD] at this
            exact (nI_leI (b := 998) (by omega) (by omega)).mp this
          have ed : (dh / 100).toNatClampNeg = e / 100 := by rw [hD, nI_clamp (by omega)]
          rw [if_pos ⟨g1, g3, g4, zB_ne0.mp h32⟩, es, eb, ed]
          unfold barW
          refine zb M_broke_s37 rfl ?_
          refine zcallV M_broke_d39 k11_319 (by omega) (o_barsOf hs6) rfl rfl rfl (Nat.le_of_ble_eq_true rfl) ?_
          rintro _ μx ⟨rfl, hx⟩
          rw [hx]
          clear hx μx
          refine z_eq M_broke_d42 (tgt := 51) rfl (fun h42 => ?_) (fun h42 => ?_)
          · have g2 : ¬ μ.1 48 q = 0 ∧ (μ.1 48 q = 2 ∧ μ.1 49 q = 1) := by
              by_cases z : μ.1 48 q = 0
              · rw [if_pos z] at h42; exact absurd h42 (by decide)
              · rw [if_neg z] at h42
                by_cases y : μ.1 48 q = 2 ∧ μ.1 49 q = 1
                · exact ⟨z, y⟩
                · rw [if_neg y] at h42; exact absurd h42 (by decide)
            rw [if_neg g2.1, if_pos g2.2]
            have hr := hR q hs6 rfl g2.2.1
            refine zb M_broke_s51 rfl ?_
            exact w_M_broke (by omega) hD hD2 hd (fV F) 0 _ _ _ _ _ μ (by omega) ho hz hr rfl
          · refine zb M_broke_s45 rfl ?_
            refine zcallV M_broke_d47 k11_319 (by omega) (o_barsOf hs6) rfl rfl rfl (Nat.le_of_ble_eq_true rfl) ?_
            rintro _ μx ⟨rfl, hx⟩
            rw [hx]
            clear hx μx
            refine z_ret M_broke_d50 rfl ?_
            first
              | exact ⟨by rw [if_neg (fun z => (zB_eq0.mp h5) z.1)], hz⟩
              | exact ⟨by rw [if_neg (fun z => (zB_eq0.mp h13) z.2.1)], hz⟩
              | exact ⟨by rw [if_neg (fun z => (zB_eq0.mp h21) z.2.2.1)], hz⟩
              | exact ⟨by rw [if_neg (fun z => (zB_eq0.mp h32) z.2.2.2)], hz⟩
              | (refine ⟨?_, hz⟩
                 by_cases z : μ.1 48 q = 0
                 · rw [if_pos z, if_pos z]
                 · rw [if_neg z, if_neg z]
                   by_cases y : μ.1 48 q = 2 ∧ μ.1 49 q = 1
                   · exact absurd (by rw [if_neg z, if_pos y]) h42
                   · rw [if_neg y, if_neg y])
        · refine zb M_broke_s35 rfl ?_
          refine z_ret M_broke_d36 rfl ?_
          first
            | exact ⟨by rw [if_neg (fun z => (zB_eq0.mp h5) z.1)], hz⟩
            | exact ⟨by rw [if_neg (fun z => (zB_eq0.mp h13) z.2.1)], hz⟩
            | exact ⟨by rw [if_neg (fun z => (zB_eq0.mp h21) z.2.2.1)], hz⟩
            | exact ⟨by rw [if_neg (fun z => (zB_eq0.mp h32) z.2.2.2)], hz⟩
            | (refine ⟨?_, hz⟩
               by_cases z : μ.1 48 q = 0
               · rw [if_pos z, if_pos z]
               · rw [if_neg z, if_neg z]
                 by_cases y : μ.1 48 q = 2 ∧ μ.1 49 q = 1
                 · exact absurd (by rw [if_neg z, if_pos y]) h42
                 · rw [if_neg y, if_neg y])

set_option maxRecDepth 100000 in
set_option maxHeartbeats 4000000 in
theorem w_M_cast_d {g : zG} {d : Nat} {F : zF} {μ0 : zMem} {nh w : Int32} {N q b : Nat} {i4 i5 i6 : Int32} (hd : 49 ≤ d) (hN : nh / 100 = nI N) (hN2 : N ≤ 99) {Q : Option Value → zMem → Prop} (hQ : ∀ μ : zMem, oM F μ → zq sM μ0 μ → zW g M_cast d 113 [some (.ref 0), some (.int (nI q)), some (.int nh), some (.int w), some (.int i4), some (.int i5), some (.int i6), some (.int (nI b)), some (.int (casSum F N (hro nh))), some (.int (nI (N + 1)))] [] μ Q) : ∀ (j i : Nat) (a8 : Int32) (μ : zMem), i + j = N + 1 → oM F μ → zq sM μ0 μ → (a8 = zsum (fun day => manyOff F (nI day) (hro nh)) i) → zW g M_cast d 83 [some (.ref 0), some (.int (nI q)), some (.int nh), some (.int w), some (.int i4), some (.int i5), some (.int i6), some (.int (nI b)), some (.int a8), some (.int (nI i))] [] μ (Q) := by
  intro j
  induction j with
  | zero =>
    intro i a8 μ hi ho hz hv0
    have hi : N + 1 = i := by omega
    subst hi
    refine zb1 M_cast_s83 rfl (by decide) ?_
    refine z_cgt M_cast_d89 (tgt := 113) rfl (fun h89 => ?_) (fun h89 => absurd (show nh / 100 < nI (N + 1) by rw [hN]; exact nI_lt (by omega) (by omega)) h89)
    rw [hv0]
    exact hQ _ ho hz
  | succ j ih =>
    intro i a8 μ hi ho hz hv0
    have hilt : i < N + 1 := by omega
    have ei : (nI i).toNatClampNeg = i := nI_clamp (by omega)
    refine zb1 M_cast_s83 rfl (by decide) ?_
    refine z_cgt M_cast_d89 (tgt := 113) rfl (fun h89 => absurd h89 (show ¬ nh / 100 < nI i by rw [hN]; exact nI_nlt (by omega) (by omega))) (fun h89 => ?_)
    refine zb1 M_cast_s92 rfl (by decide) ?_
    refine zcallV M_cast_d101 k11_273 (by omega) (o_manyOff (by omega) ho) rfl rfl rfl (Nat.le_of_ble_eq_true rfl) ?_
    rintro _ μ1 ⟨rfl, hz1⟩
    replace hz := hz.tr hz1.gm
    replace ho := ho.q hz1.gm
    clear hz1
    refine zb M_cast_s104 rfl ?_
    rw [nI_1]
    exact ih (i + 1) _ _ (by omega) ho hz (by rw [zsum_s, ← hv0])

set_option maxRecDepth 100000 in
set_option maxHeartbeats 4000000 in
theorem w_M_cast {g : zG} {d : Nat} {F : zF} {μ0 : zMem} {nh w i4 : Int32} {N q : Nat} (hd : 49 ≤ d) (hN : nh / 100 = nI N) (hN2 : N ≤ 99) (hq : q < 12) (h4 : i4 = fbell F q) (h27 : μ0.1 27 q = fbell F q) : ∀ (j i : Nat) (a5 : Int32) (a6 : Int32) (y : Int32) (x8 : Option Value) (x9 : Option Value) (μ : zMem), i + j = fB F → oM (fsb F q y) μ → zq sM (zpI μ0 27 q y) μ → ((a5, a6) = zfold (casStep F q N (hro nh)) 0 i (-2, 0)) → zW g M_cast d 60 [some (.ref 0), some (.int (nI q)), some (.int nh), some (.int w), some (.int i4), some (.int a5), some (.int a6), some (.int (nI i)), x8, x9] [] μ (fun r μ' => r = some (.int (if w = 0 then (casS F q N (hro nh)).1 else (casS F q N (hro nh)).2)) ∧ zq sM μ0 μ') := by
  intro j
  induction j with
  | zero =>
    intro i a5 a6 y x8 x9 μ hi ho hz hv0
    have hbd := ho.b
    have h6 := ho.b6
    replace hbd : μ.1 0 0 = nI (fB F) := hbd
    replace h6 : fB F ≤ 6 := h6
    have eq : (nI q).toNatClampNeg = q := nI_clamp (by omega)
    have hvq : vp_in (nI q) 12 := vp_in_nI hq (by omega)
    have hi : fB F = i := by omega
    subst hi
    refine zb M_cast_s60 rfl ?_
    refine z_cge M_cast_d66 (tgt := 144) rfl (fun h66 => ?_) (fun h66 => absurd (show μ.1 0 0 ≤ nI (fB F) by first | exact Int32.le_refl _ | (rw [hbd]; exact Int32.le_refl _)) h66)
    refine zb1 M_cast_s144 rfl hvq ?_
    refine z_ne M_cast_d153 (tgt := 161) rfl (fun h153 => ?_) (fun h153 => ?_)
    · refine zb M_cast_s161 rfl ?_
      refine z_ret M_cast_d163 rfl ?_
      rw [show casS F q N (hro nh) = (a5, a6) from hv0.symm, eq, h4]
      have hz2 : zq sM μ0 (zpI μ 27 q (fbell F q)) := by
        have := hz.up (c := 27) (k := q) (x := fbell F q)
        rw [zpI_2, ← h27, zpI_me] at this
        rw [← h27]
        exact this
      first | exact ⟨by rw [if_pos h153], hz2⟩ | exact ⟨by rw [if_neg h153], hz2⟩
    · refine zb M_cast_s156 rfl ?_
      refine z_ret M_cast_d163 rfl ?_
      rw [show casS F q N (hro nh) = (a5, a6) from hv0.symm, eq, h4]
      have hz2 : zq sM μ0 (zpI μ 27 q (fbell F q)) := by
        have := hz.up (c := 27) (k := q) (x := fbell F q)
        rw [zpI_2, ← h27, zpI_me] at this
        rw [← h27]
        exact this
      first | exact ⟨by rw [if_pos h153], hz2⟩ | exact ⟨by rw [if_neg h153], hz2⟩
  | succ j ih =>
    intro i a5 a6 y x8 x9 μ hi ho hz hv0
    have hbd := ho.b
    have h6 := ho.b6
    replace hbd : μ.1 0 0 = nI (fB F) := hbd
    replace h6 : fB F ≤ 6 := h6
    have eq : (nI q).toNatClampNeg = q := nI_clamp (by omega)
    have hvq : vp_in (nI q) 12 := vp_in_nI hq (by omega)
    have hilt : i < fB F := by omega
    have ei : (nI i).toNatClampNeg = i := nI_clamp (by omega)
    refine zb M_cast_s60 rfl ?_
    refine z_cge M_cast_d66 (tgt := 144) rfl (fun h66 => absurd h66 (show ¬ μ.1 0 0 ≤ nI i by first | exact nI_ge hilt (by omega) | (rw [hbd]; exact nI_ge hilt (by omega)))) (fun h66 => ?_)
    refine zb1 M_cast_s69 rfl hvq ?_
    rw [eq]
    have ho2 := ho.p27 (v := q) (x := nI i)
    rw [fsb_2] at ho2
    have hz2 := hz.up (c := 27) (k := q) (x := nI i)
    rw [zpI_2] at hz2
    refine w_M_cast_d (F := fsb F q (nI i)) (μ0 := zpI μ0 27 q (nI i)) hd hN hN2 (fun μ1 ho1 hz1 => ?_) (N + 1) 0 0 _ (by omega) ho2 hz2 rfl
    refine zb M_cast_s113 rfl ?_
    refine z_ceq M_cast_d117 (tgt := 130) rfl (fun h117 => ?_) (fun h117 => ?_)
    · refine zb M_cast_s130 rfl ?_
      rw [nI_1]
      refine ih (i + 1) _ _ _ _ _ _ (by omega) ho1 hz1 ?_
      rw [zf0, ← hv0]
      unfold casStep
      dsimp only
      first
        | rw [if_pos (Or.inl h117)]
        | rw [if_pos (Or.inr h124)]
        | rw [if_neg (fun z => z.elim h117 h124)]
    · refine zb M_cast_s120 rfl ?_
      refine z_clt M_cast_d124 (tgt := 130) rfl (fun h124 => ?_) (fun h124 => ?_)
      · refine zb M_cast_s130 rfl ?_
        rw [nI_1]
        refine ih (i + 1) _ _ _ _ _ _ (by omega) ho1 hz1 ?_
        rw [zf0, ← hv0]
        unfold casStep
        dsimp only
        first
          | rw [if_pos (Or.inl h117)]
          | rw [if_pos (Or.inr h124)]
          | rw [if_neg (fun z => z.elim h117 h124)]
      · refine zb M_cast_s127 rfl ?_
        rw [nI_1]
        refine ih (i + 1) _ _ _ _ _ _ (by omega) ho1 hz1 ?_
        rw [zf0, ← hv0]
        unfold casStep
        dsimp only
        first
          | rw [if_pos (Or.inl h117)]
          | rw [if_pos (Or.inr h124)]
          | rw [if_neg (fun z => z.elim h117 h124)]

def nhP (nh : Int32) : Prop := 0 ≤ nh ∧ nh / 100 ≤ 99 ∧ hro nh ≤ 23
def sCast (F : zF) (v nh w : Int32) : Int32 := if isV F v ∧ (0 ≤ nh ∧ nh / 100 ≤ 99 ∧ hro nh ≤ 23) ∧ (0 ≤ w ∧ w ≤ 1) then (if w = 0 then (casS F v.toNatClampNeg (nh / 100).toNatClampNeg (hro nh)).1 else (casS F v.toNatClampNeg (nh / 100).toNatClampNeg (hro nh)).2) else -1

set_option maxRecDepth 100000 in
set_option maxHeartbeats 4000000 in
theorem o_cast {g : zG} {d : Nat} {F : zF} {μ : zMem} {v nh w : Int32} (hd : 49 ≤ d) (ho : oM F μ) : zM g d M_cast [.ref 0, .int v, .int nh, .int w] μ (fun r μ' => r = some (.int (sCast F v nh w)) ∧ zq sM μ μ') := by
  refine zM_of (by decide +kernel) rfl rfl (Nat.le_of_ble_eq_true rfl) rfl ?_
  have hz : zq sM μ μ := zq.rf
  have h12 := ho.v12
  have h6 := ho.b6
  refine zb M_cast_s0 rfl ?_
  refine zcallV M_cast_d2 k11_131 (by omega) (c_M_isVow _) rfl rfl rfl (Nat.le_of_ble_eq_true rfl) ?_
  rintro _ μx ⟨rfl, hx⟩
  rw [hx]
  clear hx μx
  rw [ho.v]
  refine z_eq M_cast_d5 (tgt := 40) rfl (fun h5 => ?_) (fun h5 => ?_)
  · refine zb M_cast_s40 rfl ?_
    refine z_ret M_cast_d41 rfl ?_
    unfold sCast
    first
      | exact ⟨by rw [if_neg (fun z => (zB_eq0.mp h5) z.1)], hz⟩
      | exact ⟨by rw [if_neg (fun z => absurd h9 (Int32.not_lt.mpr z.2.1.1))], hz⟩
      | exact ⟨by rw [if_neg (fun z => absurd h18 (Int32.not_lt.mpr z.2.1.2.1))], hz⟩
      | exact ⟨by rw [if_neg (fun z => absurd h27 (Int32.not_lt.mpr z.2.1.2.2))], hz⟩
      | exact ⟨by rw [if_neg (fun z => (zB_eq0.mp h37) z.2.2)], hz⟩
  · refine zb M_cast_s8 rfl ?_
    refine z_lt M_cast_d9 (tgt := 40) rfl (fun h9 => ?_) (fun h9 => ?_)
    · refine zb M_cast_s40 rfl ?_
      refine z_ret M_cast_d41 rfl ?_
      unfold sCast
      first
        | exact ⟨by rw [if_neg (fun z => (zB_eq0.mp h5) z.1)], hz⟩
        | exact ⟨by rw [if_neg (fun z => absurd h9 (Int32.not_lt.mpr z.2.1.1))], hz⟩
        | exact ⟨by rw [if_neg (fun z => absurd h18 (Int32.not_lt.mpr z.2.1.2.1))], hz⟩
        | exact ⟨by rw [if_neg (fun z => absurd h27 (Int32.not_lt.mpr z.2.1.2.2))], hz⟩
        | exact ⟨by rw [if_neg (fun z => (zB_eq0.mp h37) z.2.2)], hz⟩
    · refine zb1 M_cast_s12 rfl (by first | decide | exact hvi) ?_
      refine z_cgt M_cast_d18 (tgt := 40) rfl (fun h18 => ?_) (fun h18 => ?_)
      · refine zb M_cast_s40 rfl ?_
        refine z_ret M_cast_d41 rfl ?_
        unfold sCast
        first
          | exact ⟨by rw [if_neg (fun z => (zB_eq0.mp h5) z.1)], hz⟩
          | exact ⟨by rw [if_neg (fun z => absurd h9 (Int32.not_lt.mpr z.2.1.1))], hz⟩
          | exact ⟨by rw [if_neg (fun z => absurd h18 (Int32.not_lt.mpr z.2.1.2.1))], hz⟩
          | exact ⟨by rw [if_neg (fun z => absurd h27 (Int32.not_lt.mpr z.2.1.2.2))], hz⟩
          | exact ⟨by rw [if_neg (fun z => (zB_eq0.mp h37) z.2.2)], hz⟩
      · refine zb1 M_cast_s21 rfl (by first | decide | exact hvi) ?_
        refine z_cgt M_cast_d27 (tgt := 40) rfl (fun h27 => ?_) (fun h27 => ?_)
        · refine zb M_cast_s40 rfl ?_
          refine z_ret M_cast_d41 rfl ?_
          unfold sCast
          first
            | exact ⟨by rw [if_neg (fun z => (zB_eq0.mp h5) z.1)], hz⟩
            | exact ⟨by rw [if_neg (fun z => absurd h9 (Int32.not_lt.mpr z.2.1.1))], hz⟩
            | exact ⟨by rw [if_neg (fun z => absurd h18 (Int32.not_lt.mpr z.2.1.2.1))], hz⟩
            | exact ⟨by rw [if_neg (fun z => absurd h27 (Int32.not_lt.mpr z.2.1.2.2))], hz⟩
            | exact ⟨by rw [if_neg (fun z => (zB_eq0.mp h37) z.2.2)], hz⟩
        · refine zb M_cast_s30 rfl ?_
          refine zcallV M_cast_d34 k11_112 (by omega) (c_M_isIn _ _ _) rfl rfl rfl (Nat.le_of_ble_eq_true rfl) ?_
          rintro _ μx ⟨rfl, hx⟩
          rw [hx]
          clear hx μx
          refine z_ne M_cast_d37 (tgt := 42) rfl (fun h37 => ?_) (fun h37 => ?_)
          · have g1 := zB_ne0.mp h5
            obtain ⟨q, hq, rfl, eq⟩ := zix g1.1 g1.2 (by omega)
            have hvi : vp_in (nI q) 12 := vp_in_nI (by omega) (by omega)
            obtain ⟨e, he, ee⟩ := nI_of (Int32.not_lt.mpr (Int32.not_lt.mp h9))
            have hN : nh / 100 = nI (e / 100) := by rw [ee]; exact pk_div (d := 100) he (by omega) (by omega)
            have hN2 : e / 100 ≤ 99 := by
              have := Int32.not_lt.mp h18
              rw [hN] at this
              exact (nI_leI (b := 99) (by omega) (by omega)).mp this
            have hu : sCast F (nI q) nh w = if w = 0 then (casS F q (e / 100) (hro nh)).1 else (casS F q (e / 100) (hro nh)).2 := by
              unfold sCast
              rw [if_pos ⟨g1, ⟨Int32.not_lt.mp h9, Int32.not_lt.mp h18, Int32.not_lt.mp h27⟩, zB_ne0.mp h37⟩, eq, hN, nI_clamp (by omega)]
            refine zb1 M_cast_s42 rfl (by first | decide | exact hvi) ?_
            rw [hu, ho.e27, eq]
            refine w_M_cast hd hN hN2 (by omega) rfl (by rw [ho.e27]) (fB F) 0 _ _ (fbell F q) _ _ μ (by omega) (by rw [fsb_me]; exact ho) ?_ rfl
            have e := zpI_me (μ := μ) (c := 27) (k := q)
            rw [ho.e27] at e
            rw [e]
            exact hz
          · refine zb M_cast_s40 rfl ?_
            refine z_ret M_cast_d41 rfl ?_
            unfold sCast
            first
              | exact ⟨by rw [if_neg (fun z => (zB_eq0.mp h5) z.1)], hz⟩
              | exact ⟨by rw [if_neg (fun z => absurd h9 (Int32.not_lt.mpr z.2.1.1))], hz⟩
              | exact ⟨by rw [if_neg (fun z => absurd h18 (Int32.not_lt.mpr z.2.1.2.1))], hz⟩
              | exact ⟨by rw [if_neg (fun z => absurd h27 (Int32.not_lt.mpr z.2.1.2.2))], hz⟩
              | exact ⟨by rw [if_neg (fun z => (zB_eq0.mp h37) z.2.2)], hz⟩
