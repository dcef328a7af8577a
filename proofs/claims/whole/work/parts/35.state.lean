/-! what both objects stand for; the reference's changes of it -/
theorem zM.mono {g : zG} {d : Nat} {Y : zY} {av : List Value} {μ : zMem} {Q Q' : Option Value → zMem → Prop} (h : zM g d Y av μ Q) (hq : ∀ v μ', Q v μ' → Q' v μ') : zM g d Y av μ Q' := fun l p e ha hc hk s m args below hf happ hP hK => by
  obtain ⟨n, o, h1, h2, h3, ⟨v, μ', e1, e2, e3⟩, e4⟩ := h l p e ha hc hk s m args below hf happ hP hK
  exact ⟨n, o, h1, h2, h3, ⟨v, μ', e1, hq _ _ e2, e3⟩, e4⟩
abbrev zD4 : Type := Int32 × Int32 × Int32 × Int32
abbrev zCh : Type := (Nat × Nat) × (Nat → Int32) × (Nat → Int32) × (Nat → Int32) × (Nat → Int32)
abbrev zIm : Type := Int32 × (Nat → Int32) × (Nat → Int32) × Int32 × zD4
abbrev zAc : Type := (Nat × (Nat → Int32)) × Int32 × (Nat → Int32)
abbrev zSh : Type := (Nat → Int32) × (Nat → Int32) × (Nat → Int32) × (Nat → Int32) × (Nat → Nat → Int64)
/-- the bells and vows; faithlessness and the day; the tape; changes; deeds; the image; bodies; shelves -/
abbrev zS : Type := zF × (Int32 × Int32) × (Nat × (Nat → Int32)) × zCh × zD4 × zIm × zAc × zSh
def m2 (p : Int32 × Int32) (μ : zMem) : Prop := μ.1 0 2 = p.1 ∧ μ.1 0 3 = p.2
def mT (t : Nat × (Nat → Int32)) (μ : zMem) : Prop := μ.1 0 4 = nI t.1 ∧ t.1 ≤ 120 ∧ μ.1 32 = t.2
def mC (c : zCh) (μ : zMem) : Prop := (μ.1 0 22 = nI c.1.1 ∧ μ.1 0 23 = nI c.1.2 ∧ c.1.1 ≤ c.1.2 ∧ c.1.2 ≤ 40) ∧ μ.1 34 = c.2.1 ∧ μ.1 35 = c.2.2.1 ∧ μ.1 36 = c.2.2.2.1 ∧ μ.1 37 = c.2.2.2.2
def mD (q : zD4) (μ : zMem) : Prop := μ.1 0 35 = q.1 ∧ μ.1 0 36 = q.2.1 ∧ μ.1 0 37 = q.2.2.1 ∧ μ.1 0 38 = q.2.2.2
def mI (m : zIm) (μ : zMem) : Prop := μ.1 0 40 = m.1 ∧ (m.1 = -1 ∨ ∃ q : Nat, q ≤ 12 ∧ m.1 = nI q ∧ (∀ v, v < q → μ.1 45 v = m.2.1 v ∧ μ.1 45 (12 + v) = m.2.2.1 v) ∧ μ.1 45 24 = m.2.2.2.1 ∧ μ.1 45 25 = m.2.2.2.2.1 ∧ μ.1 45 26 = m.2.2.2.2.2.1 ∧ μ.1 45 27 = m.2.2.2.2.2.2.1 ∧ μ.1 45 28 = m.2.2.2.2.2.2.2)
def mA (a : zAc) (μ : zMem) : Prop := μ.1 0 7 = nI a.1.1 ∧ a.1.1 ≤ 50 ∧ μ.1 46 = a.1.2 ∧ μ.1 0 6 = a.2.1 ∧ ∀ i, i < 24 → μ.1 47 i = a.2.2 i
def mH (h : zSh) (μ : zMem) : Prop := μ.1 48 = h.1 ∧ μ.1 49 = h.2.1 ∧ μ.1 50 = h.2.2.1 ∧ μ.1 51 = h.2.2.2.1 ∧ ∀ s i, s < 6 → i < 60 → μ.2.1 52 (60 * s + i) = h.2.2.2.2 s i
def mS (S : zS) (μ : zMem) : Prop := oM S.1 μ ∧ m2 S.2.1 μ ∧ mT S.2.2.1 μ ∧ mC S.2.2.2.1 μ ∧ mD S.2.2.2.2.1 μ ∧ mI S.2.2.2.2.2.1 μ ∧ mA S.2.2.2.2.2.2.1 μ ∧ mH S.2.2.2.2.2.2.2 μ
def isMc (c : Nat) : Bool := c == 0 || (Nat.ble 25 c && Nat.ble c 53)
def onlyM (μ μ' : zMem) : Prop := (∀ c, isMc c = false → μ'.1 c = μ.1 c ∧ μ'.2.1 c = μ.2.1 c) ∧ μ'.2.2 = μ.2.2
theorem onlyM.rf {μ : zMem} : onlyM μ μ := ⟨fun _ _ => ⟨rfl, rfl⟩, rfl⟩
theorem onlyM.tr {a b c : zMem} (h : onlyM a b) (h2 : onlyM b c) : onlyM a c := ⟨fun x hx => ⟨(h2.1 x hx).1.trans (h.1 x hx).1, (h2.1 x hx).2.trans (h.1 x hx).2⟩, h2.2.trans h.2⟩
theorem onlyM.put {μ a : zMem} {c k : Nat} {x : Int32} (hc : isMc c = true) (h : onlyM μ a) : onlyM μ (zpI a c k x) := by
  refine h.tr ⟨fun q hq => ⟨?_, rfl⟩, rfl⟩
  have : q ≠ c := fun e => by rw [e, hc] at hq; cases hq
  exact zpI_ne this
theorem onlyM.putA {μ a : zMem} {c : Nat} {r : Nat → Int32} (hc : isMc c = true) (h : onlyM μ a) : onlyM μ (zpA a c r) := by
  refine h.tr ⟨fun q hq => ⟨?_, rfl⟩, rfl⟩
  have : q ≠ c := fun e => by rw [e, hc] at hq; cases hq
  simp [zpA, zuA, this]
theorem onlyM.putL {μ a : zMem} {c k : Nat} {x : Int64} (hc : isMc c = true) (h : onlyM μ a) : onlyM μ (zpL a c k x) := by
  refine h.tr ⟨fun q hq => ⟨rfl, ?_⟩, rfl⟩
  have : q ≠ c := fun e => by rw [e, hc] at hq; cases hq
  funext p
  simp [zpL, zuL, this]
theorem onlyM.zq {μ a : zMem} (h : zq sM μ a) : onlyM μ a := by
  refine ⟨fun q hq => ⟨funext fun k => h.1 q k ?_, by rw [h.2]⟩, by rw [h.2]⟩
  unfold isMc at hq
  unfold sM
  simp only [Bool.or_eq_false_iff, Bool.and_eq_false_iff, beq_eq_false_iff_ne] at hq ⊢
  refine ⟨Or.inl hq.1, ?_⟩
  rcases Bool.eq_false_or_eq_true (Nat.ble 38 q) with z | z
  · rcases Bool.eq_false_or_eq_true (Nat.ble q 44) with y | y
    · rw [Nat.ble_eq] at z y
      rcases hq.2 with w | w
      · have h3 : Nat.ble 25 q = true := by rw [Nat.ble_eq]; omega
        rw [h3] at w; cases w
      · have h3 : Nat.ble q 53 = true := by rw [Nat.ble_eq]; omega
        rw [h3] at w; cases w
    · exact Or.inr y
  · exact Or.inl z
/-- reading calls leave it all -/
theorem mS.q {S : zS} {μ μ' : zMem} (h : mS S μ) (hz : zq sM μ μ') : mS S μ' := by
  obtain ⟨h1, h2, h3, h4, h5, h6, h7, h8⟩ := h
  have r : ∀ c, (∀ k, sM c k = false) → μ'.1 c = μ.1 c := fun c hc => funext fun k => hz.1 c k (hc k)
  refine ⟨h1.q hz, ?_, ?_, ?_, ?_, ?_, ?_, ?_⟩
  · unfold m2 at h2 ⊢; rw [hz.1 0 2 rfl, hz.1 0 3 rfl]; exact h2
  · unfold mT at h3 ⊢; rw [hz.1 0 4 rfl, r 32 (fun _ => rfl)]; exact h3
  · unfold mC at h4 ⊢; rw [hz.1 0 22 rfl, hz.1 0 23 rfl, r 34 (fun _ => rfl), r 35 (fun _ => rfl), r 36 (fun _ => rfl), r 37 (fun _ => rfl)]; exact h4
  · unfold mD at h5 ⊢; rw [hz.1 0 35 rfl, hz.1 0 36 rfl, hz.1 0 37 rfl, hz.1 0 38 rfl]; exact h5
  · unfold mI at h6 ⊢; rw [hz.1 0 40 rfl, r 45 (fun _ => rfl)]; exact h6
  · unfold mA at h7 ⊢; rw [hz.1 0 7 rfl, hz.1 0 6 rfl, r 46 (fun _ => rfl), r 47 (fun _ => rfl)]; exact h7
  · unfold mH at h8 ⊢; rw [r 48 (fun _ => rfl), r 49 (fun _ => rfl), r 50 (fun _ => rfl), r 51 (fun _ => rfl), hz.2]; exact h8
/-- an answer and what it stands for behind it -/
abbrev pO (rel : zS → zMem → Prop) (only : zMem → zMem → Prop) (R : Int32 × zS) (μ : zMem) : Option Value → zMem → Prop := fun r μ' => r = some (.int R.1) ∧ rel R.2 μ' ∧ only μ μ'
theorem pO_M {g : zG} {d : Nat} {Y : zY} {av : List Value} {μ : zMem} {S : zS} {R : Int32} (hS : mS S μ) (h : zM g d Y av μ (fun r μ' => r = some (.int R) ∧ zq sM μ μ')) : zM g d Y av μ (pO mS onlyM (R, S) μ) := h.mono (fun _ _ q => ⟨q.1, hS.q q.2, onlyM.zq q.2⟩)
/-! the pure steps -/
def fnB (F : zF) (t : Int32) : zF := ((fB F + 1, fV F), fu (ftone F) (fB F) t, fu (ftune F) (fB F) 12, fbell F, fwt F, fby F, fbr F, fag F, flaw F)
def fnV (F : zF) (b w p : Int32) : zF := ((fB F, fV F + 1), ftone F, ftune F, fu (fbell F) (fV F) b, fu (fwt F) (fV F) w, fu (fby F) (fV F) p, fu (fbr F) (fV F) 999, fu (fag F) (fV F) 999, flaw F)
def sF (S : zS) (F : zF) : zS := (F, S.2)
def opBell (S : zS) (t : Int32) : Int32 × zS := if ¬ (0 ≤ t ∧ t ≤ 99) then (-1, S) else if fB S.1 = 6 then (-3, S) else (nI (fB S.1), sF S (fnB S.1 t))
def opVow (S : zS) (b w : Int32) : Int32 × zS := if ¬ (isB S.1 b ∧ (1 ≤ w ∧ w ≤ 9)) then (-1, S) else if fV S.1 = 12 then (-3, S) else (nI (fV S.1), sF S (fnV S.1 b w 0))
def voL (c : Nat → Int32) (m : Nat) : Nat → Nat → Nat → zF → Nat × zF
  | 0, _, came, F => (came, F)
  | k + 1, q, came, F => if m < q + 3 ∨ fV F = 12 then (came, F) else if isB F (c q) ∧ (1 ≤ c (q + 1) ∧ c (q + 1) ≤ 9) ∧ (0 ≤ c (q + 2) ∧ c (q + 2) ≤ 5) then voL c m k (q + 3) (came + 1) (fnV F (c q) (c (q + 1)) (c (q + 2))) else (came, F)
def hHeld (S : zS) (s : Nat) : Int32 := S.2.2.2.2.2.2.2.1 s
def hSort (S : zS) (s : Nat) : Int32 := S.2.2.2.2.2.2.2.2.1 s
def hSize (S : zS) (s : Nat) : Int32 := S.2.2.2.2.2.2.2.2.2.1 s
def hShown (S : zS) (s : Nat) : Int32 := S.2.2.2.2.2.2.2.2.2.2.1 s
def hCell (S : zS) (s i : Nat) : Int64 := S.2.2.2.2.2.2.2.2.2.2.2 s i
def hInt (S : zS) (s i : Nat) : Int32 := (hCell S s i).toInt32
def opVows (S : zS) (s i n : Int32) : Int32 × zS := if ¬ ((0 ≤ s ∧ s < 6) ∧ (1 ≤ n ∧ n ≤ 12)) then (-1, S) else if hHeld S s.toNatClampNeg = 0 then (0, S) else if ¬ (hHeld S s.toNatClampNeg = 2 ∧ hSort S s.toNatClampNeg = 0) then (-12, S) else if i < 0 then (0, S) else (nI (voL (hInt S s.toNatClampNeg) (hSize S s.toNatClampNeg).toNatClampNeg n.toNatClampNeg i.toNatClampNeg 0 S.1).1, sF S (voL (hInt S s.toNatClampNeg) (hSize S s.toNatClampNeg).toNatClampNeg n.toNatClampNeg i.toNatClampNeg 0 S.1).2)
def leaW (w : Int32) : Int32 := if w = 1 ∨ w = 3 then 1 else 0
def mosW (F : zF) (w : Int32) : Int32 := if w = 0 then 99 else if w = 1 then 24 else if w = 2 then nI (fB F) - 1 else if w = 3 then 9 else if w = 4 then 5 else if w = 7 then 12 else 999
abbrev isN (F : zF) (n w : Int32) : Prop := ((0 ≤ w ∧ w ≤ 1) ∧ isB F n) ∨ ((2 ≤ w ∧ w ≤ 6) ∧ isV F n) ∨ (w = 7 ∧ n = 0)
def rdF (F : zF) (fl : Int32) (n : Nat) (w : Int32) : Int32 := if w = 0 then ftone F n else if w = 1 then ftune F n else if w = 2 then fbell F n else if w = 3 then fwt F n else if w = 4 then fby F n else if w = 5 then fbr F n else if w = 6 then fag F n else fl
def wrF (F : zF) (n : Nat) (w x : Int32) : zF := (F.1, if w = 0 then fu (ftone F) n x else ftone F, if w = 1 then fu (ftune F) n x else ftune F, if w = 2 then fu (fbell F) n x else fbell F, if w = 3 then fu (fwt F) n x else fwt F, if w = 4 then fu (fby F) n x else fby F, if w = 5 then fu (fbr F) n x else fbr F, if w = 6 then fu (fag F) n x else fag F, flaw F)
def wrL (fl w x : Int32) : Int32 := if w = 7 then x else fl
/-- a number written -/
def wrS (S : zS) (n w x : Int32) : zS := (wrF S.1 n.toNatClampNeg w x, (wrL S.2.1.1 w x, S.2.1.2), S.2.2)
def dr1 (f : Nat → Int32) : Nat → Int32 := fun k => if k < 39 then f (k + 1) else f k
def chDrop (c : zCh) : zCh := if c.1.1 = 40 then ((39, c.1.2), dr1 c.2.1, dr1 c.2.2.1, dr1 c.2.2.2.1, dr1 c.2.2.2.2) else c
def chAdd (c : zCh) (n w o v : Int32) : zCh := (((chDrop c).1.1 + 1, (chDrop c).1.1 + 1), fu (chDrop c).2.1 (chDrop c).1.1 n, fu (chDrop c).2.2.1 (chDrop c).1.1 w, fu (chDrop c).2.2.2.1 (chDrop c).1.1 o, fu (chDrop c).2.2.2.2 (chDrop c).1.1 v)
def sC (S : zS) (c : zCh) : zS := (S.1, S.2.1, S.2.2.1, c, S.2.2.2.2)
def cC (S : zS) : zCh := S.2.2.2.1
def opMend (S : zS) (n w v : Int32) : Int32 × zS := if ¬ (isN S.1 n w ∧ (leaW w ≤ v ∧ v ≤ mosW S.1 w)) then (-1, S) else if rdF S.1 S.2.1.1 n.toNatClampNeg w = v then (v, S) else (rdF S.1 S.2.1.1 n.toNatClampNeg w, wrS (sC S (chAdd (cC S) n w (rdF S.1 S.2.1.1 n.toNatClampNeg w) v)) n w v)
def chMade (c : zCh) (m : Nat) : zCh := ((m, c.1.2), c.2)
def opUndo (S : zS) : Int32 × zS := if (cC S).1.1 = 0 then (-5, S) else (nI ((cC S).1.1 - 1), wrS (sC S (chMade (cC S) ((cC S).1.1 - 1))) ((cC S).2.1 ((cC S).1.1 - 1)) ((cC S).2.2.1 ((cC S).1.1 - 1)) ((cC S).2.2.2.1 ((cC S).1.1 - 1)))
def opRedo (S : zS) : Int32 × zS := if (cC S).1.1 = (cC S).1.2 then (-5, S) else (nI ((cC S).1.2 - ((cC S).1.1 + 1)), wrS (sC S (chMade (cC S) ((cC S).1.1 + 1))) ((cC S).2.1 (cC S).1.1) ((cC S).2.2.1 (cC S).1.1) ((cC S).2.2.2.2 (cC S).1.1))
def opOf (S : zS) (n w : Int32) : Int32 := if w = 10 ∧ isV S.1 n then zB (kept S.1 n.toNatClampNeg S.2.1.2) else if w = 11 ∧ n = 0 then S.2.1.2 else if isN S.1 n w then rdF S.1 S.2.1.1 n.toNatClampNeg w else -1
def sTp (S : zS) (t : Nat × (Nat → Int32)) : zS := (S.1, S.2.1, t, S.2.2.2)
def tT (S : zS) : Nat × (Nat → Int32) := S.2.2.1
def opFeed (S : zS) (b : Int32) : Int32 × zS := if ¬ (0 ≤ b ∧ b ≤ 255) then (-1, S) else if (tT S).1 = 120 then (-3, S) else (nI ((tT S).1 + 1), sTp S ((tT S).1 + 1, fu (tT S).2 (tT S).1 b))

set_option maxRecDepth 100000 in
set_option maxHeartbeats 4000000 in
theorem oM.bell {F : zF} {μ : zMem} (h : oM F μ) (hB : fB F < 6) (t : Int32) : oM (fnB F t) (zpI (zpI (zpI μ 25 (fB F) t) 26 (fB F) 12) 0 0 (nI (fB F + 1))) := by
  obtain ⟨⟨⟨h1, h2⟩, ⟨h3, h4⟩, h5⟩, rfl⟩ := h
  have e : fM (zpI (zpI (zpI μ 25 (fB (fM μ)) t) 26 (fB (fM μ)) 12) 0 0 (nI (fB (fM μ) + 1))) = fnB (fM μ) t := by
    show (((nI (fB (fM μ) + 1)).toNatClampNeg, _), _) = _
    rw [nI_clamp (by omega)]
    rfl
  have k1 : fB (fnB (fM μ) t) = fB (fM μ) + 1 := rfl
  have k2 : fV (fnB (fM μ) t) = fV (fM μ) := rfl
  refine ⟨⟨⟨?_, ?_⟩, ⟨?_, ?_⟩, h5⟩, e⟩
  · rw [e, k1]; exact (zpI_at.trans (if_pos rfl))
  · rw [e, k1]; exact hB
  · rw [e, k2]; exact h3
  · rw [e, k2]; exact h4
set_option maxRecDepth 100000 in
set_option maxHeartbeats 4000000 in
theorem oM.vow {F : zF} {μ : zMem} (h : oM F μ) (hV : fV F < 12) (b w p : Int32) : oM (fnV F b w p) (zpI (zpI (zpI (zpI (zpI (zpI μ 27 (fV F) b) 28 (fV F) w) 29 (fV F) p) 30 (fV F) 999) 31 (fV F) 999) 0 1 (nI (fV F + 1))) := by
  obtain ⟨⟨⟨h1, h2⟩, ⟨h3, h4⟩, h5⟩, rfl⟩ := h
  have e : fM (zpI (zpI (zpI (zpI (zpI (zpI μ 27 (fV (fM μ)) b) 28 (fV (fM μ)) w) 29 (fV (fM μ)) p) 30 (fV (fM μ)) 999) 31 (fV (fM μ)) 999) 0 1 (nI (fV (fM μ) + 1))) = fnV (fM μ) b w p := by
    show ((_, (nI (fV (fM μ) + 1)).toNatClampNeg), _) = _
    rw [nI_clamp (by omega)]
    rfl
  have k1 : fV (fnV (fM μ) b w p) = fV (fM μ) + 1 := rfl
  have k2 : fB (fnV (fM μ) b w p) = fB (fM μ) := rfl
  refine ⟨⟨⟨?_, ?_⟩, ⟨?_, ?_⟩, h5⟩, e⟩
  · rw [e, k2]; exact h1
  · rw [e, k2]; exact h2
  · rw [e, k1]; exact (zpI_at.trans (if_pos rfl))
  · rw [e, k1]; exact hV

set_option maxRecDepth 100000 in
set_option maxHeartbeats 4000000 in
theorem s_M_bell {g : zG} {d : Nat} {S : zS} {μ : zMem} {t : Int32} (hd : 1 ≤ d) (hS : mS S μ) : zM g d M_bell [.ref 0, .int t] μ (pO mS onlyM (opBell S t) μ) := by
  refine zM_of (by decide +kernel) rfl rfl (Nat.le_of_ble_eq_true rfl) rfl ?_
  obtain ⟨ho, h2, hT, hC, hD, hI, hA, hH⟩ := hS
  have hS : mS S μ := ⟨ho, h2, hT, hC, hD, hI, hA, hH⟩
  have hb := ho.b
  have hv := ho.v
  have h6 := ho.b6
  have h12 := ho.v12
  have hz : zq sM μ μ := zq.rf
  refine zb M_bell_s0 rfl ?_
  refine zcallV M_bell_d5 k11_112 (by omega) (c_M_isIn _ _ _) rfl rfl rfl (Nat.le_of_ble_eq_true rfl) ?_
  rintro _ μx ⟨rfl, hx⟩
  rw [hx]
  clear hx μx
  refine z_ne M_bell_d8 (tgt := 13) rfl (fun h8 => ?_) (fun h8 => ?_)
  · refine zb M_bell_s13 rfl ?_
    refine z_cne M_bell_d19 (tgt := 25) rfl (fun h19 => ?_) (fun h19 => ?_)
    · rw [hb] at h19
      have h19b : ¬ fB S.1 = 6 := fun z => h19 (by rw [z]; rfl)
      have hvb : vp_in (μ.1 0 0) 6 := by rw [hb]; exact vp_in_nI (by omega) (by omega)
      refine zb2 M_bell_s25 rfl hvb hvb ?_
      refine z_ret M_bell_d57 rfl ?_
      unfold opBell
      first
        | exact ⟨by rw [if_pos (zB_eq0.mp h8)], by rw [if_pos (zB_eq0.mp h8)]; exact hS, onlyM.rf⟩
        | (have h19b : fB S.1 = 6 := by rw [hb] at h19; exact (nI_eq (b := 6) (by omega) (by omega)).mp h19
           rw [if_neg (fun z => z (zB_ne0.mp h8)), if_pos h19b]
           exact ⟨rfl, hS, onlyM.rf⟩)
        | (simp (disch := decide) only [zpI_ne, hb, hv, nI_clamp (show fB S.1 < 2 ^ 31 by omega), nI_clamp (show fV S.1 < 2 ^ 31 by omega), nI_1]
           rw [if_neg (fun z => z (zB_ne0.mp h8)), if_neg h19b]
           exact ⟨rfl, ⟨ho.bell (by omega) t, h2, hT, hC, hD, hI, hA, hH⟩, (by repeat (first | exact onlyM.rf | refine onlyM.put rfl ?_))⟩)
    · refine zb M_bell_s22 rfl ?_
      refine z_ret M_bell_d24 rfl ?_
      unfold opBell
      first
        | exact ⟨by rw [if_pos (zB_eq0.mp h8)], by rw [if_pos (zB_eq0.mp h8)]; exact hS, onlyM.rf⟩
        | (have h19b : fB S.1 = 6 := by rw [hb] at h19; exact (nI_eq (b := 6) (by omega) (by omega)).mp h19
           rw [if_neg (fun z => z (zB_ne0.mp h8)), if_pos h19b]
           exact ⟨rfl, hS, onlyM.rf⟩)
        | (simp (disch := decide) only [zpI_ne, hb, hv, nI_clamp (show fB S.1 < 2 ^ 31 by omega), nI_clamp (show fV S.1 < 2 ^ 31 by omega), nI_1]
           rw [if_neg (fun z => z (zB_ne0.mp h8)), if_neg h19b]
           exact ⟨rfl, ⟨ho.bell (by omega) t, h2, hT, hC, hD, hI, hA, hH⟩, (by repeat (first | exact onlyM.rf | refine onlyM.put rfl ?_))⟩)
  · refine zb M_bell_s11 rfl ?_
    refine z_ret M_bell_d12 rfl ?_
    unfold opBell
    first
      | exact ⟨by rw [if_pos (zB_eq0.mp h8)], by rw [if_pos (zB_eq0.mp h8)]; exact hS, onlyM.rf⟩
      | (have h19b : fB S.1 = 6 := by rw [hb] at h19; exact (nI_eq (b := 6) (by omega) (by omega)).mp h19
         rw [if_neg (fun z => z (zB_ne0.mp h8)), if_pos h19b]
         exact ⟨rfl, hS, onlyM.rf⟩)
      | (simp (disch := decide) only [zpI_ne, hb, hv, nI_clamp (show fB S.1 < 2 ^ 31 by omega), nI_clamp (show fV S.1 < 2 ^ 31 by omega), nI_1]
         rw [if_neg (fun z => z (zB_ne0.mp h8)), if_neg h19b]
         exact ⟨rfl, ⟨ho.bell (by omega) t, h2, hT, hC, hD, hI, hA, hH⟩, (by repeat (first | exact onlyM.rf | refine onlyM.put rfl ?_))⟩)

set_option maxRecDepth 100000 in
set_option maxHeartbeats 4000000 in
theorem s_M_adds {g : zG} {d : Nat} {S : zS} {μ : zMem} {b w p : Int32} (hV : fV S.1 < 12) (hS : mS S μ) : zM g d M_adds [.ref 0, .int b, .int w, .int p] μ (pO mS onlyM (nI (fV S.1), sF S (fnV S.1 b w p)) μ) := by
  refine zM_of (by decide +kernel) rfl rfl (Nat.le_of_ble_eq_true rfl) rfl ?_
  obtain ⟨ho, h2, hT, hC, hD, hI, hA, hH⟩ := hS
  have hS : mS S μ := ⟨ho, h2, hT, hC, hD, hI, hA, hH⟩
  have hb := ho.b
  have hv := ho.v
  have h6 := ho.b6
  have h12 := ho.v12
  have hz : zq sM μ μ := zq.rf
  have hvb : vp_in (μ.1 0 1) 12 := by rw [hv]; exact vp_in_nI (by omega) (by omega)
  refine zb5 M_adds_s0 rfl hvb hvb hvb hvb hvb ?_
  refine z_ret M_adds_d65 rfl ?_
  simp (disch := decide) only [zpI_ne, hb, hv, nI_clamp (show fB S.1 < 2 ^ 31 by omega), nI_clamp (show fV S.1 < 2 ^ 31 by omega), nI_1]
  exact ⟨rfl, ⟨ho.vow (by omega) b w p, h2, hT, hC, hD, hI, hA, hH⟩, (by repeat (first | exact onlyM.rf | refine onlyM.put rfl ?_))⟩

set_option maxRecDepth 100000 in
set_option maxHeartbeats 4000000 in
theorem s_M_vow {g : zG} {d : Nat} {S : zS} {μ : zMem} {b w : Int32} (hd : 1 ≤ d) (hS : mS S μ) : zM g d M_vow [.ref 0, .int b, .int w] μ (pO mS onlyM (opVow S b w) μ) := by
  refine zM_of (by decide +kernel) rfl rfl (Nat.le_of_ble_eq_true rfl) rfl ?_
  obtain ⟨ho, h2, hT, hC, hD, hI, hA, hH⟩ := hS
  have hS : mS S μ := ⟨ho, h2, hT, hC, hD, hI, hA, hH⟩
  have hb := ho.b
  have hv := ho.v
  have h6 := ho.b6
  have h12 := ho.v12
  have hz : zq sM μ μ := zq.rf
  refine zb M_vow_s0 rfl ?_
  refine zcallV M_vow_d2 k11_116 (by omega) (c_M_isBell _) rfl rfl rfl (Nat.le_of_ble_eq_true rfl) ?_
  rintro _ μx ⟨rfl, hx⟩
  rw [hx]
  clear hx μx
  rw [ho.b]
  refine z_eq M_vow_d5 (tgt := 19) rfl (fun h5 => ?_) (fun h5 => ?_)
  · refine zb M_vow_s19 rfl ?_
    refine z_ret M_vow_d20 rfl ?_
    unfold opVow
    first
      | (rw [if_pos (fun z => (zB_eq0.mp h5) z.1)]; exact ⟨rfl, hS, onlyM.rf⟩)
      | (rw [if_pos (fun z => (zB_eq0.mp h16) z.2)]; exact ⟨rfl, hS, onlyM.rf⟩)
      | (rw [if_neg (fun z => z ⟨zB_ne0.mp h5, zB_ne0.mp h16⟩), if_neg h27b]; exact ⟨rfl, hS1, hO1⟩)
      | (rw [if_neg (fun z => z ⟨zB_ne0.mp h5, zB_ne0.mp h16⟩), if_pos ((nI_eq (b := 12) (by omega) (by omega)).mp (by rw [← hv]; exact h27))]; exact ⟨rfl, hS, onlyM.rf⟩)
  · refine zb M_vow_s8 rfl ?_
    refine zcallV M_vow_d13 k11_112 (by omega) (c_M_isIn _ _ _) rfl rfl rfl (Nat.le_of_ble_eq_true rfl) ?_
    rintro _ μx ⟨rfl, hx⟩
    rw [hx]
    clear hx μx
    refine z_ne M_vow_d16 (tgt := 21) rfl (fun h16 => ?_) (fun h16 => ?_)
    · refine zb M_vow_s21 rfl ?_
      refine z_cne M_vow_d27 (tgt := 35) rfl (fun h27 => ?_) (fun h27 => ?_)
      · have h27b : ¬ fV S.1 = 12 := fun z => h27 (by rw [hv, z]; rfl)
        refine zb M_vow_s35 rfl ?_
        refine zcallV M_vow_d39 k11_120 (by omega) (s_M_adds (S := S) (by omega) hS) rfl rfl rfl (Nat.le_of_ble_eq_true rfl) ?_
        rintro _ μ1 ⟨rfl, hS1, hO1⟩
        refine z_ret M_vow_d42 rfl ?_
        unfold opVow
        first
          | (rw [if_pos (fun z => (zB_eq0.mp h5) z.1)]; exact ⟨rfl, hS, onlyM.rf⟩)
          | (rw [if_pos (fun z => (zB_eq0.mp h16) z.2)]; exact ⟨rfl, hS, onlyM.rf⟩)
          | (rw [if_neg (fun z => z ⟨zB_ne0.mp h5, zB_ne0.mp h16⟩), if_neg h27b]; exact ⟨rfl, hS1, hO1⟩)
          | (rw [if_neg (fun z => z ⟨zB_ne0.mp h5, zB_ne0.mp h16⟩), if_pos ((nI_eq (b := 12) (by omega) (by omega)).mp (by rw [← hv]; exact h27))]; exact ⟨rfl, hS, onlyM.rf⟩)
      · refine zb M_vow_s30 rfl ?_
        refine z_ret M_vow_d42 rfl ?_
        unfold opVow
        first
          | (rw [if_pos (fun z => (zB_eq0.mp h5) z.1)]; exact ⟨rfl, hS, onlyM.rf⟩)
          | (rw [if_pos (fun z => (zB_eq0.mp h16) z.2)]; exact ⟨rfl, hS, onlyM.rf⟩)
          | (rw [if_neg (fun z => z ⟨zB_ne0.mp h5, zB_ne0.mp h16⟩), if_neg h27b]; exact ⟨rfl, hS1, hO1⟩)
          | (rw [if_neg (fun z => z ⟨zB_ne0.mp h5, zB_ne0.mp h16⟩), if_pos ((nI_eq (b := 12) (by omega) (by omega)).mp (by rw [← hv]; exact h27))]; exact ⟨rfl, hS, onlyM.rf⟩)
    · refine zb M_vow_s19 rfl ?_
      refine z_ret M_vow_d20 rfl ?_
      unfold opVow
      first
        | (rw [if_pos (fun z => (zB_eq0.mp h5) z.1)]; exact ⟨rfl, hS, onlyM.rf⟩)
        | (rw [if_pos (fun z => (zB_eq0.mp h16) z.2)]; exact ⟨rfl, hS, onlyM.rf⟩)
        | (rw [if_neg (fun z => z ⟨zB_ne0.mp h5, zB_ne0.mp h16⟩), if_neg h27b]; exact ⟨rfl, hS1, hO1⟩)
        | (rw [if_neg (fun z => z ⟨zB_ne0.mp h5, zB_ne0.mp h16⟩), if_pos ((nI_eq (b := 12) (by omega) (by omega)).mp (by rw [← hv]; exact h27))]; exact ⟨rfl, hS, onlyM.rf⟩)

set_option maxRecDepth 100000 in
set_option maxHeartbeats 4000000 in
theorem s_M_least {g : zG} {d : Nat} {μ : zMem} (w : Int32) : zM g d M_least [.ref 0, .int w] μ (fun r μ' => r = some (.int (leaW w)) ∧ μ' = μ) := by
  refine zM_of (by decide +kernel) rfl rfl (Nat.le_of_ble_eq_true rfl) rfl ?_
  refine zb M_least_s0 rfl ?_
  refine z_ceq M_least_d2 (tgt := 10) rfl (fun h2 => ?_) (fun h2 => ?_)
  · refine zb M_least_s10 rfl ?_
    refine z_ret M_least_d15 rfl ?_
    unfold leaW
    first
      | exact ⟨by rw [if_pos (Or.inl h2)], rfl⟩
      | exact ⟨by rw [if_pos (Or.inr h7)], rfl⟩
      | exact ⟨by rw [if_neg (fun z => z.elim h2 h7)], rfl⟩
  · refine zb M_least_s5 rfl ?_
    refine z_cne M_least_d7 (tgt := 14) rfl (fun h7 => ?_) (fun h7 => ?_)
    · refine zb M_least_s14 rfl ?_
      refine z_ret M_least_d15 rfl ?_
      unfold leaW
      first
        | exact ⟨by rw [if_pos (Or.inl h2)], rfl⟩
        | exact ⟨by rw [if_pos (Or.inr h7)], rfl⟩
        | exact ⟨by rw [if_neg (fun z => z.elim h2 h7)], rfl⟩
    · refine zb M_least_s10 rfl ?_
      refine z_ret M_least_d15 rfl ?_
      unfold leaW
      first
        | exact ⟨by rw [if_pos (Or.inl h2)], rfl⟩
        | exact ⟨by rw [if_pos (Or.inr h7)], rfl⟩
        | exact ⟨by rw [if_neg (fun z => z.elim h2 h7)], rfl⟩

theorem mosW_alt (F : zF) (w : Int32) : mosW F w = if w = 0 then 99 else if w = 1 then 24 else if w = 2 then nI (fB F) - 1 else if w = 3 then 9 else if w = 4 then 5 else if w = 5 then 999 else if w = 6 then 999 else if w = 7 then 12 else 999 := by
  unfold mosW
  by_cases h5 : w = 5
  · subst h5; rfl
  · by_cases h6 : w = 6
    · subst h6; rfl
    · rw [if_neg h5, if_neg h6]

set_option maxRecDepth 100000 in
set_option maxHeartbeats 4000000 in
theorem s_M_most {g : zG} {d : Nat} {F : zF} {μ : zMem} (w : Int32) (ho : oM F μ) : zM g d M_most [.ref 0, .int w] μ (fun r μ' => r = some (.int (mosW F w)) ∧ μ' = μ) := by
  refine zM_of (by decide +kernel) rfl rfl (Nat.le_of_ble_eq_true rfl) rfl ?_
  refine zb M_most_s0 rfl ?_
  by_cases hs1_0 : w = 0
  · refine z_tabIn M_most_d1 (off := 47) (tgt := 48) (by rw [hs1_0]; decide) (by rw [hs1_0]; decide) (by rw [hs1_0]; decide) rfl ?_
    refine zb M_most_s48 rfl ?_
    refine z_ret M_most_d50 rfl ?_
    (try rw [ho.b])
    first
      | exact ⟨by rw [mosW_alt, if_pos hs1_0], rfl⟩
      | exact ⟨by rw [mosW_alt, if_neg hs1_0, if_pos hs1_1], rfl⟩
      | exact ⟨by rw [mosW_alt, if_neg hs1_0, if_neg hs1_1, if_pos hs1_2], rfl⟩
      | exact ⟨by rw [mosW_alt, if_neg hs1_0, if_neg hs1_1, if_neg hs1_2, if_pos hs1_3], rfl⟩
      | exact ⟨by rw [mosW_alt, if_neg hs1_0, if_neg hs1_1, if_neg hs1_2, if_neg hs1_3, if_pos hs1_4], rfl⟩
      | exact ⟨by rw [mosW_alt, if_neg hs1_0, if_neg hs1_1, if_neg hs1_2, if_neg hs1_3, if_neg hs1_4, if_pos hs1_5], rfl⟩
      | exact ⟨by rw [mosW_alt, if_neg hs1_0, if_neg hs1_1, if_neg hs1_2, if_neg hs1_3, if_neg hs1_4, if_neg hs1_5, if_pos hs1_6], rfl⟩
      | exact ⟨by rw [mosW_alt, if_neg hs1_0, if_neg hs1_1, if_neg hs1_2, if_neg hs1_3, if_neg hs1_4, if_neg hs1_5, if_neg hs1_6, if_pos hs1_7], rfl⟩
      | exact ⟨by rw [mosW_alt, if_neg hs1_0, if_neg hs1_1, if_neg hs1_2, if_neg hs1_3, if_neg hs1_4, if_neg hs1_5, if_neg hs1_6, if_neg hs1_7], rfl⟩
  · by_cases hs1_1 : w = 1
    · refine z_tabIn M_most_d1 (off := 50) (tgt := 51) (by rw [hs1_1]; decide) (by rw [hs1_1]; decide) (by rw [hs1_1]; decide) rfl ?_
      refine zb M_most_s51 rfl ?_
      refine z_ret M_most_d53 rfl ?_
      (try rw [ho.b])
      first
        | exact ⟨by rw [mosW_alt, if_pos hs1_0], rfl⟩
        | exact ⟨by rw [mosW_alt, if_neg hs1_0, if_pos hs1_1], rfl⟩
        | exact ⟨by rw [mosW_alt, if_neg hs1_0, if_neg hs1_1, if_pos hs1_2], rfl⟩
        | exact ⟨by rw [mosW_alt, if_neg hs1_0, if_neg hs1_1, if_neg hs1_2, if_pos hs1_3], rfl⟩
        | exact ⟨by rw [mosW_alt, if_neg hs1_0, if_neg hs1_1, if_neg hs1_2, if_neg hs1_3, if_pos hs1_4], rfl⟩
        | exact ⟨by rw [mosW_alt, if_neg hs1_0, if_neg hs1_1, if_neg hs1_2, if_neg hs1_3, if_neg hs1_4, if_pos hs1_5], rfl⟩
        | exact ⟨by rw [mosW_alt, if_neg hs1_0, if_neg hs1_1, if_neg hs1_2, if_neg hs1_3, if_neg hs1_4, if_neg hs1_5, if_pos hs1_6], rfl⟩
        | exact ⟨by rw [mosW_alt, if_neg hs1_0, if_neg hs1_1, if_neg hs1_2, if_neg hs1_3, if_neg hs1_4, if_neg hs1_5, if_neg hs1_6, if_pos hs1_7], rfl⟩
        | exact ⟨by rw [mosW_alt, if_neg hs1_0, if_neg hs1_1, if_neg hs1_2, if_neg hs1_3, if_neg hs1_4, if_neg hs1_5, if_neg hs1_6, if_neg hs1_7], rfl⟩
    · by_cases hs1_2 : w = 2
      · refine z_tabIn M_most_d1 (off := 53) (tgt := 54) (by rw [hs1_2]; decide) (by rw [hs1_2]; decide) (by rw [hs1_2]; decide) rfl ?_
        refine zb M_most_s54 rfl ?_
        skip
        refine z_ret M_most_d60 rfl ?_
        (try rw [ho.b])
        first
          | exact ⟨by rw [mosW_alt, if_pos hs1_0], rfl⟩
          | exact ⟨by rw [mosW_alt, if_neg hs1_0, if_pos hs1_1], rfl⟩
          | exact ⟨by rw [mosW_alt, if_neg hs1_0, if_neg hs1_1, if_pos hs1_2], rfl⟩
          | exact ⟨by rw [mosW_alt, if_neg hs1_0, if_neg hs1_1, if_neg hs1_2, if_pos hs1_3], rfl⟩
          | exact ⟨by rw [mosW_alt, if_neg hs1_0, if_neg hs1_1, if_neg hs1_2, if_neg hs1_3, if_pos hs1_4], rfl⟩
          | exact ⟨by rw [mosW_alt, if_neg hs1_0, if_neg hs1_1, if_neg hs1_2, if_neg hs1_3, if_neg hs1_4, if_pos hs1_5], rfl⟩
          | exact ⟨by rw [mosW_alt, if_neg hs1_0, if_neg hs1_1, if_neg hs1_2, if_neg hs1_3, if_neg hs1_4, if_neg hs1_5, if_pos hs1_6], rfl⟩
          | exact ⟨by rw [mosW_alt, if_neg hs1_0, if_neg hs1_1, if_neg hs1_2, if_neg hs1_3, if_neg hs1_4, if_neg hs1_5, if_neg hs1_6, if_pos hs1_7], rfl⟩
          | exact ⟨by rw [mosW_alt, if_neg hs1_0, if_neg hs1_1, if_neg hs1_2, if_neg hs1_3, if_neg hs1_4, if_neg hs1_5, if_neg hs1_6, if_neg hs1_7], rfl⟩
      · by_cases hs1_3 : w = 3
        · refine z_tabIn M_most_d1 (off := 60) (tgt := 61) (by rw [hs1_3]; decide) (by rw [hs1_3]; decide) (by rw [hs1_3]; decide) rfl ?_
          refine zb M_most_s61 rfl ?_
          refine z_ret M_most_d63 rfl ?_
          (try rw [ho.b])
          first
            | exact ⟨by rw [mosW_alt, if_pos hs1_0], rfl⟩
            | exact ⟨by rw [mosW_alt, if_neg hs1_0, if_pos hs1_1], rfl⟩
            | exact ⟨by rw [mosW_alt, if_neg hs1_0, if_neg hs1_1, if_pos hs1_2], rfl⟩
            | exact ⟨by rw [mosW_alt, if_neg hs1_0, if_neg hs1_1, if_neg hs1_2, if_pos hs1_3], rfl⟩
            | exact ⟨by rw [mosW_alt, if_neg hs1_0, if_neg hs1_1, if_neg hs1_2, if_neg hs1_3, if_pos hs1_4], rfl⟩
            | exact ⟨by rw [mosW_alt, if_neg hs1_0, if_neg hs1_1, if_neg hs1_2, if_neg hs1_3, if_neg hs1_4, if_pos hs1_5], rfl⟩
            | exact ⟨by rw [mosW_alt, if_neg hs1_0, if_neg hs1_1, if_neg hs1_2, if_neg hs1_3, if_neg hs1_4, if_neg hs1_5, if_pos hs1_6], rfl⟩
            | exact ⟨by rw [mosW_alt, if_neg hs1_0, if_neg hs1_1, if_neg hs1_2, if_neg hs1_3, if_neg hs1_4, if_neg hs1_5, if_neg hs1_6, if_pos hs1_7], rfl⟩
            | exact ⟨by rw [mosW_alt, if_neg hs1_0, if_neg hs1_1, if_neg hs1_2, if_neg hs1_3, if_neg hs1_4, if_neg hs1_5, if_neg hs1_6, if_neg hs1_7], rfl⟩
        · by_cases hs1_4 : w = 4
          · refine z_tabIn M_most_d1 (off := 63) (tgt := 64) (by rw [hs1_4]; decide) (by rw [hs1_4]; decide) (by rw [hs1_4]; decide) rfl ?_
            refine zb M_most_s64 rfl ?_
            refine z_ret M_most_d65 rfl ?_
            (try rw [ho.b])
            first
              | exact ⟨by rw [mosW_alt, if_pos hs1_0], rfl⟩
              | exact ⟨by rw [mosW_alt, if_neg hs1_0, if_pos hs1_1], rfl⟩
              | exact ⟨by rw [mosW_alt, if_neg hs1_0, if_neg hs1_1, if_pos hs1_2], rfl⟩
              | exact ⟨by rw [mosW_alt, if_neg hs1_0, if_neg hs1_1, if_neg hs1_2, if_pos hs1_3], rfl⟩
              | exact ⟨by rw [mosW_alt, if_neg hs1_0, if_neg hs1_1, if_neg hs1_2, if_neg hs1_3, if_pos hs1_4], rfl⟩
              | exact ⟨by rw [mosW_alt, if_neg hs1_0, if_neg hs1_1, if_neg hs1_2, if_neg hs1_3, if_neg hs1_4, if_pos hs1_5], rfl⟩
              | exact ⟨by rw [mosW_alt, if_neg hs1_0, if_neg hs1_1, if_neg hs1_2, if_neg hs1_3, if_neg hs1_4, if_neg hs1_5, if_pos hs1_6], rfl⟩
              | exact ⟨by rw [mosW_alt, if_neg hs1_0, if_neg hs1_1, if_neg hs1_2, if_neg hs1_3, if_neg hs1_4, if_neg hs1_5, if_neg hs1_6, if_pos hs1_7], rfl⟩
              | exact ⟨by rw [mosW_alt, if_neg hs1_0, if_neg hs1_1, if_neg hs1_2, if_neg hs1_3, if_neg hs1_4, if_neg hs1_5, if_neg hs1_6, if_neg hs1_7], rfl⟩
          · by_cases hs1_5 : w = 5
            · refine z_tabIn M_most_d1 (off := 68) (tgt := 69) (by rw [hs1_5]; decide) (by rw [hs1_5]; decide) (by rw [hs1_5]; decide) rfl ?_
              refine zb M_most_s69 rfl ?_
              refine z_ret M_most_d72 rfl ?_
              (try rw [ho.b])
              first
                | exact ⟨by rw [mosW_alt, if_pos hs1_0], rfl⟩
                | exact ⟨by rw [mosW_alt, if_neg hs1_0, if_pos hs1_1], rfl⟩
                | exact ⟨by rw [mosW_alt, if_neg hs1_0, if_neg hs1_1, if_pos hs1_2], rfl⟩
                | exact ⟨by rw [mosW_alt, if_neg hs1_0, if_neg hs1_1, if_neg hs1_2, if_pos hs1_3], rfl⟩
                | exact ⟨by rw [mosW_alt, if_neg hs1_0, if_neg hs1_1, if_neg hs1_2, if_neg hs1_3, if_pos hs1_4], rfl⟩
                | exact ⟨by rw [mosW_alt, if_neg hs1_0, if_neg hs1_1, if_neg hs1_2, if_neg hs1_3, if_neg hs1_4, if_pos hs1_5], rfl⟩
                | exact ⟨by rw [mosW_alt, if_neg hs1_0, if_neg hs1_1, if_neg hs1_2, if_neg hs1_3, if_neg hs1_4, if_neg hs1_5, if_pos hs1_6], rfl⟩
                | exact ⟨by rw [mosW_alt, if_neg hs1_0, if_neg hs1_1, if_neg hs1_2, if_neg hs1_3, if_neg hs1_4, if_neg hs1_5, if_neg hs1_6, if_pos hs1_7], rfl⟩
                | exact ⟨by rw [mosW_alt, if_neg hs1_0, if_neg hs1_1, if_neg hs1_2, if_neg hs1_3, if_neg hs1_4, if_neg hs1_5, if_neg hs1_6, if_neg hs1_7], rfl⟩
            · by_cases hs1_6 : w = 6
              · refine z_tabIn M_most_d1 (off := 68) (tgt := 69) (by rw [hs1_6]; decide) (by rw [hs1_6]; decide) (by rw [hs1_6]; decide) rfl ?_
                refine zb M_most_s69 rfl ?_
                refine z_ret M_most_d72 rfl ?_
                (try rw [ho.b])
                first
                  | exact ⟨by rw [mosW_alt, if_pos hs1_0], rfl⟩
                  | exact ⟨by rw [mosW_alt, if_neg hs1_0, if_pos hs1_1], rfl⟩
                  | exact ⟨by rw [mosW_alt, if_neg hs1_0, if_neg hs1_1, if_pos hs1_2], rfl⟩
                  | exact ⟨by rw [mosW_alt, if_neg hs1_0, if_neg hs1_1, if_neg hs1_2, if_pos hs1_3], rfl⟩
                  | exact ⟨by rw [mosW_alt, if_neg hs1_0, if_neg hs1_1, if_neg hs1_2, if_neg hs1_3, if_pos hs1_4], rfl⟩
                  | exact ⟨by rw [mosW_alt, if_neg hs1_0, if_neg hs1_1, if_neg hs1_2, if_neg hs1_3, if_neg hs1_4, if_pos hs1_5], rfl⟩
                  | exact ⟨by rw [mosW_alt, if_neg hs1_0, if_neg hs1_1, if_neg hs1_2, if_neg hs1_3, if_neg hs1_4, if_neg hs1_5, if_pos hs1_6], rfl⟩
                  | exact ⟨by rw [mosW_alt, if_neg hs1_0, if_neg hs1_1, if_neg hs1_2, if_neg hs1_3, if_neg hs1_4, if_neg hs1_5, if_neg hs1_6, if_pos hs1_7], rfl⟩
                  | exact ⟨by rw [mosW_alt, if_neg hs1_0, if_neg hs1_1, if_neg hs1_2, if_neg hs1_3, if_neg hs1_4, if_neg hs1_5, if_neg hs1_6, if_neg hs1_7], rfl⟩
              · by_cases hs1_7 : w = 7
                · refine z_tabIn M_most_d1 (off := 65) (tgt := 66) (by rw [hs1_7]; decide) (by rw [hs1_7]; decide) (by rw [hs1_7]; decide) rfl ?_
                  refine zb M_most_s66 rfl ?_
                  refine z_ret M_most_d68 rfl ?_
                  (try rw [ho.b])
                  first
                    | exact ⟨by rw [mosW_alt, if_pos hs1_0], rfl⟩
                    | exact ⟨by rw [mosW_alt, if_neg hs1_0, if_pos hs1_1], rfl⟩
                    | exact ⟨by rw [mosW_alt, if_neg hs1_0, if_neg hs1_1, if_pos hs1_2], rfl⟩
                    | exact ⟨by rw [mosW_alt, if_neg hs1_0, if_neg hs1_1, if_neg hs1_2, if_pos hs1_3], rfl⟩
                    | exact ⟨by rw [mosW_alt, if_neg hs1_0, if_neg hs1_1, if_neg hs1_2, if_neg hs1_3, if_pos hs1_4], rfl⟩
                    | exact ⟨by rw [mosW_alt, if_neg hs1_0, if_neg hs1_1, if_neg hs1_2, if_neg hs1_3, if_neg hs1_4, if_pos hs1_5], rfl⟩
                    | exact ⟨by rw [mosW_alt, if_neg hs1_0, if_neg hs1_1, if_neg hs1_2, if_neg hs1_3, if_neg hs1_4, if_neg hs1_5, if_pos hs1_6], rfl⟩
                    | exact ⟨by rw [mosW_alt, if_neg hs1_0, if_neg hs1_1, if_neg hs1_2, if_neg hs1_3, if_neg hs1_4, if_neg hs1_5, if_neg hs1_6, if_pos hs1_7], rfl⟩
                    | exact ⟨by rw [mosW_alt, if_neg hs1_0, if_neg hs1_1, if_neg hs1_2, if_neg hs1_3, if_neg hs1_4, if_neg hs1_5, if_neg hs1_6, if_neg hs1_7], rfl⟩
                · refine z_tabOut M_most_d1 (tgt := 69) (zsw_out 8 (by decide) (fun k hk => by rcases (show k = 0 ∨ k = 1 ∨ k = 2 ∨ k = 3 ∨ k = 4 ∨ k = 5 ∨ k = 6 ∨ k = 7 by omega) with rfl | rfl | rfl | rfl | rfl | rfl | rfl | rfl <;> first | exact hs1_0 | exact hs1_1 | exact hs1_2 | exact hs1_3 | exact hs1_4 | exact hs1_5 | exact hs1_6 | exact hs1_7)) rfl ?_
                  refine zb M_most_s69 rfl ?_
                  refine z_ret M_most_d72 rfl ?_
                  (try rw [ho.b])
                  first
                    | exact ⟨by rw [mosW_alt, if_pos hs1_0], rfl⟩
                    | exact ⟨by rw [mosW_alt, if_neg hs1_0, if_pos hs1_1], rfl⟩
                    | exact ⟨by rw [mosW_alt, if_neg hs1_0, if_neg hs1_1, if_pos hs1_2], rfl⟩
                    | exact ⟨by rw [mosW_alt, if_neg hs1_0, if_neg hs1_1, if_neg hs1_2, if_pos hs1_3], rfl⟩
                    | exact ⟨by rw [mosW_alt, if_neg hs1_0, if_neg hs1_1, if_neg hs1_2, if_neg hs1_3, if_pos hs1_4], rfl⟩
                    | exact ⟨by rw [mosW_alt, if_neg hs1_0, if_neg hs1_1, if_neg hs1_2, if_neg hs1_3, if_neg hs1_4, if_pos hs1_5], rfl⟩
                    | exact ⟨by rw [mosW_alt, if_neg hs1_0, if_neg hs1_1, if_neg hs1_2, if_neg hs1_3, if_neg hs1_4, if_neg hs1_5, if_pos hs1_6], rfl⟩
                    | exact ⟨by rw [mosW_alt, if_neg hs1_0, if_neg hs1_1, if_neg hs1_2, if_neg hs1_3, if_neg hs1_4, if_neg hs1_5, if_neg hs1_6, if_pos hs1_7], rfl⟩
                    | exact ⟨by rw [mosW_alt, if_neg hs1_0, if_neg hs1_1, if_neg hs1_2, if_neg hs1_3, if_neg hs1_4, if_neg hs1_5, if_neg hs1_6, if_neg hs1_7], rfl⟩

set_option maxRecDepth 100000 in
set_option maxHeartbeats 4000000 in
theorem s_M_isNumber {g : zG} {d : Nat} {F : zF} {μ : zMem} (n w : Int32) (hd : 1 ≤ d) (ho : oM F μ) : zM g d M_isNumber [.ref 0, .int n, .int w] μ (fun r μ' => r = some (.int (zB (isN F n w))) ∧ μ' = μ) := by
  refine zM_of (by decide +kernel) rfl rfl (Nat.le_of_ble_eq_true rfl) rfl ?_
  refine zb M_isNumber_s0 rfl ?_
  refine zcallV M_isNumber_d4 k11_112 (by omega) (c_M_isIn _ _ _) rfl rfl rfl (Nat.le_of_ble_eq_true rfl) ?_
  rintro _ μx ⟨rfl, hx⟩
  rw [hx]
  clear hx μx
  refine z_eq M_isNumber_d7 (tgt := 18) rfl (fun h7 => ?_) (fun h7 => ?_)
  · refine zb M_isNumber_s18 rfl ?_
    refine zcallV M_isNumber_d23 k11_112 (by omega) (c_M_isIn _ _ _) rfl rfl rfl (Nat.le_of_ble_eq_true rfl) ?_
    rintro _ μx ⟨rfl, hx⟩
    rw [hx]
    clear hx μx
    refine z_eq M_isNumber_d26 (tgt := 37) rfl (fun h26 => ?_) (fun h26 => ?_)
    · refine zb M_isNumber_s37 rfl ?_
      refine z_cne M_isNumber_d40 (tgt := 51) rfl (fun h40 => ?_) (fun h40 => ?_)
      · refine zb M_isNumber_s51 rfl ?_
        refine z_retZ M_isNumber_d52 rfl (by first | exact Or.inl rfl | exact Or.inr rfl) ?_
        first
          | exact ⟨by rw [zB_t (show isN F n w from Or.inl (And.intro (zB_ne0.mp h7) (zB_ne0.mp h15)))], rfl⟩
          | exact ⟨by rw [zB_t (show isN F n w from Or.inr (Or.inl (And.intro (zB_ne0.mp h26) (zB_ne0.mp h34))))], rfl⟩
          | exact ⟨by rw [zB_t (show isN F n w from Or.inr (Or.inr (And.intro h40 h44)))], rfl⟩
          | (refine ⟨?_, rfl⟩
             rw [zB_f]
             rintro (z | z | z)
             · first | exact (zB_eq0.mp h7) z.1 | exact (zB_eq0.mp h15) z.2
             · first | exact (zB_eq0.mp h26) z.1 | exact (zB_eq0.mp h34) z.2
             · first | exact h40 z.1 | exact h44 z.2)
      · refine zb M_isNumber_s43 rfl ?_
        refine z_ne M_isNumber_d44 (tgt := 51) rfl (fun h44 => ?_) (fun h44 => ?_)
        · refine zb M_isNumber_s51 rfl ?_
          refine z_retZ M_isNumber_d52 rfl (by first | exact Or.inl rfl | exact Or.inr rfl) ?_
          first
            | exact ⟨by rw [zB_t (show isN F n w from Or.inl (And.intro (zB_ne0.mp h7) (zB_ne0.mp h15)))], rfl⟩
            | exact ⟨by rw [zB_t (show isN F n w from Or.inr (Or.inl (And.intro (zB_ne0.mp h26) (zB_ne0.mp h34))))], rfl⟩
            | exact ⟨by rw [zB_t (show isN F n w from Or.inr (Or.inr (And.intro h40 h44)))], rfl⟩
            | (refine ⟨?_, rfl⟩
               rw [zB_f]
               rintro (z | z | z)
               · first | exact (zB_eq0.mp h7) z.1 | exact (zB_eq0.mp h15) z.2
               · first | exact (zB_eq0.mp h26) z.1 | exact (zB_eq0.mp h34) z.2
               · first | exact h40 z.1 | exact h44 z.2)
        · refine zb M_isNumber_s47 rfl ?_
          refine z_retZ M_isNumber_d52 rfl (by first | exact Or.inl rfl | exact Or.inr rfl) ?_
          first
            | exact ⟨by rw [zB_t (show isN F n w from Or.inl (And.intro (zB_ne0.mp h7) (zB_ne0.mp h15)))], rfl⟩
            | exact ⟨by rw [zB_t (show isN F n w from Or.inr (Or.inl (And.intro (zB_ne0.mp h26) (zB_ne0.mp h34))))], rfl⟩
            | exact ⟨by rw [zB_t (show isN F n w from Or.inr (Or.inr (And.intro h40 h44)))], rfl⟩
            | (refine ⟨?_, rfl⟩
               rw [zB_f]
               rintro (z | z | z)
               · first | exact (zB_eq0.mp h7) z.1 | exact (zB_eq0.mp h15) z.2
               · first | exact (zB_eq0.mp h26) z.1 | exact (zB_eq0.mp h34) z.2
               · first | exact h40 z.1 | exact h44 z.2)
    · refine zb M_isNumber_s29 rfl ?_
      refine zcallV M_isNumber_d31 k11_131 (by omega) (c_M_isVow _) rfl rfl rfl (Nat.le_of_ble_eq_true rfl) ?_
      rintro _ μx ⟨rfl, hx⟩
      rw [hx]
      clear hx μx
      rw [ho.v]
      refine z_ne M_isNumber_d34 (tgt := 47) rfl (fun h34 => ?_) (fun h34 => ?_)
      · refine zb M_isNumber_s47 rfl ?_
        refine z_retZ M_isNumber_d52 rfl (by first | exact Or.inl rfl | exact Or.inr rfl) ?_
        first
          | exact ⟨by rw [zB_t (show isN F n w from Or.inl (And.intro (zB_ne0.mp h7) (zB_ne0.mp h15)))], rfl⟩
          | exact ⟨by rw [zB_t (show isN F n w from Or.inr (Or.inl (And.intro (zB_ne0.mp h26) (zB_ne0.mp h34))))], rfl⟩
          | exact ⟨by rw [zB_t (show isN F n w from Or.inr (Or.inr (And.intro h40 h44)))], rfl⟩
          | (refine ⟨?_, rfl⟩
             rw [zB_f]
             rintro (z | z | z)
             · first | exact (zB_eq0.mp h7) z.1 | exact (zB_eq0.mp h15) z.2
             · first | exact (zB_eq0.mp h26) z.1 | exact (zB_eq0.mp h34) z.2
             · first | exact h40 z.1 | exact h44 z.2)
      · refine zb M_isNumber_s37 rfl ?_
        refine z_cne M_isNumber_d40 (tgt := 51) rfl (fun h40 => ?_) (fun h40 => ?_)
        · refine zb M_isNumber_s51 rfl ?_
          refine z_retZ M_isNumber_d52 rfl (by first | exact Or.inl rfl | exact Or.inr rfl) ?_
          first
            | exact ⟨by rw [zB_t (show isN F n w from Or.inl (And.intro (zB_ne0.mp h7) (zB_ne0.mp h15)))], rfl⟩
            | exact ⟨by rw [zB_t (show isN F n w from Or.inr (Or.inl (And.intro (zB_ne0.mp h26) (zB_ne0.mp h34))))], rfl⟩
            | exact ⟨by rw [zB_t (show isN F n w from Or.inr (Or.inr (And.intro h40 h44)))], rfl⟩
            | (refine ⟨?_, rfl⟩
               rw [zB_f]
               rintro (z | z | z)
               · first | exact (zB_eq0.mp h7) z.1 | exact (zB_eq0.mp h15) z.2
               · first | exact (zB_eq0.mp h26) z.1 | exact (zB_eq0.mp h34) z.2
               · first | exact h40 z.1 | exact h44 z.2)
        · refine zb M_isNumber_s43 rfl ?_
          refine z_ne M_isNumber_d44 (tgt := 51) rfl (fun h44 => ?_) (fun h44 => ?_)
          · refine zb M_isNumber_s51 rfl ?_
            refine z_retZ M_isNumber_d52 rfl (by first | exact Or.inl rfl | exact Or.inr rfl) ?_
            first
              | exact ⟨by rw [zB_t (show isN F n w from Or.inl (And.intro (zB_ne0.mp h7) (zB_ne0.mp h15)))], rfl⟩
              | exact ⟨by rw [zB_t (show isN F n w from Or.inr (Or.inl (And.intro (zB_ne0.mp h26) (zB_ne0.mp h34))))], rfl⟩
              | exact ⟨by rw [zB_t (show isN F n w from Or.inr (Or.inr (And.intro h40 h44)))], rfl⟩
              | (refine ⟨?_, rfl⟩
                 rw [zB_f]
                 rintro (z | z | z)
                 · first | exact (zB_eq0.mp h7) z.1 | exact (zB_eq0.mp h15) z.2
                 · first | exact (zB_eq0.mp h26) z.1 | exact (zB_eq0.mp h34) z.2
                 · first | exact h40 z.1 | exact h44 z.2)
          · refine zb M_isNumber_s47 rfl ?_
            refine z_retZ M_isNumber_d52 rfl (by first | exact Or.inl rfl | exact Or.inr rfl) ?_
            first
              | exact ⟨by rw [zB_t (show isN F n w from Or.inl (And.intro (zB_ne0.mp h7) (zB_ne0.mp h15)))], rfl⟩
              | exact ⟨by rw [zB_t (show isN F n w from Or.inr (Or.inl (And.intro (zB_ne0.mp h26) (zB_ne0.mp h34))))], rfl⟩
              | exact ⟨by rw [zB_t (show isN F n w from Or.inr (Or.inr (And.intro h40 h44)))], rfl⟩
              | (refine ⟨?_, rfl⟩
                 rw [zB_f]
                 rintro (z | z | z)
                 · first | exact (zB_eq0.mp h7) z.1 | exact (zB_eq0.mp h15) z.2
                 · first | exact (zB_eq0.mp h26) z.1 | exact (zB_eq0.mp h34) z.2
                 · first | exact h40 z.1 | exact h44 z.2)
  · refine zb M_isNumber_s10 rfl ?_
    refine zcallV M_isNumber_d12 k11_116 (by omega) (c_M_isBell _) rfl rfl rfl (Nat.le_of_ble_eq_true rfl) ?_
    rintro _ μx ⟨rfl, hx⟩
    rw [hx]
    clear hx μx
    rw [ho.b]
    refine z_ne M_isNumber_d15 (tgt := 47) rfl (fun h15 => ?_) (fun h15 => ?_)
    · refine zb M_isNumber_s47 rfl ?_
      refine z_retZ M_isNumber_d52 rfl (by first | exact Or.inl rfl | exact Or.inr rfl) ?_
      first
        | exact ⟨by rw [zB_t (show isN F n w from Or.inl (And.intro (zB_ne0.mp h7) (zB_ne0.mp h15)))], rfl⟩
        | exact ⟨by rw [zB_t (show isN F n w from Or.inr (Or.inl (And.intro (zB_ne0.mp h26) (zB_ne0.mp h34))))], rfl⟩
        | exact ⟨by rw [zB_t (show isN F n w from Or.inr (Or.inr (And.intro h40 h44)))], rfl⟩
        | (refine ⟨?_, rfl⟩
           rw [zB_f]
           rintro (z | z | z)
           · first | exact (zB_eq0.mp h7) z.1 | exact (zB_eq0.mp h15) z.2
           · first | exact (zB_eq0.mp h26) z.1 | exact (zB_eq0.mp h34) z.2
           · first | exact h40 z.1 | exact h44 z.2)
    · refine zb M_isNumber_s18 rfl ?_
      refine zcallV M_isNumber_d23 k11_112 (by omega) (c_M_isIn _ _ _) rfl rfl rfl (Nat.le_of_ble_eq_true rfl) ?_
      rintro _ μx ⟨rfl, hx⟩
      rw [hx]
      clear hx μx
      refine z_eq M_isNumber_d26 (tgt := 37) rfl (fun h26 => ?_) (fun h26 => ?_)
      · refine zb M_isNumber_s37 rfl ?_
        refine z_cne M_isNumber_d40 (tgt := 51) rfl (fun h40 => ?_) (fun h40 => ?_)
        · refine zb M_isNumber_s51 rfl ?_
          refine z_retZ M_isNumber_d52 rfl (by first | exact Or.inl rfl | exact Or.inr rfl) ?_
          first
            | exact ⟨by rw [zB_t (show isN F n w from Or.inl (And.intro (zB_ne0.mp h7) (zB_ne0.mp h15)))], rfl⟩
            | exact ⟨by rw [zB_t (show isN F n w from Or.inr (Or.inl (And.intro (zB_ne0.mp h26) (zB_ne0.mp h34))))], rfl⟩
            | exact ⟨by rw [zB_t (show isN F n w from Or.inr (Or.inr (And.intro h40 h44)))], rfl⟩
            | (refine ⟨?_, rfl⟩
               rw [zB_f]
               rintro (z | z | z)
               · first | exact (zB_eq0.mp h7) z.1 | exact (zB_eq0.mp h15) z.2
               · first | exact (zB_eq0.mp h26) z.1 | exact (zB_eq0.mp h34) z.2
               · first | exact h40 z.1 | exact h44 z.2)
        · refine zb M_isNumber_s43 rfl ?_
          refine z_ne M_isNumber_d44 (tgt := 51) rfl (fun h44 => ?_) (fun h44 => ?_)
          · refine zb M_isNumber_s51 rfl ?_
            refine z_retZ M_isNumber_d52 rfl (by first | exact Or.inl rfl | exact Or.inr rfl) ?_
            first
              | exact ⟨by rw [zB_t (show isN F n w from Or.inl (And.intro (zB_ne0.mp h7) (zB_ne0.mp h15)))], rfl⟩
              | exact ⟨by rw [zB_t (show isN F n w from Or.inr (Or.inl (And.intro (zB_ne0.mp h26) (zB_ne0.mp h34))))], rfl⟩
              | exact ⟨by rw [zB_t (show isN F n w from Or.inr (Or.inr (And.intro h40 h44)))], rfl⟩
              | (refine ⟨?_, rfl⟩
                 rw [zB_f]
                 rintro (z | z | z)
                 · first | exact (zB_eq0.mp h7) z.1 | exact (zB_eq0.mp h15) z.2
                 · first | exact (zB_eq0.mp h26) z.1 | exact (zB_eq0.mp h34) z.2
                 · first | exact h40 z.1 | exact h44 z.2)
          · refine zb M_isNumber_s47 rfl ?_
            refine z_retZ M_isNumber_d52 rfl (by first | exact Or.inl rfl | exact Or.inr rfl) ?_
            first
              | exact ⟨by rw [zB_t (show isN F n w from Or.inl (And.intro (zB_ne0.mp h7) (zB_ne0.mp h15)))], rfl⟩
              | exact ⟨by rw [zB_t (show isN F n w from Or.inr (Or.inl (And.intro (zB_ne0.mp h26) (zB_ne0.mp h34))))], rfl⟩
              | exact ⟨by rw [zB_t (show isN F n w from Or.inr (Or.inr (And.intro h40 h44)))], rfl⟩
              | (refine ⟨?_, rfl⟩
                 rw [zB_f]
                 rintro (z | z | z)
                 · first | exact (zB_eq0.mp h7) z.1 | exact (zB_eq0.mp h15) z.2
                 · first | exact (zB_eq0.mp h26) z.1 | exact (zB_eq0.mp h34) z.2
                 · first | exact h40 z.1 | exact h44 z.2)
      · refine zb M_isNumber_s29 rfl ?_
        refine zcallV M_isNumber_d31 k11_131 (by omega) (c_M_isVow _) rfl rfl rfl (Nat.le_of_ble_eq_true rfl) ?_
        rintro _ μx ⟨rfl, hx⟩
        rw [hx]
        clear hx μx
        rw [ho.v]
        refine z_ne M_isNumber_d34 (tgt := 47) rfl (fun h34 => ?_) (fun h34 => ?_)
        · refine zb M_isNumber_s47 rfl ?_
          refine z_retZ M_isNumber_d52 rfl (by first | exact Or.inl rfl | exact Or.inr rfl) ?_
          first
            | exact ⟨by rw [zB_t (show isN F n w from Or.inl (And.intro (zB_ne0.mp h7) (zB_ne0.mp h15)))], rfl⟩
            | exact ⟨by rw [zB_t (show isN F n w from Or.inr (Or.inl (And.intro (zB_ne0.mp h26) (zB_ne0.mp h34))))], rfl⟩
            | exact ⟨by rw [zB_t (show isN F n w from Or.inr (Or.inr (And.intro h40 h44)))], rfl⟩
            | (refine ⟨?_, rfl⟩
               rw [zB_f]
               rintro (z | z | z)
               · first | exact (zB_eq0.mp h7) z.1 | exact (zB_eq0.mp h15) z.2
               · first | exact (zB_eq0.mp h26) z.1 | exact (zB_eq0.mp h34) z.2
               · first | exact h40 z.1 | exact h44 z.2)
        · refine zb M_isNumber_s37 rfl ?_
          refine z_cne M_isNumber_d40 (tgt := 51) rfl (fun h40 => ?_) (fun h40 => ?_)
          · refine zb M_isNumber_s51 rfl ?_
            refine z_retZ M_isNumber_d52 rfl (by first | exact Or.inl rfl | exact Or.inr rfl) ?_
            first
              | exact ⟨by rw [zB_t (show isN F n w from Or.inl (And.intro (zB_ne0.mp h7) (zB_ne0.mp h15)))], rfl⟩
              | exact ⟨by rw [zB_t (show isN F n w from Or.inr (Or.inl (And.intro (zB_ne0.mp h26) (zB_ne0.mp h34))))], rfl⟩
              | exact ⟨by rw [zB_t (show isN F n w from Or.inr (Or.inr (And.intro h40 h44)))], rfl⟩
              | (refine ⟨?_, rfl⟩
                 rw [zB_f]
                 rintro (z | z | z)
                 · first | exact (zB_eq0.mp h7) z.1 | exact (zB_eq0.mp h15) z.2
                 · first | exact (zB_eq0.mp h26) z.1 | exact (zB_eq0.mp h34) z.2
                 · first | exact h40 z.1 | exact h44 z.2)
          · refine zb M_isNumber_s43 rfl ?_
            refine z_ne M_isNumber_d44 (tgt := 51) rfl (fun h44 => ?_) (fun h44 => ?_)
            · refine zb M_isNumber_s51 rfl ?_
              refine z_retZ M_isNumber_d52 rfl (by first | exact Or.inl rfl | exact Or.inr rfl) ?_
              first
                | exact ⟨by rw [zB_t (show isN F n w from Or.inl (And.intro (zB_ne0.mp h7) (zB_ne0.mp h15)))], rfl⟩
                | exact ⟨by rw [zB_t (show isN F n w from Or.inr (Or.inl (And.intro (zB_ne0.mp h26) (zB_ne0.mp h34))))], rfl⟩
                | exact ⟨by rw [zB_t (show isN F n w from Or.inr (Or.inr (And.intro h40 h44)))], rfl⟩
                | (refine ⟨?_, rfl⟩
                   rw [zB_f]
                   rintro (z | z | z)
                   · first | exact (zB_eq0.mp h7) z.1 | exact (zB_eq0.mp h15) z.2
                   · first | exact (zB_eq0.mp h26) z.1 | exact (zB_eq0.mp h34) z.2
                   · first | exact h40 z.1 | exact h44 z.2)
            · refine zb M_isNumber_s47 rfl ?_
              refine z_retZ M_isNumber_d52 rfl (by first | exact Or.inl rfl | exact Or.inr rfl) ?_
              first
                | exact ⟨by rw [zB_t (show isN F n w from Or.inl (And.intro (zB_ne0.mp h7) (zB_ne0.mp h15)))], rfl⟩
                | exact ⟨by rw [zB_t (show isN F n w from Or.inr (Or.inl (And.intro (zB_ne0.mp h26) (zB_ne0.mp h34))))], rfl⟩
                | exact ⟨by rw [zB_t (show isN F n w from Or.inr (Or.inr (And.intro h40 h44)))], rfl⟩
                | (refine ⟨?_, rfl⟩
                   rw [zB_f]
                   rintro (z | z | z)
                   · first | exact (zB_eq0.mp h7) z.1 | exact (zB_eq0.mp h15) z.2
                   · first | exact (zB_eq0.mp h26) z.1 | exact (zB_eq0.mp h34) z.2
                   · first | exact h40 z.1 | exact h44 z.2)

theorem isN_ix {F : zF} {n w : Int32} (h : isN F n w) (hB : fB F ≤ 6) (hV : fV F ≤ 12) : (w = 0 ∨ w = 1 → vp_in n 6) ∧ (¬ (w = 0 ∨ w = 1) → ¬ w = 7 → vp_in n 12) := by
  refine ⟨fun hw => ?_, fun h01 h7 => ?_⟩
  · rcases h with h | h | h
    · obtain ⟨q, hq, rfl, -⟩ := zix h.2.1 h.2.2 (by omega)
      exact vp_in_nI (by omega) (by omega)
    · rcases hw with rfl | rfl
      · exact absurd h.1.1 (by decide)
      · exact absurd h.1.1 (by decide)
    · rcases hw with rfl | rfl
      · exact absurd h.1 (by decide)
      · exact absurd h.1 (by decide)
  · rcases h with h | h | h
    · exfalso
      obtain ⟨q, hq, rfl⟩ := nI_of2 (M := 1) (n := 1) rfl (Int32.not_lt.mpr h.1.1) h.1.2
      rcases (show q = 0 ∨ q = 1 by omega) with rfl | rfl
      · exact h01 (Or.inl rfl)
      · exact h01 (Or.inr rfl)
    · obtain ⟨q, hq, rfl, -⟩ := zix h.2.1 h.2.2 (by omega)
      exact vp_in_nI (by omega) (by omega)
    · exact absurd h.1 h7

set_option maxRecDepth 100000 in
set_option maxHeartbeats 4000000 in
theorem s_M_read {g : zG} {d : Nat} {F : zF} {μ : zMem} {fl n w : Int32} (hN : isN F n w) (hfl : μ.1 0 2 = fl) (ho : oM F μ) : zM g d M_read [.ref 0, .int n, .int w] μ (fun r μ' => r = some (.int (rdF F fl n.toNatClampNeg w)) ∧ μ' = μ) := by
  refine zM_of (by decide +kernel) rfl rfl (Nat.le_of_ble_eq_true rfl) rfl ?_
  refine zb M_read_s0 rfl ?_
  by_cases hs1_0 : w = 0
  · refine z_tabIn M_read_d1 (off := 43) (tgt := 44) (by rw [hs1_0]; decide) (by rw [hs1_0]; decide) (by rw [hs1_0]; decide) rfl ?_
    refine zb1 M_read_s44 rfl (by first | exact (isN_ix hN ho.b6 ho.v12).1 (Or.inl (by assumption)) | exact (isN_ix hN ho.b6 ho.v12).1 (Or.inr (by assumption)) | (refine (isN_ix hN ho.b6 ho.v12).2 ?_ ?_ <;> (intro z; simp_all))) ?_
    refine z_ret M_read_d50 rfl ?_
    refine ⟨?_, rfl⟩
    unfold rdF
    first
      | rw [if_pos hs1_0, ho.e25]
      | rw [if_neg hs1_0, if_pos hs1_1, ho.e26]
      | rw [if_neg hs1_0, if_neg hs1_1, if_pos hs1_2, ho.e27]
      | rw [if_neg hs1_0, if_neg hs1_1, if_neg hs1_2, if_pos hs1_3, ho.e28]
      | rw [if_neg hs1_0, if_neg hs1_1, if_neg hs1_2, if_neg hs1_3, if_pos hs1_4, ho.e29]
      | rw [if_neg hs1_0, if_neg hs1_1, if_neg hs1_2, if_neg hs1_3, if_neg hs1_4, if_pos hs1_5, ho.e30]
      | rw [if_neg hs1_0, if_neg hs1_1, if_neg hs1_2, if_neg hs1_3, if_neg hs1_4, if_neg hs1_5, if_pos hs1_6, ho.e31]
      | rw [if_neg hs1_0, if_neg hs1_1, if_neg hs1_2, if_neg hs1_3, if_neg hs1_4, if_neg hs1_5, if_neg hs1_6, hfl]
  · by_cases hs1_1 : w = 1
    · refine z_tabIn M_read_d1 (off := 50) (tgt := 51) (by rw [hs1_1]; decide) (by rw [hs1_1]; decide) (by rw [hs1_1]; decide) rfl ?_
      refine zb1 M_read_s51 rfl (by first | exact (isN_ix hN ho.b6 ho.v12).1 (Or.inl (by assumption)) | exact (isN_ix hN ho.b6 ho.v12).1 (Or.inr (by assumption)) | (refine (isN_ix hN ho.b6 ho.v12).2 ?_ ?_ <;> (intro z; simp_all))) ?_
      refine z_ret M_read_d57 rfl ?_
      refine ⟨?_, rfl⟩
      unfold rdF
      first
        | rw [if_pos hs1_0, ho.e25]
        | rw [if_neg hs1_0, if_pos hs1_1, ho.e26]
        | rw [if_neg hs1_0, if_neg hs1_1, if_pos hs1_2, ho.e27]
        | rw [if_neg hs1_0, if_neg hs1_1, if_neg hs1_2, if_pos hs1_3, ho.e28]
        | rw [if_neg hs1_0, if_neg hs1_1, if_neg hs1_2, if_neg hs1_3, if_pos hs1_4, ho.e29]
        | rw [if_neg hs1_0, if_neg hs1_1, if_neg hs1_2, if_neg hs1_3, if_neg hs1_4, if_pos hs1_5, ho.e30]
        | rw [if_neg hs1_0, if_neg hs1_1, if_neg hs1_2, if_neg hs1_3, if_neg hs1_4, if_neg hs1_5, if_pos hs1_6, ho.e31]
        | rw [if_neg hs1_0, if_neg hs1_1, if_neg hs1_2, if_neg hs1_3, if_neg hs1_4, if_neg hs1_5, if_neg hs1_6, hfl]
    · by_cases hs1_2 : w = 2
      · refine z_tabIn M_read_d1 (off := 57) (tgt := 58) (by rw [hs1_2]; decide) (by rw [hs1_2]; decide) (by rw [hs1_2]; decide) rfl ?_
        refine zb1 M_read_s58 rfl (by first | exact (isN_ix hN ho.b6 ho.v12).1 (Or.inl (by assumption)) | exact (isN_ix hN ho.b6 ho.v12).1 (Or.inr (by assumption)) | (refine (isN_ix hN ho.b6 ho.v12).2 ?_ ?_ <;> (intro z; simp_all))) ?_
        refine z_ret M_read_d64 rfl ?_
        refine ⟨?_, rfl⟩
        unfold rdF
        first
          | rw [if_pos hs1_0, ho.e25]
          | rw [if_neg hs1_0, if_pos hs1_1, ho.e26]
          | rw [if_neg hs1_0, if_neg hs1_1, if_pos hs1_2, ho.e27]
          | rw [if_neg hs1_0, if_neg hs1_1, if_neg hs1_2, if_pos hs1_3, ho.e28]
          | rw [if_neg hs1_0, if_neg hs1_1, if_neg hs1_2, if_neg hs1_3, if_pos hs1_4, ho.e29]
          | rw [if_neg hs1_0, if_neg hs1_1, if_neg hs1_2, if_neg hs1_3, if_neg hs1_4, if_pos hs1_5, ho.e30]
          | rw [if_neg hs1_0, if_neg hs1_1, if_neg hs1_2, if_neg hs1_3, if_neg hs1_4, if_neg hs1_5, if_pos hs1_6, ho.e31]
          | rw [if_neg hs1_0, if_neg hs1_1, if_neg hs1_2, if_neg hs1_3, if_neg hs1_4, if_neg hs1_5, if_neg hs1_6, hfl]
      · by_cases hs1_3 : w = 3
        · refine z_tabIn M_read_d1 (off := 64) (tgt := 65) (by rw [hs1_3]; decide) (by rw [hs1_3]; decide) (by rw [hs1_3]; decide) rfl ?_
          refine zb1 M_read_s65 rfl (by first | exact (isN_ix hN ho.b6 ho.v12).1 (Or.inl (by assumption)) | exact (isN_ix hN ho.b6 ho.v12).1 (Or.inr (by assumption)) | (refine (isN_ix hN ho.b6 ho.v12).2 ?_ ?_ <;> (intro z; simp_all))) ?_
          refine z_ret M_read_d71 rfl ?_
          refine ⟨?_, rfl⟩
          unfold rdF
          first
            | rw [if_pos hs1_0, ho.e25]
            | rw [if_neg hs1_0, if_pos hs1_1, ho.e26]
            | rw [if_neg hs1_0, if_neg hs1_1, if_pos hs1_2, ho.e27]
            | rw [if_neg hs1_0, if_neg hs1_1, if_neg hs1_2, if_pos hs1_3, ho.e28]
            | rw [if_neg hs1_0, if_neg hs1_1, if_neg hs1_2, if_neg hs1_3, if_pos hs1_4, ho.e29]
            | rw [if_neg hs1_0, if_neg hs1_1, if_neg hs1_2, if_neg hs1_3, if_neg hs1_4, if_pos hs1_5, ho.e30]
            | rw [if_neg hs1_0, if_neg hs1_1, if_neg hs1_2, if_neg hs1_3, if_neg hs1_4, if_neg hs1_5, if_pos hs1_6, ho.e31]
            | rw [if_neg hs1_0, if_neg hs1_1, if_neg hs1_2, if_neg hs1_3, if_neg hs1_4, if_neg hs1_5, if_neg hs1_6, hfl]
        · by_cases hs1_4 : w = 4
          · refine z_tabIn M_read_d1 (off := 71) (tgt := 72) (by rw [hs1_4]; decide) (by rw [hs1_4]; decide) (by rw [hs1_4]; decide) rfl ?_
            refine zb1 M_read_s72 rfl (by first | exact (isN_ix hN ho.b6 ho.v12).1 (Or.inl (by assumption)) | exact (isN_ix hN ho.b6 ho.v12).1 (Or.inr (by assumption)) | (refine (isN_ix hN ho.b6 ho.v12).2 ?_ ?_ <;> (intro z; simp_all))) ?_
            refine z_ret M_read_d78 rfl ?_
            refine ⟨?_, rfl⟩
            unfold rdF
            first
              | rw [if_pos hs1_0, ho.e25]
              | rw [if_neg hs1_0, if_pos hs1_1, ho.e26]
              | rw [if_neg hs1_0, if_neg hs1_1, if_pos hs1_2, ho.e27]
              | rw [if_neg hs1_0, if_neg hs1_1, if_neg hs1_2, if_pos hs1_3, ho.e28]
              | rw [if_neg hs1_0, if_neg hs1_1, if_neg hs1_2, if_neg hs1_3, if_pos hs1_4, ho.e29]
              | rw [if_neg hs1_0, if_neg hs1_1, if_neg hs1_2, if_neg hs1_3, if_neg hs1_4, if_pos hs1_5, ho.e30]
              | rw [if_neg hs1_0, if_neg hs1_1, if_neg hs1_2, if_neg hs1_3, if_neg hs1_4, if_neg hs1_5, if_pos hs1_6, ho.e31]
              | rw [if_neg hs1_0, if_neg hs1_1, if_neg hs1_2, if_neg hs1_3, if_neg hs1_4, if_neg hs1_5, if_neg hs1_6, hfl]
          · by_cases hs1_5 : w = 5
            · refine z_tabIn M_read_d1 (off := 78) (tgt := 79) (by rw [hs1_5]; decide) (by rw [hs1_5]; decide) (by rw [hs1_5]; decide) rfl ?_
              refine zb1 M_read_s79 rfl (by first | exact (isN_ix hN ho.b6 ho.v12).1 (Or.inl (by assumption)) | exact (isN_ix hN ho.b6 ho.v12).1 (Or.inr (by assumption)) | (refine (isN_ix hN ho.b6 ho.v12).2 ?_ ?_ <;> (intro z; simp_all))) ?_
              refine z_ret M_read_d85 rfl ?_
              refine ⟨?_, rfl⟩
              unfold rdF
              first
                | rw [if_pos hs1_0, ho.e25]
                | rw [if_neg hs1_0, if_pos hs1_1, ho.e26]
                | rw [if_neg hs1_0, if_neg hs1_1, if_pos hs1_2, ho.e27]
                | rw [if_neg hs1_0, if_neg hs1_1, if_neg hs1_2, if_pos hs1_3, ho.e28]
                | rw [if_neg hs1_0, if_neg hs1_1, if_neg hs1_2, if_neg hs1_3, if_pos hs1_4, ho.e29]
                | rw [if_neg hs1_0, if_neg hs1_1, if_neg hs1_2, if_neg hs1_3, if_neg hs1_4, if_pos hs1_5, ho.e30]
                | rw [if_neg hs1_0, if_neg hs1_1, if_neg hs1_2, if_neg hs1_3, if_neg hs1_4, if_neg hs1_5, if_pos hs1_6, ho.e31]
                | rw [if_neg hs1_0, if_neg hs1_1, if_neg hs1_2, if_neg hs1_3, if_neg hs1_4, if_neg hs1_5, if_neg hs1_6, hfl]
            · by_cases hs1_6 : w = 6
              · refine z_tabIn M_read_d1 (off := 85) (tgt := 86) (by rw [hs1_6]; decide) (by rw [hs1_6]; decide) (by rw [hs1_6]; decide) rfl ?_
                refine zb1 M_read_s86 rfl (by first | exact (isN_ix hN ho.b6 ho.v12).1 (Or.inl (by assumption)) | exact (isN_ix hN ho.b6 ho.v12).1 (Or.inr (by assumption)) | (refine (isN_ix hN ho.b6 ho.v12).2 ?_ ?_ <;> (intro z; simp_all))) ?_
                refine z_ret M_read_d92 rfl ?_
                refine ⟨?_, rfl⟩
                unfold rdF
                first
                  | rw [if_pos hs1_0, ho.e25]
                  | rw [if_neg hs1_0, if_pos hs1_1, ho.e26]
                  | rw [if_neg hs1_0, if_neg hs1_1, if_pos hs1_2, ho.e27]
                  | rw [if_neg hs1_0, if_neg hs1_1, if_neg hs1_2, if_pos hs1_3, ho.e28]
                  | rw [if_neg hs1_0, if_neg hs1_1, if_neg hs1_2, if_neg hs1_3, if_pos hs1_4, ho.e29]
                  | rw [if_neg hs1_0, if_neg hs1_1, if_neg hs1_2, if_neg hs1_3, if_neg hs1_4, if_pos hs1_5, ho.e30]
                  | rw [if_neg hs1_0, if_neg hs1_1, if_neg hs1_2, if_neg hs1_3, if_neg hs1_4, if_neg hs1_5, if_pos hs1_6, ho.e31]
                  | rw [if_neg hs1_0, if_neg hs1_1, if_neg hs1_2, if_neg hs1_3, if_neg hs1_4, if_neg hs1_5, if_neg hs1_6, hfl]
              · refine z_tabOut M_read_d1 (tgt := 93) (zsw_out 7 (by decide) (fun k hk => by rcases (show k = 0 ∨ k = 1 ∨ k = 2 ∨ k = 3 ∨ k = 4 ∨ k = 5 ∨ k = 6 by omega) with rfl | rfl | rfl | rfl | rfl | rfl | rfl <;> first | exact hs1_0 | exact hs1_1 | exact hs1_2 | exact hs1_3 | exact hs1_4 | exact hs1_5 | exact hs1_6)) rfl ?_
                refine zb M_read_s93 rfl ?_
                refine z_ret M_read_d97 rfl ?_
                refine ⟨?_, rfl⟩
                unfold rdF
                first
                  | rw [if_pos hs1_0, ho.e25]
                  | rw [if_neg hs1_0, if_pos hs1_1, ho.e26]
                  | rw [if_neg hs1_0, if_neg hs1_1, if_pos hs1_2, ho.e27]
                  | rw [if_neg hs1_0, if_neg hs1_1, if_neg hs1_2, if_pos hs1_3, ho.e28]
                  | rw [if_neg hs1_0, if_neg hs1_1, if_neg hs1_2, if_neg hs1_3, if_pos hs1_4, ho.e29]
                  | rw [if_neg hs1_0, if_neg hs1_1, if_neg hs1_2, if_neg hs1_3, if_neg hs1_4, if_pos hs1_5, ho.e30]
                  | rw [if_neg hs1_0, if_neg hs1_1, if_neg hs1_2, if_neg hs1_3, if_neg hs1_4, if_neg hs1_5, if_pos hs1_6, ho.e31]
                  | rw [if_neg hs1_0, if_neg hs1_1, if_neg hs1_2, if_neg hs1_3, if_neg hs1_4, if_neg hs1_5, if_neg hs1_6, hfl]
