/-! all reading calls of both objects, as answers that leave what stands -/
theorem tune_ok {F : zF} (hF : okF F) : tuneOK F := fun i _ hb z => by
  have h := (hF.1 i hb).2.1
  rw [z] at h
  exact absurd h (by decide)
theorem mS_oR {S : zS} {μ : zMem} (hS : mS S μ) (hok : okH S) {q : Nat} (hq : q < 6) (h2 : μ.1 48 q = 2) : oR q (hSize S q).toNatClampNeg (hInt S q) μ := by
  obtain ⟨-, -, -, -, -, -, -, e48, e49, e50, e51, e52⟩ := hS
  have h2' : hHeld S q = 2 := by rw [← h2, e48]; rfl
  obtain ⟨-, ⟨m, hm, em⟩, -⟩ := hok.two hq h2'
  have ec : (hSize S q).toNatClampNeg = m := by rw [em]; exact nI_clamp (by omega)
  refine ⟨hq, by rw [ec]; exact hm, ?_, fun i hi => ?_⟩
  · rw [ec, ← em, e50]; rfl
  · rw [e52 q i hq hi]; rfl
theorem mS_oRx {S : zS} {μ : zMem} (hS : mS S μ) (hok : okH S) (s : Int32) : ∀ q, q < 6 → s = nI q → μ.1 48 q = 2 → oR q (hSize S s.toNatClampNeg).toNatClampNeg (hInt S s.toNatClampNeg) μ := fun q hq e h2 => by
  have ec : s.toNatClampNeg = q := by rw [e]; exact nI_clamp (by omega)
  rw [ec]
  exact mS_oR hS hok hq h2
theorem g_M_puts {g : zG} {d : Nat} {S : zS} {μ : zMem} {v dh : Int32} (hF : okF S.1) (hk : okH S) (h62 : 62 ≤ d) (hS : mS S μ) : zM g d M_puts [.ref 0, .int v, .int dh] μ (pO mS onlyM (sPuts S.1 v dh, S) μ) := pO_M hS ((c_M_puts (by omega) hS.1.1).mono (fun r μ1 q => ⟨by rw [q.1, hS.1.2], q.2.gm⟩))
theorem g_X_puts {g : zG} {d : Nat} {S : zS} {μ : zMem} {v dh : Int32} (hF : okF S.1) (hk : okH S) (h62 : 62 ≤ d) (hS : xS S μ) : zM g d X_puts [.ref 1, .int v, .int dh] μ (pO xS onlyX (sPuts S.1 v dh, S) μ) := pO_X hS (x_puts hF (by omega) hS.1)
theorem g_M_pitch {g : zG} {d : Nat} {S : zS} {μ : zMem} {b dh w : Int32} (hF : okF S.1) (hk : okH S) (h62 : 62 ≤ d) (hS : mS S μ) : zM g d M_pitch [.ref 0, .int b, .int dh, .int w] μ (pO mS onlyM (sPitch S.1 b dh w, S) μ) := pO_M hS ((c_M_pitch (by omega) hS.1.1).mono (fun r μ1 q => ⟨by rw [q.1, hS.1.2], q.2.gm⟩))
theorem g_X_pitch {g : zG} {d : Nat} {S : zS} {μ : zMem} {b dh w : Int32} (hF : okF S.1) (hk : okH S) (h62 : 62 ≤ d) (hS : xS S μ) : zM g d X_pitch [.ref 1, .int b, .int dh, .int w] μ (pO xS onlyX (sPitch S.1 b dh w, S) μ) := pO_X hS (x_pitch hF (by omega) hS.1)
theorem g_M_town {g : zG} {d : Nat} {S : zS} {μ : zMem} {dh w : Int32} (hF : okF S.1) (hk : okH S) (h62 : 62 ≤ d) (hS : mS S μ) : zM g d M_town [.ref 0, .int dh, .int w] μ (pO mS onlyM (sTown S.1 dh w, S) μ) := pO_M hS ((c_M_town (by omega) hS.1.1).mono (fun r μ1 q => ⟨by rw [q.1, hS.1.2], q.2.gm⟩))
theorem g_X_town {g : zG} {d : Nat} {S : zS} {μ : zMem} {dh w : Int32} (hF : okF S.1) (hk : okH S) (h62 : 62 ≤ d) (hS : xS S μ) : zM g d X_town [.ref 1, .int dh, .int w] μ (pO xS onlyX (sTown S.1 dh w, S) μ) := pO_X hS (x_town hF (by omega) hS.1)
theorem g_M_beats {g : zG} {d : Nat} {S : zS} {μ : zMem} {ab dh : Int32} (hF : okF S.1) (hk : okH S) (h62 : 62 ≤ d) (hS : mS S μ) : zM g d M_beats [.ref 0, .int ab, .int dh] μ (pO mS onlyM (sBeats S.1 ab dh, S) μ) := pO_M hS ((c_M_beats (by omega) hS.1.1 (by rw [hS.1.2]; exact tune_ok hF)).mono (fun r μ1 q => ⟨by rw [q.1, hS.1.2], q.2.gm⟩))
theorem g_X_beats {g : zG} {d : Nat} {S : zS} {μ : zMem} {ab dh : Int32} (hF : okF S.1) (hk : okH S) (h62 : 62 ≤ d) (hS : xS S μ) : zM g d X_beats [.ref 1, .int ab, .int dh] μ (pO xS onlyX (sBeats S.1 ab dh, S) μ) := pO_X hS (x_beats hF (by omega) hS.1)
theorem g_M_chime {g : zG} {d : Nat} {S : zS} {μ : zMem} {s dh w : Int32} (hF : okF S.1) (hk : okH S) (h62 : 62 ≤ d) (hS : mS S μ) : zM g d M_chime [.ref 0, .int s, .int dh, .int w] μ (pO mS onlyM (sChime S.1 s dh w, S) μ) := pO_M hS ((c_M_chime (by omega) hS.1.1 (by rw [hS.1.2]; exact tune_ok hF)).mono (fun r μ1 q => ⟨by rw [q.1, hS.1.2], q.2.gm⟩))
theorem g_X_chime {g : zG} {d : Nat} {S : zS} {μ : zMem} {s dh w : Int32} (hF : okF S.1) (hk : okH S) (h62 : 62 ≤ d) (hS : xS S μ) : zM g d X_chime [.ref 1, .int s, .int dh, .int w] μ (pO xS onlyX (sChime S.1 s dh w, S) μ) := pO_X hS (x_chime hF (by omega) hS.1)
theorem g_M_days {g : zG} {d : Nat} {S : zS} {μ : zMem} {b dh n : Int32} (hF : okF S.1) (hk : okH S) (h62 : 62 ≤ d) (hS : mS S μ) : zM g d M_days [.ref 0, .int b, .int dh, .int n] μ (pO mS onlyM (sDays S.1 b dh n, S) μ) := pO_M hS (o_days (by omega) hS.1)
theorem g_X_days {g : zG} {d : Nat} {S : zS} {μ : zMem} {b dh n : Int32} (hF : okF S.1) (hk : okH S) (h62 : 62 ≤ d) (hS : xS S μ) : zM g d X_days [.ref 1, .int b, .int dh, .int n] μ (pO xS onlyX (sDays S.1 b dh n, S) μ) := pO_X hS (x_days hF (by omega) hS.1)
theorem g_M_fault {g : zG} {d : Nat} {S : zS} {μ : zMem} {w dh : Int32} (hF : okF S.1) (hk : okH S) (h62 : 62 ≤ d) (hS : mS S μ) : zM g d M_fault [.ref 0, .int w, .int dh] μ (pO mS onlyM (sFault S.1 w dh, S) μ) := pO_M hS (o_fault (by omega) hS.1)
theorem g_X_fault {g : zG} {d : Nat} {S : zS} {μ : zMem} {w dh : Int32} (hF : okF S.1) (hk : okH S) (h62 : 62 ≤ d) (hS : xS S μ) : zM g d X_fault [.ref 1, .int w, .int dh] μ (pO xS onlyX (sFault S.1 w dh, S) μ) := pO_X hS (x_fault hF (by omega) hS.1)
theorem g_M_win {g : zG} {d : Nat} {S : zS} {μ : zMem} {dh w : Int32} (hF : okF S.1) (hk : okH S) (h62 : 62 ≤ d) (hS : mS S μ) : zM g d M_win [.ref 0, .int dh, .int w] μ (pO mS onlyM (sWin S.1 dh w, S) μ) := pO_M hS (o_win (by omega) hS.1)
theorem g_X_win {g : zG} {d : Nat} {S : zS} {μ : zMem} {dh w : Int32} (hF : okF S.1) (hk : okH S) (h62 : 62 ≤ d) (hS : xS S μ) : zM g d X_win [.ref 1, .int dh, .int w] μ (pO xS onlyX (sWin S.1 dh w, S) μ) := pO_X hS (x_win hF (by omega) hS.1)
theorem g_M_silent {g : zG} {d : Nat} {S : zS} {μ : zMem} {h dd : Int32} (hF : okF S.1) (hk : okH S) (h62 : 62 ≤ d) (hS : mS S μ) : zM g d M_silent [.ref 0, .int h, .int dd] μ (pO mS onlyM (sSilent S.1 h dd, S) μ) := pO_M hS (o_silent (by omega) hS.1)
theorem g_X_silent {g : zG} {d : Nat} {S : zS} {μ : zMem} {h dd : Int32} (hF : okF S.1) (hk : okH S) (h62 : 62 ≤ d) (hS : xS S μ) : zM g d X_silent [.ref 1, .int h, .int dd] μ (pO xS onlyX (sSilent S.1 h dd, S) μ) := pO_X hS (x_silent (by omega) hS.1)
theorem g_M_heard {g : zG} {d : Nat} {S : zS} {μ : zMem} {b p hd w : Int32} (hF : okF S.1) (hk : okH S) (h62 : 62 ≤ d) (hS : mS S μ) : zM g d M_heard [.ref 0, .int b, .int p, .int hd, .int w] μ (pO mS onlyM (sHeard S.1 b p hd w, S) μ) := pO_M hS (o_heard (by omega) hS.1)
theorem g_X_heard {g : zG} {d : Nat} {S : zS} {μ : zMem} {b p hd w : Int32} (hF : okF S.1) (hk : okH S) (h62 : 62 ≤ d) (hS : xS S μ) : zM g d X_heard [.ref 1, .int b, .int p, .int hd, .int w] μ (pO xS onlyX (sHeard S.1 b p hd w, S) μ) := pO_X hS (x_heard hF (by omega) hS.1)
theorem g_M_strike {g : zG} {d : Nat} {S : zS} {μ : zMem} {s hd w : Int32} (hF : okF S.1) (hk : okH S) (h62 : 62 ≤ d) (hS : mS S μ) : zM g d M_strike [.ref 0, .int s, .int hd, .int w] μ (pO mS onlyM (opStrike S s hd w, S) μ) := pO_M hS ((o_strike hF (by omega) hS.1 (mS_oRx hS hk s)).mono (fun r μ1 q => ⟨by
    rw [q.1, hS.2.2.2.2.2.2.2.1, hS.2.2.2.2.2.2.2.2.1]
    rfl, q.2⟩))
theorem g_X_strike {g : zG} {d : Nat} {S : zS} {μ : zMem} {s hd w : Int32} (hF : okF S.1) (hk : okH S) (h62 : 62 ≤ d) (hS : xS S μ) : zM g d X_strike [.ref 1, .int s, .int hd, .int w] μ (pO xS onlyX (opStrike S s hd w, S) μ) := pO_X hS (xs_strike hF (by omega) hS hk)
theorem g_M_judge {g : zG} {d : Nat} {S : zS} {μ : zMem} {s b dh : Int32} (hF : okF S.1) (hk : okH S) (h62 : 62 ≤ d) (hS : mS S μ) : zM g d M_judge [.ref 0, .int s, .int b, .int dh] μ (pO mS onlyM (opJudge S s b dh, S) μ) := pO_M hS ((o_judge (by omega) hS.1 (mS_oRx hS hk s)).mono (fun r μ1 q => ⟨by
    rw [q.1, hS.2.2.2.2.2.2.2.1, hS.2.2.2.2.2.2.2.2.1]
    rfl, q.2⟩))
theorem g_X_judge {g : zG} {d : Nat} {S : zS} {μ : zMem} {s b dh : Int32} (hF : okF S.1) (hk : okH S) (h62 : 62 ≤ d) (hS : xS S μ) : zM g d X_judge [.ref 1, .int s, .int b, .int dh] μ (pO xS onlyX (opJudge S s b dh, S) μ) := pO_X hS (xs_judge hF (by omega) hS hk)
theorem g_M_broke {g : zG} {d : Nat} {S : zS} {μ : zMem} {s b dh w : Int32} (hF : okF S.1) (hk : okH S) (h62 : 62 ≤ d) (hS : mS S μ) : zM g d M_broke [.ref 0, .int s, .int b, .int dh, .int w] μ (pO mS onlyM (opBroke S s b dh w, S) μ) := pO_M hS ((o_broke (by omega) hS.1 (mS_oRx hS hk s)).mono (fun r μ1 q => ⟨by
    rw [q.1, hS.2.2.2.2.2.2.2.1, hS.2.2.2.2.2.2.2.2.1]
    rfl, q.2⟩))
theorem g_X_broke {g : zG} {d : Nat} {S : zS} {μ : zMem} {s b dh w : Int32} (hF : okF S.1) (hk : okH S) (h62 : 62 ≤ d) (hS : xS S μ) : zM g d X_broke [.ref 1, .int s, .int b, .int dh, .int w] μ (pO xS onlyX (opBroke S s b dh w, S) μ) := pO_X hS (xs_broke hF (by omega) hS hk)
theorem g_M_cast {g : zG} {d : Nat} {S : zS} {μ : zMem} {v nh w : Int32} (hF : okF S.1) (hk : okH S) (h62 : 62 ≤ d) (hS : mS S μ) : zM g d M_cast [.ref 0, .int v, .int nh, .int w] μ (pO mS onlyM (sCast S.1 v nh w, S) μ) := pO_M hS (o_cast (by omega) hS.1)
theorem g_X_cast {g : zG} {d : Nat} {S : zS} {μ : zMem} {v nh w : Int32} (hF : okF S.1) (hk : okH S) (h62 : 62 ≤ d) (hS : xS S μ) : zM g d X_cast [.ref 1, .int v, .int nh, .int w] μ (pO xS onlyX (sCast S.1 v nh w, S) μ) := pO_X hS (x_cast hF (by omega) hS.1)
theorem g_M_melt {g : zG} {d : Nat} {S : zS} {μ : zMem} {b dh v : Int32} (hF : okF S.1) (hk : okH S) (h62 : 62 ≤ d) (hS : mS S μ) : zM g d M_melt [.ref 0, .int b, .int dh, .int v] μ (pO mS onlyM (sMelt S.1 (μ.1 43) b dh v, S) μ) := pO_M hS (o_melt (by omega) hS.1)
theorem g_X_melt {g : zG} {met : Nat → Int32} {d : Nat} {S : zS} {μ : zMem} {b dh v : Int32} (hF : okF S.1) (hk : okH S) (h62 : 62 ≤ d) (hS : xS S μ) : zM g d X_melt [.ref 1, .int b, .int dh, .int v] μ (pO xS onlyX (sMelt S.1 met b dh v, S) μ) := pO_X hS (x_melt hF (by omega) hS.1)
theorem g_M_pairs {g : zG} {d : Nat} {S : zS} {μ : zMem} {dh : Int32} (hF : okF S.1) (hk : okH S) (h62 : 62 ≤ d) (hS : mS S μ) : zM g d M_pairs [.ref 0, .int dh] μ (pO mS onlyM (sPairs S.1 dh, S) μ) := pO_M hS (o_pairs (by omega) hS.1)
theorem g_X_pairs {g : zG} {d : Nat} {S : zS} {μ : zMem} {dh : Int32} (hF : okF S.1) (hk : okH S) (h62 : 62 ≤ d) (hS : xS S μ) : zM g d X_pairs [.ref 1, .int dh] μ (pO xS onlyX (sPairs S.1 dh, S) μ) := pO_X hS (x_pairs hF (by omega) hS.1)
theorem g_M_drawn {g : zG} {d : Nat} {S : zS} {μ : zMem} {seed nm day w : Int32} (hF : okF S.1) (hk : okH S) (h62 : 62 ≤ d) (hS : mS S μ) : zM g d M_drawn [.ref 0, .int seed, .int nm, .int day, .int w] μ (pO mS onlyM (sDrawn S.1 S.2.1.1 seed nm day w, S) μ) := pO_M hS (o_drawn hS.2.1.1 (by omega) hS.1)
theorem g_X_drawn {g : zG} {d : Nat} {S : zS} {μ : zMem} {seed nm day w : Int32} (hF : okF S.1) (hk : okH S) (h62 : 62 ≤ d) (hS : xS S μ) : zM g d X_drawn [.ref 1, .int seed, .int nm, .int day, .int w] μ (pO xS onlyX (sDrawn S.1 S.2.1.1 seed nm day w, S) μ) := pO_X hS (x_drawn hF hS.2.1.1 (by omega) hS.1)
theorem mS_onlyX {S : zS} {μ μ' : zMem} (h : mS S μ) (hz : onlyX μ μ') : mS S μ' := by
  have e : ∀ c, isMc c = true → μ'.1 c = μ.1 c := fun c hc => (hz c hc).1
  have e0 := e 0 rfl
  have el : lawM μ' = lawM μ := by unfold lawM; rw [e0, e 33 rfl]
  have ef : fM μ' = fM μ := by unfold fM; rw [e0, e 25 rfl, e 26 rfl, e 27 rfl, e 28 rfl, e 29 rfl, e 30 rfl, e 31 rfl, el]
  obtain ⟨⟨h1, h1b⟩, h2, h3, h4, h5, h6, h7, h8⟩ := h
  refine ⟨⟨?_, ef.trans h1b⟩, ?_, ?_, ?_, ?_, ?_, ?_, ?_⟩
  · unfold okM lawOK at h1 ⊢
    rw [ef, e0, e 33 rfl]
    exact h1
  · unfold m2 at h2 ⊢; rw [e0]; exact h2
  · unfold mT at h3 ⊢; rw [e0, e 32 rfl]; exact h3
  · unfold mC at h4 ⊢; rw [e0, e 34 rfl, e 35 rfl, e 36 rfl, e 37 rfl]; exact h4
  · unfold mD at h5 ⊢; rw [e0]; exact h5
  · unfold mI at h6 ⊢; rw [e0, e 45 rfl]; exact h6
  · unfold mA at h7 ⊢; rw [e0, e 46 rfl, e 47 rfl]; exact h7
  · unfold mH at h8 ⊢; rw [e 48 rfl, e 49 rfl, e 50 rfl, e 51 rfl, (hz 52 rfl).2]; exact h8
theorem xS_onlyM {S : zS} {μ μ' : zMem} (h : xS S μ) (hz : onlyM μ μ') : xS S μ' := by
  have e : ∀ c, isMc c = false → μ'.1 c = μ.1 c := fun c hc => (hz.1 c hc).1
  have e2 := e 2 rfl
  have e7 := e 7 rfl
  obtain ⟨⟨h1, hr, hl⟩, h2, h3, h4, h5, h6, h7, h8⟩ := h
  refine ⟨⟨by rw [e2]; exact h1, by rw [e 54 rfl, e 55 rfl, e 56 rfl, e 57 rfl, e 58 rfl, e 59 rfl, e 60 rfl]; exact hr, ?_⟩, ?_, ?_, ?_, ?_, ?_, ?_, ?_⟩
  · unfold xL
    rw [hz.2]
    rcases hl with ⟨a, c⟩ | ⟨a, c⟩
    · exact Or.inl ⟨a, c.q (by rw [e 10 rfl]) (e 85 rfl) (e 86 rfl)⟩
    · exact Or.inr ⟨a, c.q (by rw [e 11 rfl]) (e 89 rfl) (e 90 rfl)⟩
  · unfold x2 at h2 ⊢; rw [e2, e7]; exact h2
  · unfold xT at h3 ⊢; rw [e 3 rfl, e 61 rfl]; exact h3
  · unfold xC at h4 ⊢; rw [e 8 rfl, e 79 rfl, e 80 rfl, e 81 rfl, e 82 rfl]; exact h4
  · unfold xD at h5 ⊢; rw [e 75 rfl]; exact h5
  · unfold xI at h6 ⊢; rw [e7, e 76 rfl, e 77 rfl, e 78 rfl]; exact h6
  · unfold xA at h7 ⊢; rw [e 9 rfl, e 83 rfl, e 84 rfl]; exact h7
  · unfold xH at h8 ⊢
    intro s hs
    have k1 : isMc (13 + s) = false := by
      rcases (show s = 0 ∨ s = 1 ∨ s = 2 ∨ s = 3 ∨ s = 4 ∨ s = 5 by omega) with rfl | rfl | rfl | rfl | rfl | rfl <;> rfl
    have k2 : isMc (19 + s) = false := by
      rcases (show s = 0 ∨ s = 1 ∨ s = 2 ∨ s = 3 ∨ s = 4 ∨ s = 5 by omega) with rfl | rfl | rfl | rfl | rfl | rfl <;> rfl
    rw [e (13 + s) k1, (hz.1 (19 + s) k2).2]
    exact h8 s hs
/-- both stand for S -/
def bS (S : zS) (μ : zMem) : Prop := xS S μ ∧ mS S μ
