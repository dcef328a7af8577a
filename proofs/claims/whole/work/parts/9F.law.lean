/-! THE CLAIM OUT OF ONE WALK OF THE LAW'S BODY. Your part is whole_start (and what it stands on); all else here is the same for every law, but numbers. -/
def R_law : String := "CastWithVowsLaw"
def lw_P (b : Addr) (xs : List Int32) (args : Array Value) (s : State) : Prop := args = #[.ref b] ∧ s.IntsAt b xs ∧ xs.length ≤ 3072 ∧ (Jvm.Cond.and given_1 narrow_1).before args s = true
def lw_Q (_ : Array Value) (s : State) (o : Outcome) (t : State) : Prop := o = .returned (some (.int 1)) ∧ Framed s o t [] 600000 7302250
def lw_Z (below : List Frame) (a : Array Value) (s : State) : State → Prop := fun t => ∃ o, t.status = .running ∧ Ended t below o ∧ lw_Q a s o t
/-- the law's own end, with 1 on the stack, nothing written that was there before, its room as the claim has it -/
theorem lw_ret {p : Program} {l : Launch} {e : Env} {s : State} {m : MethodId} {below : List Frame} {meth : Method} {c : Code} {b : Nat} (hx : p.tables.exec = Jvm.exec) (hb : c.code = code) (hr : meth.sig.returnType = ret) (hlocks : meth.locks = false) {pc : Nat} {H : Heap} {ls : Array Slot} (hdg : decode code pc = .ok (.ireturn, 1)) : W p l e room_1 s m #[Value.ref b] below meth c H [] 600000 7302250 (lw_Z below #[Value.ref b] s) (F0 m pc ls [.int 1]) := by
  intro T hT X
  obtain ⟨fs, hret, hrun, hended, hW, hframe⟩ := X.leave (v := some (.int 1)) (hlocks := hlocks) (fun h => by rw [hr] at h; cases h)
  have hmeth' : T.vm.method? m = some meth := X.method'
  refine ⟨T.setFrames fs, ?_, .returned (some (.int 1)), hrun, hended, rfl, ⟨_, rfl⟩, hW, hframe⟩
  jvm_step X.here [X.here.top, hx, hb, hdg, hmeth', hr, ret, narrow_b1]
  (try refine ⟨rfl, ?_⟩); (try refine ⟨rfl, ?_⟩)
  first | (intro acts; rw [hret _ acts rfl rfl rfl]) | rw [hret _ _ rfl rfl rfl]
  exact Steps.refl _
/-- what holds at the law's entry: the machine, the code, the tables' words (any of lw_tbl by 'hts w (by decide +kernel)'), the script of L ints xs at the cell b, what the Statement gives of the start (any of its parts by flat_of_before) -/
def lw_At (p : Program) (s : State) (m : MethodId) (meth : Method) (c : Code) (b L : Nat) (xs : Nat → Int32) : Prop :=
  p.tables.exec = Jvm.exec ∧ c.code = code ∧ meth.sig.returnType = ret ∧ c.maxLocals = 4 ∧ s.vm.findClass R_law = some m.cls ∧ (∀ w ∈ lw_tbl, w.before #[Value.ref b] s = true) ∧ va_X b L xs s s.heap ∧ b < s.heap.size ∧ meth.locks = false ∧ (Jvm.Cond.and given_1 narrow_1).before #[Value.ref b] s = true
-- ===== YOUR PART BEGINS =====
set_option maxRecDepth 100000 in
set_option maxHeartbeats 4000000 in
/-- YOUR PART: from the entry, for every script of at most 3072 ints, the law comes to its end with true ('hflags': the launch's flags, for a law that throws: no stack traces) -/
theorem whole_start {p : Program} {e : Env} {s : State} {m : MethodId} {below : List Frame} {meth : Method} {c : Code} (l : Launch) (hflags : l.flags = flags0) {b L : Nat} {xs : Nat → Int32} (hL : L ≤ 3072) (C0 : lw_At p s m meth c b L xs) : W p l e room_1 s m #[Value.ref b] below meth c s.heap [] 0 0 (lw_Z below #[Value.ref b] s) (entryFrame m ([Value.ref b] : List Value).toArray 4) := by
  obtain ⟨hx, hb, hr, hml, hown, hts, hX, hbl, hlocks, hgv⟩ := id C0
  obtain ⟨dC, dI, hKc⟩ := k_all hts
  obtain ⟨T, hT⟩ := k_tys hts
  obtain ⟨ab, ow, tx, by0, hro⟩ := k_ro hts hX hbl hgv
  have hts2 : ∀ w ∈ ztbl, w.before #[Value.ref b] s = true := fun w hw => hts w (List.mem_filter.mp hw).1
  have hK : va_K (zDD (dC, dI, T, (fun q => q), s.heap.size, L, xs)) vwCl (ztys (dC, dI, T, (fun q => q), s.heap.size, L, xs)) s := ⟨hKc, hT⟩
  have hC : bC (dC, dI, T, (fun q => q), s.heap.size, L, xs) W_law 64 p room_1 s m #[Value.ref b] meth c 93 4713 := ⟨hx, hb, hml, hr, hlocks, hown, hts2, hK, fun _ => rfl, Nat.le_refl _, by decide, by decide, by decide, by decide, fun h => absurd h (by decide), k_bnw hts⟩
  have hent := lv_entry ([Value.ref b]) (n := 4) (Nat.le_of_ble_eq_true rfl)
  rw [lg_entry_eq]
  generalize (lg_sl [Value.ref b] ++ List.replicate (4 - (lg_sl [Value.ref b]).length) Slot.unset).toArray = a at hent ⊢
  have ha : zL (dC, dI, T, (fun q => q), s.heap.size, L, xs) 4 [some (.ref b), none, none, none] a := ⟨hent, rfl⟩
  refine bl_start (g := (dC, dI, T, (fun q => q), s.heap.size, L, xs)) (d := 64) (b := b) (fun _ => rfl) (Nat.le_refl _) p l e room_1 s m #[Value.ref b] below meth c s.heap [] 0 0 93 4713 (lw_Z below #[Value.ref b] s) hC (Nat.le_refl _) (Nat.le_refl _) ⟨fun k q h => by simp at h, ⟨fun i j p q h => by simp at h, fun k q h => by simp at h⟩, va_S.rf⟩ ?_ a ha
  intro pc' ls' st' ws' H' locs' a' hQ hD' ha'
  obtain ⟨x0, hQ⟩ := hQ
  obtain ⟨x1, hQ⟩ := hQ
  obtain ⟨x2, hQ⟩ := hQ
  obtain ⟨x3, hQ⟩ := hQ
  obtain ⟨x4, hQ⟩ := hQ
  obtain ⟨x5, hQ⟩ := hQ
  obtain ⟨x6, hQ⟩ := hQ
  obtain ⟨x7, hQ⟩ := hQ
  obtain ⟨x8, hQ⟩ := hQ
  obtain ⟨x9, hQ⟩ := hQ
  obtain ⟨x10, hQ⟩ := hQ
  obtain ⟨x11, hQ⟩ := hQ
  obtain ⟨x12, hQ⟩ := hQ
  obtain ⟨x13, hQ⟩ := hQ
  obtain ⟨x14, hQ⟩ := hQ
  obtain ⟨x15, hQ⟩ := hQ
  obtain ⟨x16, hQ⟩ := hQ
  obtain ⟨x17, hQ⟩ := hQ
  obtain ⟨x18, hQ⟩ := hQ
  obtain ⟨x19, hQ⟩ := hQ
  obtain ⟨x20, hQ⟩ := hQ
  obtain ⟨x21, hQ⟩ := hQ
  obtain ⟨x22, hQ⟩ := hQ
  obtain ⟨x23, hQ⟩ := hQ
  obtain ⟨x24, hQ⟩ := hQ
  obtain ⟨x25, hQ⟩ := hQ
  obtain ⟨x26, hQ⟩ := hQ
  obtain ⟨x27, hQ⟩ := hQ
  obtain ⟨x28, hQ⟩ := hQ
  obtain ⟨x29, hQ⟩ := hQ
  obtain ⟨x30, hQ⟩ := hQ
  obtain ⟨x31, hQ⟩ := hQ
  obtain ⟨x32, hQ⟩ := hQ
  obtain ⟨x33, hQ⟩ := hQ
  obtain ⟨x34, hQ⟩ := hQ
  obtain ⟨x35, hQ⟩ := hQ
  obtain ⟨x36, hQ⟩ := hQ
  obtain ⟨x37, hQ⟩ := hQ
  obtain ⟨x38, hQ⟩ := hQ
  obtain ⟨x39, hQ⟩ := hQ
  obtain ⟨x40, hQ⟩ := hQ
  obtain ⟨x41, hQ⟩ := hQ
  obtain ⟨x42, hQ⟩ := hQ
  obtain ⟨x43, hQ⟩ := hQ
  obtain ⟨x44, hQ⟩ := hQ
  obtain ⟨x45, hQ⟩ := hQ
  obtain ⟨x46, hQ⟩ := hQ
  obtain ⟨x47, hQ⟩ := hQ
  obtain ⟨x48, hQ⟩ := hQ
  obtain ⟨x49, hQ⟩ := hQ
  obtain ⟨x50, hQ⟩ := hQ
  obtain ⟨x51, hQ⟩ := hQ
  obtain ⟨x52, hQ⟩ := hQ
  obtain ⟨x53, hQ⟩ := hQ
  obtain ⟨x54, hQ⟩ := hQ
  obtain ⟨x55, hQ⟩ := hQ
  obtain ⟨x56, hQ⟩ := hQ
  obtain ⟨x57, hQ⟩ := hQ
  obtain ⟨x58, hQ⟩ := hQ
  obtain ⟨x59, hQ⟩ := hQ
  obtain ⟨x60, hQ⟩ := hQ
  obtain ⟨x61, hQ⟩ := hQ
  obtain ⟨x62, hQ⟩ := hQ
  obtain ⟨m0, hQ⟩ := hQ
  obtain ⟨m1, hQ⟩ := hQ
  obtain ⟨m2, hQ⟩ := hQ
  obtain ⟨m3, hQ⟩ := hQ
  obtain ⟨m4, hQ⟩ := hQ
  obtain ⟨m5, hQ⟩ := hQ
  obtain ⟨m6, hQ⟩ := hQ
  obtain ⟨m7, hQ⟩ := hQ
  obtain ⟨m8, hQ⟩ := hQ
  obtain ⟨m9, hQ⟩ := hQ
  obtain ⟨m10, hQ⟩ := hQ
  obtain ⟨m11, hQ⟩ := hQ
  obtain ⟨m12, hQ⟩ := hQ
  obtain ⟨m13, hQ⟩ := hQ
  obtain ⟨m14, hQ⟩ := hQ
  obtain ⟨m15, hQ⟩ := hQ
  obtain ⟨m16, hQ⟩ := hQ
  obtain ⟨m17, hQ⟩ := hQ
  obtain ⟨m18, hQ⟩ := hQ
  obtain ⟨m19, hQ⟩ := hQ
  obtain ⟨m20, hQ⟩ := hQ
  obtain ⟨m21, hQ⟩ := hQ
  obtain ⟨m22, hQ⟩ := hQ
  obtain ⟨m23, hQ⟩ := hQ
  obtain ⟨m24, hQ⟩ := hQ
  obtain ⟨m25, hQ⟩ := hQ
  obtain ⟨m26, hQ⟩ := hQ
  obtain ⟨m27, hQ⟩ := hQ
  obtain ⟨m28, hQ⟩ := hQ
  obtain ⟨m29, hQ⟩ := hQ
  obtain ⟨q1, q2, q3, q4⟩ := hQ
  subst q1 q2 q3 q4
  have hP2 := bl_world (ext := [0, 0, 0, 0, 0, 0, 0, b, ab, ow, tx, by0]) hD'.1
  have hG2 := bl_ok (ext := [0, 0, 0, 0, 0, 0, 0, b, ab, ow, tx, by0]) hD'.2.1
  have hS2 := hD'.2.2
  generalize hgg : gOf (dC, dI, T, (fun q => q), s.heap.size, L, xs) (m0 :: x0 :: x1 :: x14 :: x21 :: x24 :: x30 :: x37 :: x42 :: x47 :: x9 :: x16 :: x50 :: x51 :: x53 :: x55 :: x57 :: x59 :: x61 :: x52 :: x54 :: x56 :: x58 :: x60 :: x62 :: m1 :: m2 :: m3 :: m4 :: m5 :: m6 :: m7 :: m8 :: m9 :: m10 :: m11 :: m12 :: m13 :: m14 :: m15 :: m16 :: m17 :: m18 :: m19 :: m20 :: m21 :: m22 :: m23 :: m24 :: m25 :: m26 :: m27 :: m28 :: m29 :: x2 :: x3 :: x4 :: x5 :: x6 :: x7 :: x8 :: x15 :: x22 :: x23 :: x25 :: x26 :: x27 :: x28 :: x29 :: x31 :: x32 :: x33 :: x34 :: x35 :: x36 :: x38 :: x39 :: x40 :: x41 :: x43 :: x44 :: x45 :: x46 :: x48 :: x49 :: x10 :: x11 :: x12 :: x13 :: x17 :: x18 :: x19 :: x20 :: [0, 0, 0, 0, 0, 0, 0, b, ab, ow, tx, by0]) = gg at hP2 hG2
  have e1 : zbase gg = s.heap.size := by rw [← hgg]; rfl
  have e2 : zLn gg = L := by rw [← hgg]; rfl
  have e3 : gg.2.2.2.2.2.2 = xs := by rw [← hgg]; rfl
  have e4 : zDD gg = (dC, dI) := by rw [← hgg]; rfl
  have e5 : ztys gg = ztys (dC, dI, T, (fun q => q), s.heap.size, L, xs) := by rw [← hgg]; rfl
  have z0 : zad gg 0 = m0 := by rw [← hgg]; rfl
  have z1 : zad gg 1 = x0 := by rw [← hgg]; rfl
  have z2 : zad gg 100 = b := by rw [← hgg]; rfl
  have z3 : zad gg 101 = ab := by rw [← hgg]; rfl
  have z4 : zad gg 102 = ow := by rw [← hgg]; rfl
  have z5 : zad gg 103 = tx := by rw [← hgg]; rfl
  have z6 : zad gg 104 = by0 := by rw [← hgg]; rfl
  obtain ⟨hRO, hNW⟩ := hro gg e1 e2 e3 z2 z3 z4 z5 z6
  have hP3 : va_P (zDD gg) vwCl (zws gg mu0) H' := by rw [e4]; exact hP2
  have hK3 : va_K (zDD gg) vwCl (ztys gg) s := by rw [e4, e5]; exact hK
  have hS3 : va_S (zA gg) s.heap H' locs' := by
    have : zA gg = zA (dC, dI, T, (fun q => q), s.heap.size, L, xs) := by
      funext q
      show (zbase gg ≤ q) = (s.heap.size ≤ q)
      rw [e1]
    rw [this]
    exact hS2
  have ha2 : zL gg 4 (lwls 0) a' := by
    refine ⟨?_, rfl⟩
    show lv_has a' 4 [(0, .ref (zad gg 100)), (1, .ref (zad gg 1)), (2, .ref (zad gg 0)), (3, .int (nI 0))]
    rw [z2, z1, z0]
    exact ha'.1
  clear hgg
  refine w_W_loop (g := gg) (d := 64) (Nat.le_refl _) (by rw [e2]; exact hL) (L + 1) 0 S0 mu0 (by rw [e2]; omega) (by decide) bS0 okS0 p l e room_1 s m #[Value.ref b] below meth c H' locs' 93 4713 (lw_Z below #[Value.ref b] s)
    ⟨hx, hb, hml, hr, hlocks, hown, hts2, hK3, hRO, hNW, hG2, Nat.le_of_eq e1, by decide, by decide, by decide, by decide⟩ ⟨hP3, hS3⟩ (fun v μ' H2 locs2 pc2 a2 hv hD2 hR => ?_) a' ha2
  subst hv
  have hf : ∀ q ∈ locs2, s.heap.size ≤ q.base := fun q hq => by
    have := hD2.2.2.2 q hq
    rw [← e1]
    exact this
  show W p l e room_1 s m #[Value.ref b] below meth c H2 locs2 93 4713 (lw_Z below #[Value.ref b] s) (F0 m pc2 a2 [.int 1])
  exact W.widen (k := 600000) (n := 7302250) (by decide) (by decide) (va_forget hf (lw_ret hx hb hr hlocks hR.1))
-- ===== YOUR PART ENDS =====
set_option maxHeartbeats 4000000 in
theorem lw_walk (l : Launch) (hflags : l.flags = flags0) (b : Addr) (xs : List Int32) : MetFree l x (headSpec (Jvm.Cond.code x code maxLocals ret :: tables_1) room_1) (lw_P b xs) (fun _ _ _ _ _ => True) lw_Q := by
  refine MetFree.of_bodyS (code := code) (maxLocals := maxLocals) (ret := ret) (by decide) ?_ ?_
  · intro args s m h hn
    obtain ⟨meth, c, h1, h2, h3, h4, h5, h6, -, -⟩ := Cond.code_spec hn (atoms_spec (ws := Jvm.Cond.code x code maxLocals ret :: tables_1) h _ List.mem_cons_self)
    exact ⟨meth, c, h1, h2, h3, h4, h5, h6⟩
  · intro p e s m args below meth c s₁ B hml0 hP _
    obtain ⟨rfl, hx, hbd, hgv⟩ := hP
    obtain ⟨scr, harrAt, hlist, hof, hsmall⟩ := hx
    obtain ⟨hcb, hkn, -, -⟩ := State.arrayAt?_spec harrAt
    have hown : s.vm.findClass R_law = some m.cls := findClass_of_methodNamed B.named
    have hts0 : ∀ c ∈ (Jvm.Cond.code x code maxLocals ret :: tables_1), c.before #[Value.ref b] s = true := atoms_spec (ws := Jvm.Cond.code x code maxLocals ret :: tables_1) B.pre
    have hts : ∀ w ∈ lw_tbl, w.before #[Value.ref b] s = true := k2_hts_sels lw_privs (fun w hw => hts0 w (List.mem_cons_of_mem _ hw)) lw_privs_ok
    have hml : c.maxLocals = 4 := B.maxLocals_eq (hts0 _ List.mem_cons_self)
    have X₀ : Stand p l e room_1 s m #[Value.ref b] below meth c s₁ [] 0 0 := Stand.of_body B
    have hh0 : s₁.heap = s.heap := by rw [B.state]; rfl
    have hsz : scr.slots.size = xs.length := by rw [← Array.length_toList, hlist, List.length_map]
    have hval : ∀ j : Nat, j < xs.length → scr.slots[j]? = some (.int (xs.getD j 0)) := fun j hj => by
      rw [← Array.getElem?_toList, hlist]
      simp [hj]
    have hbl : b < s.heap.size := (Array.getElem?_eq_some_iff.mp hcb).1
    have hX : va_X b xs.length (fun j => xs.getD j 0) s s.heap := ⟨scr, hcb, hof, hkn, hsz, hval⟩
    have K : W p l e room_1 s m #[Value.ref b] below meth c s₁.heap [] 0 0 (lw_Z below #[Value.ref b] s) (entryFrame m ([Value.ref b] : List Value).toArray 4) := by
      rw [hh0]
      exact whole_start l hflags hbd ⟨B.exec, B.bytes, B.returns, hml, hown, hts, hX, hbl, B.notSynchronized, hgv⟩
    obtain ⟨t, a1, o, b1, b2, b3⟩ := K s₁ rfl X₀
    exact ⟨t, o, a1, b1, b2, b3⟩
theorem lw_pre_spec {args : Array Value} {s : State} (h : (Jvm.Cond.and given_1 narrow_1).before args s = true) (hr : rest_1_c.before args s = true) : ∃ (b : Addr) (xs : List Int32), lw_P b xs args s := by
  have hs := flat_of_before _ h
  have hq := flat_of_before _ hr
  have hc : (Cond.count 1).before args s = true := hs _ (by decide +kernel)
  have harr : (Cond.arrayOf (.arg 0) .int).before args s = true := hs _ (by decide +kernel)
  have hle : (Cond.le (.length (.arg 0)) (.int 3072)).before args s = true := hs _ (by decide +kernel)
  have hlen : (Cond.isInt (.length (.arg 0))).before args s = true := hq _ (by decide +kernel)
  have hall : (Cond.all (.arg 0) (.isInt (.elem (.arg 0) (.index 0)))).before args s = true := hq _ (by decide +kernel)
  obtain ⟨b, xs, hb, hx⟩ := State.ints_of_pre rfl harr hlen hall
  have hsm : xs.length < 2 ^ 31 := hx.choose_spec.2.2.2
  have hev : (Term.length (.arg 0)).eval args s none [] s = some (.int xs.length.toInt32) := hx.length_eval hb
  have hv := Cond.le_ints hev (show (Term.int 3072).eval args s none [] s = some (.int 3072) from rfl)
  have hd : xs.length.toInt32 ≤ 3072 := by
    simpa [Cond.before, Cond.holds, hv] using hle
  have hN : xs.length ≤ 3072 := (Int32.ofNat_le_ofNat hsm (by decide)).mp (show Int32.ofNat xs.length ≤ Int32.ofNat 3072 from hd)
  exact ⟨b, xs, Cond.one_arg hc (show args[0]? = some (.ref b) from hb), hx, hN, h⟩
theorem lw_comes (l : Launch) (hflags : l.flags = flags0) : Comes l x (Jvm.Cond.code x code maxLocals ret :: tables_1) room_1 (fun tb e args s => Calls_1 tb e args s ∧ rest_1 tb e args s ∧ Pre_1 tb e args s)
    (fun _ _ args s o t => lw_Q args s o t) := by
  intro p e ha hc hk s m args below hf hfit hheap happ hpre
  obtain ⟨b, xs, hP⟩ := lw_pre_spec hpre.2.2 hpre.2.1
  obtain ⟨k, o, h1, h2, h3, hQ⟩ := lw_walk l hflags b xs p e ha hc hk s m args below hf ((Spec.applies_iff_loose hf).mp happ).1 hP trivial
  exact ⟨k, o, h1, h2, h3, hQ⟩
theorem lw_frame {s t : State} {o : Outcome} {args : Array Value} (h : Framed s o t [] 600000 7302250) :
    Framed s o t (fieldLocs frame_1_writes args s ++ arrayLocs frame_1_arrays args s ++ staticLocs frame_1_statics s) 600000 7302250 := h
theorem lw_limb (L : Cond) (hL : ∀ (args : Array Value) (s t : State), L.after args s (.returned (some (.int 1))) t = true) :
    ArmFor flags0 classFile x code maxLocals ret World_1 tables_1 room_1 Calls_1 rest_1 Pre_1
      (fun tb e a s o t => postC L tb e a s o t ∧ Framed s o t (fieldLocs frame_1_writes a s ++ arrayLocs frame_1_arrays a s ++ staticLocs frame_1_statics s) 600000 7302250) := by
  intro l hflags _ _ p e ha hc hk s m args below hf hfit hheap happ hpre
  obtain ⟨k, o, h1, h2, h3, rfl, hF⟩ := lw_comes l hflags p e ha hc hk s m args below hf hfit hheap happ hpre
  exact ⟨k, _, h1, h2, h3, hL args s _, lw_frame hF⟩
theorem i_vc : Claimed_1_1 ∧ Claimed_1_2 := ⟨lw_limb limb_1_1 (fun args s t => by simp [limb_1_1, Cond.after, Cond.holds, Cond.value]), lw_limb limb_1_2 (fun args s t => Cond.after_iff.mpr (by
  first | (rw [show limb_1_2 = Cond.eq .result (.int 1) from rfl, Cond.eq_ints (x := 1) (y := 1) rfl rfl]; simp; done) | (simp [limb_1_2, Cond.value, Term.eval]; done)))⟩
