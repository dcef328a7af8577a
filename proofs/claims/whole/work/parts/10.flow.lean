/-! branches, returns, calls -/
section ZF
variable {g : zG} {Y : zY} {d pc : Nat} {ls : List (Option Value)} {st : List Value} {μ : zMem} {Q : Option Value → zMem → Prop} {off : Int} {tgt : Nat} {u v : Int32}
theorem z_eq (hd : decode (zcode Y) pc = .ok (.ifCond .eq off, 3)) (ht : (pc : Int) + off = (tgt : Int)) (kt : u = 0 → zW g Y d tgt ls st μ Q) (kf : ¬ u = 0 → zW g Y d (pc + 3) ls st μ Q) : zW g Y d pc ls (.int u :: st) μ Q :=
  fun p l e R s m args below meth c H locs cells slots Qf hC hD hK a ha => lv_if_eq hC.1 hC.2.1 hd ht (fun h => kt h p l e R s m args below meth c H locs cells slots Qf hC hD hK a ha) (fun h => kf h p l e R s m args below meth c H locs cells slots Qf hC hD hK a ha)
theorem z_ne (hd : decode (zcode Y) pc = .ok (.ifCond .ne off, 3)) (ht : (pc : Int) + off = (tgt : Int)) (kt : ¬ u = 0 → zW g Y d tgt ls st μ Q) (kf : u = 0 → zW g Y d (pc + 3) ls st μ Q) : zW g Y d pc ls (.int u :: st) μ Q :=
  fun p l e R s m args below meth c H locs cells slots Qf hC hD hK a ha => lv_if_ne hC.1 hC.2.1 hd ht (fun h => kt h p l e R s m args below meth c H locs cells slots Qf hC hD hK a ha) (fun h => kf h p l e R s m args below meth c H locs cells slots Qf hC hD hK a ha)
theorem z_lt (hd : decode (zcode Y) pc = .ok (.ifCond .lt off, 3)) (ht : (pc : Int) + off = (tgt : Int)) (kt : u < 0 → zW g Y d tgt ls st μ Q) (kf : ¬ u < 0 → zW g Y d (pc + 3) ls st μ Q) : zW g Y d pc ls (.int u :: st) μ Q :=
  fun p l e R s m args below meth c H locs cells slots Qf hC hD hK a ha => lv_if_lt hC.1 hC.2.1 hd ht (fun h => kt h p l e R s m args below meth c H locs cells slots Qf hC hD hK a ha) (fun h => kf h p l e R s m args below meth c H locs cells slots Qf hC hD hK a ha)
theorem z_ge (hd : decode (zcode Y) pc = .ok (.ifCond .ge off, 3)) (ht : (pc : Int) + off = (tgt : Int)) (kt : 0 ≤ u → zW g Y d tgt ls st μ Q) (kf : ¬ 0 ≤ u → zW g Y d (pc + 3) ls st μ Q) : zW g Y d pc ls (.int u :: st) μ Q :=
  fun p l e R s m args below meth c H locs cells slots Qf hC hD hK a ha => lv_if_ge hC.1 hC.2.1 hd ht (fun h => kt h p l e R s m args below meth c H locs cells slots Qf hC hD hK a ha) (fun h => kf h p l e R s m args below meth c H locs cells slots Qf hC hD hK a ha)
theorem z_gt (hd : decode (zcode Y) pc = .ok (.ifCond .gt off, 3)) (ht : (pc : Int) + off = (tgt : Int)) (kt : 0 < u → zW g Y d tgt ls st μ Q) (kf : ¬ 0 < u → zW g Y d (pc + 3) ls st μ Q) : zW g Y d pc ls (.int u :: st) μ Q :=
  fun p l e R s m args below meth c H locs cells slots Qf hC hD hK a ha => lv_if_gt hC.1 hC.2.1 hd ht (fun h => kt h p l e R s m args below meth c H locs cells slots Qf hC hD hK a ha) (fun h => kf h p l e R s m args below meth c H locs cells slots Qf hC hD hK a ha)
theorem z_le (hd : decode (zcode Y) pc = .ok (.ifCond .le off, 3)) (ht : (pc : Int) + off = (tgt : Int)) (kt : u ≤ 0 → zW g Y d tgt ls st μ Q) (kf : ¬ u ≤ 0 → zW g Y d (pc + 3) ls st μ Q) : zW g Y d pc ls (.int u :: st) μ Q :=
  fun p l e R s m args below meth c H locs cells slots Qf hC hD hK a ha => lv_if_le hC.1 hC.2.1 hd ht (fun h => kt h p l e R s m args below meth c H locs cells slots Qf hC hD hK a ha) (fun h => kf h p l e R s m args below meth c H locs cells slots Qf hC hD hK a ha)
theorem z_ceq (hd : decode (zcode Y) pc = .ok (.if_icmp .eq off, 3)) (ht : (pc : Int) + off = (tgt : Int)) (kt : u = v → zW g Y d tgt ls st μ Q) (kf : ¬ u = v → zW g Y d (pc + 3) ls st μ Q) : zW g Y d pc ls (.int v :: .int u :: st) μ Q :=
  fun p l e R s m args below meth c H locs cells slots Qf hC hD hK a ha => lv_icmp_eq hC.1 hC.2.1 hd ht (fun h => kt h p l e R s m args below meth c H locs cells slots Qf hC hD hK a ha) (fun h => kf h p l e R s m args below meth c H locs cells slots Qf hC hD hK a ha)
theorem z_cne (hd : decode (zcode Y) pc = .ok (.if_icmp .ne off, 3)) (ht : (pc : Int) + off = (tgt : Int)) (kt : ¬ u = v → zW g Y d tgt ls st μ Q) (kf : u = v → zW g Y d (pc + 3) ls st μ Q) : zW g Y d pc ls (.int v :: .int u :: st) μ Q :=
  fun p l e R s m args below meth c H locs cells slots Qf hC hD hK a ha => lv_icmp_ne hC.1 hC.2.1 hd ht (fun h => kt h p l e R s m args below meth c H locs cells slots Qf hC hD hK a ha) (fun h => kf h p l e R s m args below meth c H locs cells slots Qf hC hD hK a ha)
theorem z_clt (hd : decode (zcode Y) pc = .ok (.if_icmp .lt off, 3)) (ht : (pc : Int) + off = (tgt : Int)) (kt : u < v → zW g Y d tgt ls st μ Q) (kf : ¬ u < v → zW g Y d (pc + 3) ls st μ Q) : zW g Y d pc ls (.int v :: .int u :: st) μ Q :=
  fun p l e R s m args below meth c H locs cells slots Qf hC hD hK a ha => lv_icmp_lt hC.1 hC.2.1 hd ht (fun h => kt h p l e R s m args below meth c H locs cells slots Qf hC hD hK a ha) (fun h => kf h p l e R s m args below meth c H locs cells slots Qf hC hD hK a ha)
theorem z_cge (hd : decode (zcode Y) pc = .ok (.if_icmp .ge off, 3)) (ht : (pc : Int) + off = (tgt : Int)) (kt : v ≤ u → zW g Y d tgt ls st μ Q) (kf : ¬ v ≤ u → zW g Y d (pc + 3) ls st μ Q) : zW g Y d pc ls (.int v :: .int u :: st) μ Q :=
  fun p l e R s m args below meth c H locs cells slots Qf hC hD hK a ha => lv_icmp_ge hC.1 hC.2.1 hd ht (fun h => kt h p l e R s m args below meth c H locs cells slots Qf hC hD hK a ha) (fun h => kf h p l e R s m args below meth c H locs cells slots Qf hC hD hK a ha)
theorem z_cgt (hd : decode (zcode Y) pc = .ok (.if_icmp .gt off, 3)) (ht : (pc : Int) + off = (tgt : Int)) (kt : v < u → zW g Y d tgt ls st μ Q) (kf : ¬ v < u → zW g Y d (pc + 3) ls st μ Q) : zW g Y d pc ls (.int v :: .int u :: st) μ Q :=
  fun p l e R s m args below meth c H locs cells slots Qf hC hD hK a ha => lv_icmp_gt hC.1 hC.2.1 hd ht (fun h => kt h p l e R s m args below meth c H locs cells slots Qf hC hD hK a ha) (fun h => kf h p l e R s m args below meth c H locs cells slots Qf hC hD hK a ha)
theorem z_cle (hd : decode (zcode Y) pc = .ok (.if_icmp .le off, 3)) (ht : (pc : Int) + off = (tgt : Int)) (kt : u ≤ v → zW g Y d tgt ls st μ Q) (kf : ¬ u ≤ v → zW g Y d (pc + 3) ls st μ Q) : zW g Y d pc ls (.int v :: .int u :: st) μ Q :=
  fun p l e R s m args below meth c H locs cells slots Qf hC hD hK a ha => lv_icmp_le hC.1 hC.2.1 hd ht (fun h => kt h p l e R s m args below meth c H locs cells slots Qf hC hD hK a ha) (fun h => kf h p l e R s m args below meth c H locs cells slots Qf hC hD hK a ha)
theorem z_null {q : Nat} (hd : decode (zcode Y) pc = .ok (.ifnull off, 3)) (k : zW g Y d (pc + 3) ls st μ Q) : zW g Y d pc ls (.ref q :: st) μ Q :=
  fun p l e R s m args below meth c H locs cells slots Qf hC hD hK a ha => lv_ifnull hC.1 hC.2.1 hd (k p l e R s m args below meth c H locs cells slots Qf hC hD hK a ha)
theorem z_nullN (hd : decode (zcode Y) pc = .ok (.ifnull off, 3)) (ht : (pc : Int) + off = (tgt : Int)) (k : zW g Y d tgt ls st μ Q) : zW g Y d pc ls (.null :: st) μ Q :=
  fun p l e R s m args below meth c H locs cells slots Qf hC hD hK a ha => lv_ifnullN hC.1 hC.2.1 hd ht (k p l e R s m args below meth c H locs cells slots Qf hC hD hK a ha)
theorem z_nonnull {q : Nat} (hd : decode (zcode Y) pc = .ok (.ifnonnull off, 3)) (ht : (pc : Int) + off = (tgt : Int)) (k : zW g Y d tgt ls st μ Q) : zW g Y d pc ls (.ref q :: st) μ Q :=
  fun p l e R s m args below meth c H locs cells slots Qf hC hD hK a ha => lv_ifnonnull hC.1 hC.2.1 hd ht (k p l e R s m args below meth c H locs cells slots Qf hC hD hK a ha)
theorem z_nonnullN (hd : decode (zcode Y) pc = .ok (.ifnonnull off, 3)) (k : zW g Y d (pc + 3) ls st μ Q) : zW g Y d pc ls (.null :: st) μ Q :=
  fun p l e R s m args below meth c H locs cells slots Qf hC hD hK a ha => lv_ifnonnullN hC.1 hC.2.1 hd (k p l e R s m args below meth c H locs cells slots Qf hC hD hK a ha)
/-- tableswitch: where x goes -/
theorem z_tabOut {dflt lo hi : Int} {offs : Array Int} {len : Nat} (hd : decode (zcode Y) pc = .ok (.tableswitch dflt lo hi offs, len)) (h : u.toInt < lo ∨ hi < u.toInt) (ht : (pc : Int) + dflt = (tgt : Int)) (k : zW g Y d tgt ls st μ Q) : zW g Y d pc ls (.int u :: st) μ Q :=
  fun p l e R s m args below meth c H locs cells slots Qf hC hD hK a ha => lv_tableOut hC.1 hC.2.1 hd h ht (k p l e R s m args below meth c H locs cells slots Qf hC hD hK a ha)
theorem z_tabIn {dflt lo hi : Int} {offs : Array Int} {len : Nat} (hd : decode (zcode Y) pc = .ok (.tableswitch dflt lo hi offs, len)) (h1 : ¬ u.toInt < lo) (h2 : ¬ hi < u.toInt) (ho : offs[(u.toInt - lo).toNat]? = some off) (ht : (pc : Int) + off = (tgt : Int)) (k : zW g Y d tgt ls st μ Q) : zW g Y d pc ls (.int u :: st) μ Q :=
  fun p l e R s m args below meth c H locs cells slots Qf hC hD hK a ha => lv_tableIn hC.1 hC.2.1 hd h1 h2 ho ht (k p l e R s m args below meth c H locs cells slots Qf hC hD hK a ha)
theorem z_look {dflt : Int} {ps : Array (Int × Int)} {len : Nat} (hd : decode (zcode Y) pc = .ok (.lookupswitch dflt ps, len)) (hp : (ps.toList.zip (ps.toList.drop 1)).all (fun (a, next) => a.1 < next.1) = true) (ho : Op.lookupswitch.offset ps.toList dflt u.toInt = off) (ht : (pc : Int) + off = (tgt : Int)) (k : zW g Y d tgt ls st μ Q) : zW g Y d pc ls (.int u :: st) μ Q :=
  fun p l e R s m args below meth c H locs cells slots Qf hC hD hK a ha => lv_lookup hC.1 hC.2.1 hd hp ho ht (k p l e R s m args below meth c H locs cells slots Qf hC hD hK a ha)
/-- returns -/
theorem z_ret (hd : decode (zcode Y) pc = .ok (.ireturn, 1)) (hr : zretT Y = some .int) (hq : Q (some (.int u)) μ) : zW g Y d pc ls [.int u] μ Q :=
  fun _ _ _ _ _ _ _ _ _ _ H locs _ _ _ _ hD hK a _ => hK (some (.int u)) μ H locs pc a hq hD ⟨hd, .int, hr, vp_nar_int u⟩
theorem z_retZ (hd : decode (zcode Y) pc = .ok (.ireturn, 1)) (hr : zretT Y = some .boolean) (hu : u = 0 ∨ u = 1) (hq : Q (some (.int u)) μ) : zW g Y d pc ls [.int u] μ Q :=
  fun _ _ _ _ _ _ _ _ _ _ H locs _ _ _ _ hD hK a _ => hK (some (.int u)) μ H locs pc a hq hD ⟨hd, .boolean, hr, (znar_b hu).1⟩
theorem z_retL {w : Int64} (hd : decode (zcode Y) pc = .ok (.lreturn, 1)) (hr : zretT Y = some .long) (hq : Q (some (.long w)) μ) : zW g Y d pc ls [.long w] μ Q :=
  fun _ _ _ _ _ _ _ _ _ _ H locs _ _ _ _ hD hK a _ => hK (some (.long w)) μ H locs pc a hq hD ⟨hd, hr⟩
theorem z_retA {w : Nat} (hd : decode (zcode Y) pc = .ok (.areturn, 1)) {rt : FieldType} (hr : zretT Y = some rt) (ho : (∃ n, rt = .object n) ∨ ∃ t, rt = .array t) (hq : Q (some (.ref w)) μ) : zW g Y d pc ls [.ref w] μ Q :=
  fun _ _ _ _ _ _ _ _ _ _ H locs _ _ _ _ hD hK a _ => hK (some (.ref w)) μ H locs pc a hq hD ⟨hd, rt, hr, ho⟩
theorem z_retN (hd : decode (zcode Y) pc = .ok (.areturn, 1)) {rt : FieldType} (hr : zretT Y = some rt) (ho : (∃ n, rt = .object n) ∨ ∃ t, rt = .array t) (hq : Q (some .null) μ) : zW g Y d pc ls [.null] μ Q :=
  fun _ _ _ _ _ _ _ _ _ _ H locs _ _ _ _ hD hK a _ => hK (some .null) μ H locs pc a hq hD ⟨hd, rt, hr, ho⟩
theorem z_retV (hd : decode (zcode Y) pc = .ok (.return_, 1)) (hr : zretT Y = none) (hq : Q none μ) : zW g Y d pc ls [] μ Q :=
  fun _ _ _ _ _ _ _ _ _ _ H locs _ _ _ _ hD hK a _ => hK none μ H locs pc a hq hD ⟨hd, hr⟩
end ZF
/-- the locals at a method's entry -/
def zent : List Value → List (Option Value)
  | [] => []
  | .long w :: r => some (.long w) :: none :: zent r
  | v :: r => some v :: zent r
def zentN (n : Nat) (av : List Value) : List (Option Value) := zent av ++ List.replicate (n - (zent av).length) none
def znod : Value → Bool
  | .double _ => false
  | _ => true
theorem zent_mem {g : zG} {j : Nat} {w : Value} (r : List (Option Value)) (hr : ∀ i, (j, w) ∉ zas g r i) : ∀ (av : List Value) (i : Nat), av.all znod = true → (j, w) ∈ zas g (zent av ++ r) i → (j, w) ∈ lv_args i (av.map (ztr g))
  | [], i, _, h => absurd h (hr i)
  | v :: l, i, hd, h => by
    simp only [List.all_cons, Bool.and_eq_true] at hd
    have ih := fun i => zent_mem r hr l i hd.2
    cases v with
    | long z =>
      rcases List.mem_cons.mp h with h | h
      · rw [h]; exact List.mem_cons_self
      · exact List.mem_cons_of_mem _ (ih (i + 1 + 1) h)
    | double z => cases hd.1
    | int z =>
      rcases List.mem_cons.mp h with h | h
      · rw [h]; exact List.mem_cons_self
      · exact List.mem_cons_of_mem _ (ih (i + 1) h)
    | float z =>
      rcases List.mem_cons.mp h with h | h
      · rw [h]; exact List.mem_cons_self
      · exact List.mem_cons_of_mem _ (ih (i + 1) h)
    | null =>
      rcases List.mem_cons.mp h with h | h
      · rw [h]; exact List.mem_cons_self
      · exact List.mem_cons_of_mem _ (ih (i + 1) h)
    | ref z =>
      rcases List.mem_cons.mp h with h | h
      · rw [h]; exact List.mem_cons_self
      · exact List.mem_cons_of_mem _ (ih (i + 1) h)
    | retAddr z =>
      rcases List.mem_cons.mp h with h | h
      · rw [h]; exact List.mem_cons_self
      · exact List.mem_cons_of_mem _ (ih (i + 1) h)
theorem zas_none {g : zG} {q : Nat × Value} : ∀ (n i : Nat), q ∉ zas g (List.replicate n none) i
  | 0, i => by intro h; cases h
  | n + 1, i => by rw [List.replicate_succ]; exact zas_none n (i + 1)
theorem zent_len {g : zG} : ∀ (av : List Value), av.all znod = true → (lg_sl (av.map (ztr g))).length = (zent av).length
  | [], _ => rfl
  | v :: l, hd => by
    simp only [List.all_cons, Bool.and_eq_true] at hd
    have ih := zent_len (g := g) l hd.2
    unfold lg_sl at ih ⊢
    cases v <;> first | (cases hd.1; done) | (rw [List.map_cons, List.flatMap_cons, List.length_append, ih]; show _ + _ = List.length (_ :: _ :: _); simp [ztr, Value.category]; omega) | (rw [List.map_cons, List.flatMap_cons, List.length_append, ih]; show _ + _ = List.length (_ :: _); simp [ztr, Value.category]; omega)
/-- a contract out of a walk -/
theorem zM_of {g : zG} {d : Nat} {Y : zY} {av : List Value} {μ : zMem} {Q : Option Value → zMem → Prop} {ls : List (Option Value)} (hy : plainName Y.1.cls = true) (hc : Y.1.cls = zR (zown Y)) (hnd : av.all znod = true) (hlen : (zent av).length ≤ zmaxL Y) (hls : zentN (zmaxL Y) av = ls) (h : zW g Y d 0 ls [] μ Q) : zM g d Y av μ Q := by
  intro l
  refine Met.ofW (cc := zcode Y) (maxL := zmaxL Y) (ret := zretT Y) (ws' := ztbl) hy rfl ?_
  intro p e s m args below meth c s₁ B hml hv
  obtain ⟨rfl, hP, hK, hRO, hNW, hG, hbs⟩ := hv
  have hts : ∀ w ∈ ztbl, w.before (av.map (ztr g)).toArray s = true := fun w hw => atoms_spec (ws := zwsY Y) B.pre w (List.mem_cons_of_mem _ hw)
  have hown : s.vm.findClass (zR (zown Y)) = some m.cls := by rw [← hc]; exact findClass_of_methodNamed B.named
  have hlk := B.notSynchronized
  have hC : zC g Y d p (headSpec (zwsY Y) (zrm d)).room s m (av.map (ztr g)).toArray meth c 0 0 :=
    ⟨B.exec, B.bytes, hml, B.returns, hlk, hown, hts, hK, hRO, hNW, hG, hbs, Nat.le_refl _, Nat.le_refl _, Nat.zero_le _, Nat.zero_le _⟩
  have hent := lv_entry (av.map (ztr g)) (n := zmaxL Y) (by rw [zent_len av hnd]; exact hlen)
  rw [lg_entry_eq]
  generalize (lg_sl (av.map (ztr g)) ++ List.replicate (zmaxL Y - (lg_sl (av.map (ztr g))).length) Slot.unset).toArray = a at hent ⊢
  have ha : zL g (zmaxL Y) ls a := by
    refine ⟨⟨hent.1, hent.2.1, fun q hq => hent.2.2 q ?_⟩, ?_⟩
    · obtain ⟨j, w⟩ := q
      rw [← hls] at hq
      exact zent_mem _ (fun i => zas_none _ i) av 0 hnd hq
    · rw [← hls]
      unfold zentN
      rw [List.length_append, List.length_replicate]
      omega
  refine h p l e _ s m _ below meth c s.heap [] 0 0 _ hC ⟨hP, va_S.rf⟩ ?_ a ha
  intro v μ' H' locs' pc' a' hQ hD hret
  have hpost : ∀ t : State, t.heap = H' → ∃ (v' : Option Value) (μ1 : zMem), Outcome.returned (v.map (ztr g)) = .returned (v'.map (ztr g)) ∧ Q v' μ1 ∧ va_P (zDD g) vwCl (zws g μ1) t.heap ∧ va_F (zA g) s t :=
    fun t ht => ⟨v, μ', rfl, hQ, by rw [ht]; exact hD.1, hD.2.F ht⟩
  have hfr : ∀ q ∈ locs', zA g q.base := hD.2.2.2
  cases v with
  | none => exact W.vret B.exec B.bytes (B.returns.trans hret.2) (fun t ht _ => hpost t ht) hfr hret.1 hlk
  | some w =>
    cases w with
    | int z =>
      obtain ⟨h1, ty, h2, h3⟩ := hret
      exact W.zret B.exec B.bytes (B.returns.trans h2) h3 (fun t ht _ => hpost t ht) hfr h1 hlk
    | long z => exact W.lret B.exec B.bytes (B.returns.trans hret.2) (fun t ht _ => hpost t ht) hfr hret.1 hlk
    | ref z =>
      obtain ⟨h1, rt, h2, h3⟩ := hret
      exact W.aret (v := .ref (zad g z)) B.exec B.bytes (B.returns.trans h2) h3 (Or.inr ⟨_, rfl⟩) (fun t ht _ => hpost t ht) hfr h1 hlk
    | null =>
      obtain ⟨h1, rt, h2, h3⟩ := hret
      exact W.aret (v := .null) B.exec B.bytes (B.returns.trans h2) h3 (Or.inl rfl) (fun t ht _ => hpost t ht) hfr h1 hlk
    | float z => exact hret.elim
    | double z => exact hret.elim
    | retAddr z => exact hret.elim
/-! calls -/
/-- a call's words, by their places: link, instance or static, selects or initialized class, initialized, code -/
def zlkV (o idx : Nat) (Y : zY) (n p0 p1 p2 p3 p4 : Nat) : Bool := decide (lw_tbl[p0]? = some (.methodLink (zR o) idx Y.1)) && decide (lw_tbl[p1]? = some (.instanceMethod Y.1)) && decide (lw_tbl[p2]? = some (.selects Y.1.cls Y.1 Y.1)) && decide (lw_tbl[p3]? = some (.initialized Y.1.cls)) && decide (lw_tbl[p4]? = some (.code Y.1 Y.2.1 Y.2.2.1 Y.2.2.2.1)) && decide (Y.1.cls ≠ "java/lang/invoke/MethodHandle") && decide (Y.1.cls ≠ "java/lang/invoke/VarHandle") && decide ((parseMethodDescriptor Y.1.desc).map (fun d => d.parameters.length) = some n) && decide (Y.2.2.1 ≤ 40) && decide (zR (zown Y) = Y.1.cls) && decide (zown Y < 12)
def zlkS (o idx : Nat) (Y : zY) (n p0 p1 p3 p4 : Nat) : Bool := decide (lw_tbl[p0]? = some (.methodLink (zR o) idx Y.1)) && decide (lw_tbl[p1]? = some (.static Y.1)) && decide (lw_tbl[p3]? = some (.initialized Y.1.cls)) && decide (lw_tbl[p4]? = some (.code Y.1 Y.2.1 Y.2.2.1 Y.2.2.2.1)) && decide (Y.1.cls ≠ "java/lang/invoke/MethodHandle") && decide (Y.1.cls ≠ "java/lang/invoke/VarHandle") && decide ((parseMethodDescriptor Y.1.desc).map (fun d => d.parameters.length) = some n) && decide (Y.2.2.1 ≤ 40)
def zlkN (o idx : Nat) (Y : zY) (n p1 p3 p4 : Nat) : Bool := decide ((zR o, idx, Y.1) ∈ znest) && decide (lw_tbl[p1]? = some (.static Y.1)) && decide (lw_tbl[p3]? = some (.initialized Y.1.cls)) && decide (lw_tbl[p4]? = some (.code Y.1 Y.2.1 Y.2.2.1 Y.2.2.2.1)) && decide (Y.1.cls ≠ "java/lang/invoke/MethodHandle") && decide (Y.1.cls ≠ "java/lang/invoke/VarHandle") && decide ((parseMethodDescriptor Y.1.desc).map (fun d => d.parameters.length) = some n) && decide (Y.2.2.1 ≤ 40)
theorem zgood {Y : zY} (h : Cond.code Y.1 Y.2.1 Y.2.2.1 Y.2.2.2.1 ∈ ztbl) : GoodIn ztbl (zwsY Y) := fun w hw => by
  rcases List.mem_cons.mp hw with rfl | hw
  · exact ⟨h, good_of_word (List.mem_filter.mp h).2⟩
  · exact ⟨hw, good_of_word (List.mem_filter.mp hw).2⟩
theorem zvw_R {ci : Nat} {r : vw_C} (h : vwCl[ci]? = some r) : r.1 = zR ci := by
  have hl := zvw_lt h
  match ci, hl, h with
  | 0, _, h => cases h; rfl
  | 1, _, h => cases h; rfl
  | 2, _, h => cases h; rfl
  | 3, _, h => cases h; rfl
  | 4, _, h => cases h; rfl
  | 5, _, h => cases h; rfl
  | 6, _, h => cases h; rfl
  | 7, _, h => cases h; rfl
  | 8, _, h => cases h; rfl
  | 9, _, h => cases h; rfl
  | 10, _, h => cases h; rfl
  | 11, _, h => cases h; rfl
section ZCALL
variable {g : zG} {Y Y' : zY} {d pc idx n : Nat} {ls : List (Option Value)} {st st0 : List Value} {μ : zMem} {Q Q' : Option Value → zMem → Prop} {av : List Value}
theorem zcats {g : zG} (st : List Value) : ((st.map (ztr g)).map fun v => v.category) = st.map fun v => v.category := by
  rw [List.map_map]
  exact List.map_congr_left (fun v _ => ztr_cat g v)
theorem zpre {p : Program} {R : Room} {s : State} {m : MethodId} {args : Array Value} {meth : Method} {c : Code} {H : Heap} {locs : List Loc} {cells slots : Nat} (hC : zC g Y d p R s m args meth c cells slots) (hD : zDy g s H locs μ) : ∀ U : State, U.heap = H → s.WarmedH U.vm → va_Pc (av.map (ztr g)) (zWorld g μ) (av.map (ztr g)).toArray U := by
  intro U hU hW
  obtain ⟨hx, hb, hml, hrt, hlk, hown, hts, hKK, hRO, hNW, hG, hbs, -⟩ := hC
  have hvm := hW.alike
  refine ⟨rfl, by rw [hU]; exact hD.1, va_K.moved hvm hKK, ?_, zNW.warm hW hNW, hG, ?_⟩
  · rw [hU]
    exact zRO.moved hvm (hRO.kept hD.2.1 hD.2.2.1)
  · rw [hU]
    exact Nat.le_trans hbs hD.2.1
theorem zcont {p : Program} {l : Launch} {e : Env} {R : Room} {s : State} {m : MethodId} {args : Array Value} {below : List Frame} {meth : Method} {c : Code} {H : Heap} {locs : List Loc} {cells slots : Nat} {Qf : State → Prop} {a : Array Slot} {sm : List Value}
    (hC : zC g Y d p R s m args meth c cells slots) (hD : zDy g s H locs μ)
    (hK : ∀ (v : Option Value) (μ' : zMem) (H' : Heap) (locs' : List Loc) (pc' : Nat) (a' : Array Slot), Q v μ' → zDy g s H' locs' μ' → zRet Y pc' v → W p l e R s m args below meth c H' locs' cells slots Qf (F0 m pc' a' (v.map (ztr g)).toList))
    (ha : zL g (zmaxL Y) ls a)
    (hr : va_Run p l e R s m args below meth c H locs cells slots 0 0 (F0 m pc a sm) (st.map (ztr g)) (fun st o t => ∃ (v : Option Value) (μ' : zMem), o = .returned (v.map (ztr g)) ∧ Q' v μ' ∧ va_P (zDD g) vwCl (zws g μ') t.heap ∧ va_F (zA g) st t) (zA g))
    (kk : ∀ v μ', Q' v μ' → zW g Y d (pc + 3) ls (v.toList ++ st) μ' Q) : W p l e R s m args below meth c H locs cells slots Qf (F0 m pc a sm) := by
  intro T hT X
  obtain ⟨v, st₀, t, T', L, h0, X', hL, e1, e2, ⟨v', μ', hv, hQ, hP1, hz, hk⟩, hgo⟩ := hr T hT X
  cases hv
  rw [h0] at hz hk
  have hS := hD.2
  have hD' : zDy g s T'.heap (locs ++ L) μ' := by
    refine ⟨by rw [e1]; exact hP1, Nat.le_trans hS.1 (by rw [e1]; exact hz), fun q h1 h2 => ?_, fun q hq => ?_⟩
    · rw [e1, hk q (Nat.lt_of_lt_of_le h1 hS.1) h2]
      exact hS.2.1 q h1 h2
    · rcases List.mem_append.mp hq with h | h
      · exact hS.2.2 q h
      · exact hL q h
  obtain ⟨t2, a1, b1⟩ := kk v' μ' hQ p l e R s m args below meth c T'.heap (locs ++ L) cells slots Qf hC hD' hK a ha T' rfl X'
  have e3 : (v'.toList ++ st).map (ztr g) = (v'.map (ztr g)).toList ++ st.map (ztr g) := by cases v' <;> rfl
  rw [e3] at a1
  exact ⟨t2, hgo t2 a1, b1⟩
/-- a call of an object's method -/
theorem zcallV {b p0 p1 p2 p3 p4 : Nat} (hd : decode (zcode Y) pc = .ok (.invokevirtual idx, 3)) (hl : zlkV (zown Y) idx Y' n p0 p1 p2 p3 p4 = true) (hd1 : 1 ≤ d) (hM : zM g (d - 1) Y' (.ref b :: av) μ Q') (hs : st0 = av.reverse ++ .ref b :: st) (hb : zkd b = .inl (zown Y')) (hn : av.length = n) (h8 : (st.map fun v => v.category).sum ≤ 8)
    (kk : ∀ v μ', Q' v μ' → zW g Y d (pc + 3) ls (v.toList ++ st) μ' Q) : zW g Y d pc ls st0 μ Q := by
  intro p l e R s m args below meth c H locs cells slots Qf hC hD hK a ha
  simp only [zlkV, Bool.and_eq_true, decide_eq_true_eq] at hl
  obtain ⟨⟨⟨⟨⟨⟨⟨⟨⟨⟨w0, w1⟩, w2⟩, w3⟩, w4⟩, y1⟩, y2⟩, y3⟩, y4⟩, y5⟩, y6⟩ := hl
  have hX := hC
  obtain ⟨hx, hbb, hml, hrt, hlk, hown, hts, hKK, hRO, hNW, hG, hbs, r1, r2, r3, r4⟩ := hX
  have hcode := zt_in w4 rfl
  have cb : CallB R s args (zR (zown Y)) idx Y'.1 Y'.2.1 Y'.2.2.1 Y'.2.2.2.1 (zwsY Y') (zrm (d - 1)) 0 0 n :=
    callB_of n hts (zgood hcode) rfl rfl rfl (hts _ (zt_in w3 rfl)) (hts _ (zt_in w0 rfl)) ⟨y1, y2, y3⟩ ⟨by show d - 1 + 1 ≤ _; omega, by show 8 + (Y'.2.2.1 + 11) + 64 * (d - 1) ≤ _; omega⟩
  have hcell : ∃ cellB : Cell, H[zad g b]? = some cellB ∧ cellB.vm.isStatics = false ∧ s.vm.findClass Y'.1.cls = some cellB.cls := by
    have hlt12 : ∃ r, vwCl[zown Y']? = some r := ⟨_, List.getElem?_eq_getElem y6⟩
    obtain ⟨r, hr⟩ := hlt12
    obtain ⟨r', h1, cell, h2, h3, h4, -⟩ := hD.1 b _ (zws_obj (zkd_lt hb (zvw_lt hr)) hb)
    refine ⟨cell, h2, by rw [h4]; rfl, ?_⟩
    have hkn := hKK.1 (zown Y') r hr
    rw [h3, ← y5, ← zvw_R hr]
    exact hkn.2.1
  have hp : PreV s H Y'.1.cls (zad g b) (va_Pc ((Value.ref b :: av).map (ztr g)) (zWorld g μ)) (av.map (ztr g)) :=
    ⟨zWorld_blind g μ _, hcell, zpre hC hD⟩
  refine zcont hC hD hK ha (va_runV (nL := zmaxL Y) ⟨hx, hbb, hml, hown, hts⟩ (hM l) ⟨cb, hts _ (zt_in w1 rfl), hts _ (zt_in w2 rfl)⟩ hp rfl (by rw [List.length_map]; exact hn) ha.1.1 ?_ ?_ hd ⟨r3, r4⟩) kk
  · show st0.map (ztr g) = _
    rw [hs, List.map_append, List.map_reverse]
    rfl
  · show 2 * 0 + _ ≤ 8
    rw [zcats]
    omega
/-- a call of a static method -/
theorem zcallS {p0 p1 p3 p4 : Nat} (hd : decode (zcode Y) pc = .ok (.invokestatic idx, 3)) (hl : zlkS (zown Y) idx Y' n p0 p1 p3 p4 = true) (hd1 : 1 ≤ d) (hM : zM g (d - 1) Y' av μ Q') (hs : st0 = av.reverse ++ st) (hn : av.length = n) (h8 : (st.map fun v => v.category).sum ≤ 8)
    (kk : ∀ v μ', Q' v μ' → zW g Y d (pc + 3) ls (v.toList ++ st) μ' Q) : zW g Y d pc ls st0 μ Q := by
  intro p l e R s m args below meth c H locs cells slots Qf hC hD hK a ha
  simp only [zlkS, Bool.and_eq_true, decide_eq_true_eq] at hl
  obtain ⟨⟨⟨⟨⟨⟨⟨w0, w1⟩, w3⟩, w4⟩, y1⟩, y2⟩, y3⟩, y4⟩ := hl
  have hX := hC
  obtain ⟨hx, hbb, hml, hrt, hlk, hown, hts, hKK, hRO, hNW, hG, hbs, r1, r2, r3, r4⟩ := hX
  have hcode := zt_in w4 rfl
  have cb : CallB R s args (zR (zown Y)) idx Y'.1 Y'.2.1 Y'.2.2.1 Y'.2.2.2.1 (zwsY Y') (zrm (d - 1)) 0 0 n :=
    callB_of n hts (zgood hcode) rfl rfl rfl (hts _ (zt_in w3 rfl)) (hts _ (zt_in w0 rfl)) ⟨y1, y2, y3⟩ ⟨by show d - 1 + 1 ≤ _; omega, by show 8 + (Y'.2.2.1 + 11) + 64 * (d - 1) ≤ _; omega⟩
  have hp : PreS s H (va_Pc (av.map (ztr g)) (zWorld g μ)) (av.map (ztr g)) := ⟨zWorld_blind g μ _, zpre hC hD⟩
  refine zcont hC hD hK ha (va_runS (nL := zmaxL Y) ⟨hx, hbb, hml, hown, hts⟩ (hM l) ⟨cb, hts _ (zt_in w1 rfl)⟩ hp rfl (by rw [List.length_map]; exact hn) ha.1.1 ?_ ?_ hd ⟨r3, r4⟩) kk
  · show st0.map (ztr g) = _
    rw [hs, List.map_append, List.map_reverse]
  · show 2 * 0 + _ ≤ 8
    rw [zcats]
    omega
/-- a call of a nest mate's static method -/
theorem zcallN {p1 p3 p4 : Nat} (hd : decode (zcode Y) pc = .ok (.invokestatic idx, 3)) (hl : zlkN (zown Y) idx Y' n p1 p3 p4 = true) (hd1 : 1 ≤ d) (hM : zM g (d - 1) Y' av μ Q') (hs : st0 = av.reverse ++ st) (hn : av.length = n) (h8 : (st.map fun v => v.category).sum ≤ 8)
    (kk : ∀ v μ', Q' v μ' → zW g Y d (pc + 3) ls (v.toList ++ st) μ' Q) : zW g Y d pc ls st0 μ Q := by
  intro p l e R s m args below meth c H locs cells slots Qf hC hD hK a ha
  simp only [zlkN, Bool.and_eq_true, decide_eq_true_eq] at hl
  obtain ⟨⟨⟨⟨⟨⟨⟨w0, w1⟩, w3⟩, w4⟩, y1⟩, y2⟩, y3⟩, y4⟩ := hl
  have hX := hC
  obtain ⟨hx, hbb, hml, hrt, hlk, hown, hts, hKK, hRO, hNW, hG, hbs, r1, r2, r3, r4⟩ := hX
  have hcode := zt_in w4 rfl
  have cb : va_CN R s args (zR (zown Y)) idx Y'.1 "CastWithVows" Y'.2.1 Y'.2.2.1 Y'.2.2.2.1 (zwsY Y') (zrm (d - 1)) 0 0 n :=
    va_cnB n hts (zgood hcode) rfl rfl rfl (hNW.1 _ w0) (hts _ (zt_in w3 rfl)) ⟨y1, y2, y3⟩ ⟨by show d - 1 + 1 ≤ _; omega, by show 8 + (Y'.2.2.1 + 11) + 64 * (d - 1) ≤ _; omega⟩
  have hp : PreS s H (va_Pc (av.map (ztr g)) (zWorld g μ)) (av.map (ztr g)) := ⟨zWorld_blind g μ _, zpre hC hD⟩
  refine zcont hC hD hK ha (va_runSN (nL := zmaxL Y) ⟨hx, hbb, hml, hown, hts⟩ (hM l) ⟨cb, hts _ (zt_in w1 rfl), trivial⟩ hp rfl (by rw [List.length_map]; exact hn) ha.1.1 ?_ ?_ hd ⟨r3, r4⟩) kk
  · show st0.map (ztr g) = _
    rw [hs, List.map_append, List.map_reverse]
  · show 2 * 0 + _ ≤ 8
    rw [zcats]
    omega
end ZCALL
