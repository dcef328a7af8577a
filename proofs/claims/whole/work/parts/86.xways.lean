/-! vows melted out of a bell: the ways by number -/
def oth (b q : Nat) : Nat := if q < b then q else q + 1
def isb (F : zF) (b v : Nat) : Nat := if fbell F v = nI b then 1 else 0
/-- how many vows of a bell stand ahead of v; how many from v on -/
def cntB (F : zF) (b v : Nat) : Nat := nsm (isb F b) v
def remB (F : zF) (b : Nat) : Nat → Nat → Nat
  | 0, _ => 0
  | k + 1, v => isb F b v + remB F b k (v + 1)
theorem cnt_rem {F : zF} {b : Nat} : ∀ (k v : Nat), cntB F b v + remB F b k v = cntB F b (v + k)
  | 0, v => rfl
  | k + 1, v => by
    rw [remB, show v + (k + 1) = (v + 1) + k by omega, ← cnt_rem k (v + 1)]
    unfold cntB
    rw [nsm_s]
    omega
def updM (day h : Int32) (F : zF) (st : Int32 × (Nat → Int32)) : Int32 × (Nat → Int32) := if ¬ st.1 < 0 ∧ ¬ manyOff F day h < st.1 then st else (manyOff F day h, fbell F)
/-- the w-th way -/
def leafF (b K : Nat) : Nat → Nat → zF → Nat → zF
  | 0, _, F, _ => F
  | k + 1, v, F, w => if fbell F v = nI b then leafF b K k (v + 1) (fsb F v (nI (oth b (w / K ^ remB F b k (v + 1))))) (w % K ^ remB F b k (v + 1)) else leafF b K k (v + 1) F w
theorem zf_in {σ : Type} {f g : Nat → σ → σ} : ∀ (k i : Nat) (s : σ), (∀ j t, i ≤ j → j < i + k → f j t = g j t) → zfold f i k s = zfold g i k s
  | 0, _, _, _ => rfl
  | k + 1, i, s, h => by
    show zfold f (i + 1) k (f i s) = zfold g (i + 1) k (g i s)
    rw [h i s (Nat.le_refl _) (by omega)]
    exact zf_in k (i + 1) _ (fun j t h1 h2 => h j t (by omega) (by omega))
theorem zf_app {σ : Type} (f : Nat → σ → σ) : ∀ (k i m : Nat) (s : σ), zfold f i (k + m) s = zfold f (i + k) m (zfold f i k s)
  | 0, i, m, s => by rw [Nat.zero_add]; rfl
  | k + 1, i, m, s => by
    rw [show k + 1 + m = (k + m) + 1 by omega]
    show zfold f (i + 1) (k + m) (f i s) = zfold f (i + (k + 1)) m (zfold f (i + 1) k (f i s))
    rw [zf_app f k (i + 1) m, show i + 1 + k = i + (k + 1) by omega]
theorem zf_sh {σ : Type} (f : Nat → σ → σ) (a : Nat) : ∀ (k i : Nat) (s : σ), zfold f (a + i) k s = zfold (fun r => f (a + r)) i k s
  | 0, _, _ => rfl
  | k + 1, i, s => by
    show zfold f (a + i + 1) k (f (a + i) s) = zfold (fun r => f (a + r)) (i + 1) k (f (a + i) s)
    rw [show a + i + 1 = a + (i + 1) by omega]
    exact zf_sh f a k (i + 1) _
/-- a fold of folds -/
theorem zf_mul {σ : Type} (g : Nat → σ → σ) (M : Nat) : ∀ (K : Nat) (s : σ), zfold (fun q st => zfold (fun r st => g (q * M + r) st) 0 M st) 0 K s = zfold g 0 (K * M) s
  | 0, s => by rw [Nat.zero_mul]; rfl
  | K + 1, s => by
    rw [zf0, zf_mul g M K, Nat.succ_mul, zf_app, Nat.zero_add]
    exact (zf_sh g (K * M) M 0 _).symm
/-- a fold that leaves one out -/
theorem zf_skip {σ : Type} (G : Nat → σ → σ) (b : Nat) (B : Nat) (s : σ) (hb : b < B) : zfold (fun o st => if o = b then st else G o st) 0 B s = zfold (fun q st => G (oth b q) st) 0 (B - 1) s := by
  have e : B = b + (1 + (B - 1 - b)) := by omega
  have e2 : B - 1 = b + (B - 1 - b) := by omega
  rw [show zfold (fun o st => if o = b then st else G o st) 0 B s = zfold (fun o st => if o = b then st else G o st) 0 (b + (1 + (B - 1 - b))) s by rw [← e]]
  rw [show zfold (fun q st => G (oth b q) st) 0 (B - 1) s = zfold (fun q st => G (oth b q) st) 0 (b + (B - 1 - b)) s by rw [← e2]]
  rw [zf_app, zf_app, zf_app, Nat.zero_add]
  have h1 : zfold (fun o st => if o = b then st else G o st) 0 b s = zfold (fun q st => G (oth b q) st) 0 b s := zf_in b 0 s (fun j t _ h2 => by
    (try dsimp only)
    unfold oth
    rw [if_neg (by omega), if_pos (show j < b by omega)])
  have h2 : ∀ t : σ, zfold (fun o st => if o = b then st else G o st) b 1 t = t := fun t => if_pos rfl
  rw [h1, h2]
  have h3 : ∀ t : σ, zfold (fun o st => if o = b then st else G o st) (b + 1) (B - 1 - b) t = zfold (fun q st => G (oth b q) st) b (B - 1 - b) t := fun t => by
    have k1 := zf_sh (fun o st => if o = b then st else G o st) (b + 1) (B - 1 - b) 0 t
    have k2 := zf_sh (fun q st => G (oth b q) st) b (B - 1 - b) 0 t
    rw [Nat.add_zero] at k1 k2
    rw [k1, k2]
    refine zf_in _ 0 t (fun j t _ _ => ?_)
    (try dsimp only)
    unfold oth
    rw [if_neg (by omega), if_neg (show ¬ b + j < b by omega), show b + 1 + j = b + j + 1 by omega]
  exact h3 _
theorem rem_fsb {F : zF} {b v : Nat} {y : Int32} : ∀ (k u : Nat), v < u → remB (fsb F v y) b k u = remB F b k u
  | 0, _, _ => rfl
  | k + 1, u, h => by
    rw [remB, remB, rem_fsb k (u + 1) (by omega)]
    have e : fbell (fsb F v y) u = fbell F u := if_neg (by omega)
    unfold isb
    rw [e]
theorem melS_is {b K : Nat} {day h : Int32} (hb31 : b < 6) : ∀ (k v : Nat) (F : zF) (st : Int32 × (Nat → Int32)), b < fB F → K = fB F - 1 → fB F ≤ 6 → melS (nI b) day h k v F st = zfold (fun w st => updM day h (leafF b K k v F w) st) 0 (K ^ remB F b k v) st
  | 0, v, F, st, _, _, _ => rfl
  | k + 1, v, F, st, hb, hK, h6 => by
    rw [melS, remB]
    by_cases q : fbell F v = nI b
    · rw [if_pos q]
      have ei : isb F b v = 1 := if_pos q
      rw [ei, Nat.add_comm 1 (remB F b k (v + 1)), Nat.pow_succ, Nat.mul_comm, ← zf_mul]
      have e1 : zfold (fun o st => if nI o = nI b then st else melS (nI b) day h k (v + 1) (fsb F v (nI o)) st) 0 (fB F) st = zfold (fun o st => if o = b then st else melS (nI b) day h k (v + 1) (fsb F v (nI o)) st) 0 (fB F) st := zf_in _ 0 st (fun j t _ hj => by
        have := nI_eq (a := j) (b := b) (by omega) (by omega)
        by_cases y : j = b
        · rw [if_pos y, if_pos (this.mpr y)]
        · rw [if_neg y, if_neg (fun z => y (this.mp z))])
      rw [e1, zf_skip _ b (fB F) st hb, ← hK]
      refine zf_in K 0 st (fun j t _ hj => ?_)
      (try dsimp only)
      rw [melS_is hb31 k (v + 1) (fsb F v (nI (oth b j))) t hb hK h6, rem_fsb k (v + 1) (by omega)]
      refine zf_in _ 0 t (fun r t _ hr => ?_)
      (try dsimp only)
      have hpos : 0 < K ^ remB F b k (v + 1) := by omega
      have e2 : (j * K ^ remB F b k (v + 1) + r) / K ^ remB F b k (v + 1) = j := by
        rw [Nat.mul_comm, Nat.mul_add_div hpos, Nat.div_eq_of_lt (by omega), Nat.add_zero]
      have e3 : (j * K ^ remB F b k (v + 1) + r) % K ^ remB F b k (v + 1) = r := by
        rw [Nat.mul_comm, Nat.mul_add_mod, Nat.mod_eq_of_lt (by omega)]
      have e4 : leafF b K (k + 1) v F (j * K ^ remB F b k (v + 1) + r) = leafF b K k (v + 1) (fsb F v (nI (oth b j))) r := by
        rw [leafF, if_pos q, e2, e3]
      rw [e4]
    · rw [if_neg q]
      have ei : isb F b v = 0 := if_neg q
      rw [ei, Nat.zero_add, melS_is hb31 k (v + 1) F st hb hK h6]
      refine zf_in _ 0 st (fun r t _ _ => ?_)
      (try dsimp only)
      rw [show leafF b K (k + 1) v F r = leafF b K k (v + 1) F r by rw [leafF, if_neg q]]
/-- the bells of a way -/
theorem leaf_lo {b K : Nat} : ∀ (k v : Nat) (F : zF) (w u : Nat), u < v → fbell (leafF b K k v F w) u = fbell F u
  | 0, _, _, _, _, _ => rfl
  | k + 1, v, F, w, u, h => by
    rw [leafF]
    split
    · rw [leaf_lo k (v + 1) _ _ u (by omega)]
      exact if_neg (by omega)
    · exact leaf_lo k (v + 1) F w u (by omega)
theorem rem_pos {F : zF} {b u : Nat} (hu : fbell F u = nI b) : ∀ (k v : Nat), v ≤ u → u < v + k → remB F b (v + k - (u + 1)) (u + 1) < remB F b k v
  | 0, v, h1, h2 => by omega
  | k + 1, v, h1, h2 => by
    rw [remB]
    by_cases q : u = v
    · subst q
      have ei : isb F b u = 1 := if_pos hu
      rw [ei, show u + (k + 1) - (u + 1) = k by omega]
      omega
    · have ih := rem_pos hu k (v + 1) (by omega) (by omega)
      rw [show v + 1 + k - (u + 1) = v + (k + 1) - (u + 1) by omega] at ih
      omega
theorem dig_mod {w K a e : Nat} (h : e < a) : w % K ^ a / K ^ e % K = w / K ^ e % K := by
  rw [show K ^ a = K ^ e * K ^ (a - e) by rw [← Nat.pow_add]; congr 1; omega, Nat.mod_mul_right_div_self]
  refine Nat.mod_mod_of_dvd _ ⟨K ^ (a - e - 1), ?_⟩
  rw [show K ^ (a - e) = K ^ (a - e - 1 + 1) by congr 1; omega, Nat.pow_succ, Nat.mul_comm]
theorem leaf_at {b K : Nat} : ∀ (k v : Nat) (F : zF) (w u : Nat), w < K ^ remB F b k v → v ≤ u → u < v + k → fbell (leafF b K k v F w) u = if fbell F u = nI b then nI (oth b (w / K ^ remB F b (v + k - (u + 1)) (u + 1) % K)) else fbell F u
  | 0, v, _, _, u, _, h1, h2 => by omega
  | k + 1, v, F, w, u, hw, h1, h2 => by
    rw [remB] at hw
    rw [leafF]
    by_cases q : fbell F v = nI b
    · have ei : isb F b v = 1 := if_pos q
      rw [ei, Nat.add_comm 1 (remB F b k (v + 1)), Nat.pow_succ, Nat.mul_comm] at hw
      have hpos : 0 < K ^ remB F b k (v + 1) := Nat.pos_of_ne_zero (fun z => by rw [z, Nat.mul_zero] at hw; omega)
      have hq : w / K ^ remB F b k (v + 1) < K := (Nat.div_lt_iff_lt_mul hpos).mpr hw
      rw [if_pos q]
      by_cases e : u = v
      · subst e
        rw [leaf_lo k (u + 1) _ _ u (by omega), if_pos q, show u + (k + 1) - (u + 1) = k by omega, Nat.mod_eq_of_lt hq]
        exact if_pos rfl
      · rw [leaf_at k (v + 1) _ _ u (by rw [rem_fsb k (v + 1) (by omega)]; exact Nat.mod_lt _ hpos) (by omega) (by omega)]
        have e1 : fbell (fsb F v (nI (oth b (w / K ^ remB F b k (v + 1))))) u = fbell F u := if_neg e
        rw [e1, show v + 1 + k - (u + 1) = v + (k + 1) - (u + 1) by omega, rem_fsb _ _ (by omega)]
        by_cases y : fbell F u = nI b
        · rw [if_pos y, if_pos y]
          have hr := rem_pos y k (v + 1) (by omega) (by omega)
          rw [show v + 1 + k - (u + 1) = v + (k + 1) - (u + 1) by omega] at hr
          rw [dig_mod hr]
        · rw [if_neg y, if_neg y]
    · have ei : isb F b v = 0 := if_neg q
      rw [ei, Nat.zero_add] at hw
      rw [if_neg q]
      by_cases e : u = v
      · subst e
        rw [leaf_lo k (u + 1) _ _ u (by omega), if_neg q]
      · rw [leaf_at k (v + 1) F w u hw (by omega) (by omega), show v + 1 + k - (u + 1) = v + (k + 1) - (u + 1) by omega]
theorem leaf_V {b K : Nat} : ∀ (k v : Nat) (F : zF) (w : Nat), (leafF b K k v F w).1 = F.1 ∧ fB (leafF b K k v F w) = fB F ∧ fV (leafF b K k v F w) = fV F ∧ ∀ u c day h, pu (leafF b K k v F w) u c day h = pu F u c day h
  | 0, _, _, _ => ⟨rfl, rfl, rfl, fun _ _ _ _ => rfl⟩
  | k + 1, v, F, w => by
    rw [leafF]
    split
    · obtain ⟨a1, a2, a3, a4⟩ := leaf_V (b := b) (K := K) k (v + 1) (fsb F v (nI (oth b (w / K ^ remB F b k (v + 1))))) (w % K ^ remB F b k (v + 1))
      exact ⟨a1, a2, a3, fun u c day h => (a4 u c day h).trans rfl⟩
    · exact leaf_V k (v + 1) F w
