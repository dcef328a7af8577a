/-! what the helpers say, and the tables' facts -/
section ZINV
variable {ls ls' : List (Option Value)} {st st' : List Value} {μ μ' : zMem} {o : Option Prop} {k : Nat}
theorem zldI_inv (h : zldI ls k st μ = some (o, ls', st', μ')) : ∃ x, zget ls k none = some (.int x) ∧ o = none ∧ ls' = ls ∧ st' = .int x :: st ∧ μ' = μ := by
  unfold zldI at h
  split at h
  · rename_i x hx
    cases h
    exact ⟨x, hx, rfl, rfl, rfl, rfl⟩
  · cases h
theorem zldL_inv (h : zldL ls k st μ = some (o, ls', st', μ')) : ∃ x, zget ls k none = some (.long x) ∧ o = none ∧ ls' = ls ∧ st' = .long x :: st ∧ μ' = μ := by
  unfold zldL at h
  split at h
  · rename_i x hx
    cases h
    exact ⟨x, hx, rfl, rfl, rfl, rfl⟩
  · cases h
theorem zldA_inv (h : zldA ls k st μ = some (o, ls', st', μ')) : ((∃ x, zget ls k none = some (.ref x) ∧ st' = .ref x :: st) ∨ (zget ls k none = some .null ∧ st' = .null :: st)) ∧ o = none ∧ ls' = ls ∧ μ' = μ := by
  unfold zldA at h
  split at h
  · rename_i x hx
    cases h
    exact ⟨Or.inl ⟨x, hx, rfl⟩, rfl, rfl, rfl⟩
  · rename_i hx
    cases h
    exact ⟨Or.inr ⟨hx, rfl⟩, rfl, rfl, rfl⟩
  · cases h
theorem zstI_inv (h : zstI ls k st μ = some (o, ls', st', μ')) : ∃ x, st = .int x :: st' ∧ zsto ls k (.int x) = some ls' ∧ o = none ∧ μ' = μ := by
  unfold zstI at h
  split at h
  · split at h
    · rename_i hl
      cases h
      exact ⟨_, rfl, hl, rfl, rfl⟩
    · cases h
  · cases h
theorem zstL_inv (h : zstL ls k st μ = some (o, ls', st', μ')) : ∃ x, st = .long x :: st' ∧ zstoL ls k (.long x) = some ls' ∧ o = none ∧ μ' = μ := by
  unfold zstL at h
  split at h
  · split at h
    · rename_i hl
      cases h
      exact ⟨_, rfl, hl, rfl, rfl⟩
    · cases h
  · cases h
theorem zstA_inv (h : zstA ls k st μ = some (o, ls', st', μ')) : ((∃ x, st = .ref x :: st' ∧ zsto ls k (.ref x) = some ls') ∨ (st = .null :: st' ∧ zsto ls k .null = some ls')) ∧ o = none ∧ μ' = μ := by
  unfold zstA at h
  split at h
  · split at h
    · rename_i hl
      cases h
      exact ⟨Or.inl ⟨_, rfl, hl⟩, rfl, rfl⟩
    · cases h
  · split at h
    · rename_i hl
      cases h
      exact ⟨Or.inr ⟨rfl, hl⟩, rfl, rfl⟩
    · cases h
  · cases h
theorem zinc_inv {v : Int32} (h : zinc ls k v st μ = some (o, ls', st', μ')) : ∃ x, zget ls k none = some (.int x) ∧ zsto ls k (.int (x + v)) = some ls' ∧ st' = st ∧ o = none ∧ μ' = μ := by
  unfold zinc at h
  split at h
  · rename_i x hx
    split at h
    · rename_i l hl
      cases h
      exact ⟨x, hx, hl, rfl, rfl, rfl⟩
    · cases h
  · cases h
theorem zbin_inv {f : Int32 → Int32 → Int32} (h : zbin f ls st μ = some (o, ls', st', μ')) : ∃ x y r, st = .int y :: .int x :: r ∧ o = none ∧ ls' = ls ∧ st' = .int (f x y) :: r ∧ μ' = μ := by
  unfold zbin at h
  split at h
  · cases h
    exact ⟨_, _, _, rfl, rfl, rfl, rfl, rfl⟩
  · cases h
theorem zdiv_inv {f : Int32 → Int32 → Int32} (h : zdiv f ls st μ = some (o, ls', st', μ')) : ∃ x y r, st = .int y :: .int x :: r ∧ o = some (¬ y = 0) ∧ ls' = ls ∧ st' = .int (f x y) :: r ∧ μ' = μ := by
  unfold zdiv at h
  split at h
  · cases h
    exact ⟨_, _, _, rfl, rfl, rfl, rfl, rfl⟩
  · cases h
theorem zbinL_inv {f : Int64 → Int64 → Int64} (h : zbinL f ls st μ = some (o, ls', st', μ')) : ∃ x y r, st = .long y :: .long x :: r ∧ o = none ∧ ls' = ls ∧ st' = .long (f x y) :: r ∧ μ' = μ := by
  unfold zbinL at h
  split at h
  · cases h
    exact ⟨_, _, _, rfl, rfl, rfl, rfl, rfl⟩
  · cases h
theorem zuni_inv {f : Int32 → Int32} (h : zuni f ls st μ = some (o, ls', st', μ')) : ∃ x r, st = .int x :: r ∧ o = none ∧ ls' = ls ∧ st' = .int (f x) :: r ∧ μ' = μ := by
  unfold zuni at h
  split at h
  · cases h
    exact ⟨_, _, rfl, rfl, rfl, rfl, rfl⟩
  · cases h
theorem zi2l_inv (h : zi2l ls st μ = some (o, ls', st', μ')) : ∃ x r, st = .int x :: r ∧ o = none ∧ ls' = ls ∧ st' = .long x.toInt64 :: r ∧ μ' = μ := by
  unfold zi2l at h
  split at h
  · cases h
    exact ⟨_, _, rfl, rfl, rfl, rfl, rfl⟩
  · cases h
theorem zl2i_inv (h : zl2i ls st μ = some (o, ls', st', μ')) : ∃ x r, st = .long x :: r ∧ o = none ∧ ls' = ls ∧ st' = .int x.toInt32 :: r ∧ μ' = μ := by
  unfold zl2i at h
  split at h
  · cases h
    exact ⟨_, _, rfl, rfl, rfl, rfl, rfl⟩
  · cases h
theorem zlshl_inv (h : zlshl ls st μ = some (o, ls', st', μ')) : ∃ x y r, st = .int y :: .long x :: r ∧ o = none ∧ ls' = ls ∧ st' = .long (x <<< (y.toInt64 &&& 63)) :: r ∧ μ' = μ := by
  unfold zlshl at h
  split at h
  · cases h
    exact ⟨_, _, _, rfl, rfl, rfl, rfl, rfl⟩
  · cases h
theorem zlcmp_inv (h : zlcmp ls st μ = some (o, ls', st', μ')) : ∃ x y r, st = .long y :: .long x :: r ∧ o = none ∧ ls' = ls ∧ st' = .int (lg_cmp x y) :: r ∧ μ' = μ := by
  unfold zlcmp at h
  split at h
  · cases h
    exact ⟨_, _, _, rfl, rfl, rfl, rfl, rfl⟩
  · cases h
theorem zdup_inv (h : zdup ls st μ = some (o, ls', st', μ')) : ∃ a r, zc1 a = true ∧ st = a :: r ∧ o = none ∧ ls' = ls ∧ st' = a :: a :: r ∧ μ' = μ := by
  unfold zdup at h
  split at h
  · split at h
    · rename_i hc
      cases h
      exact ⟨_, _, hc, rfl, rfl, rfl, rfl, rfl⟩
    · cases h
  · cases h
theorem zpop_inv (h : zpop ls st μ = some (o, ls', st', μ')) : ∃ a, zc1 a = true ∧ st = a :: st' ∧ o = none ∧ ls' = ls ∧ μ' = μ := by
  unfold zpop at h
  split at h
  · split at h
    · rename_i hc
      cases h
      exact ⟨_, hc, rfl, rfl, rfl, rfl⟩
    · cases h
  · cases h
theorem zdupx1_inv (h : zdupx1 ls st μ = some (o, ls', st', μ')) : ∃ a b r, (zc1 a = true ∧ zc1 b = true) ∧ st = a :: b :: r ∧ o = none ∧ ls' = ls ∧ st' = a :: b :: a :: r ∧ μ' = μ := by
  unfold zdupx1 at h
  split at h
  · split at h
    · rename_i hc
      cases h
      exact ⟨_, _, _, by simpa using hc, rfl, rfl, rfl, rfl, rfl⟩
    · cases h
  · cases h
theorem zdup2_inv (h : zdup2 ls st μ = some (o, ls', st', μ')) : ∃ a b r, (zc1 a = true ∧ zc1 b = true) ∧ st = a :: b :: r ∧ o = none ∧ ls' = ls ∧ st' = a :: b :: a :: b :: r ∧ μ' = μ := by
  unfold zdup2 at h
  split at h
  · split at h
    · rename_i hc
      cases h
      exact ⟨_, _, _, by simpa using hc, rfl, rfl, rfl, rfl, rfl⟩
    · cases h
  · cases h
theorem zgetf_inv {g : zG} {ci : Nat} (h : zgetf ci k ls st μ = some (o, ls', st', μ')) : ∃ (c : Nat) (v : Value) (r : List Value), st = .ref c :: r ∧ zkd c = .inl ci ∧ ztr g v = zfv g μ c ci k ∧ o = none ∧ ls' = ls ∧ st' = v :: r ∧ μ' = μ := by
  unfold zgetf at h
  split at h
  · rename_i c r
    split at h
    · rename_i ci' hk
      split at h
      · rename_i hb
        have e : ci' = ci := Nat.eq_of_beq_eq_true hb
        subst e
        split at h
        · rename_i hf
          cases h
          exact ⟨c, _, r, rfl, hk, by unfold zfv; rw [hf]; rfl, rfl, rfl, rfl, rfl⟩
        · rename_i hf
          cases h
          exact ⟨c, _, r, rfl, hk, by unfold zfv; rw [hf]; rfl, rfl, rfl, rfl, rfl⟩
        · rename_i hf
          split at h
          · rename_i t ht
            cases h
            exact ⟨c, _, r, rfl, hk, by unfold zfv; rw [hf, ht]; rfl, rfl, rfl, rfl, rfl⟩
          · cases h
        · rename_i hf
          split at h
          · cases h
          · rename_i t ht
            cases h
            exact ⟨c, _, r, rfl, hk, by unfold zfv; rw [hf, ht]; rfl, rfl, rfl, rfl, rfl⟩
        · cases h
      · cases h
    · cases h
  · cases h
theorem zputf_inv {ci : Nat} (h : zputf ci k ls st μ = some (o, ls', st', μ')) :
    (∃ (c : Nat) (x : Int32), st = .int x :: .ref c :: st' ∧ zkd c = .inl ci ∧ ((zfk ci k = 0 ∧ o = none) ∨ (zfk ci k = 1 ∧ o = some (x = 0 ∨ x = 1))) ∧ ls' = ls ∧ μ' = (zu μ.1 c k x, μ.2)) ∨
    (∃ (c q i : Nat), st = .ref q :: .ref c :: st' ∧ zkd c = .inl ci ∧ zfk ci k = 3 ∧ zrf c k = .inr i ∧ o = none ∧ ls' = ls ∧ μ' = (μ.1, μ.2.1, zuR μ.2.2 i q)) := by
  unfold zputf at h
  split at h
  · rename_i x c r
    split at h
    · rename_i ci' hk
      split at h
      · rename_i hb
        have e : ci' = ci := Nat.eq_of_beq_eq_true hb
        subst e
        split at h
        · rename_i hf
          cases h
          exact Or.inl ⟨c, x, rfl, hk, Or.inl ⟨hf, rfl⟩, rfl, rfl⟩
        · rename_i hf
          cases h
          exact Or.inl ⟨c, x, rfl, hk, Or.inr ⟨hf, rfl⟩, rfl, rfl⟩
        · cases h
      · cases h
    · cases h
  · rename_i q c r
    split at h
    · rename_i ci' hk
      split at h
      · rename_i hb
        have e : ci' = ci := Nat.eq_of_beq_eq_true hb
        subst e
        split at h
        · rename_i hf
          split at h
          · cases h
          · rename_i i hi
            cases h
            exact Or.inr ⟨c, q, i, rfl, hk, hf, hi, rfl, rfl, rfl⟩
        · cases h
      · cases h
    · cases h
  · cases h
theorem zald_inv {g : zG} (h : zald g ls st μ = some (o, ls', st', μ')) : ∃ (c : Nat) (i : Int32) (n : Nat) (f : Nat → Int32) (r : List Value), st = .int i :: .ref c :: r ∧ ((zkd c = .inr (0, n) ∧ f = μ.1 c) ∨ zrow g c = some (n, f)) ∧ o = some (vp_in i n) ∧ ls' = ls ∧ st' = .int (f i.toNatClampNeg) :: r ∧ μ' = μ := by
  unfold zald at h
  split at h
  · rename_i i c r
    split at h
    · rename_i n hk
      cases h
      exact ⟨c, i, n, _, r, rfl, Or.inl ⟨hk, rfl⟩, rfl, rfl, rfl, rfl⟩
    · cases h
    · split at h
      · rename_i q hq
        cases h
        exact ⟨c, i, q.1, q.2, r, rfl, Or.inr hq, rfl, rfl, rfl, rfl⟩
      · cases h
  · cases h
theorem zaldT_inv {t : Nat} (h : zaldT t ls st μ = some (o, ls', st', μ')) : ∃ (c : Nat) (i : Int32) (n : Nat) (r : List Value), st = .int i :: .ref c :: r ∧ zkd c = .inr (t, n) ∧ o = some (vp_in i n) ∧ ls' = ls ∧ ((t = 1 ∧ st' = .long (μ.2.1 c i.toNatClampNeg) :: r) ∨ (t = 2 ∧ st' = .int (μ.1 c i.toNatClampNeg) :: r) ∨ (t = 3 ∧ st' = .ref (13 + i.toNatClampNeg) :: r)) ∧ μ' = μ := by
  unfold zaldT at h
  split at h
  · rename_i i c r
    split at h
    · rename_i t' n hk
      split at h
      · rename_i hb
        have e : t' = t := Nat.eq_of_beq_eq_true hb
        subst e
        split at h
        · cases h
          exact ⟨c, i, n, r, rfl, hk, rfl, rfl, Or.inl ⟨rfl, rfl⟩, rfl⟩
        · cases h
          exact ⟨c, i, n, r, rfl, hk, rfl, rfl, Or.inr (Or.inl ⟨rfl, rfl⟩), rfl⟩
        · cases h
          exact ⟨c, i, n, r, rfl, hk, rfl, rfl, Or.inr (Or.inr ⟨rfl, rfl⟩), rfl⟩
        · cases h
      · cases h
    · cases h
  · cases h
theorem zast_inv {t : Nat} (h : zast t ls st μ = some (o, ls', st', μ')) : ∃ (c : Nat) (i x : Int32) (n : Nat), st = .int x :: .int i :: .ref c :: st' ∧ zkd c = .inr (t, n) ∧ ((t = 0 ∧ o = some (vp_in i n)) ∨ (t = 2 ∧ o = some (vp_in i n ∧ (x = 0 ∨ x = 1)))) ∧ ls' = ls ∧ μ' = (zu μ.1 c i.toNatClampNeg x, μ.2) := by
  unfold zast at h
  split at h
  · rename_i x i c r
    split at h
    · rename_i t' n hk
      split at h
      · rename_i hb
        have e : t' = t := Nat.eq_of_beq_eq_true hb
        subst e
        split at h
        · cases h
          exact ⟨c, i, x, n, rfl, hk, Or.inl ⟨rfl, rfl⟩, rfl, rfl⟩
        · cases h
          exact ⟨c, i, x, n, rfl, hk, Or.inr ⟨rfl, rfl⟩, rfl, rfl⟩
        · cases h
      · cases h
    · cases h
  · cases h
theorem zastL_inv (h : zastL ls st μ = some (o, ls', st', μ')) : ∃ (c : Nat) (i : Int32) (x : Int64) (n : Nat), st = .long x :: .int i :: .ref c :: st' ∧ zkd c = .inr (1, n) ∧ o = some (vp_in i n) ∧ ls' = ls ∧ μ' = (μ.1, zuL μ.2.1 c i.toNatClampNeg x, μ.2.2) := by
  unfold zastL at h
  split at h
  · rename_i x i c r
    split at h
    · rename_i n hk
      cases h
      exact ⟨c, i, x, n, rfl, hk, rfl, rfl, rfl⟩
    · cases h
  · cases h
theorem zlen1_inv {g : zG} (h : zlen1 g ls st μ = some (o, ls', st', μ')) : ∃ (c n : Nat) (r : List Value), st = .ref c :: r ∧ ((∃ t, zkd c = .inr (t, n)) ∨ ∃ f, zrow g c = some (n, f)) ∧ o = none ∧ ls' = ls ∧ st' = .int (Int32.ofNat n) :: r ∧ μ' = μ := by
  unfold zlen1 at h
  split at h
  · rename_i c r
    split at h
    · rename_i t n hk
      cases h
      exact ⟨c, n, r, rfl, Or.inl ⟨t, hk⟩, rfl, rfl, rfl, rfl⟩
    · split at h
      · rename_i q hq
        cases h
        exact ⟨c, q.1, r, rfl, Or.inr ⟨q.2, hq⟩, rfl, rfl, rfl, rfl⟩
      · cases h
  · cases h
end ZINV
theorem zkd_lt {c ci : Nat} (h : zkd c = .inl ci) (hc : ci < 12) : c < zN := by
  rcases Nat.lt_or_ge c zN with q | q
  · exact q
  · unfold zkd at h
    rw [zget_at, List.getElem?_eq_none (Nat.le_trans (by decide +kernel) q)] at h
    have e : (Sum.inl 99 : Nat ⊕ (Nat × Nat)) = .inl ci := h
    cases e
    exact absurd hc (by decide)
theorem zkd_ltA {c t n : Nat} (h : zkd c = .inr (t, n)) : c < zN := by
  rcases Nat.lt_or_ge c zN with q | q
  · exact q
  · unfold zkd at h
    rw [zget_at, List.getElem?_eq_none (Nat.le_trans (by decide +kernel) q)] at h
    have e : (Sum.inl 99 : Nat ⊕ (Nat × Nat)) = .inr (t, n) := h
    cases e
theorem zvw_lt {ci : Nat} {r : vw_C} (h : vwCl[ci]? = some r) : ci < 12 := (List.getElem?_eq_some_iff.mp h).1
theorem zvw_N {ci : Nat} {r : vw_C} (h : vwCl[ci]? = some r) : r.2.2 = zNF ci := by
  have hl := zvw_lt h
  match ci, hl, h with
  | 0, _, h => cases h; rfl
  | 1, _, h => cases h; rfl
  | 2, _, h => cases h; rfl
  | 3, _, h => cases h; rfl
  | 4, _, h => cases h; rfl
  | 5, _, h => cases h; rfl
  | 6, _, h => cases h; rfl
  | 7, _, h => cases h; rfl
  | 8, _, h => cases h; rfl
  | 9, _, h => cases h; rfl
  | 10, _, h => cases h; rfl
  | 11, _, h => cases h; rfl
theorem zvw_ty {ci : Nat} {r : vw_C} (h : vwCl[ci]? = some r) : (∃ ty0 : Nat → FieldType, ∀ k, k < r.2.2 → parseFieldDescriptor (r.2.1 k).2.2.1 = some (ty0 k)) ∧ ∀ a, a < r.2.2 → ∀ b, b < r.2.2 → a ≠ b → (r.2.1 a).2.1 ≠ (r.2.1 b).2.1 := by
  have hl := zvw_lt h
  match ci, hl, h with
  | 0, _, h => cases h; exact ⟨⟨tyX0, tyX0_ok⟩, nmX0⟩
  | 1, _, h => cases h; exact ⟨⟨tyX1, tyX1_ok⟩, nmX1⟩
  | 2, _, h => cases h; exact ⟨⟨tyX2, tyX2_ok⟩, nmX2⟩
  | 3, _, h => cases h; exact ⟨⟨tyX3, tyX3_ok⟩, nmX3⟩
  | 4, _, h => cases h; exact ⟨⟨tyX4, tyX4_ok⟩, nmX4⟩
  | 5, _, h => cases h; exact ⟨⟨tyX5, tyX5_ok⟩, nmX5⟩
  | 6, _, h => cases h; exact ⟨⟨tyX6, tyX6_ok⟩, nmX6⟩
  | 7, _, h => cases h; exact ⟨⟨tyX7, tyX7_ok⟩, nmX7⟩
  | 8, _, h => cases h; exact ⟨⟨tyX8, tyX8_ok⟩, nmX8⟩
  | 9, _, h => cases h; exact ⟨⟨tyX9, tyX9_ok⟩, nmX9⟩
  | 10, _, h => cases h; exact ⟨⟨tyX10, tyX10_ok⟩, nmX10⟩
  | 11, _, h => cases h; exact ⟨⟨tyX11, tyX11_ok⟩, nmX11⟩
def zfkb (ci k : Nat) : Bool := match vwCl[ci]? with
  | some r => (match zfk ci k with
    | 0 => decide (parseFieldDescriptor (r.2.1 k).2.2.1 = some .int) && !(r.2.1 k).2.2.2
    | 1 => decide (parseFieldDescriptor (r.2.1 k).2.2.1 = some .boolean) && !(r.2.1 k).2.2.2
    | 3 => decide (parseFieldDescriptor (r.2.1 k).2.2.1 = some (.object "CastWithVows$Program")) && !(r.2.1 k).2.2.2
    | _ => true)
  | none => true
theorem zfk_all : (List.range 12).all (fun ci => (List.range (zNF ci)).all (fun k => zfkb ci k)) = true := by decide +kernel
theorem zfk_ok {ci k : Nat} {r : vw_C} (h : vwCl[ci]? = some r) (hk : k < zNF ci) : (zfk ci k = 0 → parseFieldDescriptor (r.2.1 k).2.2.1 = some .int ∧ (r.2.1 k).2.2.2 = false) ∧ (zfk ci k = 1 → parseFieldDescriptor (r.2.1 k).2.2.1 = some .boolean ∧ (r.2.1 k).2.2.2 = false) ∧ (zfk ci k = 3 → parseFieldDescriptor (r.2.1 k).2.2.1 = some (.object "CastWithVows$Program") ∧ (r.2.1 k).2.2.2 = false) := by
  have h1 := List.all_eq_true.mp (List.all_eq_true.mp zfk_all ci (List.mem_range.mpr (zvw_lt h))) k (List.mem_range.mpr hk)
  simp only [zfkb, h] at h1
  refine ⟨fun e => ?_, fun e => ?_, fun e => ?_⟩ <;> rw [e] at h1 <;> simpa using h1
theorem zlay_ok : (List.range 12).all (fun ci => (List.range (zNF ci)).all (fun k => zLY.any (fun t => t.1 == ci && t.2.1 == k))) = true := by decide +kernel
theorem zlay_in {ci : Nat} {r : vw_C} (h : vwCl[ci]? = some r) : ∀ w ∈ u_ws r.1 r.2.1 r.2.2, w ∈ ztbl := by
  intro w hw
  obtain ⟨k, hk, rfl⟩ := List.mem_map.mp hw
  have hk := List.mem_range.mp hk
  rw [zvw_N h] at hk
  have h1 := List.all_eq_true.mp (List.all_eq_true.mp zlay_ok ci (List.mem_range.mpr (zvw_lt h))) k (List.mem_range.mpr hk)
  obtain ⟨t, ht, he⟩ := List.any_eq_true.mp h1
  simp only [Bool.and_eq_true, beq_iff_eq] at he
  have h2 := List.all_eq_true.mp zLY_ok t ht
  unfold zLYb at h2
  rw [he.1, h, he.2] at h2
  simp only [Bool.and_eq_true, decide_eq_true_eq] at h2
  exact zt_in h2.2 (by unfold u_lay; split <;> rfl)
theorem zfl_ok {o i ci k : Nat} (h : zFT.any (fun t => t.1 == o && t.2.1 == i && t.2.2.1 == ci && t.2.2.2.1 == k) = true) : ∃ r : vw_C, vwCl[ci]? = some r ∧ k < r.2.2 ∧ Cond.fieldLink (zR o) i (r.2.1 k).1 (r.2.1 k).2.1 (r.2.1 k).2.2.1 ∈ ztbl := by
  obtain ⟨t, ht, he⟩ := List.any_eq_true.mp h
  simp only [Bool.and_eq_true, beq_iff_eq] at he
  obtain ⟨⟨⟨e1, e2⟩, e3⟩, e4⟩ := he
  have h2 := List.all_eq_true.mp zFT_ok t ht
  unfold zFTb at h2
  rw [e3, e4, e1, e2] at h2
  cases hr : vwCl[ci]? with
  | none => rw [hr] at h2; cases h2
  | some r =>
    rw [hr] at h2
    simp only [Bool.and_eq_true, decide_eq_true_eq] at h2
    exact ⟨r, rfl, h2.1, zt_in h2.2 rfl⟩
theorem zct_ok {o i : Nat} {v : Int32} (h : zCT.any (fun t => t.1 == o && t.2.1 == i && t.2.2.1 == v) = true) : Cond.constant (zR o) i v ∈ ztbl := by
  obtain ⟨t, ht, he⟩ := List.any_eq_true.mp h
  simp only [Bool.and_eq_true, beq_iff_eq] at he
  obtain ⟨⟨e1, e2⟩, e3⟩ := he
  have h2 := List.all_eq_true.mp zCT_ok t ht
  unfold zCTb at h2
  rw [e1, e2, e3] at h2
  exact zt_in (of_decide_eq_true h2) rfl
theorem zclt_ok {o i : Nat} {v : Int64} (h : zCLT.any (fun t => t.1 == o && t.2.1 == i && t.2.2.1 == v) = true) : Cond.constantLong (zR o) i v ∈ ztbl := by
  obtain ⟨t, ht, he⟩ := List.any_eq_true.mp h
  simp only [Bool.and_eq_true, beq_iff_eq] at he
  obtain ⟨⟨e1, e2⟩, e3⟩ := he
  have h2 := List.all_eq_true.mp zCLT_ok t ht
  unfold zCLTb at h2
  rw [e1, e2, e3] at h2
  exact zt_in (of_decide_eq_true h2) rfl
