/-! what a name may still sign: class and model; written by hand -/
/-- what counts at the place x of the first m slots of a paper -/
def tnS (sg wi : Nat → Bool) (atf : Nat → Nat) (sm x : Nat) : Nat → Nat
  | 0 => 0
  | k + 1 => if sg k = true ∧ wi k = true ∧ x = atf k then tnS sg wi atf sm x k + sm else tnS sg wi atf sm x k
theorem tnS_le {sg wi : Nat → Bool} {atf : Nat → Nat} {sm x : Nat} : ∀ m, tnS sg wi atf sm x m ≤ sm * m
  | 0 => Nat.zero_le _
  | m + 1 => by
    have ih := tnS_le (sg := sg) (wi := wi) (atf := atf) (sm := sm) (x := x) m
    have e : sm * (m + 1) = sm * m + sm := Nat.mul_succ sm m
    simp only [tnS]
    split <;> omega
theorem tkf_n {sg wi : Nat → Bool} {atf : Nat → Nat} {sm x : Nat} {row : Nat → Int32} : ∀ m, q_tkf sg atf wi (nI sm) row m x = row x - nI (tnS sg wi atf sm x m)
  | 0 => by
    show row x = row x - nI 0
    rw [nI_0, Int32.sub_zero]
  | m + 1 => by
    have ih := tkf_n (sg := sg) (wi := wi) (atf := atf) (sm := sm) (x := x) (row := row) m
    simp only [q_tkf, tnS]
    by_cases c1 : sg m = false
    · rw [if_pos c1, if_neg (fun w => by rw [c1] at w; cases w.1), ih]
    · rw [if_neg c1]
      by_cases c2 : wi m = false
      · rw [if_pos c2, if_neg (fun w => by rw [c2] at w; cases w.2.1), ih]
      · rw [if_neg c2]
        by_cases c3 : x = atf m
        · rw [if_pos c3, if_pos ⟨by simpa using c1, by simpa using c2, c3⟩, ih, Int32.sub_sub, nI_add]
        · rw [if_neg c3, if_neg (fun w => c3 w.2.2), ih]
/-- what counts at the place x of the first papers -/
def tnP (σ : kS) (mf : Nat → Nat) (atf : Nat → Nat → Nat) (td : Int32) (mo : Bool) (smf : Nat → Nat) (x : Nat) : Nat → Nat
  | 0 => 0
  | i + 1 => tnP σ mf atf td mo smf x i + tnS (fun k => q_sg (zI σ (98 + 6 * i + 3) k)) (fun k => q_wi (zI σ (98 + 6 * i + 5) k) td mo) (atf i) (smf i) x (mf i)
theorem tnP_le {σ : kS} {mf : Nat → Nat} {atf : Nat → Nat → Nat} {td : Int32} {mo : Bool} {smf : Nat → Nat} {x : Nat} : ∀ c, (∀ i, i < c → smf i ≤ 1000000 ∧ mf i ≤ 8) → tnP σ mf atf td mo smf x c ≤ 8000000 * c
  | 0, _ => Nat.zero_le _
  | c + 1, h => by
    have ih := tnP_le (σ := σ) (mf := mf) (atf := atf) (td := td) (mo := mo) (smf := smf) (x := x) c (fun i hi => h i (by omega))
    have a := tnS_le (sg := fun k => q_sg (zI σ (98 + 6 * c + 3) k)) (wi := fun k => q_wi (zI σ (98 + 6 * c + 5) k) td mo) (atf := atf c) (sm := smf c) (x := x) (mf c)
    have b : smf c * mf c ≤ 1000000 * 8 := Nat.mul_le_mul (h c (by omega)).1 (h c (by omega)).2
    simp only [tnP]
    omega
theorem lmD_n {σ : kS} {mf : Nat → Nat} {atf : Nat → Nat → Nat} {td : Int32} {mo : Bool} {smf : Nat → Nat} {x : Nat} {row : Nat → Int32} : ∀ c, (∀ i, i < c → zI σ (98 + 6 * i) 1 = nI (smf i)) → q_lmD σ mf atf td mo row c x = row x - nI (tnP σ mf atf td mo smf x c)
  | 0, _ => by
    show row x = row x - nI 0
    rw [nI_0, Int32.sub_zero]
  | c + 1, h => by
    have ih := lmD_n (σ := σ) (mf := mf) (atf := atf) (td := td) (mo := mo) (smf := smf) (x := x) (row := row) c (fun i hi => h i (by omega))
    simp only [q_lmD, tnP]
    rw [h c (by omega), tkf_n, ih, Int32.sub_sub, nI_add]
theorem tSm_n {hdf nmf rlf dyf : Nat → Int32} {sg wi : Nat → Bool} {atf : Nat → Nat} {sm p r : Nat} {dy : Int32} {mo : Bool} {z : Int64} (hp : p < 14) (hr : r < 8) : ∀ m, (∀ k, k < m → (hdf k < 0 ↔ sg k = false) ∧ (sg k = true → ∃ a b, a < 14 ∧ b < 8 ∧ nmf k = nI a ∧ rlf k = nI b ∧ atf k = 8 * a + b ∧ q_wi (dyf k) dy mo = wi k)) → q_tSm hdf nmf rlf dyf (lN sm) (nI p) (nI r) dy mo z m = z + lN (tnS sg wi atf sm (8 * p + r) m)
  | 0, _ => (Int64.add_zero z).symm
  | m + 1, h => by
    have ih := tSm_n (hdf := hdf) (nmf := nmf) (rlf := rlf) (dyf := dyf) (sg := sg) (wi := wi) (atf := atf) (sm := sm) (dy := dy) (mo := mo) (z := z) hp hr m (fun k hk => h k (by omega))
    obtain ⟨h1, h2⟩ := h m (by omega)
    simp only [q_tSm, tnS]
    rw [ih]
    by_cases c1 : hdf m < 0
    · rw [if_pos c1, if_neg (fun w => by rw [h1.mp c1] at w; cases w.1)]
    · have s1 : sg m = true := by
        cases e : sg m with
        | true => rfl
        | false => exact absurd (h1.mpr e) c1
      obtain ⟨a, b, ha, hb, e1, e2, e3, e4⟩ := h2 s1
      rw [if_neg c1, e1, e2, e4]
      by_cases c2 : nI a = nI p
      · have c2' := jeq c2
        rw [if_neg (fun w => w c2)]
        by_cases c3 : nI b = nI r
        · have c3' := jeq c3
          rw [if_neg (fun w => w c3)]
          by_cases c4 : wi m = false
          · rw [if_pos c4, if_neg (fun w => by rw [c4] at w; cases w.2.1)]
          · rw [if_neg c4, if_pos ⟨s1, by simpa using c4, by omega⟩, Int64.add_assoc, lN_add]
        · rw [if_pos c3, if_neg (fun w => c3 (by rw [show b = r by omega]))]
      · rw [if_pos c2, if_neg (fun w => c2 (by rw [show a = p by omega]))]
/-- a name in a role has signed so much: the model's sum -/
theorem totM_n {σ : kS} {mf : Nat → Nat} {atf : Nat → Nat → Nat} {smf : Nat → Nat} {p r : Nat} {dy : Int32} {mo : Bool} (hp : p < 14) (hr : r < 8) : ∀ c, (∀ i, i < c → (zI σ 78 i = nI (smf i) ∧ smf i ≤ 1000000) ∧ ∀ k, k < mf i → (zI σ 87 (8 * i + k) < 0 ↔ q_sg (zI σ (98 + 6 * i + 3) k) = false) ∧ (q_sg (zI σ (98 + 6 * i + 3) k) = true → ∃ a b, a < 14 ∧ b < 8 ∧ zI σ 88 (8 * i + k) = nI a ∧ zI σ 85 (8 * i + k) = nI b ∧ atf i k = 8 * a + b ∧ q_wi (zI σ 89 (8 * i + k)) dy mo = q_wi (zI σ (98 + 6 * i + 5) k) dy mo)) → q_totM σ mf (nI p) (nI r) dy mo c = lN (tnP σ mf atf dy mo smf (8 * p + r) c)
  | 0, _ => rfl
  | c + 1, h => by
    have ih := totM_n (σ := σ) (mf := mf) (atf := atf) (smf := smf) (dy := dy) (mo := mo) hp hr c (fun i hi => h i (by omega))
    obtain ⟨⟨h1, h2⟩, h3⟩ := h c (by omega)
    have e := tSm_n (hdf := fun k => zI σ 87 (8 * c + k)) (nmf := fun k => zI σ 88 (8 * c + k)) (rlf := fun k => zI σ 85 (8 * c + k)) (dyf := fun k => zI σ 89 (8 * c + k)) (sg := fun k => q_sg (zI σ (98 + 6 * c + 3) k)) (wi := fun k => q_wi (zI σ (98 + 6 * c + 5) k) dy mo) (atf := atf c) (sm := smf c) (dy := dy) (mo := mo) (z := q_totM σ mf (nI p) (nI r) dy mo c) hp hr (mf c) h3
    rw [← nI_l (by omega), ← h1] at e
    simp only [tnP]
    rw [← lN_add, ← ih]
    exact e
/-- the room as a whole number -/
def rmZ (dl ml : Int32) (tD tM : Nat) : Int := if dl = 1000000000 then (if ml = 1000000000 then 1000000 else if ml.toInt - tM < 1000000 then ml.toInt - tM else 1000000) else if ml = 1000000000 then dl.toInt - tD else if ml.toInt - tM < dl.toInt - tD then ml.toInt - tM else dl.toInt - tD
theorem odK_n9 {v : Int32} (h : odK v) : ¬ v = 1000000000 := by
  obtain ⟨n, hn, rfl⟩ := h
  exact fun w => by
    have := jeq (b := 1000000000) w
    omega
theorem min_I {x y : Int32} : (q_min x y).toInt = if y.toInt < x.toInt then y.toInt else x.toInt := by
  unfold q_min
  by_cases c : y < x
  · rw [if_pos c, if_pos (Int32.lt_iff_toInt_lt.mp c)]
  · rw [if_neg c, if_neg (fun w => c (Int32.lt_iff_toInt_lt.mpr w))]
theorem rmC_Z {dl ml : Int32} {tD tM : Nat} (hd : limK dl) (hm : limK ml) (h1 : tD ≤ 320000000) (h2 : tM ≤ 320000000) : (q_min (dl - nI tD) (ml - nI tM)).toInt = rmZ dl ml tD tM ∨ (1000000 ≤ (q_min (dl - nI tD) (ml - nI tM)).toInt ∧ 1000000 ≤ rmZ dl ml tD tM) := by
  have e9 : (1000000000 : Int32) = nI 1000000000 := rfl
  rw [min_I]
  unfold rmZ
  rcases hd with rfl | hd
  · rcases hm with rfl | hm
    · rw [if_pos rfl, if_pos rfl, e9, pk_sub_toInt (by omega) (by omega), pk_sub_toInt (by omega) (by omega)]
      refine Or.inr ⟨?_, by omega⟩
      split <;> omega
    · have n9 := odK_n9 hm
      obtain ⟨a, ha, rfl⟩ := hm
      rw [if_pos rfl, if_neg n9, e9, pk_sub_toInt (by omega) (by omega), pk_sub_toInt (by omega) (by omega), nI_toInt (by omega), if_pos (by omega)]
      split <;> omega
  · have n9 := odK_n9 hd
    obtain ⟨a, ha, rfl⟩ := hd
    rw [if_neg n9]
    rcases hm with rfl | hm
    · rw [if_pos rfl, e9, pk_sub_toInt (by omega) (by omega), pk_sub_toInt (by omega) (by omega), nI_toInt (by omega), if_neg (by omega)]
      exact Or.inl rfl
    · have m9 := odK_n9 hm
      obtain ⟨b, hb, rfl⟩ := hm
      rw [if_neg m9, pk_sub_toInt (by omega) (by omega), pk_sub_toInt (by omega) (by omega), nI_toInt (by omega), nI_toInt (by omega)]
      exact Or.inl rfl
theorem l_subI {a b : Nat} (ha : a < 1073741824) (hb : b < 1073741824) : ((nI a).toInt64 - lN b).toInt = (a : Int) - b := by
  rw [nI_l (by omega), Int64.toInt_sub, lN_toInt (by omega), lN_toInt (by omega)]
  exact Int.bmod_eq_of_le (by omega) (by omega)
theorem rm2_I {hl ml : Int32} {t r : Int64} : (q_rm2 hl ml t r).toInt = if hl = 0 then r.toInt else if ml < 0 then r.toInt else if (ml.toInt64 - t).toInt < r.toInt then (ml.toInt64 - t).toInt else r.toInt := by
  unfold q_rm2
  by_cases c1 : hl = 0
  · rw [if_pos c1, if_pos c1]
  · rw [if_neg c1, if_neg c1]
    by_cases c2 : ml < 0
    · rw [if_pos c2, if_pos c2]
    · rw [if_neg c2, if_neg c2]
      by_cases c3 : 0 ≤ lg_cmp (ml.toInt64 - t) r
      · have := Int64.le_iff_toInt_le.mp ((lg_cmp_ge _ _).mp c3)
        rw [if_pos c3, if_neg (by omega)]
      · have : ¬ r.toInt ≤ (ml.toInt64 - t).toInt := fun w => c3 ((lg_cmp_ge _ _).mpr (Int64.le_iff_toInt_le.mpr w))
        rw [if_neg c3, if_pos (by omega)]
theorem rmM_Z {dl ml hl d68 m69 : Int32} {tD tM : Nat} (hd : limK dl) (hm : limK ml) (h1 : tD ≤ 320000000) (h2 : tM ≤ 320000000) (hb : hl = kb (if ¬ dl = 1000000000 then true else if ml = 1000000000 then false else true)) (hv : (if ¬ dl = 1000000000 then true else if ml = 1000000000 then false else true) = true → d68 = mlm dl ∧ m69 = mlm ml) : (q_rm2 hl m69 (lN tM) (q_rm1 hl d68 (lN tD))).toInt = rmZ dl ml tD tM := by
  have n1 : (-1 : Int32) < 0 := by decide
  have k1 : ¬ (1 : Int32) = 0 := by decide
  have m1 : ((1000000 : Int64)).toInt = 1000000 := by decide
  rw [rm2_I]
  unfold rmZ q_rm1
  rcases hd with rfl | hd
  · rcases hm with rfl | hm
    · rw [if_neg (by simp), if_pos rfl, kb_f] at hb
      subst hb
      rw [if_pos rfl, if_pos rfl, if_pos rfl, if_pos rfl]
      exact m1
    · have n9 := odK_n9 hm
      rw [if_neg (by simp), if_neg n9] at hb hv
      obtain ⟨v1, v2⟩ := hv rfl
      have e1 : d68 = -1 := v1
      have e2 : m69 = ml := by rw [v2]; unfold mlm; rw [if_neg n9]
      rw [hb, kb_t, if_neg k1, if_neg k1, e1, if_pos n1, e2, m1, if_pos rfl, if_neg n9]
      obtain ⟨a, ha, rfl⟩ := hm
      rw [if_neg (nI_pos (by omega)), l_subI (by omega) (by omega), nI_toInt (by omega)]
  · have n9 := odK_n9 hd
    rw [if_pos n9] at hb hv
    obtain ⟨v1, v2⟩ := hv rfl
    have e1 : d68 = dl := by rw [v1]; unfold mlm; rw [if_neg n9]
    rw [hb, kb_t, if_neg k1, if_neg k1, if_neg n9, e1]
    obtain ⟨a, ha, rfl⟩ := hd
    rw [if_neg (nI_pos (by omega)), l_subI (by omega) (by omega), nI_toInt (by omega)]
    rcases hm with rfl | hm
    · have e2 : m69 = -1 := v2
      rw [e2, if_pos n1, if_pos rfl]
    · have m9 := odK_n9 hm
      have e2 : m69 = ml := by rw [v2]; unfold mlm; rw [if_neg m9]
      rw [e2, if_neg m9]
      obtain ⟨b, hb2, rfl⟩ := hm
      rw [if_neg (nI_pos (by omega)), l_subI (by omega) (by omega), nI_toInt (by omega)]
