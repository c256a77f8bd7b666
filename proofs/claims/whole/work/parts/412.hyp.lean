/-! what the contracts want, out of the invariant; written by hand -/
abbrev aF (σ : kS) (i k : Nat) : Nat := 8 * cN σ (98 + 6 * i + 4) k + cN σ (98 + 6 * i + 1) k
abbrev smF (σ : kS) (i : Nat) : Nat := cN σ (98 + 6 * i) 1
theorem h_mPe {σ : kS} {n s m : Nat} (h : iPe σ n s m) : mPe σ n s m (cN σ 6) (cN σ 7) := by
  obtain ⟨h1, h2, h3, h4, h5, h6, h7⟩ := h
  refine ⟨⟨h1.1, h1.2.2⟩, ⟨h2.1, h2.2.2⟩, ⟨h3.1, h3.2.2⟩, fun k hk => ?_⟩
  obtain ⟨⟨a1, a2, a3⟩, b1, b2, _⟩ := h6 k hk
  have hn := h1.1
  exact ⟨(isN_c a1).1, (isN_c a2).1, b1.trans (isN_c a1).2, b2.trans (isN_c a2).2⟩
theorem h_kMs {σ : kS} {n c : Nat} (h : iPp σ n c) : kMs σ (cN σ 83) := fun i hi => by
  have := isN_c (h.2.1 i hi)
  exact ⟨by have := this.1; unfold cN; omega, this.2⟩
theorem h_kMp {σ : kS} {n c : Nat} (h : iPp σ n c) : kMp σ c := ⟨h.1.2.1.1, h.1.2.2⟩
theorem h_kSl {σ : kS} {n c : Nat} (h : iPp σ n c) : kSl σ c (cN σ 83) := fun i hi => by
  have hc := h.1.2.1.1
  have a := h_kMs h i (by omega)
  exact ⟨a.1, by rw [← (h.2.2 i hi).1.2.2.2.2.2.2.2.2]; exact a.2⟩
theorem h_m8 {σ : kS} {n c i : Nat} (h : iPp σ n c) (hi : i < 41) : cN σ 83 i ≤ 8 := (h_kMs h i hi).1
theorem sg_T {x : Int32} (h : q_sg x = true) : ¬ x = -1 := fun w => by rw [w] at h; cases h
theorem sg_F {x : Int32} (h : q_sg x = false) : x = -1 := by
  unfold q_sg at h
  split at h
  · next c => exact c
  · cases h
theorem isN_p {v : Int32} {B : Nat} (h : isN v B) (hB : B ≤ 2147483648 := by omega) : ¬ v < 0 ∧ ¬ v = -1 := by
  obtain ⟨j, hj, rfl⟩ := h
  have a := nI_pos (n := j) (by omega)
  exact ⟨a, fun w => a (by rw [w]; decide)⟩
/-- a signed slot -/
theorem iS1_T {σ : kS} {n i k : Nat} (h : iS1 σ n i k) (hs : q_sg (zI σ (98 + 6 * i + 3) k) = true) : isN (zI σ (98 + 6 * i + 3) k) n ∧ isN (zI σ (98 + 6 * i + 4) k) n ∧ zI σ 89 (8 * i + k) = zI σ (98 + 6 * i + 5) k := by
  rcases h.2.2 with w | w
  · exact absurd w.1 (sg_T hs)
  · exact w
theorem iS1_H {σ : kS} {n i k : Nat} (h : iS1 σ n i k) : isH n (zI σ 87 (8 * i + k)) := by
  rw [h.1.2.2.1]
  rcases h.2.2 with w | w
  · exact Or.inl w.1
  · exact Or.inr w.1
theorem iS1_sg {σ : kS} {n i k : Nat} (hn : n ≤ 14) (h : iS1 σ n i k) : q_sgm (zI σ 87 (8 * i + k)) = q_sg (zI σ (98 + 6 * i + 3) k) := by rw [sg_eq hn (iS1_H h), h.1.2.2.1]
theorem h_kAt {σ : kS} {n c : Nat} (hn : n ≤ 14) (h : iPp σ n c) : ∀ i, i < c → kAt σ (98 + 6 * i) (cN σ 83 i) (aF σ i) := fun i hi k hk hs => by
  have w := (h.2.2 i hi).2.2.2 k hk
  have t := iS1_T w hs
  have a := isN_c t.2.1
  have b := isN_c w.2.1
  have e : zI σ (98 + 6 * i + 4) k * 8 + zI σ (98 + 6 * i + 1) k = nI (8 * (zI σ (98 + 6 * i + 4) k).toNatClampNeg + (zI σ (98 + 6 * i + 1) k).toNatClampNeg) := by rw [← k8b, ← a.2, ← b.2]
  refine ⟨e, ?_⟩
  have h1 := a.1
  have h2 := b.1
  show 8 * (zI σ (98 + 6 * i + 4) k).toNatClampNeg + (zI σ (98 + 6 * i + 1) k).toNatClampNeg < 112
  omega
theorem h_cHy {σ : kS} {n s m c b b2 bk : Nat} {C : kB} (hO : kOK σ) (h1 : iPe σ n s m) (h2 : iPp σ n c) (h3 : iBk σ b b2 bk C) : cHy σ n s m c b (cN σ 83) (aF σ) := ⟨hO, ⟨h1.1.1, h1.1.2.1⟩, ⟨h1.2.1.1, h1.2.1.2.1⟩, ⟨h1.2.2.1.1, h1.2.2.1.2.1⟩, ⟨h2.1.2.1, h_kSl h2, h_kAt h1.1.1 h2⟩, h3.2.1.1, h3.2.2.2.1.1⟩
/-- roles of slots -/
theorem h_rlM {σ : kS} {n c i k : Nat} (h : iPp σ n c) (hi : i < c) (hk : k < cN σ 83 i) : cN σ 85 (8 * i + k) < 8 ∧ zI σ 85 (8 * i + k) = nI (cN σ 85 (8 * i + k)) := by
  have w := (h.2.2 i hi).2.2.2 k hk
  have a := isN_c w.2.1
  rw [← w.1.1] at a
  exact a
theorem h_rlC {σ : kS} {n c i k : Nat} (h : iPp σ n c) (hi : i < c) (hk : k < cN σ 83 i) : cN σ 85 (8 * i + k) < 8 ∧ zI σ (98 + 6 * i + 1) k = nI (cN σ 85 (8 * i + k)) := by
  have a := h_rlM h hi hk
  exact ⟨a.1, by rw [← ((h.2.2 i hi).2.2.2 k hk).1.1]; exact a.2⟩
theorem h_kBr {σ : kS} {b b2 bk : Nat} {C : kB} (h : iBk σ b b2 bk C) : kBr σ b (b_nr C) (b_fo C) (b_eo C) (b_so C) := by
  obtain ⟨_, _, _, hc, _, _, hg⟩ := h
  obtain ⟨_, ⟨c1, c2, c3, c4, c5, c6⟩, ⟨d1, _⟩, _⟩ := hc
  refine ⟨c1, c2, fun i hi => ?_⟩
  have g := hg.1 i hi
  have w := c4 i hi
  exact ⟨⟨g.1.1, by have := g.1.2.1; omega, w.1, w.2.1⟩, w.2.2.2, w.2.2.1⟩
/-- a rule holds on both sides alike -/
theorem h_hol {σ : kS} {b b2 bk : Nat} {C : kB} (h : iBk σ b b2 bk C) {i : Nat} (hi : i < b_nr C) {joined place : Int32} {J : Int64} {urg : Bool} (hJ : J = joined.toInt64) : q_holσ σ b (b_fo C) (b_eo C) joined place urg i = q_mhσ σ bk (b_fo C) (b_eo C) J place urg i ∧ kWf (zI σ 70) (1000 * bk + b_fo C i) (b_eo C i - b_fo C i) := by
  obtain ⟨_, _, _, hc, _, hm, hg⟩ := h
  have g := hg.1 i hi
  have e7 : zI σ (b + 7) = b_op C := hc.2.2.1.2.2.1
  have e8 : zI σ (b + 8) = b_od C := hc.2.2.1.2.2.2
  have k := hol_eq (op := b_op C) (od := b_od C) (ops := zI σ 70) (num := zI σ 71) (joined := joined) (place := place) (urg := urg) (F := 1000 * bk + b_fo C i) hJ g.1.2.2 (fun k hk => by
    have := g.1.1
    have := g.1.2.1
    have w := hm.2.2.1 (b_fo C i + k) (by omega)
    rw [show 1000 * bk + b_fo C i + k = 1000 * bk + (b_fo C i + k) by omega]
    exact w)
  refine ⟨?_, k.2⟩
  show q_hol (zI σ (b + 7)) (zI σ (b + 8)) (b_fo C i) (b_eo C i) joined place urg = _
  rw [e7, e8]
  exact k.1
theorem h_kMr {σ : kS} {b b2 bk : Nat} {C : kB} (h : iBk σ b b2 bk C) : kMr σ bk (b_nr C) (b_fo C) (b_eo C) (b_so C) := by
  have hh := h
  obtain ⟨_, _, _, hc, hk, hm, hg⟩ := h
  refine ⟨hc.2.1.1, hk.1, hk.2, hm.1, fun i hi => ?_⟩
  have g := hg.1 i hi
  have w := (hm.2.1 i hi).1
  have := hc.2.2.1.1
  exact ⟨⟨g.1.1, by have := g.1.2.1; omega, w.2.1, w.2.2.1⟩, ⟨g.2.1.1, g.2.1.2, w.2.2.2⟩, (h_hol hh hi (joined := 0) (place := 0) (urg := false) rfl).2⟩
theorem rfo_cg {kn kn2 : Nat → Int32} {kind : Int32} {hol hol2 : Nat → Bool} : ∀ m k, (∀ j, k ≤ j → j < k + m → kn j = kn2 j ∧ hol j = hol2 j) → q_rfo kn kind hol k m = q_rfo kn2 kind hol2 k m
  | 0, _, _ => rfl
  | m + 1, k, h => by
    simp only [q_rfo]
    rw [rfo_cg m (k + 1) (fun j h1 h2 => h j (by omega) (by omega)), (h k (by omega) (by omega)).1, (h k (by omega) (by omega)).2]
/-- both sides choose the same rule -/
theorem h_rule {σ : kS} {b b2 bk : Nat} {C : kB} (h : iBk σ b b2 bk C) {kind joined place : Int32} {J : Int64} {urg : Bool} (hJ : J = joined.toInt64) : q_rfM σ bk (b_fo C) (b_eo C) kind J place urg 0 (b_nr C) = q_rfo (zI σ (b + 1)) kind (q_holσ σ b (b_fo C) (b_eo C) joined place urg) 0 (b_nr C) := by
  have e1 : zI σ (b + 1) = b_kd C := h.2.2.2.1.2.1.2.2.1
  refine rfo_cg _ _ (fun j _ hj => ⟨?_, ((h_hol h (by omega) hJ).1).symm⟩)
  rw [e1]
  exact (h.2.2.2.2.2.1.2.1 j (by omega)).1.1
abbrev rrF (C : kB) (r k : Nat) : Nat := (b_rl C (8 * r + k)).toNatClampNeg
theorem h_rr {σ : kS} {b b2 bk : Nat} {C : kB} (h : iBk σ b b2 bk C) : ∀ r k, r < b_nr C → k < b_so C r → rrF C r k < 8 ∧ zI σ (b + 5) (8 * r + k) = nI (rrF C r k) := fun r k hr hk => by
  have e5 : zI σ (b + 5) = b_rl C := h.2.2.2.1.2.1.2.2.2.2.1
  have g := (h.2.2.2.2.2.2.1 r hr).2.2 k hk
  have a : isN (b_rl C (8 * r + k)) 8 := g
  rw [e5]
  exact isN_c a
/-- who acts, as the class reckons it -/
theorem acts_R {σ : kS} {n s m p : Nat} {sum day : Int32} (h : iPe σ n s m) (hp : p < n) : actR (aEM σ s m (cN σ 6) (cN σ 7) sum day) (awM σ day s) p (q_acts (fun x => q_depσ σ x sum day m) (q_away (zI σ 3) (zI σ 4) (zI σ 5) day s) (nI p)) := by
  obtain ⟨h1, h2, h3, h4, h5, h6, h7⟩ := h
  have hn := h1.1
  have hdp := deps_R (ofs := zI σ 6) (bys := zI σ 7) (upt := zI σ 10) (en := zI σ 11) (fr := zI σ 8) (tt := zI σ 9) (sum := sum) (day := day) (ofn := cN σ 6) (byn := cN σ 7) (dk := dkM σ sum day) m (fun k hk => by
    obtain ⟨⟨a1, a2, a3⟩, b1, b2, b3, b4, b5, b6⟩ := h6 k hk
    have c1 := isN_c a1
    have c2 := isN_c a2
    have d1 : cN σ 6 k < n := c1.1
    have d2 : cN σ 7 k < n := c2.1
    refine ⟨by omega, by omega, c1.2, c2.2, ?_⟩
    unfold dkM q_stands
    rw [b3, b4, b5, b6]
    by_cases e1 : zI σ 11 k = 0
    · by_cases e2 : day < zI σ 8 k
      · simp [e1, e2]
      · by_cases e3 : zI σ 9 k < day
        · simp [e1, e2, e3]
        · by_cases e4 : zI σ 10 k < sum
          · have e5 : ¬ sum ≤ zI σ 10 k := Int32.not_le.mpr e4
            simp [e1, e2, e3, e4, e5]
          · have e5 : sum ≤ zI σ 10 k := Int32.not_lt.mp e4
            simp [e1, e2, e3, e4, e5]
    · simp [e1])
  have aw := away_lb (who := zI σ 3) (fr := zI σ 4) (tt := zI σ 5) (day := day) s (fun j hj => by
    obtain ⟨w, w1, w2⟩ := (h5 j hj).1
    exact ⟨w, by omega, w2⟩)
  refine q_acts_R hdp (fun k hk => ?_) aw.1 (fun q hq => ?_) (by omega)
  · obtain ⟨⟨a1, a2, a3⟩, _⟩ := h6 k hk
    have d1 : cN σ 6 k < n := (isN_c a1).1
    have d2 : cN σ 7 k < n := (isN_c a2).1
    exact ⟨by omega, by omega⟩
  · have k1 := aw.2 q hq
    have k2 : awM σ day s q = true ↔ awP (zI σ 51) (zI σ 52) (zI σ 53) day s q := isA_aw
    have k3 : awP (zI σ 51) (zI σ 52) (zI σ 53) day s q ↔ awP (zI σ 3) (zI σ 4) (zI σ 5) day s q := by
      constructor
      · rintro ⟨j, j1, j2, j3, j4⟩
        obtain ⟨_, e1, e2, e3⟩ := h5 j j1
        rw [e1] at j2
        rw [e2] at j3
        rw [e3] at j4
        exact ⟨j, j1, j2, j3, j4⟩
      · rintro ⟨j, j1, j2, j3, j4⟩
        obtain ⟨_, e1, e2, e3⟩ := h5 j j1
        rw [← e1] at j2
        rw [← e2] at j3
        rw [← e3] at j4
        exact ⟨j, j1, j2, j3, j4⟩
    cases e : awM σ day s q with
    | true => exact k1.mpr (k3.mp (k2.mp e))
    | false =>
      cases e2 : lb (q_away (zI σ 3) (zI σ 4) (zI σ 5) day s) q with
      | false => rfl
      | true =>
        have := k2.mpr (k3.mpr (k1.mp e2))
        rw [e] at this
        cases this
/-- what a name has signed in a role, that day or that month -/
abbrev tnI (σ : kS) (c : Nat) (td : Int32) (mo : Bool) (q r : Nat) : Nat := tnP σ (cN σ 83) (aF σ) td mo (smF σ) (8 * q + r) c
/-- the room of a name in a role -/
def rmI (σ : kS) (c : Nat) (C : kB) (td : Int32) (q r : Nat) : Int := rmZ (b_dl C r) (b_ml C r) (tnI σ c td false q r) (tnI σ c td true q r)
theorem h_sm {σ : kS} {n c i : Nat} (h : iPp σ n c) (hi : i < c) : smF σ i ≤ 1000000 ∧ zI σ (98 + 6 * i) 1 = nI (smF σ i) ∧ zI σ 78 i = nI (smF σ i) := by
  have w := h.2.2 i hi
  have a := isN_c w.2.1.1
  have b : smF σ i < 1000001 := a.1
  exact ⟨by omega, a.2, w.1.2.1.trans a.2⟩
theorem h_tn {σ : kS} {n c : Nat} (h : iPp σ n c) {td : Int32} {mo : Bool} {q r : Nat} : tnI σ c td mo q r ≤ 320000000 := by
  have hc := h.1.2.1.1
  have := tnP_le (σ := σ) (mf := cN σ 83) (atf := aF σ) (td := td) (mo := mo) (smf := smF σ) (x := 8 * q + r) c (fun i hi => ⟨(h_sm h hi).1, h_m8 h (by omega)⟩)
  show tnP σ (cN σ 83) (aF σ) td mo (smF σ) (8 * q + r) c ≤ 320000000
  omega
theorem h_tot {σ : kS} {n c : Nat} (hn : n ≤ 14) (h : iPp σ n c) {td : Int32} {mo : Bool} {q r : Nat} (hq : q < 14) (hr : r < 8) : q_totM σ (cN σ 83) (nI q) (nI r) td mo c = lN (tnI σ c td mo q r) := by
  refine totM_n hq hr c (fun i hi => ⟨⟨(h_sm h hi).2.2, (h_sm h hi).1⟩, fun k hk => ?_⟩)
  have w := (h.2.2 i hi).2.2.2 k hk
  have sg := iS1_sg hn w
  refine ⟨?_, fun hs => ?_⟩
  · rw [← sg]
    unfold q_sgm
    by_cases e : zI σ 87 (8 * i + k) < 0
    · simp [e]
    · simp [e]
  · have t := iS1_T w hs
    have a := isN_c t.2.1
    have b := isN_c w.2.1
    have a1 := a.1
    exact ⟨cN σ (98 + 6 * i + 4) k, cN σ (98 + 6 * i + 1) k, by unfold cN; omega, b.1, w.1.2.2.2.trans a.2, w.1.1.trans b.2, rfl, by rw [t.2.2]⟩
theorem room_M {σ : kS} {n c b b2 bk q r : Nat} {C : kB} {td : Int32} (hn : n ≤ 14) (h : iPp σ n c) (hb : iBk σ b b2 bk C) (ht : zI σ 49 13 = td) (hq : q < 14) (hr : r < 8) : (q_rmM σ (cN σ 83) c bk (nI q) r).toInt = rmI σ c C td q r := by
  show (q_rm2 (zI σ 74 (8 * bk + r)) (zI σ 69 (8 * bk + r)) (q_totM σ (cN σ 83) (nI q) (nI r) (zI σ 49 13) true c) (q_rm1 (zI σ 74 (8 * bk + r)) (zI σ 68 (8 * bk + r)) (q_totM σ (cN σ 83) (nI q) (nI r) (zI σ 49 13) false c))).toInt = _
  rw [ht, h_tot hn h hq hr, h_tot hn h hq hr]
  have g := hb.2.2.2.2.2.2.2.2 r hr
  have w := hb.2.2.2.2.2.1.2.2.2.2 r hr
  exact rmM_Z g.1 g.2 (h_tn h) (h_tn h) w.1 w.2
theorem room_C {σ : kS} {n c b b2 bk q r : Nat} {C : kB} {td : Int32} (h : iPp σ n c) (hb : iBk σ b b2 bk C) (hq : q < 14) (hr : r < 8) : (q_min (cDL σ (cN σ 83) (aF σ) td b c (8 * q + r)) (cML σ (cN σ 83) (aF σ) td b c (8 * q + r))).toInt = rmI σ c C td q r ∨ (1000000 ≤ (q_min (cDL σ (cN σ 83) (aF σ) td b c (8 * q + r)) (cML σ (cN σ 83) (aF σ) td b c (8 * q + r))).toInt ∧ 1000000 ≤ rmI σ c C td q r) := by
  have e9 : zI σ (b + 9) = b_dl C := hb.2.2.2.1.2.2.2.2.2.2.1
  have e10 : zI σ (b + 10) = b_ml C := hb.2.2.2.1.2.2.2.2.2.2.2
  have d : cDL σ (cN σ 83) (aF σ) td b c (8 * q + r) = b_dl C r - nI (tnI σ c td false q r) := by
    show q_lmD σ (cN σ 83) (aF σ) td false (q_lim (zI σ (b + 9)) (zI σ 17) 112) c (8 * q + r) = _
    rw [lmD_n (smf := smF σ) c (fun i hi => (h_sm h hi).2.1)]
    unfold q_lim
    rw [if_pos (by omega), e9, show (8 * q + r) % 8 = r by omega]
  have m : cML σ (cN σ 83) (aF σ) td b c (8 * q + r) = b_ml C r - nI (tnI σ c td true q r) := by
    show q_lmD σ (cN σ 83) (aF σ) td true (q_lim (zI σ (b + 10)) (zI σ 18) 112) c (8 * q + r) = _
    rw [lmD_n (smf := smF σ) c (fun i hi => (h_sm h hi).2.1)]
    unfold q_lim
    rw [if_pos (by omega), e10, show (8 * q + r) % 8 = r by omega]
  rw [d, m]
  have g := hb.2.2.2.2.2.2.2.2 r hr
  exact rmC_Z g.1 g.2 (h_tn h) (h_tn h)
/-! may a pair sign -/
theorem dP {P : Prop} {b : Bool} (h : b = true ↔ P) : b = @decide P (Classical.propDecidable P) := by
  by_cases c : P
  · rw [h.mpr c]
    exact (@decide_eq_true P (Classical.propDecidable P) c).symm
  · have : b = false := by
      cases e : b with
      | false => rfl
      | true => exact absurd (h.mp e) c
    rw [this]
    exact (@decide_eq_false P (Classical.propDecidable P) c).symm
/-- may the pair x sign at the j-th open slot -/
noncomputable def fP (n : Nat) (ro : Nat → Int32) (E : Nat → Nat → Prop) (aw : Nat → Bool) (set : Int32) (ok : Nat → Nat → Prop) (rl : Nat → Nat) (j : Nat) (U : Int32) (x : Nat) : Bool := @decide (lb set (x % n) = true ∧ lb (ro (x / n)) (rl j) = true ∧ (aRe E (x / n) (x % n) ∧ aw (x % n) = false) ∧ (lb U (x % n) = false ∧ lb U (x / n) = false) ∧ ok (x / n) (rl j)) (Classical.propDecidable _)
theorem ftM_P {τ : kS} {n i c bk S j x : Nat} {mf rf osl : Nat → Nat} {set U : Int32} {ro : Nat → Int32} {E : Nat → Nat → Prop} {aw : Nat → Bool} {R : Nat → Nat → Int} (hn : n ≤ 14) (hx : x < n * n) (h50 : ∀ q, q < n → zI τ 50 q = ro q) (h92 : ∀ q, q < n → actR E aw q (zI τ 92 q)) (hS : S ≤ 1000000) (h78 : zI τ 78 i = nI S) (hrm : ∀ q r, q < 14 → r < 8 → (q_rmM τ mf c bk (nI q) r).toInt = R q r) (hr : rf (osl j) < 8) : ftM τ n i c bk mf rf osl set j U x = fP n ro E aw set (fun q r => (S : Int) ≤ R q r) (fun j => rf (osl j)) j U x := by
  have h0 : 0 < n := by
    rcases Nat.eq_zero_or_pos n with e | e
    · subst e; omega
    · exact e
  have hm : x % n < n := Nat.mod_lt _ h0
  have hd : x / n < n := Nat.div_lt_of_lt_mul hx
  apply dP
  unfold ftM
  have key := fit_lb (ro := zI τ 50 (x / n)) (ac := zI τ 92 (x / n)) (us := U) (r := rf (osl j)) (h := x % n) (q := x / n) (sm := (zI τ 78 i).toInt64) (rm := q_rmM τ mf c bk (nI (x / n)) (rf (osl j))) (by omega) (by omega) (by omega)
  have ok : (zI τ 78 i).toInt64 ≤ q_rmM τ mf c bk (nI (x / n)) (rf (osl j)) ↔ (S : Int) ≤ R (x / n) (rf (osl j)) := by
    rw [Int64.le_iff_toInt_le, hrm _ _ (by omega) hr, h78, nI_l (by omega), lN_toInt (by omega)]
  rw [ok, h50 _ hd, (h92 _ hd).2 _ (by omega)] at key
  by_cases c1 : lb set (x % n) = true
  · rw [if_pos ((a1_lb (by omega)).mpr c1)]
    rw [h50 _ hd, key]
    constructor
    · rintro ⟨a1, a2, a3, a4, a5⟩
      exact ⟨c1, a1, a2, ⟨a3, a4⟩, a5⟩
    · rintro ⟨_, a1, a2, ⟨a3, a4⟩, a5⟩
      exact ⟨a1, a2, a3, a4, a5⟩
  · rw [if_neg (fun w => c1 ((a1_lb (by omega)).mp w))]
    exact ⟨fun w => (by cases w), fun w => absurd w.1 c1⟩
theorem hr_lb {σ : kS} {n q r : Nat} (hn : n ≤ 14) (h10 : zI σ 1 0 = nI n) (hq : q < n) (hr : r < 8) : q_hrσ σ q r = lb (zI σ 2 q) r := by
  show (if q_has (zI σ 1 0) (nI q) then q_in (zI σ 2 (nI q).toNatClampNeg) (nI r) else false) = _
  rw [h10, kha_n hn hq, if_pos rfl, nI_clamp (by omega), q_in_lb (by omega)]
theorem ftC_P {σ τ : kS} {n s m S j x : Nat} {set td U : Int32} {DL ML : Nat → Int32} {rl : Nat → Nat} {E : Nat → Nat → Prop} {aw : Nat → Bool} {R : Nat → Nat → Int} (hn : n ≤ 14) (h10 : zI σ 1 0 = nI n) (hx : x < n * n) (hS : S ≤ 1000000) (hk : clk σ τ n s m (nI S) td set DL ML) (hact : ∀ q, q < n → actR E aw q (q_acts (fun x => q_depσ σ x (nI S) td m) (q_away (zI σ 3) (zI σ 4) (zI σ 5) td s) (nI q))) (hR : ∀ q r, q < 14 → r < 8 → (q_min (DL (8 * q + r)) (ML (8 * q + r))).toInt = R q r ∨ (1000000 ≤ (q_min (DL (8 * q + r)) (ML (8 * q + r))).toInt ∧ 1000000 ≤ R q r)) (hr : rl j < 8) : ftC n (zI τ 19 (rl j)) (zI τ 20) U x = fP n (zI σ 2) E aw set (fun q r => (S : Int) ≤ R q r) rl j U x := by
  have h0 : 0 < n := by
    rcases Nat.eq_zero_or_pos n with e | e
    · subst e; omega
    · exact e
  have hm : x % n < n := Nat.mod_lt _ h0
  have hd : x / n < n := Nat.div_lt_of_lt_mul hx
  apply dP
  unfold ftC
  have k19 := hk.2 (rl j) hr
  have k20 := hk.1 (x / n) hd
  have nm := (nmR_lb (hr := fun p => q_hrσ σ p (rl j)) (rm := fun p => q_min (DL (8 * p + rl j)) (ML (8 * p + rl j))) (sum := nI S) n hn).2 (x / n) (by omega)
  have ok : (¬ q_min (DL (8 * (x / n) + rl j)) (ML (8 * (x / n) + rl j)) < nI S) ↔ (S : Int) ≤ R (x / n) (rl j) := by
    rw [Int32.lt_iff_toInt_lt, nI_toInt (by omega)]
    rcases hR (x / n) (rl j) (by omega) hr with w | w <;> omega
  have ac := (hact (x / n) hd).2 (x % n) (by omega)
  rw [Bool.and_eq_true, k19, k20, lb_diff2 (by omega), lb_diff2 (by omega), Bool.and_eq_true, Bool.and_eq_true, nm, lb_and, Bool.and_eq_true, ac, ok, hr_lb hn h10 hd hr]
  constructor
  · rintro ⟨⟨⟨_, a1, a2⟩, a3⟩, ⟨a4, a5⟩, a6⟩
    exact ⟨a5, a1, a4, ⟨by simpa using a6, by simpa using a3⟩, a2⟩
  · rintro ⟨a1, a2, a3, ⟨a4, a5⟩, a6⟩
    exact ⟨⟨⟨hd, a2, a6⟩, by simpa using a5⟩, ⟨a3, a1⟩, by simpa using a4⟩
