/-! greatest: what is tried, and where an answer can change; written by hand -/
def gRl (σ : kS) (b : Nat) (C : kB) (kind place : Int32) (urg : Bool) (oth S : Nat) : Option Nat := q_rfo (zI σ (b + 1)) kind (q_holσ σ b (b_fo C) (b_eo C) (nI oth + nI S) place urg) 0 (b_nr C)
noncomputable def gFp (σ : kS) (n s m c : Nat) (C : kB) (set : Int32) (S r : Nat) : Nat → Int32 → Nat → Bool := fP n (zI σ 2) (aEM σ s m (cN σ 6) (cN σ 7) (nI S) (zI σ 0 6)) (awM σ (zI σ 0 6) s) set (fun q r => (S : Int) ≤ rmI σ c C (zI σ 0 6) q r) (rrF C r)
noncomputable def gGg (σ : kS) (n s m c b : Nat) (C : kB) (kind place set : Int32) (urg : Bool) (oth mk S : Nat) : gO := match gRl σ b C kind place urg oth S with
  | none => none
  | some r => mG (b_so C r) (n * n) (gFp σ n s m c C set S r) (upM n) (b_so C r) (1 <<< (nI mk &&& 31)) 0
theorem gGg_s {σ : kS} {n s m c b : Nat} {C : kB} {kind place set : Int32} {urg : Bool} {oth mk S r : Nat} (h : gRl σ b C kind place urg oth S = some r) : gGg σ n s m c b C kind place set urg oth mk S = mG (b_so C r) (n * n) (gFp σ n s m c C set S r) (upM n) (b_so C r) (1 <<< (nI mk &&& 31)) 0 := by unfold gGg; rw [h]
theorem e178_T {x : Nat} (h : e178 x = true) : x = 17 ∨ x = 18 := by simpa [e178] using h
theorem clk_178 {σ τ1 τ : kS} {n s m : Nat} {sum set : Int32} {DL ML : Nat → Int32} (hF : kFr e178 σ τ1) (h : clk τ1 τ n s m sum (zI τ1 0 6) set DL ML) : clk σ τ n s m sum (zI σ 0 6) set DL ML := by
  have r : ∀ x, ¬ x = 17 → ¬ x = 18 → zI τ1 x = zI σ x := fun x h1 h2 => funext fun k => kFr_i hF (fun w => by have := e178_T w; omega)
  obtain ⟨h1, h2⟩ := h
  refine ⟨fun p hp => ?_, fun q hq => ?_⟩
  · rw [h1 p hp]
    show q_acts (fun x => q_deps (zI τ1 6) (zI τ1 7) (zI τ1 10) (zI τ1 11) (zI τ1 8) (zI τ1 9) x sum (zI τ1 0 6) m) (q_away (zI τ1 3) (zI τ1 4) (zI τ1 5) (zI τ1 0 6) s) (nI p) &&& set = _
    rw [r 6 (by omega) (by omega), r 7 (by omega) (by omega), r 10 (by omega) (by omega), r 11 (by omega) (by omega), r 8 (by omega) (by omega), r 9 (by omega) (by omega), r 3 (by omega) (by omega), r 4 (by omega) (by omega), r 5 (by omega) (by omega), r 0 (by omega) (by omega)]
  · rw [h2 q hq]
    show q_nmR (fun p => q_hasRole (zI τ1 1 0) (zI τ1 2) (nI p) (nI q)) _ sum n = _
    rw [r 1 (by omega) (by omega), r 2 (by omega) (by omega)]
/-- the class's answer for a sum -/
theorem ans_C {σ τ1 : kS} {n s m c b b2 bk : Nat} {C : kB} {kind place set v : Int32} {urg : Bool} {oth mk S : Nat} (hE : iPe σ n s m) (hP : iPp σ n c) (hB : iBk σ b b2 bk C) (hF : kFr e178 σ τ1) (hS : S ≤ 1000000) (h : cAns τ1 n s m b (b_nr C) (b_fo C) (b_eo C) (b_so C) (rrF C) (cDL σ (cN σ 83) (aF σ) (zI σ 0 6) b c) (cML σ (cN σ 83) (aF σ) (zI σ 0 6) b c) mk set kind place urg (nI oth) (nI S) v) : (gAn (gRl σ b C kind place urg oth) (gGg σ n s m c b C kind place set urg oth mk) S = 1 ∧ ¬ v = -2 ∧ ¬ v = -3) ∨ (gAn (gRl σ b C kind place urg oth) (gGg σ n s m c b C kind place set urg oth mk) S = -3 ∧ v = -3) ∨ (gAn (gRl σ b C kind place urg oth) (gGg σ n s m c b C kind place set urg oth mk) S = 0 ∧ v = -2) := by
  have hb := iB_b hB
  have hn := hE.1.1
  have r : ∀ x, ¬ x = 17 → ¬ x = 18 → zI τ1 x = zI σ x := fun x h1 h2 => funext fun k => kFr_i hF (fun w => by have := e178_T w; omega)
  have er : q_rfo (zI τ1 (b + 1)) kind (q_holσ τ1 b (b_fo C) (b_eo C) (nI oth + nI S) place urg) 0 (b_nr C) = gRl σ b C kind place urg oth S := by
    show q_rfo (zI τ1 (b + 1)) kind (fun i => q_hol (zI τ1 (b + 7)) (zI τ1 (b + 8)) (b_fo C i) (b_eo C i) (nI oth + nI S) place urg) 0 (b_nr C) = q_rfo (zI σ (b + 1)) kind (fun i => q_hol (zI σ (b + 7)) (zI σ (b + 8)) (b_fo C i) (b_eo C i) (nI oth + nI S) place urg) 0 (b_nr C)
    rw [r (b + 1) (by omega) (by omega), r (b + 7) (by omega) (by omega), r (b + 8) (by omega) (by omega)]
  unfold cAns at h
  rw [er] at h
  cases e : gRl σ b C kind place urg oth S with
  | none =>
    rw [e] at h
    exact Or.inr (Or.inr ⟨gAn_0 e, h⟩)
  | some ru =>
    rw [e] at h
    have hr : ru < b_nr C := by
      have := (q_rfo_lt (b_nr C) 0 ru e).2
      omega
    obtain ⟨τ, hk, h10, hv⟩ := h
    have hk2 := clk_178 hF hk
    have g8 := (hB.2.2.2.2.2.2.1 ru hr).2.1
    have hFo := kFr_os (sg := fun _ => false) (rl := fun k => zI τ1 (b + 5) (8 * ru + k)) (σ := τ) (b_so C ru)
    have e19 : zI (q_os (fun _ => false) (fun k => zI τ1 (b + 5) (8 * ru + k)) (b_so C ru) τ) 19 = zI τ 19 := funext fun k => kFr_i hFo (fun w => by have := eSr_T w; omega)
    have e20 : zI (q_os (fun _ => false) (fun k => zI τ1 (b + 5) (8 * ru + k)) (b_so C ru) τ) 20 = zI τ 20 := funext fun k => kFr_i hFo (fun w => by have := eSr_T w; omega)
    have R := skA_R (σ := q_os (fun _ => false) (fun k => zI τ1 (b + 5) (8 * ru + k)) (b_so C ru) τ) (n := n) (o := b_so C ru) (rlf := fun j => rrF C ru j) (tk := 1 <<< (nI mk &&& 31)) hn (fun k hkn => by rw [e20]; exact hd_smb hE hk2 k hkn)
    rw [e19, e20] at R
    have cg := mG_congr (o := b_so C ru) (al := n * n) (ft := fun j U x => ftC n (zI τ 19 (rrF C ru j)) (zI τ 20) U x) (ft2 := gFp σ n s m c C set S ru) (up := upM n) (fun j U x hj hx => ftC_P (rl := rrF C ru) hn hE.1.2.1 hx hS hk2 (fun q hq => acts_R hE hq) (fun q r a1 a2 => room_C hP hB a1 a2) (h_rr hB ru j hr hj).1) _ (Nat.le_refl _) (1 <<< (nI mk &&& 31)) 0
    rw [cg, ← gGg_s (n := n) (s := s) (m := m) (c := c) (set := set) (mk := mk) e] at R
    cases e2 : gGg σ n s m c b C kind place set urg oth mk S with
    | none =>
      rw [e2] at R
      refine Or.inr (Or.inl ⟨gAn_3 e e2, ?_⟩)
      rw [hv]
      exact swy_n R
    | some u =>
      cases u with
      | inl ps =>
        rw [e2] at R
        have sw := swy_l (o := b_so C ru) R
        have hv2 : v = nI (b_so C ru) := hv.trans sw
        have p := nI_pos (n := b_so C ru) (by omega)
        refine Or.inl ⟨gAn_1 e e2, fun w => ?_, fun w => ?_⟩
        · rw [← hv2, w] at p; exact absurd (by decide) p
        · rw [← hv2, w] at p; exact absurd (by decide) p
      | inr t =>
        rw [e2] at R
        refine Or.inr (Or.inr ⟨gAn_2 e e2, ?_⟩)
        rw [hv]
        exact swy_r R
/-! candidates -/
def kcD (σ : kS) (m : Nat) (v : Int) : Prop := ∃ k, k < m ∧ q_stands (zI σ 11) (zI σ 8) (zI σ 9) k (zI σ 0 6) = true ∧ v = (zI σ 10 k).toInt
def kcR (σ : kS) (n c b : Nat) (v : Int) : Prop := ∃ p r, p < n ∧ r < 8 ∧ q_hrσ σ p r = true ∧ v = (q_min (cDL σ (cN σ 83) (aF σ) (zI σ 0 6) b c (8 * p + r)) (cML σ (cN σ 83) (aF σ) (zI σ 0 6) b c (8 * p + r))).toInt
def kcT (C : kB) (kind : Int32) (oth : Nat) (v : Int) : Prop := ∃ i k, i < b_nr C ∧ b_kd C i = kind ∧ k < b_eo C i - b_fo C i ∧ v = (q_cp (b_op C (b_fo C i + k)) (b_od C (b_fo C i + k)) (nI oth)).toInt
def KC (σ : kS) (n m c b : Nat) (C : kB) (kind : Int32) (oth : Nat) (v : Int) : Prop := kcD σ m v ∨ (kcR σ n c b v ∨ kcT C kind oth v)
theorem max_I {x y : Int32} : (q_max x y).toInt = if x.toInt < y.toInt then y.toInt else x.toInt := by
  unfold q_max
  by_cases c : x < y
  · rw [if_pos c, if_pos (lt_I.mp c)]
  · rw [if_neg c, if_neg (fun w => c (lt_I.mpr w))]
theorem nx_C {σ τ1 : kS} {n m c b b2 bk S : Nat} {C : kB} {kind : Int32} {oth : Nat} (hB : iBk σ b b2 bk C) (hF : kFr e178 σ τ1) (h17 : zI τ1 17 = cDL σ (cN σ 83) (aF σ) (zI σ 0 6) b c) (h18 : zI τ1 18 = cML σ (cN σ 83) (aF σ) (zI σ 0 6) b c) (hS : S ≤ 1000000) : bst (S : Int) (KC σ n m c b C kind oth) (cNx τ1 n m b (b_nr C) (b_fo C) (b_eo C) kind (nI oth) (nI S)).toInt := by
  have hb := iB_b hB
  have r : ∀ x, ¬ x = 17 → ¬ x = 18 → zI τ1 x = zI σ x := fun x h1 h2 => funext fun k => kFr_i hF (fun w => by have := e178_T w; omega)
  have hs : (nI S).toInt = (S : Int) := nI_toInt (by omega)
  have e1 : zI σ (b + 1) = b_kd C := hB.2.2.2.1.2.1.2.2.1
  have e7 : zI σ (b + 7) = b_op C := hB.2.2.2.1.2.2.1.2.2.1
  have e8 : zI σ (b + 8) = b_od C := hB.2.2.2.1.2.2.1.2.2.2
  unfold cNx
  rw [r 10 (by omega) (by omega), r 11 (by omega) (by omega), r 8 (by omega) (by omega), r 9 (by omega) (by omega), r 0 (by omega) (by omega), r (b + 1) (by omega) (by omega), r (b + 7) (by omega) (by omega), r (b + 8) (by omega) (by omega), e1, e7, e8]
  have hr : q_hrσ τ1 = q_hrσ σ := by
    funext p q
    show q_hasRole (zI τ1 1 0) (zI τ1 2) (nI p) (nI q) = _
    rw [r 1 (by omega) (by omega), r 2 (by omega) (by omega)]
  have hm : q_rmσ τ1 = fun p q => q_min (cDL σ (cN σ 83) (aF σ) (zI σ 0 6) b c (8 * p + q)) (cML σ (cN σ 83) (aF σ) (zI σ 0 6) b c (8 * p + q)) := by
    funext p q
    show q_min (zI τ1 17 (8 * p + q)) (zI τ1 18 (8 * p + q)) = _
    rw [h17, h18]
  rw [hr, hm]
  exact bst_max (bst_amt hs m) (bst_max (bst_rb hs n) (bst_tb hs (b_nr C)) max_I) max_I
theorem cp_0 {op : Int32} {a oth : Nat} (h : op = 0) (ha : a < 10000000) (ho : oth ≤ 50000000) : (q_cp op (nI a) (nI oth)).toInt = (a : Int) - 1 - oth := by
  unfold q_cp
  rw [if_pos h, show (1 : Int32) = nI 1 from rfl, Int32.sub_sub, nI_add, pk_sub_toInt (by omega) (by omega)]
  omega
theorem cp_1 {op : Int32} {a oth : Nat} (h : op = 1) (ha : a < 10000000) (ho : oth ≤ 50000000) : (q_cp op (nI a) (nI oth)).toInt = (a : Int) - oth := by
  unfold q_cp
  rw [if_neg (by rw [h]; decide), if_pos h, pk_sub_toInt (by omega) (by omega)]
theorem pass_eq {op : Int32} {a oth S S2 : Nat} {place : Int32} {urg : Bool} (ha : a < 10000000) (ho : oth ≤ 50000000) (hS : S ≤ 1000000) (hS2 : S2 ≤ S) (hn : ¬ ((S2 : Int) ≤ (q_cp op (nI a) (nI oth)).toInt ∧ (q_cp op (nI a) (nI oth)).toInt < S)) : q_pass op (nI a) (nI oth + nI S2) place urg = q_pass op (nI a) (nI oth + nI S) place urg := by
  unfold q_pass
  rw [nI_add, nI_add]
  by_cases c0 : op = 0
  · rw [cp_0 c0 ha ho] at hn
    rw [if_pos c0, if_pos c0]
    exact if_congr_i (by rw [nI_leI (by omega) (by omega), nI_leI (by omega) (by omega)]; omega)
  · rw [if_neg c0, if_neg c0]
    by_cases c1 : op = 1
    · rw [cp_1 c1 ha ho] at hn
      rw [if_pos c1, if_pos c1]
      exact if_congr_i (by rw [nI_leI (by omega) (by omega), nI_leI (by omega) (by omega)]; omega)
    · rw [if_neg c1, if_neg c1]
theorem hv_cg {ops opd : Nat → Int32} {j1 j2 place : Int32} {urg : Bool} {f : Nat} : ∀ n, (∀ k, k < n → q_pass (ops (f + k)) (opd (f + k)) j1 place urg = q_pass (ops (f + k)) (opd (f + k)) j2 place urg) → q_hv ops opd j1 place urg f n = q_hv ops opd j2 place urg f n
  | 0, _ => rfl
  | n + 1, h => by
    rw [q_hv_s, q_hv_s, hv_cg n (fun k hk => h k (by omega))]
    unfold q_stp
    rw [h n (by omega)]
theorem rfo_cg2 {kn : Nat → Int32} {kind : Int32} {hol hol2 : Nat → Bool} : ∀ m k, (∀ j, k ≤ j → j < k + m → kn j = kind → hol j = hol2 j) → q_rfo kn kind hol k m = q_rfo kn kind hol2 k m
  | 0, _, _ => rfl
  | m + 1, k, h => by
    simp only [q_rfo]
    rw [rfo_cg2 m (k + 1) (fun j h1 h2 => h j (by omega) (by omega))]
    by_cases c : kn k = kind
    · rw [h k (by omega) (by omega) c]
    · rw [if_pos c, if_pos c]
/-- between two candidates nothing changes -/
theorem An_const {σ : kS} {n s m c b b2 bk : Nat} {C : kB} {kind place set : Int32} {urg : Bool} {oth mk S2 S : Nat} (hE : iPe σ n s m) (hP : iPp σ n c) (hB : iBk σ b b2 bk C) (ho : oth ≤ 50000000) (h2 : S2 ≤ S) (hS : S ≤ 1000000) (hn : ∀ v, KC σ n m c b C kind oth v → ¬ ((S2 : Int) ≤ v ∧ v < S)) : gAn (gRl σ b C kind place urg oth) (gGg σ n s m c b C kind place set urg oth mk) S2 = gAn (gRl σ b C kind place urg oth) (gGg σ n s m c b C kind place set urg oth mk) S := by
  have hb := iB_b hB
  have hn14 := hE.1.1
  have e1 : zI σ (b + 1) = b_kd C := hB.2.2.2.1.2.1.2.2.1
  have e7 : zI σ (b + 7) = b_op C := hB.2.2.2.1.2.2.1.2.2.1
  have e8 : zI σ (b + 8) = b_od C := hB.2.2.2.1.2.2.1.2.2.2
  have hg := hB.2.2.2.2.2.2
  have er : gRl σ b C kind place urg oth S2 = gRl σ b C kind place urg oth S := by
    refine rfo_cg2 _ _ (fun j _ hj hk => ?_)
    rw [e1] at hk
    have gj := hg.1 j (by omega)
    show q_hol (zI σ (b + 7)) (zI σ (b + 8)) (b_fo C j) (b_eo C j) (nI oth + nI S2) place urg = q_hol (zI σ (b + 7)) (zI σ (b + 8)) (b_fo C j) (b_eo C j) (nI oth + nI S) place urg
    unfold q_hol
    rw [e7, e8, hv_cg (j2 := nI oth + nI S) (b_eo C j - b_fo C j) (fun k hk2 => ?_)]
    obtain ⟨a, a1, a2⟩ := hg.2.1 (b_fo C j + k) (by have := gj.1.2.1; omega)
    have w := hn _ (Or.inr (Or.inr ⟨j, k, by omega, hk, hk2, rfl⟩))
    rw [a2] at w ⊢
    exact pass_eq a1 ho hS h2 w
  have eE : aEM σ s m (cN σ 6) (cN σ 7) (nI S2) (zI σ 0 6) = aEM σ s m (cN σ 6) (cN σ 7) (nI S) (zI σ 0 6) := by
    have key : ∀ k, k < m → dkM σ (nI S2) (zI σ 0 6) k = dkM σ (nI S) (zI σ 0 6) k := fun k hk => by
      obtain ⟨⟨_, _, u1⟩, _, _, b3, b4, b5, b6⟩ := hE.2.2.2.2.2.1 k hk
      have u := isN_c u1
      unfold dkM
      by_cases c0 : zI σ 59 k = 0
      · have c0' : ¬ ¬ zI σ 59 k = 0 := fun w => w c0
        rw [if_neg c0', if_neg c0']
        by_cases c1 : zI σ 0 6 < zI σ 56 k
        · rw [if_pos c1, if_pos c1]
        · rw [if_neg c1, if_neg c1]
          by_cases c2 : zI σ 57 k < zI σ 0 6
          · rw [if_pos c2, if_pos c2]
          · rw [if_neg c2, if_neg c2]
            have st : q_stands (zI σ 11) (zI σ 8) (zI σ 9) k (zI σ 0 6) = true := by
              unfold q_stands
              rw [← b3, ← b4, ← b6, if_neg c0', if_neg c1, if_neg c2]
            have w := hn _ (Or.inl ⟨k, hk, st, rfl⟩)
            have u2 := u.1
            rw [u.2, nI_toInt (by omega)] at w
            rw [b5, u.2]
            exact if_congr_i (by rw [nI_leI (by omega) (by omega), nI_leI (by omega) (by omega)]; omega)
      · rw [if_pos c0, if_pos c0]
    funext x y
    apply propext
    constructor
    · rintro ⟨w1, k, k1, k2, k3⟩
      rw [key k k1] at k2
      exact ⟨w1, k, k1, k2, k3⟩
    · rintro ⟨w1, k, k1, k2, k3⟩
      rw [← key k k1] at k2
      exact ⟨w1, k, k1, k2, k3⟩
  have eg : gGg σ n s m c b C kind place set urg oth mk S2 = gGg σ n s m c b C kind place set urg oth mk S := by
    cases e : gRl σ b C kind place urg oth S with
    | none =>
      unfold gGg
      rw [er, e]
    | some ru =>
      have hr : ru < b_nr C := by
        have := (q_rfo_lt (b_nr C) 0 ru e).2
        omega
      rw [gGg_s e, gGg_s (er.trans e)]
      refine mG_congr (fun j U x hj hx => ?_) _ (Nat.le_refl _) _ _
      have h0 : 0 < n := by
        rcases Nat.eq_zero_or_pos n with e0 | e0
        · subst e0; omega
        · exact e0
      have hm : x % n < n := Nat.mod_lt _ h0
      have hd : x / n < n := Nat.div_lt_of_lt_mul hx
      have rj := (h_rr hB ru j hr hj).1
      have eqb : ∀ b1 b2 : Bool, (b1 = true ↔ b2 = true) → b1 = b2 := fun b1 b2 w => by
        cases b1 <;> cases b2
        · rfl
        · exact absurd (w.mpr rfl) (by decide)
        · exact absurd (w.mp rfl) (by decide)
        · rfl
      apply eqb
      unfold gFp
      rw [fP_T, fP_T, eE]
      have ok : lb (zI σ 2 (x / n)) (rrF C ru j) = true → ((S2 : Int) ≤ rmI σ c C (zI σ 0 6) (x / n) (rrF C ru j) ↔ (S : Int) ≤ rmI σ c C (zI σ 0 6) (x / n) (rrF C ru j)) := fun hl => by
        have w := hn _ (Or.inr (Or.inl ⟨x / n, rrF C ru j, hd, rj, by rw [hr_lb hn14 hE.1.2.1 hd rj]; exact hl, rfl⟩))
        rcases room_C (td := zI σ 0 6) hP hB (show x / n < 14 by omega) rj with g | g <;> omega
      constructor
      · rintro ⟨a1, a2, a3, a4, a5⟩
        exact ⟨a1, a2, a3, a4, (ok a2).mp a5⟩
      · rintro ⟨a1, a2, a3, a4, a5⟩
        exact ⟨a1, a2, a3, a4, (ok a2).mpr a5⟩
  unfold gAn
  rw [er, eg]
/-- the model's candidates -/
def MC (σ : kS) (n m c bk : Nat) (C : kB) (oth : Nat) (v : Int) : Prop := ((∃ i k, i < b_nr C ∧ k < b_eo C i - b_fo C i ∧ ((zI σ 70 (1000 * bk + b_fo C i + k) = 60 ∧ v = ((zI σ 71 (1000 * bk + b_fo C i + k)).toInt64 - 1 - lN oth).toInt) ∨ (zI σ 70 (1000 * bk + b_fo C i + k) = 62 ∧ v = ((zI σ 71 (1000 * bk + b_fo C i + k)).toInt64 - lN oth).toInt))) ∨ ∃ k, k < m ∧ v = ((zI σ 58 k).toInt64).toInt) ∨ ∃ p r, p < n ∧ r < 8 ∧ v = (q_rmM σ (cN σ 83) c bk (nI p) r).toInt
theorem nx_M {σ : kS} {n m c bk S : Nat} {C : kB} {oth : Nat} (hS : S ≤ 1000000) : bst (S : Int) (MC σ n m c bk C oth) (mNx σ bk (b_nr C) m n c (b_fo C) (b_eo C) (cN σ 83) (lN oth) (lN S)).toInt := by
  have hs : (lN S).toInt = (S : Int) := lN_toInt (by omega)
  exact bst_nbG hs (bst_nbF hs (bst_nbR hs (b_nr C)) m) n
theorem l_sub2 {a b : Nat} (ha : a < 10000000) (hb : b ≤ 50000000) : ((nI a).toInt64 - 1 - lN b).toInt = (a : Int) - 1 - b := by
  rw [Int64.toInt_sub, show (1 : Int64) = lN 1 from rfl, l_subI (by omega) (by omega), lN_toInt (by omega)]
  rw [Int.bmod_eq_of_le (by omega) (by omega)]
  omega
theorem KM {σ : kS} {n s m c b b2 bk : Nat} {C : kB} {kind : Int32} {oth : Nat} {v : Int} (hE : iPe σ n s m) (hP : iPp σ n c) (hB : iBk σ b b2 bk C) (htd : zI σ 49 13 = zI σ 0 6) (ho : oth ≤ 50000000) (h : KC σ n m c b C kind oth v) (h0 : 0 ≤ v) (h1 : v < 1000000) : MC σ n m c bk C oth v := by
  rcases h with ⟨k, k1, k2, k3⟩ | ⟨p, r, p1, r1, h2, h3⟩ | ⟨i, k, i1, i2, i3, i4⟩
  · refine Or.inl (Or.inr ⟨k, k1, ?_⟩)
    rw [(hE.2.2.2.2.2.1 k k1).2.2.2.2.2.1, Int32.toInt_toInt64]
    exact k3
  · refine Or.inr ⟨p, r, p1, r1, ?_⟩
    have hn := hE.1.1
    rw [room_M hn hP hB htd (by omega) r1]
    rcases room_C (td := zI σ 0 6) hP hB (show p < 14 by omega) r1 with g | g
    · rw [h3]; exact g
    · omega
  · have gi := hB.2.2.2.2.2.2.1 i i1
    have kk : b_fo C i + k < b_no C := by have := gi.1.2.1; omega
    obtain ⟨a, a1, a2⟩ := hB.2.2.2.2.2.2.2.1 (b_fo C i + k) kk
    have w := hB.2.2.2.2.2.1.2.2.1 (b_fo C i + k) kk
    rw [show 1000 * bk + (b_fo C i + k) = 1000 * bk + b_fo C i + k by omega] at w
    refine Or.inl (Or.inl ⟨i, k, i1, i3, ?_⟩)
    rw [w.1, w.2, a2]
    rw [a2] at i4
    by_cases c0 : b_op C (b_fo C i + k) = 0
    · refine Or.inl ⟨by rw [c0]; rfl, ?_⟩
      rw [i4, cp_0 c0 a1 ho, l_sub2 a1 ho]
    · by_cases c1 : b_op C (b_fo C i + k) = 1
      · refine Or.inr ⟨by rw [c1]; rfl, ?_⟩
        rw [i4, cp_1 c1 a1 ho, l_subI (by omega) (by omega)]
      · exfalso
        have : (q_cp (b_op C (b_fo C i + k)) (nI a) (nI oth)).toInt = -1 := by
          unfold q_cp
          rw [if_neg c0, if_neg c1]
          decide
        omega
def LK (σ : kS) (n m c b : Nat) (C : kB) (oth : Nat) : List Int := (List.range m).map (fun k => (zI σ 10 k).toInt) ++ ((List.range (8 * n)).map (fun x => (q_min (cDL σ (cN σ 83) (aF σ) (zI σ 0 6) b c x) (cML σ (cN σ 83) (aF σ) (zI σ 0 6) b c x)).toInt) ++ (List.range (b_no C)).map (fun k => (q_cp (b_op C k) (b_od C k) (nI oth)).toInt))
theorem LK_in {σ : kS} {n m c b b2 bk : Nat} {C : kB} {kind : Int32} {oth : Nat} {v : Int} (hB : iBk σ b b2 bk C) (h : KC σ n m c b C kind oth v) : v ∈ LK σ n m c b C oth := by
  unfold LK
  rcases h with ⟨k, k1, k2, k3⟩ | ⟨p, r, p1, r1, h2, h3⟩ | ⟨i, k, i1, i2, i3, i4⟩
  · exact List.mem_append.mpr (Or.inl (List.mem_map.mpr ⟨k, List.mem_range.mpr k1, k3.symm⟩))
  · exact List.mem_append.mpr (Or.inr (List.mem_append.mpr (Or.inl (List.mem_map.mpr ⟨8 * p + r, List.mem_range.mpr (by omega), h3.symm⟩))))
  · have gi := hB.2.2.2.2.2.2.1 i i1
    exact List.mem_append.mpr (Or.inr (List.mem_append.mpr (Or.inr (List.mem_map.mpr ⟨b_fo C i + k, List.mem_range.mpr (by have := gi.1.2.1; omega), i4.symm⟩))))
theorem LK_len {σ : kS} {n s m c b b2 bk S : Nat} {C : kB} {oth : Nat} (hE : iPe σ n s m) (hB : iBk σ b b2 bk C) : below S (LK σ n m c b C oth) < 1000 := by
  have h1 := hE.1.1
  have h2 := hE.2.2.1.1
  have h3 := hB.2.2.2.1.2.2.1.1
  have le : below S (LK σ n m c b C oth) ≤ (LK σ n m c b C oth).length := List.length_filter_le _ _
  have len : (LK σ n m c b C oth).length = m + (8 * n + b_no C) := by
    unfold LK
    rw [List.length_append, List.length_append, List.length_map, List.length_map, List.length_map, List.length_range, List.length_range, List.length_range]
  omega
