/-! the calls one by one: greatest; written by hand -/
theorem oth_num {num num2 kind maker place fd : Int32} {a0 a1 a2 a3 a4 a5 : Nat → Int32} : ∀ c, (∀ k, k < c → ¬ nI k = num ∧ ¬ nI k = num2) → q_oth num a0 a1 a2 a3 a4 a5 kind maker place fd c = q_oth num2 a0 a1 a2 a3 a4 a5 kind maker place fd c
  | 0, _ => rfl
  | c + 1, h => by
    have g := h c (by omega)
    simp only [q_oth]
    rw [oth_num c (fun k hk => h k (by omega)), if_neg g.1, if_neg g.2]
theorem othm_cg {num kind maker place td sp : Int32} {a0 a1 a2 a3 a4 a5 b0 b1 b2 b3 b4 b5 : Nat → Int32} : ∀ c, (∀ k, k < c → a0 k = b0 k ∧ a1 k = b1 k ∧ a2 k = b2 k ∧ a3 k = b3 k ∧ a4 k = b4 k ∧ a5 k = b5 k) → q_othm num a0 a1 a2 a3 a4 a5 kind maker place td sp c = q_othm num b0 b1 b2 b3 b4 b5 kind maker place td sp c
  | 0, _ => rfl
  | c + 1, h => by
    obtain ⟨h0, h1, h2, h3, h4, h5⟩ := h c (by omega)
    simp only [q_othm]
    rw [othm_cg c (fun k hk => h k (by omega)), h0, h1, h2, h3, h4, h5]
theorem totm_mf {a1 a2 a3 a4 : Nat → Nat → Int32} {sm : Nat → Int64} {mf mg : Nat → Nat} {nm rl dy : Int32} {mo : Bool} : ∀ c, (∀ i, i < c → mf i = mg i) → q_totm a1 a2 a3 a4 sm mf nm rl dy mo c = q_totm a1 a2 a3 a4 sm mg nm rl dy mo c
  | 0, _ => rfl
  | c + 1, h => by
    simp only [q_totm]
    rw [totm_mf c (fun i hi => h i (by omega)), h c (by omega)]
theorem rmM_mf {τ : kS} {mf mg : Nat → Nat} {c bk r : Nat} {nm : Int32} (h : ∀ i, i < c → mf i = mg i) : q_rmM τ mf c bk nm r = q_rmM τ mg c bk nm r := by
  show q_rm2 (zI τ 74 (8 * bk + r)) (zI τ 69 (8 * bk + r)) (q_totm _ _ _ _ _ mf nm (nI r) (zI τ 49 13) true c) (q_rm1 (zI τ 74 (8 * bk + r)) (zI τ 68 (8 * bk + r)) (q_totm _ _ _ _ _ mf nm (nI r) (zI τ 49 13) false c)) = _
  rw [totm_mf (mg := mg) c h, totm_mf (mg := mg) c h]
theorem rmM_G {σ ρ τ : kS} {n c bk r : Nat} {nm : Int32} {mf' : Nat → Nat} (hS : mSame σ ρ) (hP : iPp σ n c) (hG : kFg (exG c) ρ τ) (hm : ∀ i, i < c → mf' i = cN σ 83 i) : q_rmM τ mf' c bk nm r = q_rmM σ (cN σ 83) c bk nm r := by
  have hc := hP.1.2.1.1
  rw [rmM_mf hm]
  refine rmM_cg (fun i hi => h_m8 hP (by omega)) (fun x k w => ?_)
  rw [kFg_i hG (fun w2 => by have := exG_T w2; omega), hS.1 x k (by omega) (by omega)]
theorem lN_of {v : Int64} {S : Nat} (hS : S ≤ 1000000) (h1 : -1 ≤ v.toInt) (h2 : v.toInt = -1 ∨ v.toInt < S) : v = -1 ∨ ∃ S2, S2 < S ∧ v = lN S2 := by
  by_cases c : v.toInt = -1
  · refine Or.inl (Int64.toInt_inj.mp ?_)
    rw [c]; decide
  · refine Or.inr ⟨v.toInt.toNat, by omega, Int64.toInt_inj.mp ?_⟩
    rw [lN_toInt (by omega)]
    omega
theorem fP_rl {n : Nat} {ro : Nat → Int32} {E : Nat → Nat → Prop} {aw : Nat → Bool} {set : Int32} {ok : Nat → Nat → Prop} {rl rl2 : Nat → Nat} {j : Nat} {U : Int32} {x : Nat} (h : rl j = rl2 j) : fP n ro E aw set ok rl j U x = fP n ro E aw set ok rl2 j U x := by
  unfold fP
  rw [h]
theorem allT_T {n : Nat} {set : Int32} (h : q_allT (nI n) set = true) : ¬ set < 0 ∧ ¬ (1 : Int32) <<< (nI n &&& 31) ≤ set := by
  unfold q_allT at h
  split at h
  · cases h
  next c1 =>
  split at h
  · cases h
  next c2 => exact ⟨c1, c2⟩
theorem allT_F {n : Nat} {set : Int32} (h1 : ¬ set < 0) (h2 : ¬ (1 : Int32) <<< (nI n &&& 31) ≤ set) : q_allT (nI n) set = true := by
  unfold q_allT
  rw [if_neg h1, if_neg h2]
theorem p_greatest {d : Nat} {σ : kS} {kind place maker set : Int32} {urg : Bool} {Q : Option Value → kS → Prop} (hI : Inv σ) (h : ∀ v τ, kOK τ → kMt yX7_greatest mX7_greatest (d + 30) [.ref 49, .int kind, .int place, .int (kb urg), .int maker, .int set] τ (.int v) → Q (some (.int v)) τ) : kCt yX6_greatest mX6_greatest (d + 30) 0 0 [.ref 0, .int kind, .int place, .int (kb urg), .int maker, .int set] σ Q := by
  have hII := hI
  obtain ⟨hO, n, s, m, c, b, b2, bk, C, td, sp, L, hE, hP, hB, hT, hA, hW⟩ := hI
  have hc := hP.1.2.1.1
  have hn := hE.1.1
  have hb := iB_b hB
  have htd : zI σ 49 13 = zI σ 0 6 := by rw [hT.1.2.2, hT.1.2.1]
  have hbk := hB.2.2.2.2.1
  have e12 : zI σ 12 1 = nI c := hP.1.2.1.2.1
  have s0 : q_sum 0 = true := by decide
  have hrr66 : ∀ (ρ : kS), mSame σ ρ → ∀ r k, r < b_nr C → k < b_so C r → rrF C r k < 8 ∧ zI ρ 66 (8 * (20 * bk + r) + k) = nI (rrF C r k) := fun ρ hS r k hr hk => by
    have w := h_rr hB r k hr hk
    exact ⟨w.1, by rw [hS.1 66 _ (by omega) (by omega), (h_st hB hr hk).1]; exact w.2⟩
  refine c_X6_greatest (d := d + 18) (rr := rrF C) (h_cHy hO hE hP hB) (h_kBr hB) (h_rr hB) (fun a => ?_) (fun a1 a2 mk τ1 hmk ek hF1 h17 h18 _ res τ hg hF => ?_)
  · refine h _ _ hO (fun Q2 kk => ?_)
    refine c_X7_greatest (d := d + 26) (mf := cN σ 83) (rr := rrF C) (rl := fun _ => none) (gg := fun _ => none) (nx := fun _ => 0) hO (h_mPe hE) (h_kMp hP) (h_kMs hP) (h_kMr hB) (hrr66 σ ⟨fun _ _ _ _ => rfl, fun _ => rfl⟩) (fun _ => kk _ hII) (fun g1 g2 g3 g4 g5 => ?_)
    exfalso
    rw [hE.1.2.2] at g2 g4
    have w := canB_P (n := n) (c := c) g1 g2 g5
    rw [hE.1.2.1, e12, w.1, allT_F g3 g4] at a
    rcases a with a | a <;> cases a
  · have hS : mSame σ τ := ⟨fun x k g1 g2 => kFr_i hF (fun w => by have := eSx_T w; omega), fun k => kFr_l hF (fun w => by have := eSx_T w; omega)⟩
    have hO1 : kOK τ := kOK_cg (by rw [hF.1]; omega) hF.2.1 hO
    rw [hE.1.2.1, e12] at a1
    rw [hE.1.2.1] at a2
    have ab := canP_B (n := n) (c := c) (sum := 0) hc a1 s0
    have at2 := allT_T a2
    have ht13 : zI τ 49 13 = nI td := by rw [hS.1 49 13 (by omega) (by omega)]; exact hT.1.2.2
    have hs62 : zI τ 49 62 = nI sp := by rw [hS.1 49 62 (by omega) (by omega)]; exact hT.2.2.2
    have o := oth_P (σc := σ) (σm := τ) (num := nI c) (kind := kind) (maker := maker) (place := place) (td := td) (sp := sp) (c := c) (by omega) hT.1.1 hT.2.1 (fun k hk => by
      have P := hP.2.2 k hk
      rw [hS.1 77 k (by omega) (by omega), hS.1 78 k (by omega) (by omega), hS.1 79 k (by omega) (by omega), hS.1 80 k (by omega) (by omega), hS.1 82 k (by omega) (by omega), hS.1 81 k (by omega) (by omega)]
      exact ⟨P.1.1, P.1.2.1, P.1.2.2.1, P.1.2.2.2.1, P.1.2.2.2.2.2.1, P.1.2.2.2.2.2.2.2.1, P.2.1.1, P.2.1.2.2.2⟩) ht13 hs62
    obtain ⟨oth, o1, o2⟩ := o.2
    have ho : oth ≤ 50000000 := by omega
    have oJ : q_othM τ (nI c) kind maker place c = lN oth := by rw [o.1, o2, nI_l (by omega)]
    have oC : q_othσ σ (-1) kind maker place (zI σ 0 6 - zI σ 0 7) c = nI oth := by
      rw [hT.1.2.1, hT.2.2.1, ← o2]
      exact oth_num c (fun k hk => ⟨fun w => by
        have := nI_pos (n := k) (by omega)
        rw [w] at this
        exact absurd (by decide) this, fun w => by
        have := jeq w (by omega) (by omega)
        omega⟩)
    rw [oC] at hg
    refine h _ _ hO1 (fun Q2 kk => ?_)
    refine c_X7_greatest (d := d + 26) (mf := cN σ 83) (rr := rrF C) (rl := gRl σ b C kind place urg oth) (gg := gGg σ n s m c b C kind place set urg oth mk) (nx := fun S => mNx σ bk (b_nr C) m n c (b_fo C) (b_eo C) (cN σ 83) (lN oth) (lN S)) hO1 (mPe_ms hS (h_mPe hE)) (kMp_ms hS (h_kMp hP)) (kMs_ms hS (h_kMs hP)) (kMr_ms hS (h_kMr hB)) (hrr66 τ hS) (fun w => ?_) (fun _ _ _ _ c40 => ⟨fun S τ' S1 hG => ?_, fun S r τ' mf' S1 r1 erl hG h78 hact hm' => ?_, fun S τ' mf' S1 hG hm' => ?_, fun S S1 => ?_, fun res' τ2 hr hG h9 => ?_⟩)
    · rw [hS.1 49 10 (by omega) (by omega), hE.1.2.2] at w
      rw [ab.1, ab.2.1] at w
      rcases w with w | w | w | w | w
      · cases w
      · cases w
      · exact absurd w at2.1
      · exact absurd w at2.2
      · omega
    · -- the rule
      obtain ⟨v77, v78, v79, v80, v91⟩ := mset_v (ρ := τ') (i := c) (kind := kind) (sum := nI S) (maker := maker) (place := place) (urg := urg)
      have row : ∀ x, ¬ (77 ≤ x ∧ x ≤ 97) → 50 ≤ x → ¬ x = 76 → zI (q_mb (q_mset τ' c kind (nI S) maker place urg) c c) x = zI σ x := fun x g1 g2 g3 => funext fun k => by
        by_cases g4 : x ≤ 97
        · rw [mb_I (by omega), mset_I (by omega), kFg_i hG (fun w => by have := exG_T w; omega), hS.1 x k (by omega) g4]
        · rw [mb_I (by omega), mset_I (by omega), kFg_i hG (fun w => by have := exG_T w; omega), kFr_i hF (fun w => by have := eSx_T w; omega)]
      have J : zL (q_mb (q_mset τ' c kind (nI S) maker place urg) c c) 90 c = (nI oth + nI S).toInt64 := by
        have eo : q_othM (sI (q_mset τ' c kind (nI S) maker place urg) 81 c (zI (q_mset τ' c kind (nI S) maker place urg) 49 13)) (nI c) kind maker place c = q_othM τ (nI c) kind maker place c := by
          have z : ∀ x k, k < c → (77 ≤ x ∧ x ≤ 82) ∨ (x = 49 ∧ (k = 13 ∨ k = 62)) → zI (sI (q_mset τ' c kind (nI S) maker place urg) 81 c (zI (q_mset τ' c kind (nI S) maker place urg) 49 13)) x k = zI τ x k := fun x k g1 g2 => by
            rw [zI_sI, if_neg (by omega), mset_I (by omega), kFg_i hG (fun w => by have := exG_T w; omega)]
          have z13 : ∀ k, k = 13 ∨ k = 62 → zI (sI (q_mset τ' c kind (nI S) maker place urg) 81 c (zI (q_mset τ' c kind (nI S) maker place urg) 49 13)) 49 k = zI τ 49 k := fun k g => by
            rw [zI_sI, if_neg (by omega), mset_I (by omega), kFg_i hG (fun w => by have := exG_T w; omega)]
          show q_othm (nI c) _ _ _ _ _ _ kind maker place (zI (sI (q_mset τ' c kind (nI S) maker place urg) 81 c (zI (q_mset τ' c kind (nI S) maker place urg) 49 13)) 49 13) (zI (sI (q_mset τ' c kind (nI S) maker place urg) 81 c (zI (q_mset τ' c kind (nI S) maker place urg) 49 13)) 49 62) c = q_othm (nI c) _ _ _ _ _ _ kind maker place (zI τ 49 13) (zI τ 49 62) c
          rw [z13 13 (Or.inl rfl), z13 62 (Or.inr rfl)]
          exact othm_cg c (fun k hk => ⟨z 77 k hk (by omega), z 78 k hk (by omega), z 79 k hk (by omega), z 80 k hk (by omega), z 82 k hk (by omega), z 81 k hk (by omega)⟩)
        rw [q_mb, zL_sL, if_pos ⟨rfl, rfl⟩, v77, v78, v79, v80, eo, oJ, nI_l (by omega), nI_add, nI_l (by omega), lN_add, Nat.add_comm]
      rw [rfM_ro (σ := σ) (row 62 (by omega) (by omega) (by omega)) (row 70 (by omega) (by omega) (by omega)) (row 71 (by omega) (by omega) (by omega)), h_rule hB J, v77, v80]
      rfl
    · -- the search
      rw [gGg_s erl, ek]
      refine mG_congr (fun j U x hj hx => ?_) _ (Nat.le_refl _) _ _
      have rj := (h_rr hB r j r1 hj).1
      have key := ftM_P (τ := τ') (i := c) (c := c) (bk := bk) (S := S) (j := j) (x := x) (mf := mf') (rf := rrF C r) (osl := oslL (List.range (b_so C r))) (set := set) (U := U) (ro := zI σ 2) (E := aEM σ s m (cN σ 6) (cN σ 7) (nI S) (zI σ 0 6)) (aw := awM σ (zI σ 0 6) s) (R := fun q r => rmI σ c C (zI σ 0 6) q r) hn hx (fun q hq => ?_) (fun q hq => ?_) S1 h78 (fun q r2 hq hr2 => ?_) (by rw [oslL_r hj]; exact rj)
      · rw [key]
        exact fP_rl (by show rrF C r (oslL (List.range (b_so C r)) j) = rrF C r j; rw [oslL_r hj])
      · rw [kFg_i hG (fun w => by have := exG_T w; omega), hS.1 50 q (by omega) (by omega)]; exact hE.2.2.2.1 q hq
      · have a := hact q hq
        rw [(aEM_ms hS).1, (aEM_ms (sum := 0) (m := m) (ofn := cN σ 6) (byn := cN σ 7) hS).2, hS.1 49 13 (by omega) (by omega), htd] at a
        exact a
      · rw [rmM_G hS hP hG hm']
        exact room_M hn hP hB htd hq hr2
    · -- the next sum
      rw [oJ]
      have rf : (fun q r => q_rmM τ' mf' c bk (nI q) r) = fun q r => q_rmM σ (cN σ 83) c bk (nI q) r := funext fun q => funext fun r => rmM_G hS hP hG hm'
      have row : ∀ x, x = 58 ∨ x = 70 ∨ x = 71 → zI τ' x = zI σ x := fun x hx => funext fun k => by rw [kFg_i hG (fun w => by have := exG_T w; omega), hS.1 x k (by omega) (by omega)]
      unfold mNx
      rw [rf, row 58 (by omega), row 70 (by omega), row 71 (by omega)]
    · have w := nx_M (σ := σ) (n := n) (m := m) (c := c) (bk := bk) (C := C) (oth := oth) S1
      exact lN_of S1 w.1 (w.2.1.imp id (fun g => g.2))
    · have hC : ∀ S : Nat, S ≤ 1000000 → bst (S : Int) (KC σ n m c b C kind oth) (cNx τ1 n m b (b_nr C) (b_fo C) (b_eo C) kind (nI oth) (nI S)).toInt := fun S S1 => nx_C hB hF1 h17 h18 S1
      have gc := gR_c (An := gAn (gRl σ b C kind place urg oth) (gGg σ n s m c b C kind place set urg oth mk)) (nC := fun S => (cNx τ1 n m b (b_nr C) (b_fo C) (b_eo C) kind (nI oth) (nI S)).toInt) (fun S v S1 hv => ans_C hE hP hB hF1 S1 hv) (fun S S1 => ⟨rfl, by
        have w := hC S S1
        rcases w.2.1 with g | g
        · show (cNx τ1 n m b (b_nr C) (b_fo C) (b_eo C) kind (nI oth) (nI S)).toInt ≤ 1000000
          omega
        · show (cNx τ1 n m b (b_nr C) (b_fo C) (b_eo C) kind (nI oth) (nI S)).toInt ≤ 1000000
          omega⟩) 1000 1000000 ((1000000 : Nat) : Int) (by decide) (by omega) hg
      have gm := mR_of 1000001 1000000 res' (Nat.le_refl _) hr
      have eq := great_eq hC (fun S S1 => nx_M S1) (fun v g1 g2 g3 => KM hE hP hB htd ho g1 g2 g3) (fun S2 S g1 g2 g3 => An_const hE hP hB ho g1 g2 g3) (fun v g1 _ => LK_in hB g1) 1000001 1000000 1000001 1000 res' res (by omega) (Nat.le_refl _) gm gc (LK_len hE hB)
      rw [← eq]
      refine kk _ (Inv_scr (σ := σ) (by rw [hG.1, hF.1]) (by rw [hG.2.1, hF.2.1]) hII (fun c2 hc2 hc3 => ?_))
      have ec : c2 = c := jeq (hc2.symm.trans hP.1.2.2) (by omega) (by omega)
      subst ec
      refine ⟨fun x k g1 g2 g3 g4 => ?_, fun k hk => ?_, Or.inl h9⟩
      · unfold scr at g1
        rw [kFg_i hG (fun w => by have := exG_T w; omega), kFr_i hF (fun w => by have := eSx_T w; omega)]
      · rw [kFg_l hG (fun w => by have := exG_T w; omega), kFr_l hF (fun w => by have := eSx_T w; omega)]
