/-! what a book is like that the reader has read; written by hand -/
def odK (v : Int32) : Prop := ∃ n, n < 10000000 ∧ v = nI n
def limK (v : Int32) : Prop := v = 1000000000 ∨ odK v
/-- codes are added to the newest rule -/
def bX (B C : kB) : Prop := b_no B ≤ b_no C ∧ (∀ k, k < b_no B → b_op C k = b_op B k ∧ b_od C k = b_od B k) ∧ (∀ k, b_no B ≤ k → k < b_no C → odK (b_od C k)) ∧ (b_nr C = b_nr B ∧ b_kd C = b_kd B ∧ b_fo C = b_fo B ∧ b_so C = b_so B ∧ b_rl C = b_rl B ∧ b_st C = b_st B) ∧ (∀ i, ¬ i = b_nr B - 1 → b_eo C i = b_eo B i) ∧ ((b_no B < b_no C → b_eo C (b_nr B - 1) = b_no C) ∧ (b_no B = b_no C → b_eo C (b_nr B - 1) = b_eo B (b_nr B - 1))) ∧ (b_nl C = b_nl B ∧ b_dl C = b_dl B ∧ b_ml C = b_ml B)
theorem bX_rf {B : kB} : bX B B := ⟨Nat.le_refl _, fun _ _ => ⟨rfl, rfl⟩, fun k h1 h2 => absurd h2 (Nat.not_lt.mpr h1), ⟨rfl, rfl, rfl, rfl, rfl, rfl⟩, fun _ _ => rfl, ⟨fun h => absurd h (Nat.lt_irrefl _), fun _ => rfl⟩, rfl, rfl, rfl⟩
theorem bX_tr {B C D : kB} (h : bX B C) (g : bX C D) : bX B D := by
  obtain ⟨h1, h2, h3, ⟨h41, h42, h43, h44, h45, h46⟩, h5, ⟨h61, h62⟩, h71, h72, h73⟩ := h
  obtain ⟨g1, g2, g3, ⟨g41, g42, g43, g44, g45, g46⟩, g5, ⟨g61, g62⟩, g71, g72, g73⟩ := g
  rw [h41] at g5 g61 g62
  refine ⟨by omega, fun k hk => ⟨(g2 k (by omega)).1.trans (h2 k hk).1, (g2 k (by omega)).2.trans (h2 k hk).2⟩, fun k k1 k2 => ?_, ⟨g41.trans h41, g42.trans h42, g43.trans h43, g44.trans h44, g45.trans h45, g46.trans h46⟩, fun i hi => (g5 i hi).trans (h5 i hi), ⟨fun w => ?_, fun w => ?_⟩, g71.trans h71, g72.trans h72, g73.trans h73⟩
  · by_cases c : k < b_no C
    · rw [(g2 k c).2]; exact h3 k k1 c
    · exact g3 k (by omega) k2
  · by_cases c : b_no C < b_no D
    · exact g61 c
    · rw [g62 (by omega), h61 (by omega)]; omega
  · rw [g62 (by omega), h62 (by omega)]
theorem bX_op {B : kB} {c v : Int32} (hv : odK v) : bX B (b_addOp B c v) := by
  refine ⟨Nat.le_succ _, fun k hk => ⟨upd_o (by omega), upd_o (by omega)⟩, fun k k1 k2 => ?_, ⟨rfl, rfl, rfl, rfl, rfl, rfl⟩, fun i hi => updN_o hi, ⟨fun _ => updN_s, fun w => ?_⟩, rfl, rfl, rfl⟩
  · have e : k = b_no B := by
      have : k < b_no B + 1 := k2
      omega
    subst e
    show odK (upd (b_od B) (b_no B) v (b_no B))
    rw [upd_s]; exact hv
  · have : b_no B = b_no B + 1 := w
    omega
theorem bX_t {B : kB} {c v : Int32} (hv : odK v) : bX B (b_addT B c v) := bX_op (B := b_tst B) hv
theorem op_addOp {B : kB} {c v : Int32} : b_op (b_addOp B c v) (b_no B) = c := upd_s
theorem op_addT {B : kB} {c v : Int32} : b_op (b_addT B c v) (b_no B) = c := upd_s
theorem odK_0 : odK 0 := ⟨0, by omega, rfl⟩
theorem odK_tN {X : TX} {p : Nat} (hp : p ≤ X.2) (h : tT X p = 2) : odK (tN X p) := ⟨tNv X p, (tN_n hp h).2, (tN_n hp h).1⟩
/-- a reader of a part that leaves one value more -/
def uF (X : TX) (f : Nat → kB → PR) (M : Nat) : Prop := ∀ p B q C, p ≤ X.2 → f p B = .inr (q, C) → bX B C ∧ uW (b_op C) M (b_no B) (b_no C)
theorem uX {B C : kB} {M g : Nat} (hX : bX B C) (h : uW (b_op B) M g (b_no B)) : uW (b_op C) M g (b_no B) := uW_cg (fun k hk => ((hX.2.1 k hk).1).symm) h
theorem uX2 {B C D : kB} {M f : Nat} (hX : bX C D) (h : uW (b_op C) M f (b_no C)) : uW (b_op D) M f (b_no C) := uX hX h
/-- one part more, joined by a code -/
theorem uJ {B C : kB} {M N g0 : Nat} {c : Int32} (hc : c = 5 ∨ c = 6) (hX : bX B C) (hU : uW (b_op C) M (b_no B) (b_no C)) (h0 : uW (b_op B) N g0 (b_no B)) (hM : M + 1 ≤ N) : bX B (b_addOp C c 0) ∧ uW (b_op (b_addOp C c 0)) N g0 (b_no (b_addOp C c 0)) := by
  have hY : bX C (b_addOp C c 0) := bX_op odK_0
  refine ⟨bX_tr hX hY, ?_⟩
  rw [no_addOp]
  have a1 : uW (b_op (b_addOp C c 0)) N g0 (b_no B) := uX (bX_tr hX hY) h0
  have a2 : uW (b_op (b_addOp C c 0)) M (b_no B) (b_no C) := uX hY hU
  exact uW_bin a1 a2 (Nat.le_refl _) hM (by rw [op_addOp]; exact hc)
theorem pAnd1_u {X : TX} {f : Nat → kB → PR} {M : Nat} (hg : pgf X f) (hu : uF X f M) : ∀ (k p : Nat) (B : kB) (q : Nat) (C : kB) (g0 : Nat), p ≤ X.2 → pAnd1 X f k p B = .inr (q, C) → uW (b_op B) (M + 1) g0 (b_no B) → bX B C ∧ uW (b_op C) (M + 1) g0 (b_no C)
  | 0, p, B, q, C, g0, hp, h, h0 => by
    simp only [pAnd1, Sum.inr.injEq, Prod.mk.injEq] at h
    rw [← h.2]
    exact ⟨bX_rf, h0⟩
  | k + 1, p, B, q, C, g0, hp, h, h0 => by
    simp only [pAnd1] at h
    split at h
    · obtain ⟨q1, C1, h1, h2⟩ := prb_ok h
      have a := hu _ _ _ _ (tE_p hp).2 h1
      have b := hg _ _ _ _ (tE_p hp).2 h1
      have j := uJ (Or.inl rfl) a.1 a.2 h0 (Nat.le_refl _)
      have ih := pAnd1_u hg hu k q1 _ q C g0 b.2.2.1 h2 j.2
      exact ⟨bX_tr j.1 ih.1, ih.2⟩
    · simp only [Sum.inr.injEq, Prod.mk.injEq] at h
      rw [← h.2]
      exact ⟨bX_rf, h0⟩
theorem pConj_u {X : TX} {f : Nat → kB → PR} {M : Nat} (hg : pgf X f) (hu : uF X f M) {p : Nat} {B : kB} {q : Nat} {C : kB} (hp : p ≤ X.2) (h : pConj X f p B = .inr (q, C)) : bX B C ∧ uW (b_op C) (M + 1) (b_no B) (b_no C) := by
  obtain ⟨q1, C1, h1, h2⟩ := prb_ok h
  have a := hu _ _ _ _ (tE_p hp).2 h1
  have b := hg _ _ _ _ (tE_p hp).2 h1
  have r := pAnd1_u hg hu 999 q1 C1 q C (b_no B) b.2.2.1 h2 (uW_mono a.2 (by omega))
  exact ⟨bX_tr a.1 r.1, r.2⟩
theorem pOr1_u {X : TX} {f : Nat → kB → PR} {M : Nat} (hg : pgf X f) (hu : uF X f M) : ∀ (k p : Nat) (B : kB) (q : Nat) (C : kB) (g0 : Nat), p ≤ X.2 → pOr1 X f k p B = .inr (q, C) → uW (b_op B) (M + 2) g0 (b_no B) → bX B C ∧ uW (b_op C) (M + 2) g0 (b_no C)
  | 0, p, B, q, C, g0, hp, h, h0 => by
    simp only [pOr1] at h
    split at h
    · cases h
    · simp only [Sum.inr.injEq, Prod.mk.injEq] at h
      rw [← h.2]
      exact ⟨bX_rf, h0⟩
  | k + 1, p, B, q, C, g0, hp, h, h0 => by
    simp only [pOr1] at h
    split at h
    · obtain ⟨q1, C1, h1, h2⟩ := prb_ok h
      have a := pConj_u hg hu hp h1
      have b := pConj_g hg hp h1
      have j := uJ (Or.inr rfl) a.1 a.2 h0 (Nat.le_refl _)
      have ih := pOr1_u hg hu k q1 _ q C g0 b.2.2.1 h2 j.2
      exact ⟨bX_tr j.1 ih.1, ih.2⟩
    · simp only [Sum.inr.injEq, Prod.mk.injEq] at h
      rw [← h.2]
      exact ⟨bX_rf, h0⟩
theorem pEit_u {X : TX} {f : Nat → kB → PR} {M : Nat} (hg : pgf X f) (hu : uF X f M) {p : Nat} {B : kB} {q : Nat} {C : kB} (hp : p ≤ X.2) (h : pEit X f p B = .inr (q, C)) : bX B C ∧ uW (b_op C) (M + 2) (b_no B) (b_no C) := by
  obtain ⟨q1, C1, h1, h2⟩ := prb_ok h
  have a := pConj_u hg hu hp h1
  have b := pConj_g hg hp h1
  have r := pOr1_u hg hu 999 q1 C1 q C (b_no B) b.2.2.1 h2 (uW_mono a.2 (by omega))
  exact ⟨bX_tr a.1 r.1, r.2⟩
theorem uT {B : kB} {c v : Int32} {M : Nat} (hc : c = 0 ∨ c = 1 ∨ c = 2 ∨ c = 3) (hv : odK v) (hM : 1 ≤ M) : bX B (b_addT B c v) ∧ uW (b_op (b_addT B c v)) M (b_no B) (b_no (b_addT B c v)) := by
  refine ⟨bX_t hv, ?_⟩
  rw [no_addT]
  exact uW_test (by rw [op_addT]; exact hc) hM
theorem pSum2_u {X : TX} {c : Int32} {p : Nat} {B : kB} {q : Nat} {C : kB} {M : Nat} (hc : c = 0 ∨ c = 1) (hM : 1 ≤ M) (hp : p ≤ X.2) (h : pSum2 X c p B = .inr (q, C)) : bX B C ∧ uW (b_op C) M (b_no B) (b_no C) := by
  unfold pSum2 at h
  split at h
  · next t =>
    simp only [Sum.inr.injEq, Prod.mk.injEq] at h
    rw [← h.2]
    exact uT (hc.elim Or.inl (fun e => Or.inr (Or.inl e))) (odK_tN hp t) hM
  · cases h
theorem pOne_u {X : TX} : ∀ (n : Nat), uF X (pOne X n) (2 * n)
  | 0, p, B, q, C, hp, h => by cases h
  | n + 1, p, B, q, C, hp, h => by
    have hu := pOne_u (X := X) n
    have hg := pOne_g (X := X) n
    simp only [pOne] at h
    split at h
    · obtain ⟨q1, C1, h1, h2⟩ := prb_ok h
      have a := pEit_u hg hu hp h1
      have b := pEit_g hg hp h1
      have t := pTake_g b.2.2.1 h2
      rw [t.2.1]
      exact a
    split at h
    · obtain ⟨q1, C1, h1, h2⟩ := prb_ok h
      have a := hu _ _ _ _ (tE_p hp).2 h1
      simp only [Sum.inr.injEq, Prod.mk.injEq] at h2
      rw [← h2.2]
      have hY : bX C1 (b_addOp C1 4 0) := bX_op odK_0
      refine ⟨bX_tr a.1 hY, ?_⟩
      rw [no_addOp]
      exact uW_not (uW_mono (uX hY a.2) (by omega)) op_addOp
    split at h
    · unfold pSum at h
      split at h
      · split at h
        · exact pSum2_u (Or.inl rfl) (by omega) (tE_p (tE_p hp).2).2 h
        split at h
        · exact pSum2_u (Or.inr rfl) (by omega) (tE_p (tE_p hp).2).2 h
        · cases h
      · cases h
    split at h
    · unfold pPlc at h
      split at h
      · split at h
        · unfold pPlc2 at h
          split at h
          · next t =>
            split at h
            · simp only [Sum.inr.injEq, Prod.mk.injEq] at h
              rw [← h.2]
              exact uT (Or.inr (Or.inr (Or.inl rfl))) (odK_tN (tE_p (tE_p hp).2).2 t) (by omega)
            · cases h
          · cases h
        · cases h
      · cases h
    split at h
    · unfold pUrg at h
      split at h
      · simp only [Sum.inr.injEq, Prod.mk.injEq] at h
        rw [← h.2]
        exact uT (Or.inr (Or.inr (Or.inr rfl))) odK_0 (by omega)
      · cases h
    · cases h
/-- slots are added to the newest rule -/
def sX (B C : kB) : Prop := (b_nr C = b_nr B ∧ b_kd C = b_kd B ∧ b_fo C = b_fo B ∧ b_eo C = b_eo B) ∧ C.2 = B.2 ∧ (∀ i, ¬ i = b_nr B - 1 → b_so C i = b_so B i) ∧ b_so B (b_nr B - 1) ≤ b_so C (b_nr B - 1) ∧ (∀ i k, k < 8 → (¬ i = b_nr B - 1 ∨ k < b_so B (b_nr B - 1)) → b_rl C (8 * i + k) = b_rl B (8 * i + k)) ∧ ∀ k, b_so B (b_nr B - 1) ≤ k → k < b_so C (b_nr B - 1) → ∃ r, r < 8 ∧ b_rl C (8 * (b_nr B - 1) + k) = nI r
theorem sX_rf {B : kB} : sX B B := ⟨⟨rfl, rfl, rfl, rfl⟩, rfl, fun _ _ => rfl, Nat.le_refl _, fun _ _ _ _ => rfl, fun k h1 h2 => absurd h2 (Nat.not_lt.mpr h1)⟩
theorem sX_tr {B C D : kB} (h8 : b_so D (b_nr B - 1) ≤ 8) (h : sX B C) (g : sX C D) : sX B D := by
  obtain ⟨⟨h1, h2, h3, h4⟩, h5, h6, h7, h9, h10⟩ := h
  obtain ⟨⟨g1, g2, g3, g4⟩, g5, g6, g7, g9, g10⟩ := g
  rw [h1] at g6 g7 g9 g10
  refine ⟨⟨g1.trans h1, g2.trans h2, g3.trans h3, g4.trans h4⟩, g5.trans h5, fun i hi => (g6 i hi).trans (h6 i hi), by omega, fun i k k8 w => ?_, fun k k1 k2 => ?_⟩
  · rw [g9 i k k8 (w.imp id (fun w => by omega)), h9 i k k8 w]
  · by_cases c : k < b_so C (b_nr B - 1)
    · obtain ⟨r, r1, r2⟩ := h10 k k1 c
      exact ⟨r, r1, by rw [g9 _ k (by omega) (Or.inr c)]; exact r2⟩
    · exact g10 k (by omega) k2
theorem sX_1 {B : kB} {r : Nat} {s : Int32} (hr : r < 8) (h8 : b_so B (b_nr B - 1) < 8) : sX B (b_s1 B (nI r) s) ∧ b_so (b_s1 B (nI r) s) (b_nr B - 1) = b_so B (b_nr B - 1) + 1 := by
  have e : b_so (b_s1 B (nI r) s) (b_nr B - 1) = b_so B (b_nr B - 1) + 1 := updN_s
  refine ⟨⟨⟨rfl, rfl, rfl, rfl⟩, rfl, fun i hi => updN_o hi, by omega, fun i k k8 w => upd_o (by omega), fun k k1 k2 => ?_⟩, e⟩
  rw [e] at k2
  have ek : k = b_so B (b_nr B - 1) := by omega
  subst ek
  exact ⟨r, hr, upd_s⟩
theorem sX_S {r : Nat} {s : Int32} (hr : r < 8) : ∀ (n : Nat) (B : kB), b_so B (b_nr B - 1) + n ≤ 8 → sX B (b_addS (nI r) s n B) ∧ b_so (b_addS (nI r) s n B) (b_nr B - 1) = b_so B (b_nr B - 1) + n
  | 0, B, _ => ⟨sX_rf, rfl⟩
  | n + 1, B, h => by
    rw [b_addS_s]
    have a := sX_1 (B := B) (r := r) (s := s) hr (by omega)
    have en : b_nr (b_s1 B (nI r) s) = b_nr B := rfl
    have b := sX_S (s := s) hr n (b_s1 B (nI r) s) (by rw [en, a.2]; omega)
    rw [en] at b
    have e2 : b_so (b_addS (nI r) s n (b_s1 B (nI r) s)) (b_nr B - 1) = b_so B (b_nr B - 1) + (n + 1) := by rw [b.2, a.2]; omega
    exact ⟨sX_tr (by omega) a.1 b.1, e2⟩
theorem kc_nI2 {k : Nat} (h : k < 10000000) : (nI k).toNatClampNeg = k := nI_clamp (by omega)
/-- slots came, one at the least, at most eight -/
def sY (B C : kB) : Prop := sX B C ∧ b_so B (b_nr B - 1) < b_so C (b_nr B - 1) ∧ b_so C (b_nr B - 1) ≤ 8
theorem pNeed_s {X : TX} {s : Int32} {p q : Nat} {B C : kB} (hp : p ≤ X.2) (h : pNeed X s p B = .inr (q, C)) : sY B C := by
  unfold pNeed at h
  split at h
  · next t =>
    split at h
    · cases h
    next c1 =>
    split at h
    · cases h
    split at h
    · next c3 =>
      split at h
      · next c4 =>
        simp only [Sum.inr.injEq, Prod.mk.injEq] at h
        obtain ⟨e1, e2⟩ := isR_I c4
        have hn := tN_n hp t
        rw [hn.1, kc_nI2 hn.2] at c3
        have hv : 1 ≤ tNv X p := by
          rw [hn.1] at c1
          exact jnlt (b := 1) c1 (by have := hn.2; omega) (by omega)
        rw [← h.2, e1, hn.1, kc_nI2 hn.2]
        have r := sX_S (s := s) e2 (tNv X p) B c3
        exact ⟨r.1, by rw [r.2]; omega, by rw [r.2]; exact c3⟩
      · cases h
    · cases h
  · cases h
theorem sY_tr {B C D : kB} (h : sY B C) (g : sY C D) : sY B D := by
  have e := h.1.1.1
  unfold sY at g
  rw [e] at g
  refine ⟨sX_tr g.2.2 h.1 g.1, ?_, g.2.2⟩
  have := h.2.1
  have := g.2.1
  omega
theorem pSteps_s {X : TX} : ∀ (k s n p : Nat) (B : kB) (q : Nat) (C : kB), p ≤ X.2 → pSteps X k s n p B = .inr (q, C) → sY B C
  | 0, s, n, p, B, q, C, hp, h => by cases h
  | k + 1, s, n, p, B, q, C, hp, h => by
    simp only [pSteps] at h
    obtain ⟨q1, C1, h1, h2⟩ := prb_ok h
    have a := pNeed_s (tE_p hp).2 h1
    have b := pNeed_le (tE_p hp).2 h1
    split at h2
    · exact sY_tr a (pSteps_s k _ _ q1 C1 q C b h2)
    split at h2
    · exact sY_tr a (pSteps_s k _ _ q1 C1 q C b h2)
    · have t := pTake_g b h2
      rw [t.2.1]; exact a
theorem pStp_s {X : TX} {p q : Nat} {B C : kB} (hp : p ≤ X.2) (h : pStp X p B = .inr (q, C)) : sY B C := by
  unfold pStp at h
  split at h
  · exact pSteps_s 12 0 0 p B q C hp h
  · cases h
/-- the first m rules of a book can be reckoned and have slots -/
def bGood (m : Nat) (B : kB) : Prop := (∀ i, i < m → (b_fo B i ≤ b_eo B i ∧ b_eo B i ≤ b_no B ∧ (b_fo B i = b_eo B i ∨ uW (b_op B) 18 (b_fo B i) (b_eo B i))) ∧ (1 ≤ b_so B i ∧ b_so B i ≤ 8) ∧ ∀ k, k < b_so B i → ∃ r, r < 8 ∧ b_rl B (8 * i + k) = nI r) ∧ (∀ k, k < b_no B → odK (b_od B k)) ∧ ∀ r, r < 8 → limK (b_dl B r) ∧ limK (b_ml B r)
theorem bGood_ini {B : kB} (h : bIni B) : bGood (b_nr B) B := by
  obtain ⟨h1, h2, h3, h4, h5⟩ := h
  rw [h1]
  exact ⟨fun i hi => absurd hi (Nat.not_lt_zero _), fun k hk => by omega, fun r hr => ⟨Or.inl (h5 r hr).1, Or.inl (h5 r hr).2⟩⟩
theorem pRule_good {X : TX} {p q : Nat} {B C : kB} (hp : p ≤ X.2) (hB : bGood (b_nr B) B) (h : pRule X p B = .inr (q, C)) : bGood (b_nr C) C := by
  obtain ⟨q1, C1, h1, h2⟩ := prb_ok h
  obtain ⟨q2, C2, h3, h4⟩ := prb_ok h2
  have hq1 := pKind_le hp h1
  have hn1 := (pKind_g hp h1).2.1
  have hC1 : ∃ kd, C1 = b_addRule B kd := by
    unfold pKind at h1
    split at h1
    · split at h1
      · split at h1
        · cases h1
        split at h1
        · simp only [Sum.inr.injEq, Prod.mk.injEq] at h1
          exact ⟨_, h1.2.symm⟩
        · cases h1
      · cases h1
    · cases h1
  obtain ⟨kd, eC1⟩ := hC1
  have hW : bX C1 C2 ∧ (C2 = C1 ∨ uW (b_op C2) 18 (b_no C1) (b_no C2)) ∧ q2 ≤ X.2 := by
    unfold pWhen at h3
    split at h3
    · have a := pEit_u (pOne_g 8) (pOne_u 8) hq1 h3
      have b := pEit_g (pOne_g 8) hq1 h3
      exact ⟨a.1, Or.inr a.2, b.2.2.1⟩
    · simp only [Sum.inr.injEq, Prod.mk.injEq] at h3
      rw [← h3.2, ← h3.1]
      exact ⟨bX_rf, Or.inl rfl, hq1⟩
  obtain ⟨hx, hu, hq2⟩ := hW
  obtain ⟨s1, s2, s3⟩ := pStp_s hq2 h4
  have hl : b_nr C1 - 1 = b_nr B := by rw [hn1]; omega
  obtain ⟨x1, x2, x3, ⟨x41, x42, x43, x44, x45, x46⟩, x5, ⟨x61, x62⟩, x71, x72, x73⟩ := hx
  obtain ⟨⟨y1, y2, y3, y4⟩, y5, y6, y7, y8, y9⟩ := s1
  have e2 : b_nr C2 - 1 = b_nr B := by rw [x41]; exact hl
  rw [hl] at x5 x61 x62
  rw [e2] at s2 s3 y6 y7 y8 y9
  have yno : b_no C = b_no C2 := congrArg (fun z => z.1.1) y5
  have yop : b_op C = b_op C2 := congrArg (fun z => z.1.2.1) y5
  have yod : b_od C = b_od C2 := congrArg (fun z => z.1.2.2) y5
  have ydl : b_dl C = b_dl C2 := congrArg (fun z => z.2.2.2.1) y5
  have yml : b_ml C = b_ml C2 := congrArg (fun z => z.2.2.2.2) y5
  subst eC1
  have n1 : b_no (b_addRule B kd) = b_no B := rfl
  rw [n1] at x1 x2 x3 x61 x62 hu
  refine ⟨fun i hi => ?_, fun k hk => ?_, fun r hr => ?_⟩
  · have hi2 : i < b_nr B + 1 := by rw [y1, x41, hn1] at hi; exact hi
    rw [y3, y4, yno, yop, x43]
    by_cases e : i = b_nr B
    · subst e
      have f1 : b_fo (b_addRule B kd) (b_nr B) = b_no B := updN_s
      have f2 : b_eo (b_addRule B kd) (b_nr B) = b_no B := updN_s
      rw [f1]
      refine ⟨?_, ⟨by omega, s3⟩, fun k hk => ?_⟩
      · rcases hu with w | w
        · have c2 : b_no C2 = b_no B := by rw [w]; rfl
          rw [x62 c2.symm, f2, c2]
          exact ⟨Nat.le_refl _, Nat.le_refl _, Or.inl rfl⟩
        · have c2 := w.1
          rw [x61 c2]
          exact ⟨by omega, Nat.le_refl _, Or.inr w⟩
      · have z : b_so C2 (b_nr B) = 0 := by rw [x44]; exact updN_s
        exact y9 k (by omega) hk
    · have f1 : b_fo (b_addRule B kd) i = b_fo B i := updN_o e
      have f2 : b_eo (b_addRule B kd) i = b_eo B i := updN_o e
      have f3 : b_so (b_addRule B kd) i = b_so B i := updN_o e
      obtain ⟨g1, g2, g3⟩ := hB.1 i (by omega)
      rw [f1, x5 i e, f2, y6 i e, x44, f3]
      refine ⟨⟨g1.1, by omega, g1.2.2.imp id (fun w => uW_cg (fun k hk => ((x2 k (by omega)).1).symm) w)⟩, g2, fun k hk => ?_⟩
      obtain ⟨r, r1, r2⟩ := g3 k hk
      exact ⟨r, r1, by rw [y8 i k (by omega) (Or.inl e), x45]; exact r2⟩
  · rw [yno] at hk
    rw [yod]
    by_cases c : k < b_no B
    · rw [(x2 k c).2]; exact hB.2.1 k c
    · exact x3 k (by omega) hk
  · rw [ydl, yml, x72, x73]
    exact hB.2.2 r hr
theorem bGood_L {B : kB} {r : Nat} {d m : Int32} (hB : bGood (b_nr B) B) (hd : limK d) (hm : limK m) : bGood (b_nr (b_addL B r d m)) (b_addL B r d m) := by
  refine ⟨hB.1, hB.2.1, fun k hk => ?_⟩
  show limK (upd (b_dl B) r d k) ∧ limK (upd (b_ml B) r m k)
  by_cases e : k = r
  · rw [e, upd_s, upd_s]; exact ⟨hd, hm⟩
  · rw [upd_o e, upd_o e]; exact hB.2.2 k hk
theorem pLim3_good {X : TX} {r : Nat} {d m : Int32} {p q : Nat} {B C : kB} (hp : p ≤ X.2) (hB : bGood (b_nr B) B) (hd : limK d) (hm : limK m) (h : pLim3 X r d m p B = .inr (q, C)) : bGood (b_nr C) C := by
  unfold pLim3 at h
  rw [(pTake_g hp h).2.1]
  exact bGood_L hB hd hm
theorem pLim2_good {X : TX} {r : Nat} {d : Int32} {p q : Nat} {B C : kB} (hp : p ≤ X.2) (hB : bGood (b_nr B) B) (hd : limK d) (h : pLim2 X r d p B = .inr (q, C)) : bGood (b_nr C) C := by
  unfold pLim2 at h
  split at h
  · split at h
    · next t => exact pLim3_good (tE_p (tE_p hp).2).2 hB hd (Or.inr (odK_tN (tE_p hp).2 t)) h
    · cases h
  · exact pLim3_good hp hB hd (Or.inl rfl) h
theorem pLim_good {X : TX} {p q : Nat} {B C : kB} (hp : p ≤ X.2) (hB : bGood (b_nr B) B) (h : pLim X p B = .inr (q, C)) : bGood (b_nr C) C := by
  unfold pLim at h
  split at h
  · split at h
    · split at h
      · cases h
      · unfold pLim1 at h
        split at h
        · split at h
          · next t => exact pLim2_good (tE_p (tE_p (tE_p (tE_p hp).2).2).2).2 hB (Or.inr (odK_tN (tE_p (tE_p (tE_p hp).2).2).2 t)) h
          · cases h
        split at h
        · exact pLim2_good (tE_p (tE_p hp).2).2 hB (Or.inl rfl) h
        · cases h
    · cases h
  · cases h
theorem pLine_good {X : TX} {p q : Nat} {B C : kB} (hp : p ≤ X.2) (hB : bGood (b_nr B) B) (h : pLine X p B = .inr (q, C)) : bGood (b_nr C) C := by
  unfold pLine at h
  split at h
  · exact pLim_good hp hB h
  · exact pRule_good hp hB h
theorem pLines_good {X : TX} : ∀ (k p : Nat) (B : kB) (q : Nat) (C : kB), p ≤ X.2 → 3 * b_no B ≤ p → bGood (b_nr B) B → pLines X k p B = .inr (q, C) → bGood (b_nr C) C
  | 0, p, B, q, C, hp, h3, hB, h => by
    simp only [pLines, Sum.inr.injEq, Prod.mk.injEq] at h
    rw [← h.2]; exact hB
  | k + 1, p, B, q, C, hp, h3, hB, h => by
    simp only [pLines] at h
    split at h
    · simp only [Sum.inr.injEq, Prod.mk.injEq] at h
      rw [← h.2]; exact hB
    · obtain ⟨q1, C1, h1, h2⟩ := prb_ok h
      have g := pLine_g hp h3 h1
      exact pLines_good k q1 C1 q C g.2.2 g.2.1 (pLine_good hp hB h1) h2
theorem pAll_good {X : TX} {q : Nat} {B0 C : kB} (h0 : bIni B0) (h : pAll X B0 = .inr (q, C)) : bGood (b_nr C) C := pLines_good 1000 0 B0 q C (Nat.zero_le _) (by rw [h0.2.1]; omega) (bGood_ini h0) h
