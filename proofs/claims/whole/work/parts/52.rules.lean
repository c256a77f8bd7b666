/-! the calls one by one: feed, rules; written by hand -/
theorem bF {b : Bool} (h : b = true → False) : b = false := by
  cases e : b with
  | false => rfl
  | true => exact absurd e h
theorem kFg_i {ex : Nat → Nat → Bool} {σ τ : kS} (h : kFg ex σ τ) {x k : Nat} (hx : ex x k = true → False) : zI τ x k = zI σ x k := (h.2.2 x k (bF hx)).1
theorem kFg_l {ex : Nat → Nat → Bool} {σ τ : kS} (h : kFg ex σ τ) {x k : Nat} (hx : ex x k = true → False) : zL τ x k = zL σ x k := (h.2.2 x k (bF hx)).2
theorem kFr_i {ex : Nat → Bool} {σ τ : kS} (h : kFr ex σ τ) {x k : Nat} (hx : ex x = true → False) : zI τ x k = zI σ x k := (h.2.2 x k (bF hx)).1
theorem kFr_l {ex : Nat → Bool} {σ τ : kS} (h : kFr ex σ τ) {x k : Nat} (hx : ex x = true → False) : zL τ x k = zL σ x k := (h.2.2 x k (bF hx)).2
theorem exT_T {x k : Nat} (h : exT x k = true) : x = 15 ∨ (x = 14 ∧ k = 1) := by
  simp only [exT, Bool.or_eq_true, Bool.and_eq_true] at h
  rcases h with h | h
  · exact Or.inl (Nat.eq_of_beq_eq_true h)
  · exact Or.inr ⟨Nat.eq_of_beq_eq_true h.1, Nat.eq_of_beq_eq_true h.2⟩
theorem ex60_T {x k : Nat} (h : ex60 x k = true) : x = 60 := Nat.eq_of_beq_eq_true h
theorem exA_T {rb x k : Nat} (h : exA rb x k = true) : (x = 49 ∧ (k = 16 ∨ k = 17 ∨ k = 38 ∨ (18 ≤ k ∧ k ≤ 24) ∨ (39 ≤ k ∧ k ≤ 44))) ∨ x = 75 ∨ x = 61 ∨ (62 ≤ x ∧ x ≤ 74 ∧ hsz x * rb ≤ k ∧ k < hsz x * rb + hsz x) := by
  simp only [exA, exM, Bool.or_eq_true, Bool.and_eq_true] at h
  rcases h with (((⟨h1, h2⟩ | h) | ⟨h1, h2, h3, h4⟩) | h) | ⟨h1, h2⟩
  · have e := Nat.eq_of_beq_eq_true h1
    rcases h2 with ⟨a, b⟩ | ⟨a, b⟩
    · have := Nat.ble_eq.mp a; have := Nat.ble_eq.mp b; omega
    · have := Nat.ble_eq.mp a; have := Nat.ble_eq.mp b; omega
  · exact Or.inr (Or.inl (Nat.eq_of_beq_eq_true h))
  · exact Or.inr (Or.inr (Or.inr ⟨Nat.ble_eq.mp h1, Nat.ble_eq.mp h2, Nat.ble_eq.mp h3, Nat.ble_eq.mp h4⟩))
  · exact Or.inr (Or.inr (Or.inl (Nat.eq_of_beq_eq_true h)))
  · have e := Nat.eq_of_beq_eq_true h1
    rcases h2 with (a | a) | a
    · have := Nat.eq_of_beq_eq_true a; omega
    · have := Nat.eq_of_beq_eq_true a; omega
    · have := Nat.eq_of_beq_eq_true a; omega
theorem eRd_T {b x : Nat} (h : eRd b x = true) : (b ≤ x ∧ x ≤ b + 10) ∨ x = 14 := by
  simp only [eRd, eBk, Bool.or_eq_true, Bool.and_eq_true] at h
  rcases h with h | h
  · exact Or.inl ⟨Nat.ble_eq.mp h.1, Nat.ble_eq.mp h.2⟩
  · exact Or.inr (Nat.eq_of_beq_eq_true h)
theorem p_feed {d : Nat} {σ : kS} {v1 v2 v3 v4 v5 : Int32} {Q : Option Value → kS → Prop} (hI : Inv σ) (h : ∀ v τ, kOK τ → kMt yX7_feed mX7_feed (d + 30) [.ref 49, .int v1, .int v2, .int v3, .int v4, .int v5] τ (.int v) → Q (some (.int v)) τ) : kCt yX6_feed mX6_feed (d + 30) 0 0 [.ref 0, .int v1, .int v2, .int v3, .int v4, .int v5] σ Q := by
  have hII := hI
  obtain ⟨hO, n, s, m, c, b, b2, bk, C, td, sp, L, hE, hP, hB, hT, hA, hW⟩ := hI
  refine c_X6_feed (d := d + 28) hO hA.1.2.1 hA.1.1 (fun a1 => ?_) (fun a1 τ hF t1 t2 t3 => ?_)
  · refine h _ _ hO (fun Q2 k => ?_)
    exact c_X7_feed (d := d + 30) hO hA.1.2.2 hA.1.1 (fun _ => k _ hII) (fun w => by omega)
  · have hO1 : kOK τ := kOK_cg (by rw [hF.1]; omega) hF.2.1 hO
    refine h _ _ hO1 (fun Q2 k => ?_)
    refine c_X7_feed (d := d + 30) hO1 (by rw [kFg_i hF (fun w => by have := exT_T w; omega)]; exact hA.1.2.2) hA.1.1 (fun w => by omega) (fun _ τ2 hG u1 u2 => k _ ?_)
    have hb := iB_b hB
    have fr : ∀ x k, ¬ x = 15 → ¬ x = 60 → ¬ (x = 14 ∧ k = 1) → ¬ (x = 49 ∧ k = 16) → zI (sI τ2 49 16 (nI (L + 20))) x k = zI σ x k := fun x k g1 g2 g3 g4 => by
      rw [zI_sI, if_neg g4, kFg_i hG (fun w => g2 (ex60_T w)), kFg_i hF (fun w => by have := exT_T w; omega)]
    have hN : zN (sI τ2 49 16 (nI (L + 20))) = zN σ := by rw [zN_sI, hG.1, hF.1]
    have hR : zR (sI τ2 49 16 (nI (L + 20))) = zR σ := by rw [zR_sI, hG.2.1, hF.2.1]
    refine ⟨kOK_cg (by omega) hR hO, n, s, m, c, b, b2, bk, C, td, sp, L + 20, iPe_cg (σ := σ) (fun x k w => fr x k ?_ ?_ ?_ ?_) hE, iPp_cg (σ := σ) hN hR (fun x k w => fr x k ?_ ?_ ?_ ?_) (fun k _ => ?_) (fun i _ i2 => ?_) hP, iBk_cg (σ := σ) (by omega) (fun x k _ _ => by rw [hR]) (fun x k w => fr x k ?_ ?_ ?_ ?_) hB, iTm_cg (σ := σ) (fun x k w => fr x k ?_ ?_ ?_ ?_) hT, ?_, iWy_cg (σ := σ) (fun x k w => fr x k ?_ ?_ ?_ ?_) hW⟩
    · unfold rgPe at w; omega
    · unfold rgPe at w; omega
    · unfold rgPe at w; omega
    · unfold rgPe at w; omega
    · unfold rgPp at w; omega
    · unfold rgPp at w; omega
    · unfold rgPp at w; omega
    · unfold rgPp at w; omega
    · rw [zL_sI, kFg_l hG (fun w => by have := ex60_T w; omega), kFg_l hF (fun w => by have := exT_T w; omega)]
    · rw [fr 83 i (by omega) (by omega) (by omega) (by omega)]; exact hP.2.1 i i2
    · unfold rgBk at w; omega
    · unfold rgBk at w; omega
    · unfold rgBk at w; omega
    · unfold rgBk at w; omega
    · unfold rgTm at w; omega
    · unfold rgTm at w; omega
    · unfold rgTm at w; omega
    · unfold rgTm at w; omega
    · have e15 : ∀ j, zI (sI τ2 49 16 (nI (L + 20))) 15 j = zI τ 15 j := fun j => by rw [zI_sI, if_neg (by omega), kFg_i hG (fun w => by have := ex60_T w; omega)]
      have e60 : ∀ j, zI (sI τ2 49 16 (nI (L + 20))) 60 j = zI τ2 60 j := fun j => by rw [zI_sI, if_neg (by omega)]
      refine ⟨⟨a1, ?_, by rw [zI_sI, if_pos ⟨rfl, rfl⟩]⟩, fun j hj => ?_, ?_, ?_⟩
      · rw [zI_sI, if_neg (by omega), kFg_i hG (fun w => by have := ex60_T w; omega)]; exact t1
      · rw [e15, e60]
        by_cases c1 : j < L
        · rw [t3 j c1, u2 j c1, kFg_i hF (fun w => by have := exT_T w; omega)]
          exact hA.2.1 j c1
        · rw [show j = L + (j - L) by omega, t2 (j - L) (by omega), u1 (j - L) (by omega)]
          exact ⟨rfl, byt_rng _ _⟩
      · rw [fr 49 18 (by omega) (by omega) (by omega) (by omega), fr 14 6 (by omega) (by omega) (by omega) (by omega)]; exact hA.2.2.1
      · rw [fr 49 19 (by omega) (by omega) (by omega) (by omega), fr 14 7 (by omega) (by omega) (by omega) (by omega)]; exact hA.2.2.2
    · unfold rgWy at w; omega
    · unfold rgWy at w; omega
    · unfold rgWy at w; omega
    · unfold rgWy at w; omega
/-- reading rules into the other bank leaves this one -/
theorem mB_A {σ τ : kS} {bk : Nat} {C : kB} (hbk : bk < 2) (hF : kFg (exA (1 - bk)) σ τ) (h20 : b_nr C ≤ 20) (h8 : ∀ i, i < b_nr C → b_so C i ≤ 8) (ho : b_no C ≤ 400) (h : mB σ bk C) : mB τ bk C := by
  have g : ∀ x k c, 62 ≤ x → x ≤ 74 → hsz x = c → (c * (1 - bk) ≤ k ∧ k < c * (1 - bk) + c → False) → zI τ x k = zI σ x k := fun x k c h1 h2 hc h3 => kFg_i hF (fun w => by
    have := exA_T w
    rcases this with w | w | w | w
    · omega
    · omega
    · omega
    · rw [hc] at w; exact h3 w.2.2)
  have s20 : ∀ x, x = 62 ∨ x = 63 ∨ x = 64 ∨ x = 65 → ∀ i, i < 20 → zI τ x (20 * bk + i) = zI σ x (20 * bk + i) := fun x hx i hi => by
    rcases hx with rfl | rfl | rfl | rfl <;> exact g _ _ 20 (by omega) (by omega) rfl (by omega)
  have s160 : ∀ x, x = 66 ∨ x = 67 → ∀ i, i < 160 → zI τ x (160 * bk + i) = zI σ x (160 * bk + i) := fun x hx i hi => by
    rcases hx with rfl | rfl <;> exact g _ _ 160 (by omega) (by omega) rfl (by omega)
  have s8 : ∀ x, x = 68 ∨ x = 69 ∨ x = 74 → ∀ i, i < 8 → zI τ x (8 * bk + i) = zI σ x (8 * bk + i) := fun x hx i hi => by
    rcases hx with rfl | rfl | rfl <;> exact g _ _ 8 (by omega) (by omega) rfl (by omega)
  have s1000 : ∀ x, x = 70 ∨ x = 71 → ∀ i, i < 1000 → zI τ x (1000 * bk + i) = zI σ x (1000 * bk + i) := fun x hx i hi => by
    rcases hx with rfl | rfl <;> exact g _ _ 1000 (by omega) (by omega) rfl (by omega)
  have s1 : ∀ x, x = 72 ∨ x = 73 → zI τ x bk = zI σ x bk := fun x hx => by
    rcases hx with rfl | rfl <;> exact g _ _ 1 (by omega) (by omega) rfl (by omega)
  obtain ⟨h1, h2, h3, h4, h5⟩ := h
  refine ⟨by rw [s1 72 (by omega)]; exact h1, fun i hi => ?_, fun k hk => ?_, by rw [s1 73 (by omega)]; exact h4, fun r hr => ?_⟩
  · rw [s20 62 (by omega) i (by omega), s20 63 (by omega) i (by omega), s20 64 (by omega) i (by omega), s20 65 (by omega) i (by omega)]
    refine ⟨(h2 i hi).1, fun k hk => ?_⟩
    have := h8 i hi
    rw [show 8 * (20 * bk + i) + k = 160 * bk + (8 * i + k) by omega, s160 66 (by omega) _ (by omega), s160 67 (by omega) _ (by omega), show 160 * bk + (8 * i + k) = 8 * (20 * bk + i) + k by omega]
    exact (h2 i hi).2 k hk
  · rw [s1000 70 (by omega) k (by omega), s1000 71 (by omega) k (by omega)]; exact h3 k hk
  · rw [s8 74 (by omega) r hr, s8 68 (by omega) r hr, s8 69 (by omega) r hr]; exact h5 r hr
theorem mB_of {τ : kS} {rb : Nat} {C : kB} (h : mBk τ rb (b_nr C) C) : mB τ rb C := by
  obtain ⟨_, ⟨_, h2, _⟩, h4, ⟨_, _, h5⟩, _, ⟨_, h6, h7⟩⟩ := h
  refine ⟨h2, fun i hi => ?_, h5, h6, h7⟩
  obtain ⟨g1, g2, g3, g4, _, g6⟩ := h4 i hi
  exact ⟨⟨g1, g2, g3 hi, g4⟩, g6⟩
theorem kBk_sR {σ : kS} {b : Nat} {v : Option Nat} {k : Nat} (h : kBk σ b) : kBk (sR σ 0 k v) b := by
  have hb := h.1
  exact kBk_cg (σ := σ) (Nat.le_refl _) (fun j => by rw [zR_sR, if_neg (by omega)]) h
theorem p_rules {d : Nat} {σ : kS} {Q : Option Value → kS → Prop} (hI : Inv σ) (h : ∀ v τ, kOK τ → kMt yX7_rules mX7_rules (d + 30) [.ref 49] τ (.int v) → Q (some (.int v)) τ) : kCt yX6_rules mX6_rules (d + 30) 0 0 [.ref 0] σ Q := by
  have hII := hI
  obtain ⟨hO, n, s, m, c, b, b2, bk, C, td, sp, L, hE, hP, hB, hT, hA, hW⟩ := hI
  have hbb := hB.1
  have hbk := hB.2.2.2.2.1.1
  refine c_X6_rules (d := d + 3) hO hB.2.1.1 hB.2.1.2 hB.2.2.2.1.1 hB.2.2.1 hA.1.1 hA.1.2.1 (fun B0 hB0 e he τ hF t1 t2 t3 => ?_) (fun B0 hB0 q C2 he τ hF t1 t2 t3 t4 => ?_)
  · have hO1 : kOK τ := kOK_cg (by rw [hF.1]; omega) hF.2.1 hO
    have z1 : ∀ x k, ¬ (b2 ≤ x ∧ x ≤ b2 + 10) → ¬ x = 14 → zI τ x k = zI σ x k := fun x k g1 g2 => kFr_i hF (fun w => by have := eRd_T w; omega)
    refine h _ _ hO1 (fun Q2 k => ?_)
    refine c_X7_rules (d := d + 23) (X := (zI σ 15, L)) (B0 := B0) hO1 hA.1.1 (fun j hj => (hA.2.1 j hj).2) hbk (by rw [z1 49 38 (by omega) (by omega)]; exact hB.2.2.2.2.1.2) (by rw [z1 49 16 (by omega) (by omega)]; exact hA.1.2.2) (fun j hj => by rw [z1 60 j (by omega) (by omega)]; exact (hA.2.1 j hj).1) hB0 (fun e2 he2 τ2 hG g1 g2 g3 => ?_) (fun q2 C3 he2 τ2 hG g1 g2 g3 g4 g5 => ?_)
    · have ee : e2 = e := by rw [he2] at he; exact Sum.inl.inj he
      subst ee
      have fr : ∀ x k, ¬ (b2 ≤ x ∧ x ≤ b2 + 10) → ¬ x = 14 → (¬ x = 49 ∨ (¬ k = 16 ∧ ¬ k = 17 ∧ ¬ k = 38 ∧ ¬ (18 ≤ k ∧ k ≤ 24) ∧ ¬ (39 ≤ k ∧ k ≤ 44))) → ¬ x = 75 → ¬ x = 61 → ¬ (62 ≤ x ∧ x ≤ 74) → zI τ2 x k = zI σ x k := fun x k w1 w2 w3 w4 w5 w6 => by
        rw [kFg_i hG (fun w => by have := exA_T w; omega), z1 x k w1 w2]
      have hN : zN τ2 = zN σ := by rw [hG.1, hF.1]
      have hR : zR τ2 = zR σ := by rw [hG.2.1, hF.2.1]
      refine k _ ⟨kOK_cg (by omega) hR hO, n, s, m, c, b, b2, bk, C, td, sp, 0, iPe_cg (σ := σ) (fun x k w => fr x k ?_ ?_ ?_ ?_ ?_ ?_) hE, iPp_cg (σ := σ) hN hR (fun x k w => fr x k ?_ ?_ ?_ ?_ ?_ ?_) (fun k _ => ?_) (fun i _ i2 => ?_) hP, ?_, iTm_cg (σ := σ) (fun x k w => fr x k ?_ ?_ ?_ ?_ ?_ ?_) hT, ?_, iWy_cg (σ := σ) (fun x k w => fr x k ?_ ?_ ?_ ?_ ?_ ?_) hW⟩
      · unfold rgPe at w; omega
      · unfold rgPe at w; omega
      · unfold rgPe at w; omega
      · unfold rgPe at w; omega
      · unfold rgPe at w; omega
      · unfold rgPe at w; omega
      · unfold rgPp at w; omega
      · unfold rgPp at w; omega
      · unfold rgPp at w; omega
      · unfold rgPp at w; omega
      · unfold rgPp at w; omega
      · unfold rgPp at w; omega
      · rw [kFg_l hG (fun w => by have := exA_T w; omega), kFr_l hF (fun w => by have := eRd_T w; omega)]
      · rw [fr 83 i (by omega) (by omega) (by omega) (by omega) (by omega) (by omega)]; exact hP.2.1 i i2
      · refine ⟨hbb, by rw [hR]; exact hB.2.1, kBk_cg (σ := σ) (by omega) (fun k => by rw [hR]) hB.2.2.1, cBk_cg (σ := σ) (by omega) (fun k => by rw [hR]) (fun x k a1 a2 => fr x k (by omega) (by omega) (by omega) (by omega) (by omega) (by omega)) hB.2.2.2.1, ⟨hbk, g2⟩, mB_A hbk hG hB.2.2.2.1.2.1.1 (fun i hi => (hB.2.2.2.2.2.2.1 i hi).2.1.2) hB.2.2.2.1.2.2.1.1 (mB_cg (σ := σ) (fun x k a1 a2 => z1 x k (by omega) (by omega)) hB.2.2.2.2.2.1), hB.2.2.2.2.2.2⟩
      · unfold rgTm at w; omega
      · unfold rgTm at w; omega
      · unfold rgTm at w; omega
      · unfold rgTm at w; omega
      · unfold rgTm at w; omega
      · unfold rgTm at w; omega
      · have y : ∀ k, zI τ2 14 k = zI τ 14 k := fun k => kFg_i hG (fun w => by have := exA_T w; omega)
        refine ⟨⟨by omega, by rw [y, t1]; rfl, g3⟩, fun j hj => absurd hj (Nat.not_lt_zero _), ?_, ?_⟩
        · rw [y, t2, g1.2.1]
        · rw [y, t3, g1.2.2.1]
      · unfold rgWy at w; omega
      · unfold rgWy at w; omega
      · unfold rgWy at w; omega
      · unfold rgWy at w; omega
      · unfold rgWy at w; omega
      · unfold rgWy at w; omega
    · rw [he2] at he; cases he
  · have hO0 : kOK τ := kOK_cg (by rw [hF.1]; omega) hF.2.1 hO
    have hO1 : kOK (sR (sR τ 0 4 (some b2)) 0 5 (some b)) := kOK_sw hO0
    have z1 : ∀ x k, ¬ (b2 ≤ x ∧ x ≤ b2 + 10) → ¬ x = 14 → zI (sR (sR τ 0 4 (some b2)) 0 5 (some b)) x k = zI σ x k := fun x k g1 g2 => by
      rw [zI_sR, zI_sR]
      exact kFr_i hF (fun w => by have := eRd_T w; omega)
    refine h _ _ hO1 (fun Q2 k => ?_)
    refine c_X7_rules (d := d + 23) (X := (zI σ 15, L)) (B0 := B0) hO1 hA.1.1 (fun j hj => (hA.2.1 j hj).2) hbk (by rw [z1 49 38 (by omega) (by omega)]; exact hB.2.2.2.2.1.2) (by rw [z1 49 16 (by omega) (by omega)]; exact hA.1.2.2) (fun j hj => by rw [z1 60 j (by omega) (by omega)]; exact (hA.2.1 j hj).1) hB0 (fun e2 he2 τ2 hG g1 g2 g3 => ?_) (fun q2 C3 he2 τ2 hG g1 g2 g3 g4 g5 => ?_)
    · rw [he2] at he; cases he
    · have ee : C3 = C2 := by rw [he2] at he; exact (Prod.mk.inj (Sum.inr.inj he)).2
      subst ee
      have fr : ∀ x k, ¬ (b2 ≤ x ∧ x ≤ b2 + 10) → ¬ x = 14 → (¬ x = 49 ∨ (¬ k = 16 ∧ ¬ k = 17 ∧ ¬ k = 38 ∧ ¬ (18 ≤ k ∧ k ≤ 24) ∧ ¬ (39 ≤ k ∧ k ≤ 44))) → ¬ x = 75 → ¬ x = 61 → ¬ (62 ≤ x ∧ x ≤ 74) → zI τ2 x k = zI σ x k := fun x k w1 w2 w3 w4 w5 w6 => by
        rw [kFg_i hG (fun w => by have := exA_T w; omega), z1 x k w1 w2]
      have hN : zN τ2 = zN σ := by rw [hG.1, zN_sR, zN_sR, hF.1]
      have hR : ∀ x k, ¬ x = 0 → zR τ2 x k = zR σ x k := fun x k w => by rw [hG.2.1, zR_sR, if_neg (by omega), zR_sR, if_neg (by omega), hF.2.1]
      have hO2 : kOK τ2 := kOK_cg (by rw [hG.1]; omega) hG.2.1 hO1
      refine k _ ⟨hO2, n, s, m, c, b2, b, 1 - bk, C3, td, sp, 0, iPe_cg (σ := σ) (fun x k w => fr x k ?_ ?_ ?_ ?_ ?_ ?_) hE, ?_, ?_, iTm_cg (σ := σ) (fun x k w => fr x k ?_ ?_ ?_ ?_ ?_ ?_) hT, ?_, iWy_cg (σ := σ) (fun x k w => fr x k ?_ ?_ ?_ ?_ ?_ ?_) hW⟩
      · unfold rgPe at w; omega
      · unfold rgPe at w; omega
      · unfold rgPe at w; omega
      · unfold rgPe at w; omega
      · unfold rgPe at w; omega
      · unfold rgPe at w; omega
      · obtain ⟨⟨p1, ⟨p21, p22, p23⟩, p3⟩, p4, p5⟩ := hP
        have H : ∀ x k, rgPp c x k → zI τ2 x k = zI σ x k := fun x k w => by
          unfold rgPp at w
          exact fr x k (by omega) (by omega) (by omega) (by omega) (by omega) (by omega)
        refine ⟨⟨hN.trans p1, ⟨p21, by rw [H 12 1 (by unfold rgPp; omega)]; exact p22, fun i hi => ?_⟩, by rw [H 49 61 (by unfold rgPp; omega)]; exact p3⟩, fun i hi => ?_, fun i hi => iP1_cg H (fun k _ => ?_) hi (p4 i (by omega)) (p5 i hi)⟩
        · rw [hR 13 i (by omega)]
          exact ⟨(p23 i hi).1, kPa_cg (by omega) (fun k => hR _ k (by omega)) (p23 i hi).2⟩
        · rw [fr 83 i (by omega) (by omega) (by omega) (by omega) (by omega) (by omega)]; exact p4 i hi
        · rw [kFg_l hG (fun w => by have := exA_T w; omega), zL_sR, zL_sR, kFr_l hF (fun w => by have := eRd_T w; omega)]
      · refine ⟨by omega, ⟨?_, ?_⟩, kBk_cg (σ := σ) (by omega) (fun k => hR b k (by omega)) hB.2.2.2.1.1, ?_, ⟨by omega, g1⟩, mB_of g5, pAll_good hB0 he⟩
        · rw [hG.2.1, zR_sR, if_neg (by omega), zR_sR, if_pos ⟨rfl, rfl⟩]
        · rw [hG.2.1, zR_sR, if_pos ⟨rfl, rfl⟩]
        · refine cBk_cg (σ := τ) (by rw [hN, hF.1]; omega) (fun k => ?_) (fun x k a1 a2 => ?_) t4
          · rw [hR b2 k (by omega), hF.2.1]
          · rw [kFg_i hG (fun w => by have := exA_T w; omega), zI_sR, zI_sR]
      · unfold rgTm at w; omega
      · unfold rgTm at w; omega
      · unfold rgTm at w; omega
      · unfold rgTm at w; omega
      · unfold rgTm at w; omega
      · unfold rgTm at w; omega
      · have y : ∀ k, zI τ2 14 k = zI τ 14 k := fun k => by rw [kFg_i hG (fun w => by have := exA_T w; omega), zI_sR, zI_sR]
        refine ⟨⟨by omega, by rw [y, t1]; rfl, g2⟩, fun j hj => absurd hj (Nat.not_lt_zero _), ?_, ?_⟩
        · rw [y, t2, g3]
        · rw [y, t3, g4]
      · unfold rgWy at w; omega
      · unfold rgWy at w; omega
      · unfold rgWy at w; omega
      · unfold rgWy at w; omega
      · unfold rgWy at w; omega
      · unfold rgWy at w; omega
