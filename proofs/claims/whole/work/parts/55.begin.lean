/-! the calls one by one: a paper begins; written by hand -/
theorem cps_v {a : Nat} {rl stp : Nat → Int32} {σ : kS} : ∀ n k, k < n → zI (q_cps a rl stp n σ) (a + 1) k = rl k ∧ zI (q_cps a rl stp n σ) (a + 2) k = stp k ∧ zI (q_cps a rl stp n σ) (a + 3) k = -1 ∧ zI (q_cps a rl stp n σ) (a + 4) k = -1
  | 0, k, h => absurd h (Nat.not_lt_zero _)
  | n + 1, k, h => by
    simp only [q_cps]
    by_cases e : k = n
    · subst e
      refine ⟨?_, ?_, ?_, ?_⟩
      · rw [zI_sI, if_neg (by omega), zI_sI, if_neg (by omega), zI_sI, if_neg (by omega), zI_sI, if_neg (by omega), zI_sI, if_pos ⟨rfl, rfl⟩]
      · rw [zI_sI, if_neg (by omega), zI_sI, if_neg (by omega), zI_sI, if_neg (by omega), zI_sI, if_pos ⟨rfl, rfl⟩]
      · rw [zI_sI, if_neg (by omega), zI_sI, if_neg (by omega), zI_sI, if_pos ⟨rfl, rfl⟩]
      · rw [zI_sI, if_neg (by omega), zI_sI, if_pos ⟨rfl, rfl⟩]
    · have ih := cps_v (a := a) (rl := rl) (stp := stp) (σ := σ) n k (by omega)
      have z : ∀ x, zI (sI (sI (sI (sI (sI (q_cps a rl stp n σ) (a + 1) n (rl n)) (a + 2) n (stp n)) (a + 3) n (-1)) (a + 4) n (-1)) a 8 (nI (n + 1))) (a + 1 + x) k = zI (q_cps a rl stp n σ) (a + 1 + x) k := fun x => by
        rw [zI_sI, if_neg (by omega), zI_sI, if_neg (by omega), zI_sI, if_neg (by omega), zI_sI, if_neg (by omega), zI_sI, if_neg (by omega)]
      exact ⟨(z 0).trans ih.1, (z 1).trans ih.2.1, (z 2).trans ih.2.2.1, (z 3).trans ih.2.2.2⟩
theorem cps_a {a j : Nat} {rl stp : Nat → Int32} {σ : kS} (hj : ¬ j = 8) : ∀ n, zI (q_cps a rl stp n σ) a j = zI σ a j
  | 0 => rfl
  | n + 1 => by
    simp only [q_cps]
    rw [zI_sI, if_neg (by omega), zI_sI, if_neg (by omega), zI_sI, if_neg (by omega), zI_sI, if_neg (by omega), zI_sI, if_neg (by omega)]
    exact cps_a hj n
theorem mcp_v {i : Nat} {rl stp : Nat → Int32} {σ : kS} : ∀ n k, k < n → zI (q_mcp i rl stp n σ) 85 (8 * i + k) = rl k ∧ zI (q_mcp i rl stp n σ) 86 (8 * i + k) = stp k ∧ zI (q_mcp i rl stp n σ) 87 (8 * i + k) = -1 ∧ zI (q_mcp i rl stp n σ) 88 (8 * i + k) = -1
  | 0, k, h => absurd h (Nat.not_lt_zero _)
  | n + 1, k, h => by
    simp only [q_mcp]
    by_cases e : k = n
    · subst e
      refine ⟨?_, ?_, ?_, ?_⟩
      · rw [zI_sI, if_neg (by omega), zI_sI, if_neg (by omega), zI_sI, if_neg (by omega), zI_sI, if_pos ⟨rfl, rfl⟩]
      · rw [zI_sI, if_neg (by omega), zI_sI, if_neg (by omega), zI_sI, if_pos ⟨rfl, rfl⟩]
      · rw [zI_sI, if_neg (by omega), zI_sI, if_pos ⟨rfl, rfl⟩]
      · rw [zI_sI, if_pos ⟨rfl, rfl⟩]
    · have ih := mcp_v (i := i) (rl := rl) (stp := stp) (σ := σ) n k (by omega)
      have z : ∀ x, zI (sI (sI (sI (sI (q_mcp i rl stp n σ) 85 (8 * i + n) (rl n)) 86 (8 * i + n) (stp n)) 87 (8 * i + n) (-1)) 88 (8 * i + n) (-1)) x (8 * i + k) = zI (q_mcp i rl stp n σ) x (8 * i + k) := fun x => by
        rw [zI_sI, if_neg (by omega), zI_sI, if_neg (by omega), zI_sI, if_neg (by omega), zI_sI, if_neg (by omega)]
      exact ⟨(z 85).trans ih.1, (z 86).trans ih.2.1, (z 87).trans ih.2.2.1, (z 88).trans ih.2.2.2⟩
theorem mcp_o {i x j : Nat} {rl stp : Nat → Int32} {σ : kS} : ∀ n, ¬ (85 ≤ x ∧ x ≤ 88 ∧ 8 * i ≤ j ∧ j < 8 * i + n) → zI (q_mcp i rl stp n σ) x j = zI σ x j
  | 0, _ => rfl
  | n + 1, h => by
    simp only [q_mcp]
    rw [zI_sI, if_neg (by omega), zI_sI, if_neg (by omega), zI_sI, if_neg (by omega), zI_sI, if_neg (by omega)]
    exact mcp_o n (by omega)
/-- a paper has begun, in the class -/
def cBeg (σ ρ : kS) (a : Nat) (st J td : Int32) (mm : Nat) (rl stp : Nat → Int32) : Prop := (zN ρ = zN σ ∧ zR ρ = zR σ ∧ zL ρ = zL σ) ∧ (∀ x k, x < a ∨ a + 5 ≤ x → zI ρ x k = zI σ x k) ∧ (∀ j, j < 5 → zI ρ a j = zI σ a j) ∧ (zI ρ a 5 = st ∧ zI ρ a 6 = J ∧ zI ρ a 7 = td ∧ zI ρ a 8 = nI mm) ∧ ∀ k, k < mm → zI ρ (a + 1) k = rl k ∧ zI ρ (a + 2) k = stp k ∧ zI ρ (a + 3) k = -1 ∧ zI ρ (a + 4) k = -1
theorem cbeg_S {σ : kS} {i c mm : Nat} {kd sm mk pl td rc : Int32} {rl stp : Nat → Int32} : cBeg σ (q_cps (98 + 6 * i) rl stp mm (sI (q_xb σ i c kd sm mk pl td rc) (98 + 6 * i) 5 0)) (98 + 6 * i) 0 (sm + q_othσ (sI σ (98 + 6 * i) 7 td) (nI i) kd mk pl (td - rc) c) td mm rl stp := by
  refine ⟨⟨zN_cps mm, zR_cps mm, zL_cps mm⟩, fun x k w => ?_, fun j hj => ?_, ⟨?_, ?_, ?_, ?_⟩, fun k hk => cps_v mm k hk⟩
  · rw [zI_cps_o w mm, zI_sI, if_neg (by omega), q_xb, zI_sI, if_neg (by omega), zI_sI, if_neg (by omega), zI_sI, if_neg (by omega)]
  · rw [cps_a (by omega), zI_sI, if_neg (by omega), q_xb, zI_sI, if_neg (by omega), zI_sI, if_neg (by omega), zI_sI, if_neg (by omega)]
  · rw [cps_a (by omega), zI_sI, if_pos ⟨rfl, rfl⟩]
  · rw [cps_a (by omega), zI_sI, if_neg (by omega), q_xb, zI_sI, if_neg (by omega), zI_sI, if_pos ⟨rfl, rfl⟩]
  · rw [cps_a (by omega), zI_sI, if_neg (by omega), q_xb, zI_sI, if_neg (by omega), zI_sI, if_neg (by omega), zI_sI, if_pos ⟨rfl, rfl⟩]
  · exact zI_cps_8 (by rw [zI_sI, if_neg (by omega), q_xb, zI_sI, if_pos ⟨rfl, rfl⟩]) mm
theorem cbeg_N {σ : kS} {i c : Nat} {kd sm mk pl td rc : Int32} {rl stp : Nat → Int32} : cBeg σ (sI (q_xb σ i c kd sm mk pl td rc) (98 + 6 * i) 5 2) (98 + 6 * i) 2 (sm + q_othσ (sI σ (98 + 6 * i) 7 td) (nI i) kd mk pl (td - rc) c) td 0 rl stp := by
  refine ⟨⟨rfl, rfl, rfl⟩, fun x k w => ?_, fun j hj => ?_, ⟨?_, ?_, ?_, ?_⟩, fun k hk => absurd hk (Nat.not_lt_zero _)⟩
  · rw [zI_sI, if_neg (by omega), q_xb, zI_sI, if_neg (by omega), zI_sI, if_neg (by omega), zI_sI, if_neg (by omega)]
  · rw [zI_sI, if_neg (by omega), q_xb, zI_sI, if_neg (by omega), zI_sI, if_neg (by omega), zI_sI, if_neg (by omega)]
  · rw [zI_sI, if_pos ⟨rfl, rfl⟩]
  · rw [zI_sI, if_neg (by omega), q_xb, zI_sI, if_neg (by omega), zI_sI, if_pos ⟨rfl, rfl⟩]
  · rw [zI_sI, if_neg (by omega), q_xb, zI_sI, if_neg (by omega), zI_sI, if_neg (by omega), zI_sI, if_pos ⟨rfl, rfl⟩]
  · rw [zI_sI, if_neg (by omega), q_xb, zI_sI, if_pos ⟨rfl, rfl⟩]; rfl
/-- a paper has begun, in the model -/
def mBeg (ρ ρ2 : kS) (i : Nat) (st : Int32) (J : Int64) (td : Int32) (mm : Nat) (rl stp : Nat → Int32) (s84 : Int32) : Prop := (zN ρ2 = zN ρ ∧ zR ρ2 = zR ρ) ∧ (∀ x k, ¬ x = 76 → ¬ (81 ≤ x ∧ x ≤ 84 ∧ k = i) → ¬ (85 ≤ x ∧ x ≤ 88 ∧ 8 * i ≤ k ∧ k < 8 * i + mm) → zI ρ2 x k = zI ρ x k) ∧ (∀ k, ¬ k = i → zL ρ2 90 k = zL ρ 90 k) ∧ zL ρ2 90 i = J ∧ (zI ρ2 81 i = td ∧ zI ρ2 82 i = st ∧ zI ρ2 83 i = nI mm ∧ zI ρ2 84 i = s84) ∧ ∀ k, k < mm → zI ρ2 85 (8 * i + k) = rl k ∧ zI ρ2 86 (8 * i + k) = stp k ∧ zI ρ2 87 (8 * i + k) = -1 ∧ zI ρ2 88 (8 * i + k) = -1
theorem e76_T {x : Nat} (h : e76 x = true) : x = 76 := by simpa [e76] using h
theorem mb_I {ρ : kS} {i n x k : Nat} (h : ¬ (x = 81 ∧ k = i)) : zI (q_mb ρ i n) x k = zI ρ x k := by rw [q_mb, zI_sL, zI_sI, if_neg h]
theorem mbeg_S {ρ τ : kS} {i n R mm : Nat} (hF : kFr e76 (q_mb ρ i n) τ) : mBeg ρ (q_mbS τ i R mm) i 0 ((zI ρ 78 i).toInt64 + q_othM (sI ρ 81 i (zI ρ 49 13)) (nI i) (zI ρ 77 i) (zI ρ 79 i) (zI ρ 80 i) n) (zI ρ 49 13) mm (fun k => zI ρ 66 (8 * R + k)) (fun k => zI ρ 67 (8 * R + k)) (zI ρ 67 (8 * R + mm - 1) + 1) := by
  have t : ∀ x k, ¬ x = 76 → ¬ (x = 81 ∧ k = i) → zI τ x k = zI ρ x k := fun x k h1 h2 => by rw [kFr_i hF (fun w => h1 (e76_T w)), mb_I h2]
  have hF2 := kFr_mcp (i := i) (rl := fun k => zI τ 66 (8 * R + k)) (stp := fun k => zI τ 67 (8 * R + k)) (σ := q_mb0 τ i R mm) mm
  have L2 : ∀ k, zL (q_mbS τ i R mm) 90 k = zL (q_mb ρ i n) 90 k := fun k => by
    rw [show zL (q_mbS τ i R mm) 90 k = zL (q_mb0 τ i R mm) 90 k from (hF2.2.2 90 k rfl).2]
    show zL τ 90 k = _
    exact kFr_l hF (fun w => by have := e76_T w; omega)
  refine ⟨⟨?_, ?_⟩, fun x k h1 h2 h3 => ?_, fun k hk => ?_, ?_, ⟨?_, ?_, ?_, ?_⟩, fun k hk => ?_⟩
  · rw [show zN (q_mbS τ i R mm) = zN (q_mb0 τ i R mm) from hF2.1]
    exact hF.1
  · rw [show zR (q_mbS τ i R mm) = zR (q_mb0 τ i R mm) from hF2.2.1]
    exact hF.2.1
  · rw [q_mbS, mcp_o mm h3, q_mb0, zI_sI, if_neg (by omega), zI_sI, if_neg (by omega), zI_sI, if_neg (by omega), t x k h1 (by omega)]
  · rw [L2 k, q_mb, zL_sL, if_neg (by omega), zL_sI]
  · rw [L2 i, q_mb, zL_sL, if_pos ⟨rfl, rfl⟩]
  · rw [q_mbS, mcp_o mm (by omega), q_mb0, zI_sI, if_neg (by omega), zI_sI, if_neg (by omega), zI_sI, if_neg (by omega), kFr_i hF (fun w => by have := e76_T w; omega), q_mb, zI_sL, zI_sI, if_pos ⟨rfl, rfl⟩]
  · rw [q_mbS, mcp_o mm (by omega), q_mb0, zI_sI, if_neg (by omega), zI_sI, if_neg (by omega), zI_sI, if_pos ⟨rfl, rfl⟩]
  · rw [q_mbS, mcp_o mm (by omega), q_mb0, zI_sI, if_neg (by omega), zI_sI, if_pos ⟨rfl, rfl⟩]
  · rw [q_mbS, mcp_o mm (by omega), q_mb0, zI_sI, if_pos ⟨rfl, rfl⟩, t 67 _ (by omega) (by omega)]
  · have v := mcp_v (i := i) (rl := fun k => zI τ 66 (8 * R + k)) (stp := fun k => zI τ 67 (8 * R + k)) (σ := q_mb0 τ i R mm) mm k hk
    have w1 : zI τ 66 (8 * R + k) = zI ρ 66 (8 * R + k) := t 66 _ (by omega) (by omega)
    have w2 : zI τ 67 (8 * R + k) = zI ρ 67 (8 * R + k) := t 67 _ (by omega) (by omega)
    exact ⟨v.1.trans w1, v.2.1.trans w2, v.2.2⟩
theorem mbeg_N {ρ τ : kS} {i n : Nat} {rl stp : Nat → Int32} (hF : kFr e76 (q_mb ρ i n) τ) : mBeg ρ (q_mbN τ i) i 2 ((zI ρ 78 i).toInt64 + q_othM (sI ρ 81 i (zI ρ 49 13)) (nI i) (zI ρ 77 i) (zI ρ 79 i) (zI ρ 80 i) n) (zI ρ 49 13) 0 rl stp 0 := by
  have t : ∀ x k, ¬ x = 76 → ¬ (x = 81 ∧ k = i) → zI τ x k = zI ρ x k := fun x k h1 h2 => by rw [kFr_i hF (fun w => h1 (e76_T w)), mb_I h2]
  have L2 : ∀ k, zL (q_mbN τ i) 90 k = zL (q_mb ρ i n) 90 k := fun k => by
    show zL τ 90 k = _
    exact kFr_l hF (fun w => by have := e76_T w; omega)
  refine ⟨⟨hF.1, hF.2.1⟩, fun x k h1 h2 h3 => ?_, fun k hk => ?_, ?_, ⟨?_, ?_, ?_, ?_⟩, fun k hk => absurd hk (Nat.not_lt_zero _)⟩
  · rw [q_mbN, zI_sI, if_neg (by omega), zI_sI, if_neg (by omega), zI_sI, if_neg (by omega), t x k h1 (by omega)]
  · rw [L2 k, q_mb, zL_sL, if_neg (by omega), zL_sI]
  · rw [L2 i, q_mb, zL_sL, if_pos ⟨rfl, rfl⟩]
  · rw [q_mbN, zI_sI, if_neg (by omega), zI_sI, if_neg (by omega), zI_sI, if_neg (by omega), kFr_i hF (fun w => by have := e76_T w; omega), q_mb, zI_sL, zI_sI, if_pos ⟨rfl, rfl⟩]
  · rw [q_mbN, zI_sI, if_neg (by omega), zI_sI, if_neg (by omega), zI_sI, if_pos ⟨rfl, rfl⟩]
  · rw [q_mbN, zI_sI, if_neg (by omega), zI_sI, if_pos ⟨rfl, rfl⟩]; rfl
  · rw [q_mbN, zI_sI, if_pos ⟨rfl, rfl⟩]
theorem ms_beg {σ ρ : kS} {a : Nat} {st J td : Int32} {mm : Nat} {rl stp : Nat → Int32} (h : cBeg σ ρ a st J td mm rl stp) (ha : 98 ≤ a) : mSame σ ρ := ⟨fun x k h1 h2 => h.2.1 x k (by omega), fun k => by rw [h.1.2.2]⟩
/-- both have begun: the paper is alike on both sides -/
theorem iP1_beg {σ ρ ρm ρ2 : kS} {n i : Nat} {st J td : Int32} {J64 : Int64} {mm tdn : Nat} {rl stp : Nat → Int32} {s84 : Int32} (hc : cBeg σ ρ (98 + 6 * i) st J td mm rl stp) (hm : mBeg ρm ρ2 i st J64 td mm rl stp s84) (hρ : ∀ x k, 98 + 6 * i ≤ x → zI ρm x k = zI ρ x k) (h77 : zI ρm 77 i = zI σ (98 + 6 * i) 0 ∧ zI ρm 78 i = zI σ (98 + 6 * i) 1 ∧ zI ρm 79 i = zI σ (98 + 6 * i) 2 ∧ zI ρm 80 i = zI σ (98 + 6 * i) 3 ∧ zI ρm 91 i = zI σ (98 + 6 * i) 4) (hf : isN (zI σ (98 + 6 * i) 1) 1000001 ∧ isN (zI σ (98 + 6 * i) 2) n ∧ isN (zI σ (98 + 6 * i) 4) 2) (htd : td = nI tdn) (ht : tdn ≤ 100000) (hJ : J64 = J.toInt64) (h8 : mm ≤ 8) (h84 : s84 = if mm = 0 then 0 else stp (mm - 1) + 1) (hr : ∀ k, k < mm → isN (rl k) 8) : iP1 ρ2 n i := by
  obtain ⟨⟨c1, c2, c3⟩, c4, c5, ⟨c6, c7, c8, c9⟩, c10⟩ := hc
  obtain ⟨⟨m1, m2⟩, m3, m4, m5, ⟨m6, m7, m8, m9⟩, m10⟩ := hm
  have q : ∀ x k, 98 + 6 * i ≤ x → zI ρ2 x k = zI ρ x k := fun x k hx => (m3 x k (by omega) (by omega) (by omega)).trans (hρ x k hx)
  have q0 : ∀ j, j < 5 → zI ρ2 (98 + 6 * i) j = zI σ (98 + 6 * i) j := fun j hj => by rw [q _ _ (by omega), c5 j hj]
  have ec : cN ρ2 83 i = mm := cN_e m8
  refine ⟨⟨?_, ?_, ?_, ?_, ?_, ?_, ?_, ?_, ?_⟩, ⟨?_, ?_, ?_, ?_⟩, ?_, fun k hk => ?_⟩
  · rw [m3 77 i (by omega) (by omega) (by omega), q0 0 (by omega)]; exact h77.1
  · rw [m3 78 i (by omega) (by omega) (by omega), q0 1 (by omega)]; exact h77.2.1
  · rw [m3 79 i (by omega) (by omega) (by omega), q0 2 (by omega)]; exact h77.2.2.1
  · rw [m3 80 i (by omega) (by omega) (by omega), q0 3 (by omega)]; exact h77.2.2.2.1
  · rw [m3 91 i (by omega) (by omega) (by omega), q0 4 (by omega)]; exact h77.2.2.2.2
  · rw [m7, q _ _ (by omega), c6]
  · rw [m5, q _ _ (by omega), c7]; exact hJ
  · rw [m6, q _ _ (by omega), c8]
  · rw [m8, q _ _ (by omega), c9]
  · rw [q0 1 (by omega)]; exact hf.1
  · rw [q0 2 (by omega)]; exact hf.2.1
  · rw [q0 4 (by omega)]; exact hf.2.2
  · rw [q _ _ (by omega), c8]; exact ⟨tdn, by omega, htd⟩
  · rw [m9, ec, h84]
    by_cases e : mm = 0
    · rw [if_pos e, if_pos e]
    · rw [if_neg e, if_neg e, q _ _ (by omega), (c10 (mm - 1) (by omega)).2.1]
  · rw [ec] at hk
    obtain ⟨a1, a2, a3, a4⟩ := c10 k hk
    obtain ⟨b1, b2, b3, b4⟩ := m10 k hk
    unfold iS1
    rw [q (98 + 6 * i + 1) k (by omega), q (98 + 6 * i + 2) k (by omega), q (98 + 6 * i + 3) k (by omega), q (98 + 6 * i + 4) k (by omega), a1, a2, a3, a4, b1, b2, b3, b4]
    exact ⟨⟨rfl, rfl, rfl, rfl⟩, hr k hk, Or.inl ⟨rfl, rfl⟩⟩
/-! what is joined -/
theorem oth_cg {num kind maker place fd : Int32} {a0 a1 a2 a3 a4 a5 b0 b1 b2 b3 b4 b5 : Nat → Int32} : ∀ c, (∀ k, k < c → a0 k = b0 k ∧ a1 k = b1 k ∧ a2 k = b2 k ∧ a3 k = b3 k ∧ a4 k = b4 k ∧ a5 k = b5 k) → q_oth num a0 a1 a2 a3 a4 a5 kind maker place fd c = q_oth num b0 b1 b2 b3 b4 b5 kind maker place fd c
  | 0, _ => rfl
  | c + 1, h => by
    obtain ⟨h0, h1, h2, h3, h4, h5⟩ := h c (by omega)
    simp only [q_oth]
    rw [oth_cg c (fun k hk => h k (by omega)), h0, h1, h2, h3, h4, h5]
/-- the others' sums, of n papers that stand on both sides -/
theorem oth_P {σc σm : kS} {num kind maker place : Int32} {td sp c : Nat} (hc : c ≤ 41) (h1 : td ≤ 100000) (h2 : sp ≤ 30) (hp : ∀ k, k < c → zI σm 77 k = zI σc (98 + 6 * k) 0 ∧ zI σm 78 k = zI σc (98 + 6 * k) 1 ∧ zI σm 79 k = zI σc (98 + 6 * k) 2 ∧ zI σm 80 k = zI σc (98 + 6 * k) 3 ∧ zI σm 82 k = zI σc (98 + 6 * k) 5 ∧ zI σm 81 k = zI σc (98 + 6 * k) 7 ∧ isN (zI σc (98 + 6 * k) 1) 1000001 ∧ isN (zI σc (98 + 6 * k) 7) 100001) (ht : zI σm 49 13 = nI td) (hs : zI σm 49 62 = nI sp) : q_othM σm num kind maker place c = (q_othσ σc num kind maker place (nI td - nI sp) c).toInt64 ∧ ∃ v, v ≤ 1000000 * c ∧ q_othσ σc num kind maker place (nI td - nI sp) c = nI v := by
  have e : q_othσ σc num kind maker place (nI td - nI sp) c = q_oth num (zI σm 77) (zI σm 78) (zI σm 79) (zI σm 80) (zI σm 82) (zI σm 81) kind maker place (nI td - nI sp) c := oth_cg c (fun k hk => by
    obtain ⟨g0, g1, g2, g3, g4, g5, _⟩ := hp k hk
    exact ⟨g0.symm, g1.symm, g2.symm, g3.symm, g4.symm, g5.symm⟩)
  have key := oth_eq (num := num) (kind := kind) (maker := maker) (place := place) (knd := zI σm 77) (sm := zI σm 78) (mkr := zI σm 79) (plc := zI σm 80) (stt := zI σm 82) (beg := zI σm 81) (sn := fun k => cN σm 78 k) (bn := fun k => cN σm 81 k) (td := td) (sp := sp) (mx := 1000000) (by omega) (by omega) c (by omega) (fun k hk => by
    obtain ⟨g0, g1, g2, g3, g4, g5, g6, g7⟩ := hp k hk
    rw [← g1] at g6
    rw [← g5] at g7
    have a := isN_c g6
    have b := isN_c g7
    have a1 : cN σm 78 k < 1000001 := a.1
    have b1 : cN σm 81 k < 100001 := b.1
    exact ⟨a.2, by omega, b.2, by omega⟩)
  have bd := oth_b (num := num) (kind := kind) (maker := maker) (place := place) (fd := nI td - nI sp) (knd := zI σm 77) (sm := zI σm 78) (mkr := zI σm 79) (plc := zI σm 80) (stt := zI σm 82) (beg := zI σm 81) (sn := fun k => cN σm 78 k) (mx := 1000000) c (fun k hk => by
    obtain ⟨g0, g1, g2, g3, g4, g5, g6, g7⟩ := hp k hk
    rw [← g1] at g6
    have a := isN_c g6
    have a1 : cN σm 78 k < 1000001 := a.1
    exact ⟨a.2, by omega⟩)
  rw [e]
  refine ⟨?_, bd⟩
  show q_othm num (zI σm 77) (zI σm 78) (zI σm 79) (zI σm 80) (zI σm 82) (zI σm 81) kind maker place (zI σm 49 13) (zI σm 49 62) c = _
  rw [ht, hs]
  exact key
theorem add_64 {a b : Nat} (h : a + b < 2147483648) : (nI a + nI b).toInt64 = (nI a).toInt64 + (nI b).toInt64 := by rw [nI_add, nI_l (by omega), nI_l (by omega), nI_l (by omega), lN_add]
