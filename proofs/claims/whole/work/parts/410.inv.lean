/-! what holds between two calls: class and model side by side; written by hand -/
def isN (v : Int32) (B : Nat) : Prop := ∃ j, j < B ∧ v = nI j
def cN (σ : kS) (x k : Nat) : Nat := (zI σ x k).toNatClampNeg
theorem isN_c {v : Int32} {B : Nat} (h : isN v B) (hB : B ≤ 2147483648 := by omega) : v.toNatClampNeg < B ∧ v = nI v.toNatClampNeg := by
  obtain ⟨j, hj, rfl⟩ := h
  rw [nI_clamp (by omega)]
  exact ⟨hj, rfl⟩
theorem isN_m {v : Int32} {B D : Nat} (h : isN v B) (hB : B ≤ D) : isN v D := by
  obtain ⟨j, hj, e⟩ := h
  exact ⟨j, by omega, e⟩
theorem cN_e {σ : kS} {x k n : Nat} (h : zI σ x k = nI n) (hn : n < 2147483648 := by omega) : cN σ x k = n := by
  unfold cN
  rw [h, nI_clamp (by omega)]
/-- people, days away, deputies -/
def iPe (σ : kS) (n s m : Nat) : Prop := (n ≤ 14 ∧ zI σ 1 0 = nI n ∧ zI σ 49 10 = nI n) ∧ (s ≤ 30 ∧ zI σ 1 2 = nI s ∧ zI σ 49 11 = nI s) ∧ (m ≤ 30 ∧ zI σ 1 6 = nI m ∧ zI σ 49 12 = nI m) ∧ (∀ k, k < n → zI σ 50 k = zI σ 2 k) ∧ (∀ k, k < s → isN (zI σ 3 k) n ∧ zI σ 51 k = zI σ 3 k ∧ zI σ 52 k = zI σ 4 k ∧ zI σ 53 k = zI σ 5 k) ∧ (∀ k, k < m → (isN (zI σ 6 k) n ∧ isN (zI σ 7 k) n ∧ isN (zI σ 10 k) 1000001) ∧ zI σ 54 k = zI σ 6 k ∧ zI σ 55 k = zI σ 7 k ∧ zI σ 56 k = zI σ 8 k ∧ zI σ 57 k = zI σ 9 k ∧ zI σ 58 k = zI σ 10 k ∧ zI σ 59 k = zI σ 11 k) ∧ (∀ k, m ≤ k → zI σ 11 k = 0)
/-- days -/
def iTm (σ : kS) (td sp : Nat) : Prop := (td ≤ 100000 ∧ zI σ 0 6 = nI td ∧ zI σ 49 13 = nI td) ∧ (sp ≤ 30 ∧ zI σ 0 7 = nI sp ∧ zI σ 49 62 = nI sp)
/-- the tape and the fault -/
def iTp (σ : kS) (L : Nat) : Prop := (L ≤ 1000 ∧ zI σ 14 1 = nI L ∧ zI σ 49 16 = nI L) ∧ (∀ k, k < L → zI σ 60 k = zI σ 15 k ∧ -128 ≤ (zI σ 15 k).toInt ∧ (zI σ 15 k).toInt ≤ 127) ∧ zI σ 49 18 = zI σ 14 6 ∧ zI σ 49 19 = zI σ 14 7
/-- the row of a way -/
def iWy (σ : kS) : Prop := (zI σ 49 71 = 0 ∧ ∀ x, x < 8 → zI σ 47 x = -1 ∧ zI σ 48 x = -1) ∨ (zI σ 49 71 = 1 ∧ ∀ x, x < 8 → zI σ 96 x = zI σ 47 x ∧ zI σ 97 x = zI σ 48 x)
/-- the model's bank bk holds B -/
def mB (σ : kS) (bk : Nat) (B : kB) : Prop := zI σ 72 bk = nI (b_nr B) ∧ (∀ i, i < b_nr B → (zI σ 62 (20 * bk + i) = b_kd B i ∧ zI σ 63 (20 * bk + i) = nI (b_fo B i) ∧ zI σ 64 (20 * bk + i) = nI (b_eo B i) ∧ zI σ 65 (20 * bk + i) = nI (b_so B i)) ∧ ∀ k, k < b_so B i → zI σ 66 (8 * (20 * bk + i) + k) = b_rl B (8 * i + k) ∧ zI σ 67 (8 * (20 * bk + i) + k) = b_st B (8 * i + k)) ∧ (∀ k, k < b_no B → zI σ 70 (1000 * bk + k) = mcd (b_op B k) ∧ zI σ 71 (1000 * bk + k) = b_od B k) ∧ zI σ 73 bk = nI (b_nl B) ∧ ∀ r, r < 8 → zI σ 74 (8 * bk + r) = kb (b_hl B r) ∧ (b_hl B r = true → zI σ 68 (8 * bk + r) = mlm (b_dl B r) ∧ zI σ 69 (8 * bk + r) = mlm (b_ml B r))
/-- the books -/
def iBk (σ : kS) (b b2 bk : Nat) (C : kB) : Prop := ((b = 25 ∧ b2 = 36) ∨ (b = 36 ∧ b2 = 25)) ∧ (zR σ 0 4 = some b ∧ zR σ 0 5 = some b2) ∧ kBk σ b2 ∧ cBk σ b C ∧ (bk < 2 ∧ zI σ 49 38 = nI bk) ∧ mB σ bk C ∧ bGood (b_nr C) C
/-- a slot of a paper -/
def iS1 (σ : kS) (n i k : Nat) : Prop := (zI σ 85 (8 * i + k) = zI σ (98 + 6 * i + 1) k ∧ zI σ 86 (8 * i + k) = zI σ (98 + 6 * i + 2) k ∧ zI σ 87 (8 * i + k) = zI σ (98 + 6 * i + 3) k ∧ zI σ 88 (8 * i + k) = zI σ (98 + 6 * i + 4) k) ∧ isN (zI σ (98 + 6 * i + 1) k) 8 ∧ ((zI σ (98 + 6 * i + 3) k = -1 ∧ zI σ (98 + 6 * i + 4) k = -1) ∨ (isN (zI σ (98 + 6 * i + 3) k) n ∧ isN (zI σ (98 + 6 * i + 4) k) n ∧ zI σ 89 (8 * i + k) = zI σ (98 + 6 * i + 5) k))
/-- a paper -/
def iP1 (σ : kS) (n i : Nat) : Prop := (zI σ 77 i = zI σ (98 + 6 * i) 0 ∧ zI σ 78 i = zI σ (98 + 6 * i) 1 ∧ zI σ 79 i = zI σ (98 + 6 * i) 2 ∧ zI σ 80 i = zI σ (98 + 6 * i) 3 ∧ zI σ 91 i = zI σ (98 + 6 * i) 4 ∧ zI σ 82 i = zI σ (98 + 6 * i) 5 ∧ zL σ 90 i = (zI σ (98 + 6 * i) 6).toInt64 ∧ zI σ 81 i = zI σ (98 + 6 * i) 7 ∧ zI σ 83 i = zI σ (98 + 6 * i) 8) ∧ (isN (zI σ (98 + 6 * i) 1) 1000001 ∧ isN (zI σ (98 + 6 * i) 2) n ∧ isN (zI σ (98 + 6 * i) 4) 2 ∧ isN (zI σ (98 + 6 * i) 7) 100001) ∧ (zI σ 84 i = if cN σ 83 i = 0 then 0 else zI σ (98 + 6 * i + 2) (cN σ 83 i - 1) + 1) ∧ ∀ k, k < cN σ 83 i → iS1 σ n i k
/-- the papers -/
def iPp (σ : kS) (n c : Nat) : Prop := (zN σ = 98 + 6 * c ∧ kCab σ c ∧ zI σ 49 61 = nI c) ∧ (∀ i, i < 41 → isN (zI σ 83 i) 9) ∧ ∀ i, i < c → iP1 σ n i
def Inv (σ : kS) : Prop := kOK σ ∧ ∃ (n s m c b b2 bk : Nat) (C : kB) (td sp L : Nat), iPe σ n s m ∧ iPp σ n c ∧ iBk σ b b2 bk C ∧ iTm σ td sp ∧ iTp σ L ∧ iWy σ
/-! which places each part looks at -/
def rgPe (x k : Nat) : Prop := x = 1 ∨ (2 ≤ x ∧ x ≤ 11) ∨ (x = 49 ∧ 10 ≤ k ∧ k ≤ 12) ∨ (50 ≤ x ∧ x ≤ 59)
def rgTm (x k : Nat) : Prop := (x = 0 ∧ (k = 6 ∨ k = 7)) ∨ (x = 49 ∧ (k = 13 ∨ k = 62))
def rgTp (x k : Nat) : Prop := (x = 14 ∧ (k = 1 ∨ k = 6 ∨ k = 7)) ∨ x = 15 ∨ x = 60 ∨ (x = 49 ∧ (k = 16 ∨ k = 18 ∨ k = 19))
def rgWy (x k : Nat) : Prop := x = 47 ∨ x = 48 ∨ x = 96 ∨ x = 97 ∨ (x = 49 ∧ k = 71)
def rgBk (b x k : Nat) : Prop := (b ≤ x ∧ x ≤ b + 10) ∨ (62 ≤ x ∧ x ≤ 74) ∨ (x = 49 ∧ k = 38)
def rgPp (c x k : Nat) : Prop := (x = 12 ∧ k = 1) ∨ (x = 49 ∧ k = 61) ∨ (98 ≤ x) ∨ (77 ≤ x ∧ x ≤ 84 ∧ k < c) ∨ (x = 91 ∧ k < c) ∨ (85 ≤ x ∧ x ≤ 89 ∧ k < 8 * c)
theorem iPe_cg {σ τ : kS} {n s m : Nat} (H : ∀ x k, rgPe x k → zI τ x k = zI σ x k) (h : iPe σ n s m) : iPe τ n s m := by
  have r1 : ∀ k, zI τ 1 k = zI σ 1 k := fun k => H 1 k (by unfold rgPe; omega)
  have r : ∀ x, 2 ≤ x → x ≤ 11 → zI τ x = zI σ x := fun x h1 h2 => funext fun k => H x k (by unfold rgPe; omega)
  have q : ∀ x, 50 ≤ x → x ≤ 59 → zI τ x = zI σ x := fun x h1 h2 => funext fun k => H x k (by unfold rgPe; omega)
  have w : ∀ k, 10 ≤ k → k ≤ 12 → zI τ 49 k = zI σ 49 k := fun k h1 h2 => H 49 k (by unfold rgPe; omega)
  unfold iPe at h ⊢
  rw [r1 0, r1 2, r1 6, w 10 (by omega) (by omega), w 11 (by omega) (by omega), w 12 (by omega) (by omega), r 2 (by omega) (by omega), r 3 (by omega) (by omega), r 4 (by omega) (by omega), r 5 (by omega) (by omega), r 6 (by omega) (by omega), r 7 (by omega) (by omega), r 8 (by omega) (by omega), r 9 (by omega) (by omega), r 10 (by omega) (by omega), r 11 (by omega) (by omega), q 50 (by omega) (by omega), q 51 (by omega) (by omega), q 52 (by omega) (by omega), q 53 (by omega) (by omega), q 54 (by omega) (by omega), q 55 (by omega) (by omega), q 56 (by omega) (by omega), q 57 (by omega) (by omega), q 58 (by omega) (by omega), q 59 (by omega) (by omega)]
  exact h
theorem iTm_cg {σ τ : kS} {td sp : Nat} (H : ∀ x k, rgTm x k → zI τ x k = zI σ x k) (h : iTm σ td sp) : iTm τ td sp := by
  unfold iTm at h ⊢
  rw [H 0 6 (by unfold rgTm; omega), H 0 7 (by unfold rgTm; omega), H 49 13 (by unfold rgTm; omega), H 49 62 (by unfold rgTm; omega)]
  exact h
theorem iTp_cg {σ τ : kS} {L : Nat} (H : ∀ x k, rgTp x k → zI τ x k = zI σ x k) (h : iTp σ L) : iTp τ L := by
  have r15 : zI τ 15 = zI σ 15 := funext fun k => H 15 k (by unfold rgTp; omega)
  have r60 : zI τ 60 = zI σ 60 := funext fun k => H 60 k (by unfold rgTp; omega)
  unfold iTp at h ⊢
  rw [H 14 1 (by unfold rgTp; omega), H 14 6 (by unfold rgTp; omega), H 14 7 (by unfold rgTp; omega), H 49 16 (by unfold rgTp; omega), H 49 18 (by unfold rgTp; omega), H 49 19 (by unfold rgTp; omega), r15, r60]
  exact h
theorem iWy_cg {σ τ : kS} (H : ∀ x k, rgWy x k → zI τ x k = zI σ x k) (h : iWy σ) : iWy τ := by
  have r : ∀ x, x = 47 ∨ x = 48 ∨ x = 96 ∨ x = 97 → zI τ x = zI σ x := fun x hx => funext fun k => H x k (by unfold rgWy; omega)
  unfold iWy at h ⊢
  rw [H 49 71 (by unfold rgWy; omega), r 47 (by omega), r 48 (by omega), r 96 (by omega), r 97 (by omega)]
  exact h
theorem mB_cg {σ τ : kS} {bk : Nat} {C : kB} (H : ∀ x k, 62 ≤ x → x ≤ 74 → zI τ x k = zI σ x k) (h : mB σ bk C) : mB τ bk C := by
  have q : ∀ x, 62 ≤ x → x ≤ 74 → zI τ x = zI σ x := fun x h1 h2 => funext fun k => H x k h1 h2
  unfold mB at h ⊢
  rw [q 62 (by omega) (by omega), q 63 (by omega) (by omega), q 64 (by omega) (by omega), q 65 (by omega) (by omega), q 66 (by omega) (by omega), q 67 (by omega) (by omega), q 68 (by omega) (by omega), q 69 (by omega) (by omega), q 70 (by omega) (by omega), q 71 (by omega) (by omega), q 72 (by omega) (by omega), q 73 (by omega) (by omega), q 74 (by omega) (by omega)]
  exact h
theorem kBk_cg {σ τ : kS} {b : Nat} (hN : zN σ ≤ zN τ) (hR : ∀ k, zR τ b k = zR σ b k) (h : kBk σ b) : kBk τ b := by
  unfold kBk at h ⊢
  rw [hR, hR, hR, hR, hR, hR, hR, hR, hR, hR]
  exact ⟨h.1, by have := h.2.1; omega, h.2.2⟩
theorem cBk_cg {σ τ : kS} {b : Nat} {C : kB} (hN : zN σ ≤ zN τ) (hR : ∀ k, zR τ b k = zR σ b k) (H : ∀ x k, b ≤ x → x ≤ b + 10 → zI τ x k = zI σ x k) (h : cBk σ b C) : cBk τ b C := by
  have q : ∀ i, i ≤ 10 → zI τ (b + i) = zI σ (b + i) := fun i hi => funext fun k => H (b + i) k (by omega) (by omega)
  have q0 : ∀ k, zI τ b k = zI σ b k := fun k => H b k (by omega) (by omega)
  have hk := kBk_cg hN hR h.1
  unfold cBk at h ⊢
  rw [q0 0, q0 7, q0 10, q0 11, q 1 (by omega), q 2 (by omega), q 3 (by omega), q 4 (by omega), q 5 (by omega), q 6 (by omega), q 7 (by omega), q 8 (by omega), q 9 (by omega), q 10 (by omega)]
  exact ⟨hk, h.2⟩
theorem iBk_cg {σ τ : kS} {b b2 bk : Nat} {C : kB} (hN : zN σ ≤ zN τ) (hR : ∀ x k, x ≤ 49 → ¬ x = 13 → zR τ x k = zR σ x k) (H : ∀ x k, rgBk b x k → zI τ x k = zI σ x k) (h : iBk σ b b2 bk C) : iBk τ b b2 bk C := by
  obtain ⟨h1, h2, h3, h4, h5, h6, h7⟩ := h
  refine ⟨h1, ?_, kBk_cg hN (fun k => hR b2 k (by omega) (by omega)) h3, cBk_cg hN (fun k => hR b k (by omega) (by omega)) (fun x k a1 a2 => H x k (Or.inl ⟨a1, a2⟩)) h4, ?_, mB_cg (fun x k a1 a2 => H x k (Or.inr (Or.inl ⟨a1, a2⟩))) h6, h7⟩
  · rw [hR 0 4 (by omega) (by omega), hR 0 5 (by omega) (by omega)]; exact h2
  · rw [H 49 38 (by unfold rgBk; omega)]; exact h5
theorem iS1_cg {σ τ : kS} {n c i k : Nat} (H : ∀ x k, rgPp c x k → zI τ x k = zI σ x k) (hi : i < c) (hk : k < 8) (h : iS1 σ n i k) : iS1 τ n i k := by
  unfold iS1 at h ⊢
  rw [H 85 (8 * i + k) (by unfold rgPp; omega), H 86 (8 * i + k) (by unfold rgPp; omega), H 87 (8 * i + k) (by unfold rgPp; omega), H 88 (8 * i + k) (by unfold rgPp; omega), H 89 (8 * i + k) (by unfold rgPp; omega), H (98 + 6 * i + 1) k (by unfold rgPp; omega), H (98 + 6 * i + 2) k (by unfold rgPp; omega), H (98 + 6 * i + 3) k (by unfold rgPp; omega), H (98 + 6 * i + 4) k (by unfold rgPp; omega), H (98 + 6 * i + 5) k (by unfold rgPp; omega)]
  exact h
theorem iP1_cg {σ τ : kS} {n c i : Nat} (H : ∀ x k, rgPp c x k → zI τ x k = zI σ x k) (hL : ∀ k, k < c → zL τ 90 k = zL σ 90 k) (hi : i < c) (h9 : isN (zI σ 83 i) 9) (h : iP1 σ n i) : iP1 τ n i := by
  have e83 : zI τ 83 i = zI σ 83 i := H 83 i (by unfold rgPp; omega)
  have ec : cN τ 83 i = cN σ 83 i := by unfold cN; rw [e83]
  have h8 : cN σ 83 i < 9 := (isN_c h9).1
  obtain ⟨h1, h2, h3, h4⟩ := h
  have p : ∀ k, zI τ (98 + 6 * i) k = zI σ (98 + 6 * i) k := fun k => H (98 + 6 * i) k (by unfold rgPp; omega)
  have p2 : ∀ k, zI τ (98 + 6 * i + 2) k = zI σ (98 + 6 * i + 2) k := fun k => H (98 + 6 * i + 2) k (by unfold rgPp; omega)
  refine ⟨?_, ?_, ?_, fun k hk => ?_⟩
  · rw [H 77 i (by unfold rgPp; omega), H 78 i (by unfold rgPp; omega), H 79 i (by unfold rgPp; omega), H 80 i (by unfold rgPp; omega), H 91 i (by unfold rgPp; omega), H 82 i (by unfold rgPp; omega), H 81 i (by unfold rgPp; omega), e83, hL i hi, p, p, p, p, p, p, p, p, p]
    exact h1
  · rw [p, p, p, p]; exact h2
  · rw [H 84 i (by unfold rgPp; omega), ec, p2]; exact h3
  · rw [ec] at hk
    exact iS1_cg H hi (by omega) (h4 k hk)
theorem kPa_cg {σ τ : kS} {a : Nat} (hN : zN σ ≤ zN τ) (hR : ∀ k, zR τ a k = zR σ a k) (h : kPa σ a) : kPa τ a := by
  unfold kPa at h ⊢
  rw [hR, hR, hR, hR, hR]
  exact ⟨⟨by have := h.1.1; omega, h.1.2⟩, h.2⟩
theorem iPp_cg {σ τ : kS} {n c : Nat} (hN : zN τ = zN σ) (hR : zR τ = zR σ) (H : ∀ x k, rgPp c x k → zI τ x k = zI σ x k) (hL : ∀ k, k < c → zL τ 90 k = zL σ 90 k) (h83 : ∀ i, c ≤ i → i < 41 → isN (zI τ 83 i) 9) (h : iPp σ n c) : iPp τ n c := by
  obtain ⟨⟨h1, ⟨h21, h22, h23⟩, h3⟩, h4, h5⟩ := h
  refine ⟨⟨hN.trans h1, ⟨h21, ?_, fun i hi => ?_⟩, ?_⟩, fun i hi => ?_, fun i hi => iP1_cg H hL hi (h4 i (by omega)) (h5 i hi)⟩
  · rw [H 12 1 (by unfold rgPp; omega)]; exact h22
  · rw [hR]
    exact ⟨(h23 i hi).1, kPa_cg (by omega) (fun k => by rw [hR]) (h23 i hi).2⟩
  · rw [H 49 61 (by unfold rgPp; omega)]; exact h3
  · by_cases c1 : i < c
    · rw [H 83 i (by unfold rgPp; omega)]; exact h4 i hi
    · exact h83 i (by omega) hi
/-- places that nothing hangs on between two calls -/
def scr (x k : Nat) : Prop := (16 ≤ x ∧ x ≤ 24) ∨ x = 61 ∨ x = 75 ∨ x = 76 ∨ x = 90 ∨ (92 ≤ x ∧ x ≤ 95) ∨ (x = 49 ∧ (k = 17 ∨ (20 ≤ k ∧ k ≤ 24) ∨ (39 ≤ k ∧ k ≤ 44) ∨ k = 64 ∨ k = 70 ∨ k = 72 ∨ k = 73))
theorem kOK_cg {σ τ : kS} (hN : zN σ ≤ zN τ) (hR : zR τ = zR σ) (h : kOK σ) : kOK τ := ⟨by have := h.1; omega, fun a k b e => by rw [hR]; exact h.2 a k b e⟩
/-- only places that nothing hangs on, and the row of the paper that is not there yet -/
theorem Inv_scr {σ τ : kS} (hN : zN τ = zN σ) (hR : zR τ = zR σ) (h : Inv σ) (H : ∀ c, zI σ 49 61 = nI c → c ≤ 40 → (∀ x k, ¬ scr x k → ¬ (77 ≤ x ∧ x ≤ 84 ∧ k = c) → ¬ (x = 91 ∧ k = c) → ¬ (85 ≤ x ∧ x ≤ 89 ∧ 8 * c ≤ k) → zI τ x k = zI σ x k) ∧ (∀ k, k < c → zL τ 90 k = zL σ 90 k) ∧ (isN (zI τ 83 c) 9 ∨ zI τ 83 c = zI σ 83 c)) : Inv τ := by
  obtain ⟨hO, n, s, m, c, b, b2, bk, C, td, sp, L, h1, h2, h3, h4, h5, h6⟩ := h
  obtain ⟨H1, H2, H3⟩ := H c h2.1.2.2 h2.1.2.1.1
  have hb : (b = 25 ∨ b = 36) := by rcases h3.1 with w | w <;> omega
  refine ⟨kOK_cg (by omega) hR hO, n, s, m, c, b, b2, bk, C, td, sp, L, iPe_cg (fun x k w => H1 x k ?_ ?_ ?_ ?_) h1, iPp_cg hN hR (fun x k w => H1 x k ?_ ?_ ?_ ?_) H2 (fun i i1 i2 => ?_) h2, iBk_cg (by omega) (fun x k _ _ => by rw [hR]) (fun x k w => H1 x k ?_ ?_ ?_ ?_) h3, iTm_cg (fun x k w => H1 x k ?_ ?_ ?_ ?_) h4, iTp_cg (fun x k w => H1 x k ?_ ?_ ?_ ?_) h5, iWy_cg (fun x k w => H1 x k ?_ ?_ ?_ ?_) h6⟩
  · unfold rgPe at w; unfold scr; omega
  · unfold rgPe at w; omega
  · unfold rgPe at w; omega
  · unfold rgPe at w; omega
  · unfold rgPp at w; unfold scr; omega
  · unfold rgPp at w; omega
  · unfold rgPp at w; omega
  · unfold rgPp at w; omega
  · by_cases e : i = c
    · subst e
      rcases H3 with g | g
      · exact g
      · rw [g]; exact h2.2.1 i i2
    · rw [H1 83 i (by unfold scr; omega) (by omega) (by omega) (by omega)]
      exact h2.2.1 i i2
  · unfold rgBk at w; unfold scr; omega
  · unfold rgBk at w; omega
  · unfold rgBk at w; omega
  · unfold rgBk at w; omega
  · unfold rgTm at w; unfold scr; omega
  · unfold rgTm at w; omega
  · unfold rgTm at w; omega
  · unfold rgTm at w; omega
  · unfold rgTp at w; unfold scr; omega
  · unfold rgTp at w; omega
  · unfold rgTp at w; omega
  · unfold rgTp at w; omega
  · unfold rgWy at w; unfold scr; omega
  · unfold rgWy at w; omega
  · unfold rgWy at w; omega
  · unfold rgWy at w; omega
