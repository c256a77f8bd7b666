/-! the calls one by one: one paper changes; written by hand -/
def rgP1 (i x k : Nat) : Prop := ((77 ≤ x ∧ x ≤ 84) ∧ k = i) ∨ (x = 91 ∧ k = i) ∨ (85 ≤ x ∧ x ≤ 89 ∧ 8 * i ≤ k ∧ k < 8 * i + 8) ∨ (98 + 6 * i ≤ x ∧ x ≤ 98 + 6 * i + 5)
theorem iS1_c1 {σ τ : kS} {n i k : Nat} (H : ∀ x k, rgP1 i x k → zI τ x k = zI σ x k) (hk : k < 8) (h : iS1 σ n i k) : iS1 τ n i k := by
  unfold iS1 at h ⊢
  rw [H 85 (8 * i + k) (by unfold rgP1; omega), H 86 (8 * i + k) (by unfold rgP1; omega), H 87 (8 * i + k) (by unfold rgP1; omega), H 88 (8 * i + k) (by unfold rgP1; omega), H 89 (8 * i + k) (by unfold rgP1; omega), H (98 + 6 * i + 1) k (by unfold rgP1; omega), H (98 + 6 * i + 2) k (by unfold rgP1; omega), H (98 + 6 * i + 3) k (by unfold rgP1; omega), H (98 + 6 * i + 4) k (by unfold rgP1; omega), H (98 + 6 * i + 5) k (by unfold rgP1; omega)]
  exact h
/-- all of a paper is as it was, but its state, which is alike on both sides -/
theorem iP1_st {σ τ : kS} {n i : Nat} (H : ∀ x k, rgP1 i x k → ¬ (x = 82 ∧ k = i) → ¬ (x = 98 + 6 * i ∧ k = 5) → zI τ x k = zI σ x k) (h5 : zI τ 82 i = zI τ (98 + 6 * i) 5) (hL : zL τ 90 i = zL σ 90 i) (h9 : cN σ 83 i ≤ 8) (h : iP1 σ n i) : iP1 τ n i := by
  have e83 : zI τ 83 i = zI σ 83 i := H 83 i (by unfold rgP1; omega) (by omega) (by omega)
  have ec : cN τ 83 i = cN σ 83 i := by unfold cN; rw [e83]
  obtain ⟨h1, h2, h3, h4⟩ := h
  have p : ∀ k, ¬ k = 5 → zI τ (98 + 6 * i) k = zI σ (98 + 6 * i) k := fun k hk => H (98 + 6 * i) k (by unfold rgP1; omega) (by omega) (by omega)
  have p2 : ∀ k, zI τ (98 + 6 * i + 2) k = zI σ (98 + 6 * i + 2) k := fun k => H (98 + 6 * i + 2) k (by unfold rgP1; omega) (by omega) (by omega)
  refine ⟨?_, ?_, ?_, fun k hk => ?_⟩
  · rw [H 77 i (by unfold rgP1; omega) (by omega) (by omega), H 78 i (by unfold rgP1; omega) (by omega) (by omega), H 79 i (by unfold rgP1; omega) (by omega) (by omega), H 80 i (by unfold rgP1; omega) (by omega) (by omega), H 91 i (by unfold rgP1; omega) (by omega) (by omega), H 81 i (by unfold rgP1; omega) (by omega) (by omega), e83, hL, p 0 (by omega), p 1 (by omega), p 2 (by omega), p 3 (by omega), p 4 (by omega), p 6 (by omega), p 7 (by omega), p 8 (by omega)]
    exact ⟨h1.1, h1.2.1, h1.2.2.1, h1.2.2.2.1, h1.2.2.2.2.1, h5, h1.2.2.2.2.2.2⟩
  · rw [p 1 (by omega), p 2 (by omega), p 4 (by omega), p 7 (by omega)]; exact h2
  · rw [H 84 i (by unfold rgP1; omega) (by omega) (by omega), ec, p2]; exact h3
  · rw [ec] at hk
    have w := h4 k hk
    unfold iS1 at w ⊢
    rw [H 85 (8 * i + k) (by unfold rgP1; omega) (by omega) (by omega), H 86 (8 * i + k) (by unfold rgP1; omega) (by omega) (by omega), H 87 (8 * i + k) (by unfold rgP1; omega) (by omega) (by omega), H 88 (8 * i + k) (by unfold rgP1; omega) (by omega) (by omega), H 89 (8 * i + k) (by unfold rgP1; omega) (by omega) (by omega), H (98 + 6 * i + 1) k (by unfold rgP1; omega) (by omega) (by omega), H (98 + 6 * i + 2) k (by unfold rgP1; omega) (by omega) (by omega), H (98 + 6 * i + 3) k (by unfold rgP1; omega) (by omega) (by omega), H (98 + 6 * i + 4) k (by unfold rgP1; omega) (by omega) (by omega), H (98 + 6 * i + 5) k (by unfold rgP1; omega) (by omega) (by omega)]
    exact w
theorem iP1_c1 {σ τ : kS} {n i : Nat} (H : ∀ x k, rgP1 i x k → zI τ x k = zI σ x k) (hL : zL τ 90 i = zL σ 90 i) (h9 : cN σ 83 i ≤ 8) (h : iP1 σ n i) : iP1 τ n i := iP1_st (fun x k w _ _ => H x k w) (by rw [H 82 i (by unfold rgP1; omega), H (98 + 6 * i) 5 (by unfold rgP1; omega)]; exact h.1.2.2.2.2.2.1) hL h9 h
/-- one paper changes -/
theorem iPp_up {σ τ : kS} {n c i : Nat} (hN : zN τ = zN σ) (hR : zR τ = zR σ) (h12 : zI τ 12 1 = zI σ 12 1) (h61 : zI τ 49 61 = zI σ 49 61) (H : ∀ j x k, j < c → ¬ j = i → rgP1 j x k → zI τ x k = zI σ x k) (hL : ∀ j, j < c → ¬ j = i → zL τ 90 j = zL σ 90 j) (h83 : isN (zI τ 83 i) 9) (h83o : ∀ j, ¬ j = i → j < 41 → zI τ 83 j = zI σ 83 j) (hi : i < c → iP1 τ n i) (h : iPp σ n c) : iPp τ n c := by
  have hh := h
  obtain ⟨⟨h1, ⟨h21, h22, h23⟩, h3⟩, h4, h5⟩ := h
  refine ⟨⟨hN.trans h1, ⟨h21, h12.trans h22, fun j hj => ?_⟩, h61.trans h3⟩, fun j hj => ?_, fun j hj => ?_⟩
  · rw [hR]
    exact ⟨(h23 j hj).1, kPa_cg (by omega) (fun k => by rw [hR]) (h23 j hj).2⟩
  · by_cases e : j = i
    · subst e; exact h83
    · rw [h83o j e hj]; exact h4 j hj
  · by_cases e : j = i
    · subst e; exact hi hj
    · exact iP1_c1 (fun x k w => H j x k hj e w) (hL j hj e) (h_m8 hh (by omega)) (h5 j hj)
theorem p_withdraw {d : Nat} {σ : kS} {x : Int32} {Q : Option Value → kS → Prop} (hI : Inv σ) (h : ∀ v τ, kOK τ → kMt yX7_withdraw mX7_withdraw (d + 30) [.ref 49, .int x] τ (.int v) → Q (some (.int v)) τ) : kCt yX6_withdraw mX6_withdraw (d + 30) 0 0 [.ref 0, .int x] σ Q := by
  have hII := hI
  obtain ⟨hO, n, s, m, c, b, b2, bk, C, td, sp, L, hE, hP, hB, hT, hA, hW⟩ := hI
  have hc := hP.1.2.1.1
  have hb := iB_b hB
  refine c_X6_withdraw (d := d + 29) hO hP.1.2.1 (fun i i1 i2 i3 => ?_) (fun a1 => ?_)
  · have hO1 : kOK (sI σ (98 + 6 * i) 5 3) := kOK_sI hO
    refine h _ _ hO1 (fun Q2 k => ?_)
    have e82 : ∀ j, zI (sI σ (98 + 6 * i) 5 3) 82 j = zI σ 82 j := fun j => by rw [zI_sI, if_neg (by omega)]
    refine c_X7_withdraw (d := d + 29) (c := c) hO1 ⟨hc, by rw [zI_sI, if_neg (by omega)]; exact hP.1.2.2⟩ (fun j j1 j2 j3 => ?_) (fun w => ?_)
    · have ej := ix_eq hc i1 j1 i2 j2
      subst ej
      refine k _ ⟨kOK_sI hO1, n, s, m, c, b, b2, bk, C, td, sp, L, iPe_cg (σ := σ) (fun x k w => ?_) hE, iPp_up (σ := σ) (i := j) rfl rfl ?_ ?_ (fun i' x k g1 g2 w => ?_) (fun _ _ _ => rfl) ?_ (fun i' g1 g2 => ?_) (fun _ => iP1_st (σ := σ) (fun x k w w1 w2 => ?_) ?_ rfl (h_m8 hP (by omega)) (hP.2.2 j j1)) hP, iBk_cg (σ := σ) (Nat.le_refl _) (fun _ _ _ _ => rfl) (fun x k w => ?_) hB, iTm_cg (σ := σ) (fun x k w => ?_) hT, iTp_cg (σ := σ) (fun x k w => ?_) hA, iWy_cg (σ := σ) (fun x k w => ?_) hW⟩
      · unfold rgPe at w; rw [zI_sI, if_neg (by omega), zI_sI, if_neg (by omega)]
      · rw [zI_sI, if_neg (by omega), zI_sI, if_neg (by omega)]
      · rw [zI_sI, if_neg (by omega), zI_sI, if_neg (by omega)]
      · unfold rgP1 at w; rw [zI_sI, if_neg (by omega), zI_sI, if_neg (by omega)]
      · rw [zI_sI, if_neg (by omega), zI_sI, if_neg (by omega)]; exact hP.2.1 j (by omega)
      · rw [zI_sI, if_neg (by omega), zI_sI, if_neg (by omega)]
      · rw [zI_sI, if_neg w1, zI_sI, if_neg w2]
      · rw [zI_sI, if_pos ⟨rfl, rfl⟩, zI_sI, if_neg (by omega), zI_sI, if_pos ⟨rfl, rfl⟩]
      · unfold rgBk at w; rw [zI_sI, if_neg (by omega), zI_sI, if_neg (by omega)]
      · unfold rgTm at w; rw [zI_sI, if_neg (by omega), zI_sI, if_neg (by omega)]
      · unfold rgTp at w; rw [zI_sI, if_neg (by omega), zI_sI, if_neg (by omega)]
      · unfold rgWy at w; rw [zI_sI, if_neg (by omega), zI_sI, if_neg (by omega)]
    · exact absurd (by rw [e82, (hP.2.2 i i1).1.2.2.2.2.2.1]; exact i3) (w i i1 i2)
  · refine h _ _ hO (fun Q2 k => ?_)
    refine c_X7_withdraw (d := d + 29) hO (h_kMp hP) (fun j j1 j2 j3 => ?_) (fun _ => k _ hII)
    rw [(hP.2.2 j j1).1.2.2.2.2.2.1] at j3
    exact absurd j3 (a1 j j1 j2)
/-! may a hand sign in a name: both sides alike -/
theorem lb_all : ∀ h, h < 14 → lb 16383 h = true := by decide +kernel
theorem alw_C {n q h : Nat} {nm U : Int32} {hdf : Nat → Int32} (hn : n ≤ 14) (hq : q < n) (hh : h < n) : q_alw nm (hdf q) U (nI q) (nI h) = ftC n nm hdf U (q * n + h) := by
  have hxd : (q * n + h) / n = q := by rw [Nat.mul_comm, Nat.mul_add_div (by omega), Nat.div_eq_of_lt hh, Nat.add_zero]
  have hxm : (q * n + h) % n = h := by rw [Nat.mul_comm, Nat.mul_add_mod, Nat.mod_eq_of_lt hh]
  unfold q_alw ftC
  rw [hxd, hxm, q_in_lb (by omega), q_in_lb (by omega)]
  cases lb (nm &&& (U ^^^ (-1))) q <;> cases lb (hdf q &&& (U ^^^ (-1))) h <;> simp
theorem fit_M {τ : kS} {n i c bk q h r : Nat} {mf : Nat → Nat} {U : Int32} (hn : n ≤ 14) (hq : q < n) (hh : h < n) : q_fit (zI τ 50 q) (zI τ 92 q) U r h q (zI τ 78 i).toInt64 (q_rmM τ mf c bk (nI q) r) = ftM τ n i c bk mf (fun _ => r) (fun j => j) 16383 0 U (q * n + h) := by
  have hxd : (q * n + h) / n = q := by rw [Nat.mul_comm, Nat.mul_add_div (by omega), Nat.div_eq_of_lt hh, Nat.add_zero]
  have hxm : (q * n + h) % n = h := by rw [Nat.mul_comm, Nat.mul_add_mod, Nat.mod_eq_of_lt hh]
  unfold ftM
  rw [hxd, hxm, if_pos ((a1_lb (by omega)).mpr (lb_all h (by omega)))]
theorem pr_lt {n q h : Nat} (hq : q < n) (hh : h < n) : q * n + h < n * n := by
  have := Nat.mul_le_mul_right n (show q + 1 ≤ n by omega)
  rw [Nat.add_mul, Nat.one_mul] at this
  omega
/-- what the model's rows hold is as it was -/
def mSame (σ τ : kS) : Prop := (∀ x k, 49 ≤ x → x ≤ 97 → zI τ x k = zI σ x k) ∧ ∀ k, zL τ 90 k = zL σ 90 k
theorem ms_r {σ τ : kS} (h : mSame σ τ) (x : Nat) (h1 : 49 ≤ x) (h2 : x ≤ 97) : zI τ x = zI σ x := funext fun k => h.1 x k h1 h2
theorem mPe_ms {σ τ : kS} {n s m : Nat} {ofn byn : Nat → Nat} (h : mSame σ τ) (g : mPe σ n s m ofn byn) : mPe τ n s m ofn byn := by
  unfold mPe at g ⊢
  rw [h.1 49 10 (by omega) (by omega), h.1 49 11 (by omega) (by omega), h.1 49 12 (by omega) (by omega), ms_r h 54 (by omega) (by omega), ms_r h 55 (by omega) (by omega)]
  exact g
theorem kMp_ms {σ τ : kS} {c : Nat} (h : mSame σ τ) (g : kMp σ c) : kMp τ c := by
  unfold kMp at g ⊢
  rw [h.1 49 61 (by omega) (by omega)]
  exact g
theorem kMs_ms {σ τ : kS} {mf : Nat → Nat} (h : mSame σ τ) (g : kMs σ mf) : kMs τ mf := by
  unfold kMs at g ⊢
  rw [ms_r h 83 (by omega) (by omega)]
  exact g
theorem aEM_ms {σ τ : kS} {s m : Nat} {ofn byn : Nat → Nat} {sum day : Int32} (h : mSame σ τ) : aEM τ s m ofn byn sum day = aEM σ s m ofn byn sum day ∧ awM τ day s = awM σ day s := by
  have e1 : dkM τ sum day = dkM σ sum day := by
    unfold dkM
    rw [ms_r h 56 (by omega) (by omega), ms_r h 57 (by omega) (by omega), ms_r h 58 (by omega) (by omega), ms_r h 59 (by omega) (by omega)]
  have e2 : awM τ day s = awM σ day s := by
    unfold awM
    rw [ms_r h 51 (by omega) (by omega), ms_r h 52 (by omega) (by omega), ms_r h 53 (by omega) (by omega)]
  exact ⟨by show aEd m ofn byn (dkM τ sum day) (awM τ day s) = aEd m ofn byn (dkM σ sum day) (awM σ day s); rw [e1, e2], e2⟩
theorem rmM_ms {σ τ : kS} {mf : Nat → Nat} {c bk r : Nat} {nm : Int32} (h : mSame σ τ) : q_rmM τ mf c bk nm r = q_rmM σ mf c bk nm r := by
  show q_rm2 (zI τ 74 (8 * bk + r)) (zI τ 69 (8 * bk + r)) (q_totm (fun i k => zI τ 87 (8 * i + k)) (fun i k => zI τ 88 (8 * i + k)) (fun i k => zI τ 85 (8 * i + k)) (fun i k => zI τ 89 (8 * i + k)) (fun i => (zI τ 78 i).toInt64) mf nm (nI r) (zI τ 49 13) true c) (q_rm1 (zI τ 74 (8 * bk + r)) (zI τ 68 (8 * bk + r)) (q_totm (fun i k => zI τ 87 (8 * i + k)) (fun i k => zI τ 88 (8 * i + k)) (fun i k => zI τ 85 (8 * i + k)) (fun i k => zI τ 89 (8 * i + k)) (fun i => (zI τ 78 i).toInt64) mf nm (nI r) (zI τ 49 13) false c)) = _
  rw [ms_r h 74 (by omega) (by omega), ms_r h 69 (by omega) (by omega), ms_r h 68 (by omega) (by omega), ms_r h 87 (by omega) (by omega), ms_r h 88 (by omega) (by omega), ms_r h 85 (by omega) (by omega), ms_r h 89 (by omega) (by omega), ms_r h 78 (by omega) (by omega), ms_r h 49 (by omega) (by omega)]
theorem fP_T {n : Nat} {ro : Nat → Int32} {E : Nat → Nat → Prop} {aw : Nat → Bool} {set : Int32} {ok : Nat → Nat → Prop} {rl : Nat → Nat} {j : Nat} {U : Int32} {x : Nat} : fP n ro E aw set ok rl j U x = true ↔ (lb set (x % n) = true ∧ lb (ro (x / n)) (rl j) = true ∧ (aRe E (x / n) (x % n) ∧ aw (x % n) = false) ∧ (lb U (x % n) = false ∧ lb U (x / n) = false) ∧ ok (x / n) (rl j)) := @decide_eq_true_iff _ (Classical.propDecidable _)
/-- the class's test and the model's -/
theorem alw_fit {σ τ : kS} {n s m c b b2 bk i q h r : Nat} {C : kB} {U ac : Int32} (hE : iPe σ n s m) (hP : iPp σ n c) (hB : iBk σ b b2 bk C) (hi : i < c) (hq : q < n) (hh : h < n) (hr : r < 8) (htd : zI σ 49 13 = zI σ 0 6) (hk : clk σ τ n s m (zI σ (98 + 6 * i) 1) (zI σ 0 6) 16383 (cDL σ (cN σ 83) (aF σ) (zI σ 0 6) b c) (cML σ (cN σ 83) (aF σ) (zI σ 0 6) b c)) (hac : actR (aEM σ s m (cN σ 6) (cN σ 7) (zI σ 78 i) (zI σ 49 13)) (awM σ (zI σ 49 13) s) q ac) : q_alw (zI τ 19 r) (zI τ 20 q) U (nI q) (nI h) = q_fit (zI σ 50 q) ac U r h q (zI σ 78 i).toInt64 (q_rmM σ (cN σ 83) c bk (nI q) r) := by
  have hn := hE.1.1
  obtain ⟨s1, s2, s3⟩ := h_sm hP hi
  have R : ∀ q, q < n → actR (aEM σ s m (cN σ 6) (cN σ 7) (nI (smF σ i)) (zI σ 0 6)) (awM σ (zI σ 0 6) s) q (q_acts (fun x => q_depσ σ x (nI (smF σ i)) (zI σ 0 6) m) (q_away (zI σ 3) (zI σ 4) (zI σ 5) (zI σ 0 6) s) (nI q)) := fun q hq => acts_R hE hq
  rw [s2] at hk
  rw [s3, htd] at hac
  have e1 := alw_C (nm := zI τ 19 r) (U := U) (hdf := zI τ 20) hn hq hh
  have e2 := ftC_P (j := 0) (x := q * n + h) (U := U) (rl := fun _ => r) hn hE.1.2.1 (pr_lt hq hh) s1 hk R (fun q r a1 a2 => room_C hP hB a1 a2) hr
  rw [e1, e2]
  have key : ∀ b1 b2 : Bool, (b1 = true ↔ b2 = true) → b1 = b2 := fun b1 b2 w => by
    cases b1 <;> cases b2
    · rfl
    · exact absurd (w.mpr rfl) (by decide)
    · exact absurd (w.mp rfl) (by decide)
    · rfl
  have hxd : (q * n + h) / n = q := by rw [Nat.mul_comm, Nat.mul_add_div (by omega), Nat.div_eq_of_lt hh, Nat.add_zero]
  have hxm : (q * n + h) % n = h := by rw [Nat.mul_comm, Nat.mul_add_mod, Nat.mod_eq_of_lt hh]
  apply key
  have ok : (zI σ 78 i).toInt64 ≤ q_rmM σ (cN σ 83) c bk (nI q) r ↔ ((smF σ i : Nat) : Int) ≤ rmI σ c C (zI σ 0 6) q r := by
    rw [Int64.le_iff_toInt_le, room_M hn hP hB htd (by omega) hr, s3, nI_l (by omega), lN_toInt (by omega)]
  rw [fit_lb (by omega) (by omega) (by omega), ok, hac.2 h (by omega), hE.2.2.2.1 q hq]
  rw [fP_T, hxd, hxm]
  constructor
  · rintro ⟨_, a1, a2, ⟨a3, a4⟩, a5⟩
    exact ⟨a1, a2, a3, a4, a5⟩
  · rintro ⟨a1, a2, a3, a4, a5⟩
    exact ⟨lb_all h (by omega), a1, a2, ⟨a3, a4⟩, a5⟩
