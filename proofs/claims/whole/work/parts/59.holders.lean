/-! the calls one by one: holders; written by hand -/
theorem hnd_lb2 {nm tk : Int32} {hdf : Nat → Int32} : ∀ n, n ≤ 14 → (∀ k, k < n → smb 14 (hdf k)) → smb 14 (q_hnd nm hdf tk n) ∧ ∀ h, h < 14 → (lb (q_hnd nm hdf tk n) h = true ↔ ∃ q, q < n ∧ lb (nm &&& (tk ^^^ (-1))) q = true ∧ lb (hdf q &&& (tk ^^^ (-1))) h = true)
  | 0, _, _ => ⟨smb_0, fun h _ => ⟨fun g => (by rw [show q_hnd nm hdf tk 0 = 0 from rfl, lb_0] at g; cases g), fun ⟨q, g, _⟩ => absurd g (Nat.not_lt_zero _)⟩⟩
  | n + 1, hn, hh => by
    have ih := hnd_lb2 (nm := nm) (tk := tk) n (by omega) (fun k hk => hh k (by omega))
    simp only [q_hnd]
    rw [q_in_lb (by omega)]
    by_cases c1 : lb (nm &&& (tk ^^^ (-1))) n = false
    · rw [if_pos c1]
      refine ⟨ih.1, fun h hl => (ih.2 h hl).trans ⟨fun ⟨q, g1, g2⟩ => ⟨q, by omega, g2⟩, fun ⟨q, g1, g2⟩ => ?_⟩⟩
      by_cases e : q = n
      · subst e; rw [c1] at g2; cases g2.1
      · exact ⟨q, by omega, g2⟩
    · rw [if_neg c1]
      refine ⟨smb_or ih.1 (smb_and (hh n (by omega))), fun h hl => ?_⟩
      rw [lb_or, Bool.or_eq_true, ih.2 h hl]
      constructor
      · rintro (⟨q, g1, g2⟩ | g)
        · exact ⟨q, by omega, g2⟩
        · exact ⟨n, by omega, by simpa using c1, g⟩
      · rintro ⟨q, g1, g2⟩
        by_cases e : q = n
        · subst e; exact Or.inr g2.2
        · exact Or.inl ⟨q, by omega, g2⟩
theorem aRe_lt {m n p q : Nat} {ofn byn : Nat → Nat} {dk aw : Nat → Bool} (hb : ∀ k, k < m → byn k < n) (hp : p < n) (h : aRe (aEd m ofn byn dk aw) p q) : q < n := h (fun x => x < n) hp (fun a b _ ⟨_, k, hk, _, _, e⟩ => by rw [← e]; exact hb k hk)
theorem alw_and {nm hd U : Int32} {q h : Nat} (hq : q < 32) (hh : h < 32) : q_alw nm hd U (nI q) (nI h) = true ↔ (lb (nm &&& (U ^^^ (-1))) q = true ∧ lb (hd &&& (U ^^^ (-1))) h = true) := by
  unfold q_alw
  rw [q_in_lb hq, q_in_lb hh]
  cases lb (nm &&& (U ^^^ (-1))) q <;> cases lb (hd &&& (U ^^^ (-1))) h <;> simp
theorem p_holders {d : Nat} {σ : kS} {p : Int32} {Q : Option Value → kS → Prop} (hI : Inv σ) (h : ∀ v τ, kOK τ → kMt yX7_holders mX7_holders (d + 30) [.ref 49, .int p] τ (.int v) → Q (some (.int v)) τ) : kCt yX6_holders mX6_holders (d + 30) 0 0 [.ref 0, .int p] σ Q := by
  have hII := hI
  obtain ⟨hO, n, s, m, c, b, b2, bk, C, td, sp, L, hE, hP, hB, hT, hA, hW⟩ := hI
  have hc := hP.1.2.1.1
  have hn := hE.1.1
  have htd : zI σ 49 13 = zI σ 0 6 := by rw [hT.1.2.2, hT.1.2.1]
  have hbk := hB.2.2.2.2.1
  refine c_X6_holders (d := d + 26) (rf := fun i k => cN σ 85 (8 * i + k)) (h_cHy hO hE hP hB) (fun i k a1 a2 => h_rlC hP a1 a2) (fun a => ?_) (fun i i1 i2 a => ?_) (fun i τ i1 i2 i3 hF hk => ?_)
  · exact h _ _ hO (fun Q2 kk => c_X7_holdersN (d := d + 27) hO (by rw [hP.1.2.2]; exact a) (kk _ hII))
  · subst i2
    refine h _ _ hO (fun Q2 kk => ?_)
    refine c_X7_holders (d := d + 27) (rf := fun k => cN σ 85 (8 * i + k)) hO (h_mPe hE) (h_kMp hP) (h_kMs hP) hbk.1 hbk.2 i1 (fun k hk => h_rlM hP i1 hk) (fun _ => kk _ hII) (fun w => ?_)
    rw [(hP.2.2 i i1).1.2.2.2.2.2.1] at w
    exact absurd w a
  · subst i2
    have h8 := h_m8 hP (show i < 41 by omega)
    have hS := ms_L hF
    have hO1 : kOK τ := kOK_cg (by rw [hF.1]; omega) hF.2.1 hO
    refine h _ _ hO1 (fun Q2 kk => ?_)
    refine c_X7_holders (d := d + 27) (rf := fun k => cN σ 85 (8 * i + k)) hO1 (mPe_ms hS (h_mPe hE)) (kMp_ms hS (h_kMp hP)) (kMs_ms hS (h_kMs hP)) hbk.1 (by rw [hS.1 49 38 (by omega) (by omega)]; exact hbk.2) i1 (fun j hj => by rw [hS.1 85 (8 * i + j) (by omega) (by omega)]; exact h_rlM hP i1 hj) (fun g => ?_) (fun _ τ2 hG hact => ?_)
    · rw [hS.1 82 i (by omega) (by omega), (hP.2.2 i i1).1.2.2.2.2.2.1] at g
      exact absurd i3 g
    · have hsm := h_sm hP i1
      have hk2 := hk
      rw [hsm.2.1] at hk2
      have hsb := hd_smb hE hk2
      have hbn : ∀ k, k < m → cN σ 7 k < n := fun k hkm => (isN_c (hE.2.2.2.2.2.1 k hkm).1.2.1).1
      rw [tak_ms hS hn hP i1]
      have CL := cHo_lb (op := fun k => q_open (zI σ (98 + 6 * i) 5) (fun k => q_sg (zI σ (98 + 6 * i + 3) k)) (zI σ (98 + 6 * i + 2)) (q_fos (fun k => q_sg (zI σ (98 + 6 * i + 3) k)) (zI σ (98 + 6 * i + 2)) (if cN σ 83 i = 0 then 0 else zI σ (98 + 6 * i + 2) (cN σ 83 i - 1) + 1) 0 (cN σ 83 i)) (cN σ 83 i) (nI k)) (hd := fun k => q_hnd (zI τ 19 (cN σ 85 (8 * i + k))) (zI τ 20) (q_tak (fun k => q_sg (zI σ (98 + 6 * i + 3) k)) (zI σ (98 + 6 * i + 3)) (zI σ (98 + 6 * i + 4)) (zI σ (98 + 6 * i) 2) (cN σ 83 i)) n) (cN σ 83 i) (fun k _ => (hnd_lb2 n hn hsb).1)
      have ML := hoS_lb (op := fun k => q_open (zI τ 82 i) (fun k => q_sgm (zI τ 87 (8 * i + k))) (fun k => zI τ 86 (8 * i + k)) (q_fos (fun k => q_sgm (zI τ 87 (8 * i + k))) (fun k => zI τ 86 (8 * i + k)) (zI τ 84 i) 0 (cN σ 83 i)) (cN σ 83 i) (nI k)) (ft := fun k q b => q_fit (zI τ 50 q) (zI τ2 92 q) (q_tak (fun k => q_sg (zI σ (98 + 6 * i + 3) k)) (zI σ (98 + 6 * i + 3)) (zI σ (98 + 6 * i + 4)) (zI σ (98 + 6 * i) 2) (cN σ 83 i)) (cN σ 85 (8 * i + k)) b q (zI τ 78 i).toInt64 (q_rmM τ (cN σ 83) c bk (nI q) (cN σ 85 (8 * i + k)))) hn (cN σ 83 i)
      have key : cHo (fun k => q_open (zI σ (98 + 6 * i) 5) (fun k => q_sg (zI σ (98 + 6 * i + 3) k)) (zI σ (98 + 6 * i + 2)) (q_fos (fun k => q_sg (zI σ (98 + 6 * i + 3) k)) (zI σ (98 + 6 * i + 2)) (if cN σ 83 i = 0 then 0 else zI σ (98 + 6 * i + 2) (cN σ 83 i - 1) + 1) 0 (cN σ 83 i)) (cN σ 83 i) (nI k)) (fun k => q_hnd (zI τ 19 (cN σ 85 (8 * i + k))) (zI τ 20) (q_tak (fun k => q_sg (zI σ (98 + 6 * i + 3) k)) (zI σ (98 + 6 * i + 3)) (zI σ (98 + 6 * i + 4)) (zI σ (98 + 6 * i) 2) (cN σ 83 i)) n) (cN σ 83 i) = hoS (fun k => q_open (zI τ 82 i) (fun k => q_sgm (zI τ 87 (8 * i + k))) (fun k => zI τ 86 (8 * i + k)) (q_fos (fun k => q_sgm (zI τ 87 (8 * i + k))) (fun k => zI τ 86 (8 * i + k)) (zI τ 84 i) 0 (cN σ 83 i)) (cN σ 83 i) (nI k)) (fun k q b => q_fit (zI τ 50 q) (zI τ2 92 q) (q_tak (fun k => q_sg (zI σ (98 + 6 * i + 3) k)) (zI σ (98 + 6 * i + 3)) (zI σ (98 + 6 * i + 4)) (zI σ (98 + 6 * i) 2) (cN σ 83 i)) (cN σ 85 (8 * i + k)) b q (zI τ 78 i).toInt64 (q_rmM τ (cN σ 83) c bk (nI q) (cN σ 85 (8 * i + k)))) n (cN σ 83 i) := by
        refine smb_ext CL.1 ML.1 (fun x hx => ?_)
        have eqb : ∀ b1 b2 : Bool, (b1 = true ↔ b2 = true) → b1 = b2 := fun b1 b2 w => by
          cases b1 <;> cases b2
          · rfl
          · exact absurd (w.mpr rfl) (by decide)
          · exact absurd (w.mp rfl) (by decide)
          · rfl
        apply eqb
        rw [CL.2 x, ML.2 x hx]
        constructor
        · rintro ⟨k, k1, k2, k3⟩
          obtain ⟨q, q1, q2, q3⟩ := ((hnd_lb2 n hn hsb).2 x hx).mp k3
          have xn : x < n := by
            rw [hk2.1 q q1, lb_diff2 (by omega), lb_and, Bool.and_eq_true, Bool.and_eq_true] at q3
            exact aRe_lt hbn q1 (((acts_R (sum := nI (smF σ i)) (day := zI σ 0 6) hE q1).2 x hx).mp q3.1.1).1
          refine ⟨k, q, k1, ?_, q1, xn, ?_⟩
          · show q_open (zI τ 82 i) (fun k => q_sgm (zI τ 87 (8 * i + k))) (fun k => zI τ 86 (8 * i + k)) (q_fos (fun k => q_sgm (zI τ 87 (8 * i + k))) (fun k => zI τ 86 (8 * i + k)) (zI τ 84 i) 0 (cN σ 83 i)) (cN σ 83 i) (nI k) = true
            rw [open_ms hS hn hP i1]
            exact k2
          · show q_fit (zI τ 50 q) (zI τ2 92 q) _ (cN σ 85 (8 * i + k)) x q (zI τ 78 i).toInt64 (q_rmM τ (cN σ 83) c bk (nI q) (cN σ 85 (8 * i + k))) = true
            rw [fit_ms hS hE hP hB i1 q1 xn (h_rlM hP i1 k1).1 htd hk (hact q q1)]
            exact (alw_and (by omega) (by omega)).mpr ⟨q2, q3⟩
        · rintro ⟨k, q, k1, k2, q1, xn, k3⟩
          have k3 : q_fit (zI τ 50 q) (zI τ2 92 q) (q_tak (fun k => q_sg (zI σ (98 + 6 * i + 3) k)) (zI σ (98 + 6 * i + 3)) (zI σ (98 + 6 * i + 4)) (zI σ (98 + 6 * i) 2) (cN σ 83 i)) (cN σ 85 (8 * i + k)) x q (zI τ 78 i).toInt64 (q_rmM τ (cN σ 83) c bk (nI q) (cN σ 85 (8 * i + k))) = true := k3
          have k2 : q_open (zI τ 82 i) (fun k => q_sgm (zI τ 87 (8 * i + k))) (fun k => zI τ 86 (8 * i + k)) (q_fos (fun k => q_sgm (zI τ 87 (8 * i + k))) (fun k => zI τ 86 (8 * i + k)) (zI τ 84 i) 0 (cN σ 83 i)) (cN σ 83 i) (nI k) = true := k2
          rw [open_ms hS hn hP i1] at k2
          rw [fit_ms hS hE hP hB i1 q1 xn (h_rlM hP i1 k1).1 htd hk (hact q q1)] at k3
          exact ⟨k, k1, k2, ((hnd_lb2 n hn hsb).2 x hx).mpr ⟨q, q1, (alw_and (by omega) (by omega)).mp k3⟩⟩
      rw [← key]
      refine kk _ (Inv_scr (σ := σ) (by rw [hG.1, hF.1]) (by rw [hG.2.1, hF.2.1]) hII (fun c2 _ _ => ⟨fun x j w _ _ _ => ?_, fun j _ => ?_, Or.inr ?_⟩))
      · unfold scr at w; rw [kFg_i hG (fun w2 => by have := exK_T w2; omega), kFr_i hF (fun w2 => by have := eLk_T w2; omega)]
      · rw [kFg_l hG (fun w2 => by have := exK_T w2; omega), kFr_l hF (fun w2 => by have := eLk_T w2; omega)]
      · rw [kFg_i hG (fun w2 => by have := exK_T w2; omega), kFr_i hF (fun w2 => by have := eLk_T w2; omega)]
