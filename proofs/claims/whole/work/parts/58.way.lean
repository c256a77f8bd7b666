/-! the calls one by one: way, holders; written by hand -/
theorem tSm_cg {a1 a2 a3 a4 b1 b2 b3 b4 : Nat → Int32} {sm z : Int64} {nm rl dy : Int32} {mo : Bool} : ∀ m, (∀ k, k < m → a1 k = b1 k ∧ a2 k = b2 k ∧ a3 k = b3 k ∧ a4 k = b4 k) → q_tSm a1 a2 a3 a4 sm nm rl dy mo z m = q_tSm b1 b2 b3 b4 sm nm rl dy mo z m
  | 0, _ => rfl
  | m + 1, h => by
    obtain ⟨h1, h2, h3, h4⟩ := h m (by omega)
    simp only [q_tSm]
    rw [tSm_cg m (fun k hk => h k (by omega)), h1, h2, h3, h4]
theorem totm_cg {a1 a2 a3 a4 b1 b2 b3 b4 : Nat → Nat → Int32} {sm sg : Nat → Int64} {mf : Nat → Nat} {nm rl dy : Int32} {mo : Bool} : ∀ c, (∀ i, i < c → sm i = sg i ∧ ∀ k, k < mf i → a1 i k = b1 i k ∧ a2 i k = b2 i k ∧ a3 i k = b3 i k ∧ a4 i k = b4 i k) → q_totm a1 a2 a3 a4 sm mf nm rl dy mo c = q_totm b1 b2 b3 b4 sg mf nm rl dy mo c
  | 0, _ => rfl
  | c + 1, h => by
    obtain ⟨h1, h2⟩ := h c (by omega)
    simp only [q_totm]
    rw [totm_cg c (fun i hi => h i (by omega)), h1, tSm_cg (mf c) h2]
theorem rmM_cg {σ τ : kS} {mf : Nat → Nat} {c bk r : Nat} {nm : Int32} (h8 : ∀ i, i < c → mf i ≤ 8) (H : ∀ x k, (x = 49 ∧ k = 13) ∨ x = 68 ∨ x = 69 ∨ x = 74 ∨ (x = 78 ∧ k < c) ∨ (85 ≤ x ∧ x ≤ 89 ∧ k < 8 * c) → zI τ x k = zI σ x k) : q_rmM τ mf c bk nm r = q_rmM σ mf c bk nm r := by
  have tt : ∀ mo, q_totM τ mf nm (nI r) (zI σ 49 13) mo c = q_totM σ mf nm (nI r) (zI σ 49 13) mo c := fun mo => by
    refine totm_cg c (fun i hi => ⟨?_, fun k hk => ?_⟩)
    · show (zI τ 78 i).toInt64 = (zI σ 78 i).toInt64
      rw [H 78 i (by omega)]
    · have := h8 i hi
      exact ⟨H 87 _ (by omega), H 88 _ (by omega), H 85 _ (by omega), H 89 _ (by omega)⟩
  show q_rm2 (zI τ 74 (8 * bk + r)) (zI τ 69 (8 * bk + r)) (q_totM τ mf nm (nI r) (zI τ 49 13) true c) (q_rm1 (zI τ 74 (8 * bk + r)) (zI τ 68 (8 * bk + r)) (q_totM τ mf nm (nI r) (zI τ 49 13) false c)) = _
  rw [H 49 13 (by omega), H 74 _ (by omega), H 69 _ (by omega), H 68 _ (by omega), tt, tt]
theorem exZ_T {x k : Nat} (h : exZ x k = true) : (92 ≤ x ∧ x ≤ 95) ∨ (x = 49 ∧ (k = 64 ∨ k = 70)) := by
  simp only [exZ, Bool.or_eq_true, Bool.and_eq_true] at h
  rcases h with (((h | h) | h) | h) | ⟨h, h2⟩
  · have := Nat.eq_of_beq_eq_true h; omega
  · have := Nat.eq_of_beq_eq_true h; omega
  · have := Nat.eq_of_beq_eq_true h; omega
  · have := Nat.eq_of_beq_eq_true h; omega
  · have := Nat.eq_of_beq_eq_true h
    rcases h2 with h2 | h2
    · have := Nat.eq_of_beq_eq_true h2; omega
    · have := Nat.eq_of_beq_eq_true h2; omega
theorem exW_T {x k : Nat} (h : exW x k = true) : (94 ≤ x ∧ x ≤ 97) ∨ (x = 49 ∧ k = 71) := by
  simp only [exW, Bool.or_eq_true, Bool.and_eq_true] at h
  rcases h with (((h | h) | h) | h) | ⟨h, h2⟩
  · have := Nat.eq_of_beq_eq_true h; omega
  · have := Nat.eq_of_beq_eq_true h; omega
  · have := Nat.eq_of_beq_eq_true h; omega
  · have := Nat.eq_of_beq_eq_true h; omega
  · have := Nat.eq_of_beq_eq_true h
    have := Nat.eq_of_beq_eq_true h2
    omega
theorem eSr_T {x : Nat} (h : eSr x = true) : x = 16 ∨ x = 21 ∨ x = 22 := by simpa [eSr, or_assoc] using h
theorem eSx_T {x : Nat} (h : eSx x = true) : 16 ≤ x ∧ x ≤ 24 := by
  simp only [eSx, Bool.and_eq_true] at h
  exact ⟨Nat.ble_eq.mp h.1, Nat.ble_eq.mp h.2⟩
theorem e47_T {x : Nat} (h : e47 x = true) : x = 47 ∨ x = 48 := by simpa [e47] using h
theorem opn_ms {σ ρ : kS} {n c i : Nat} (hS : mSame σ ρ) (hn : n ≤ 14) (hP : iPp σ n c) (hi : i < c) : opn (fun k => q_sgm (zI ρ 87 (8 * i + k))) (cN σ 83 i) = opn (fun k => q_sg (zI σ (98 + 6 * i + 3) k)) (cN σ 83 i) := by
  rw [ms_r hS 87 (by omega) (by omega)]
  exact opn_P hn hP hi
/-- the search for a way, in no machine's words -/
noncomputable def GW (σ : kS) (n s m c : Nat) (C : kB) (i : Nat) : gO := mG (opn (fun k => q_sg (zI σ (98 + 6 * i + 3) k)) (cN σ 83 i)).length (n * n) (fP n (zI σ 2) (aEM σ s m (cN σ 6) (cN σ 7) (nI (smF σ i)) (zI σ 0 6)) (awM σ (zI σ 0 6) s) 16383 (fun q r => ((smF σ i : Nat) : Int) ≤ rmI σ c C (zI σ 0 6) q r) (fun j => cN σ 85 (8 * i + oslL (opn (fun k => q_sg (zI σ (98 + 6 * i + 3) k)) (cN σ 83 i)) j))) (upM n) (opn (fun k => q_sg (zI σ (98 + 6 * i + 3) k)) (cN σ 83 i)).length (q_tak (fun k => q_sg (zI σ (98 + 6 * i + 3) k)) (zI σ (98 + 6 * i + 3)) (zI σ (98 + 6 * i + 4)) (zI σ (98 + 6 * i) 2) (cN σ 83 i)) 0
theorem hd_smb {σ τ : kS} {n s m S : Nat} {td set : Int32} {DL ML : Nat → Int32} (hE : iPe σ n s m) (hk : clk σ τ n s m (nI S) td set DL ML) : ∀ k, k < n → smb 14 (zI τ 20 k) := fun k hkn => by
  rw [hk.1 k hkn]
  exact smb_and (acts_R (sum := nI S) (day := td) hE hkn).1
theorem osl_r {sg : Nat → Bool} {m j : Nat} (h : j < (opn sg m).length) : oslL (opn sg m) j < m := (opn_lt m _ (oslL_m h)).1
theorem way_C {σ τ : kS} {n s m c b b2 bk i : Nat} {C : kB} (hE : iPe σ n s m) (hP : iPp σ n c) (hB : iBk σ b b2 bk C) (hi : i < c) (hk : clk σ τ n s m (zI σ (98 + 6 * i) 1) (zI σ 0 6) 16383 (cDL σ (cN σ 83) (aF σ) (zI σ 0 6) b c) (cML σ (cN σ 83) (aF σ) (zI σ 0 6) b c)) : sRel n 0 (0, zI (q_os (fun k => q_sg (zI σ ((98 + 6 * i) + 3) k)) (zI σ ((98 + 6 * i) + 1)) (cN σ 83 i) τ) 23, zI (q_os (fun k => q_sg (zI σ ((98 + 6 * i) + 3) k)) (zI σ ((98 + 6 * i) + 1)) (cN σ 83 i) τ) 24) (skA (q_os (fun k => q_sg (zI σ ((98 + 6 * i) + 3) k)) (zI σ ((98 + 6 * i) + 1)) (cN σ 83 i) τ) n (opn (fun k => q_sg (zI σ ((98 + 6 * i) + 3) k)) (cN σ 83 i)).length (fun j => cN σ 85 (8 * i + oslL (opn (fun k => q_sg (zI σ ((98 + 6 * i) + 3) k)) (cN σ 83 i)) j)) (q_tak (fun k => q_sg (zI σ ((98 + 6 * i) + 3) k)) (zI σ ((98 + 6 * i) + 3)) (zI σ ((98 + 6 * i) + 4)) (zI σ (98 + 6 * i) 2) (cN σ 83 i))) (GW σ n s m c C i) := by
  have hn := hE.1.1
  obtain ⟨s1, s2, s3⟩ := h_sm hP hi
  rw [s2] at hk
  have hF := kFr_os (sg := fun k => q_sg (zI σ ((98 + 6 * i) + 3) k)) (rl := zI σ ((98 + 6 * i) + 1)) (σ := τ) (cN σ 83 i)
  have e19 : zI (q_os (fun k => q_sg (zI σ ((98 + 6 * i) + 3) k)) (zI σ ((98 + 6 * i) + 1)) (cN σ 83 i) τ) 19 = zI τ 19 := funext fun k => kFr_i hF (fun w => by have := eSr_T w; omega)
  have e20 : zI (q_os (fun k => q_sg (zI σ ((98 + 6 * i) + 3) k)) (zI σ ((98 + 6 * i) + 1)) (cN σ 83 i) τ) 20 = zI τ 20 := funext fun k => kFr_i hF (fun w => by have := eSr_T w; omega)
  have R := skA_R (σ := q_os (fun k => q_sg (zI σ ((98 + 6 * i) + 3) k)) (zI σ ((98 + 6 * i) + 1)) (cN σ 83 i) τ) (n := n) (o := (opn (fun k => q_sg (zI σ ((98 + 6 * i) + 3) k)) (cN σ 83 i)).length) (rlf := fun j => cN σ 85 (8 * i + oslL (opn (fun k => q_sg (zI σ ((98 + 6 * i) + 3) k)) (cN σ 83 i)) j)) (tk := q_tak (fun k => q_sg (zI σ ((98 + 6 * i) + 3) k)) (zI σ ((98 + 6 * i) + 3)) (zI σ ((98 + 6 * i) + 4)) (zI σ (98 + 6 * i) 2) (cN σ 83 i)) hn (fun k hkn => by rw [e20]; exact hd_smb hE hk k hkn)
  rw [e19, e20] at R
  have cg := mG_congr (o := (opn (fun k => q_sg (zI σ ((98 + 6 * i) + 3) k)) (cN σ 83 i)).length) (al := n * n) (ft := fun j U x => ftC n (zI τ 19 (cN σ 85 (8 * i + oslL (opn (fun k => q_sg (zI σ ((98 + 6 * i) + 3) k)) (cN σ 83 i)) j))) (zI τ 20) U x) (ft2 := fP n (zI σ 2) (aEM σ s m (cN σ 6) (cN σ 7) (nI (smF σ i)) (zI σ 0 6)) (awM σ (zI σ 0 6) s) 16383 (fun q r => ((smF σ i : Nat) : Int) ≤ rmI σ c C (zI σ 0 6) q r) (fun j => cN σ 85 (8 * i + oslL (opn (fun k => q_sg (zI σ (98 + 6 * i + 3) k)) (cN σ 83 i)) j))) (up := upM n) (fun j U x hj hx => ftC_P (rl := fun j => cN σ 85 (8 * i + oslL (opn (fun k => q_sg (zI σ (98 + 6 * i + 3) k)) (cN σ 83 i)) j)) hn hE.1.2.1 hx s1 hk (fun q hq => acts_R hE hq) (fun q r a1 a2 => room_C hP hB a1 a2) (h_rlM hP hi (osl_r hj)).1) _ (Nat.le_refl _) (q_tak (fun k => q_sg (zI σ ((98 + 6 * i) + 3) k)) (zI σ ((98 + 6 * i) + 3)) (zI σ ((98 + 6 * i) + 4)) (zI σ (98 + 6 * i) 2) (cN σ 83 i)) 0
  rw [cg] at R
  exact R
theorem way_M {σ ρ τ1 : kS} {n s m c b b2 bk i : Nat} {C : kB} (hS : mSame σ ρ) (hE : iPe σ n s m) (hP : iPp σ n c) (hB : iBk σ b b2 bk C) (hi : i < c) (htd : zI σ 49 13 = zI σ 0 6) (hF : kFg exZ ρ τ1) (hact : ∀ q, q < n → actR (aEM ρ s m (cN σ 6) (cN σ 7) (zI ρ 78 i) (zI ρ 49 13)) (awM ρ (zI ρ 49 13) s) q (zI τ1 92 q)) : mG (opn (fun k => q_sgm (zI ρ 87 (8 * i + k))) (cN σ 83 i)).length (n * n) (ftM τ1 n i c bk (cN σ 83) (fun k => cN σ 85 (8 * i + k)) (oslL (opn (fun k => q_sgm (zI ρ 87 (8 * i + k))) (cN σ 83 i))) 16383) (upM n) (opn (fun k => q_sgm (zI ρ 87 (8 * i + k))) (cN σ 83 i)).length (q_tak (fun k => q_sgm (zI ρ 87 (8 * i + k))) (fun k => zI ρ 87 (8 * i + k)) (fun k => zI ρ 88 (8 * i + k)) (zI ρ 79 i) (cN σ 83 i)) 0 = GW σ n s m c C i := by
  have hn := hE.1.1
  have hc40 := hP.1.2.1.1
  obtain ⟨s1, s2, s3⟩ := h_sm hP hi
  rw [tak_ms hS hn hP hi, opn_ms hS hn hP hi]
  have z : ∀ x k, 49 ≤ x → x ≤ 91 → ¬ (x = 49 ∧ (k = 64 ∨ k = 70)) → zI τ1 x k = zI σ x k := fun x k h1 h2 h3 => by rw [kFg_i hF (fun w => by have := exZ_T w; omega), hS.1 x k h1 (by omega)]
  refine mG_congr (fun j U x hj hx => ?_) _ (Nat.le_refl _) _ _
  refine ftM_P (ro := zI σ 2) (E := aEM σ s m (cN σ 6) (cN σ 7) (nI (smF σ i)) (zI σ 0 6)) (aw := awM σ (zI σ 0 6) s) (R := fun q r => rmI σ c C (zI σ 0 6) q r) (S := smF σ i) hn hx (fun q hq => ?_) (fun q hq => ?_) s1 ?_ (fun q r hq hr => ?_) (h_rlM hP hi (osl_r hj)).1
  · rw [z 50 q (by omega) (by omega) (by omega)]; exact hE.2.2.2.1 q hq
  · have a := hact q hq
    rw [(aEM_ms hS).1, (aEM_ms (sum := 0) (m := m) (ofn := cN σ 6) (byn := cN σ 7) hS).2, hS.1 78 i (by omega) (by omega), hS.1 49 13 (by omega) (by omega), s3, htd] at a
    exact a
  · rw [z 78 i (by omega) (by omega) (by omega)]; exact s3
  · rw [rmM_cg (σ := σ) (fun i hi => h_m8 hP (by omega)) (fun x k w => z x k (by omega) (by omega) (by omega))]
    exact room_M hn hP hB htd hq hr
theorem cwy_cg {osf : Nat → Nat} {f g row row2 : Nat → Int32} {x : Nat} (hx : x < 8) : ∀ o, (∀ j, j < o → f j = g j) → q_cwy osf f row o x = q_cwy osf g row2 o x
  | 0, _ => by
    show q_row (fun _ => -1) row 8 x = q_row (fun _ => -1) row2 8 x
    unfold q_row
    rw [if_pos hx, if_pos hx]
  | o + 1, h => by
    show upd (q_cwy osf f row o) (osf o) (f o) x = upd (q_cwy osf g row2 o) (osf o) (g o) x
    by_cases e : x = osf o
    · rw [e, upd_s, upd_s, h o (by omega)]
    · rw [upd_o e, upd_o e]
      exact cwy_cg hx o (fun j hj => h j (by omega))
/-- nothing but the search's rows and the rows of the way have changed -/
theorem Inv_way {σ ρ : kS} (hN : zN ρ = zN σ) (hR : zR ρ = zR σ) (hI : Inv σ) (hL : ∀ k, zL ρ 90 k = zL σ 90 k) (fr : ∀ x k, ¬ scr x k → ¬ (x = 47 ∨ x = 48 ∨ x = 96 ∨ x = 97) → ¬ (x = 49 ∧ k = 71) → zI ρ x k = zI σ x k) (hw : iWy ρ) : Inv ρ := by
  obtain ⟨hO, n, s, m, c, b, b2, bk, C, td, sp, L, hE, hP, hB, hT, hA, hW⟩ := hI
  have hb := iB_b hB
  refine ⟨kOK_cg (by omega) hR hO, n, s, m, c, b, b2, bk, C, td, sp, L, iPe_cg (σ := σ) (fun x k w => fr x k ?_ ?_ ?_) hE, iPp_cg (σ := σ) hN hR (fun x k w => fr x k ?_ ?_ ?_) (fun k _ => hL k) (fun i i1 i2 => ?_) hP, iBk_cg (σ := σ) (by omega) (fun x k _ _ => by rw [hR]) (fun x k w => fr x k ?_ ?_ ?_) hB, iTm_cg (σ := σ) (fun x k w => fr x k ?_ ?_ ?_) hT, iTp_cg (σ := σ) (fun x k w => fr x k ?_ ?_ ?_) hA, hw⟩
  · unfold rgPe at w; unfold scr; omega
  · unfold rgPe at w; omega
  · unfold rgPe at w; omega
  · unfold rgPp at w; unfold scr; omega
  · unfold rgPp at w; omega
  · unfold rgPp at w; omega
  · rw [fr 83 i (by unfold scr; omega) (by omega) (by omega)]; exact hP.2.1 i i2
  · unfold rgBk at w; unfold scr; omega
  · unfold rgBk at w; omega
  · unfold rgBk at w; omega
  · unfold rgTm at w; unfold scr; omega
  · unfold rgTm at w; omega
  · unfold rgTm at w; omega
  · unfold rgTp at w; unfold scr; omega
  · unfold rgTp at w; omega
  · unfold rgTp at w; omega
theorem swy_n {n o : Nat} {S : skS} {r : Bool × skS} (h : sRel n 0 S r none) : q_swy o r = -3 := swy_R h
theorem swy_l {n o : Nat} {S : skS} {r : Bool × skS} {ps : List Nat} (h : sRel n 0 S r (some (.inl ps))) : q_swy o r = nI o := swy_R h
theorem swy_r {n o t : Nat} {S : skS} {r : Bool × skS} (h : sRel n 0 S r (some (.inr t))) : q_swy o r = -2 := swy_R h
theorem p_way {d : Nat} {σ : kS} {p : Int32} {Q : Option Value → kS → Prop} (hI : Inv σ) (h : ∀ v τ, kOK τ → kMt yX7_way mX7_way (d + 30) [.ref 49, .int p] τ (.int v) → Q (some (.int v)) τ) : kCt yX6_way mX6_way (d + 30) 0 0 [.ref 0, .int p] σ Q := by
  have hII := hI
  obtain ⟨hO, n, s, m, c, b, b2, bk, C, td, sp, L, hE, hP, hB, hT, hA, hW⟩ := hI
  have hc := hP.1.2.1.1
  have hn := hE.1.1
  have htd : zI σ 49 13 = zI σ 0 6 := by rw [hT.1.2.2, hT.1.2.1]
  have hbk := hB.2.2.2.2.1
  refine c_X6_way (d := d + 19) (rf := fun i k => cN σ 85 (8 * i + k)) (h_cHy hO hE hP hB) (fun i k a1 a2 => h_rlC hP a1 a2) (fun a => ?_) (fun i i1 i2 a => ?_) (fun i τ i1 i2 i3 hF hk => ?_)
  · exact h _ _ hO (fun Q2 kk => c_X7_wayN (d := d + 26) hO (by rw [hP.1.2.2]; exact a) (kk _ hII))
  · subst i2
    refine h _ _ hO (fun Q2 kk => ?_)
    refine c_X7_way (d := d + 26) (rf := fun k => cN σ 85 (8 * i + k)) hO (h_mPe hE) (h_kMp hP) (h_kMs hP) hbk.1 hbk.2 i1 (fun k hk => h_rlM hP i1 hk) (fun _ => kk _ hII) (fun w => ?_)
    rw [(hP.2.2 i i1).1.2.2.2.2.2.1] at w
    exact absurd w a
  · subst i2
    have h8 := h_m8 hP (show i < 41 by omega)
    have RC := way_C hE hP hB i1 hk
    have hFo := kFr_os (sg := fun k => q_sg (zI σ ((98 + 6 * i) + 3) k)) (rl := zI σ ((98 + 6 * i) + 1)) (σ := τ) (cN σ 83 i)
    have o8 := opn_len (sg := fun k => q_sg (zI σ ((98 + 6 * i) + 3) k)) (cN σ 83 i)
    have zz : ∀ x k, ¬ (16 ≤ x ∧ x ≤ 24) → zI (q_sS (q_os (fun k => q_sg (zI σ ((98 + 6 * i) + 3) k)) (zI σ ((98 + 6 * i) + 1)) (cN σ 83 i) τ) (skA (q_os (fun k => q_sg (zI σ ((98 + 6 * i) + 3) k)) (zI σ ((98 + 6 * i) + 1)) (cN σ 83 i) τ) n (opn (fun k => q_sg (zI σ ((98 + 6 * i) + 3) k)) (cN σ 83 i)).length (fun j => cN σ 85 (8 * i + oslL (opn (fun k => q_sg (zI σ ((98 + 6 * i) + 3) k)) (cN σ 83 i)) j)) (q_tak (fun k => q_sg (zI σ ((98 + 6 * i) + 3) k)) (zI σ ((98 + 6 * i) + 3)) (zI σ ((98 + 6 * i) + 4)) (zI σ (98 + 6 * i) 2) (cN σ 83 i))).2) x k = zI σ x k := fun x k hx => by
      rw [kFr_i kFr_sS (fun w => by have := eSx_T w; omega), kFr_i hFo (fun w => by have := eSr_T w; omega), kFr_i hF (fun w => by have := eLk_T w; omega)]
    have zN1 : zN (q_os (fun k => q_sg (zI σ ((98 + 6 * i) + 3) k)) (zI σ ((98 + 6 * i) + 1)) (cN σ 83 i) τ) = zN σ := hFo.1.trans hF.1
    have zR1 : zR (q_os (fun k => q_sg (zI σ ((98 + 6 * i) + 3) k)) (zI σ ((98 + 6 * i) + 1)) (cN σ 83 i) τ) = zR σ := hFo.2.1.trans hF.2.1
    have zL1 : ∀ k, zL (q_os (fun k => q_sg (zI σ ((98 + 6 * i) + 3) k)) (zI σ ((98 + 6 * i) + 1)) (cN σ 83 i) τ) 90 k = zL σ 90 k := fun k => by rw [kFr_l hFo (fun w => by have := eSr_T w; omega), kFr_l hF (fun w => by have := eLk_T w; omega)]
    generalize skA (q_os (fun k => q_sg (zI σ ((98 + 6 * i) + 3) k)) (zI σ ((98 + 6 * i) + 1)) (cN σ 83 i) τ) n (opn (fun k => q_sg (zI σ ((98 + 6 * i) + 3) k)) (cN σ 83 i)).length (fun j => cN σ 85 (8 * i + oslL (opn (fun k => q_sg (zI σ ((98 + 6 * i) + 3) k)) (cN σ 83 i)) j)) (q_tak (fun k => q_sg (zI σ ((98 + 6 * i) + 3) k)) (zI σ ((98 + 6 * i) + 3)) (zI σ ((98 + 6 * i) + 4)) (zI σ (98 + 6 * i) 2) (cN σ 83 i)) = K at RC zz ⊢
    have noneg : ∀ o : Nat, o ≤ 8 → ¬ nI o < 0 := fun o ho => nI_pos (by omega)
    refine ⟨fun w => ?_, fun w ρ hG e47 e48 => ?_⟩
    · have hS : mSame σ (q_sS (q_os (fun k => q_sg (zI σ ((98 + 6 * i) + 3) k)) (zI σ ((98 + 6 * i) + 1)) (cN σ 83 i) τ) K.2) := ⟨fun x k g1 g2 => zz x k (by omega), fun k => zL1 k⟩
      have hO1 : kOK (q_sS (q_os (fun k => q_sg (zI σ ((98 + 6 * i) + 3) k)) (zI σ ((98 + 6 * i) + 1)) (cN σ 83 i) τ) K.2) := kOK_sS (kOK_cg (by rw [zN1]; omega) zR1 hO)
      have zN2 : zN (q_sS (q_os (fun k => q_sg (zI σ ((98 + 6 * i) + 3) k)) (zI σ ((98 + 6 * i) + 1)) (cN σ 83 i) τ) K.2) = zN σ := zN1
      have zR2 : zR (q_sS (q_os (fun k => q_sg (zI σ ((98 + 6 * i) + 3) k)) (zI σ ((98 + 6 * i) + 1)) (cN σ 83 i) τ) K.2) = zR σ := zR1
      generalize q_sS (q_os (fun k => q_sg (zI σ ((98 + 6 * i) + 3) k)) (zI σ ((98 + 6 * i) + 1)) (cN σ 83 i) τ) K.2 = ρ at zz hS hO1 zN2 zR2 ⊢
      refine h _ _ hO1 (fun Q2 kk => ?_)
      refine c_X7_way (d := d + 26) (rf := fun k => cN σ 85 (8 * i + k)) hO1 (mPe_ms hS (h_mPe hE)) (kMp_ms hS (h_kMp hP)) (kMs_ms hS (h_kMs hP)) hbk.1 (by rw [hS.1 49 38 (by omega) (by omega)]; exact hbk.2) i1 (fun j hj => by rw [hS.1 85 (8 * i + j) (by omega) (by omega)]; exact h_rlM hP i1 hj) (fun g => ?_) (fun _ τ1 hG1 hact => ?_)
      · rw [hS.1 82 i (by omega) (by omega), (hP.2.2 i i1).1.2.2.2.2.2.1] at g
        exact absurd i3 g
      · have GM := way_M hS hE hP hB i1 htd hG1 hact
        have keep : ∀ τ2, kFg exW τ1 τ2 → (∀ x, zI τ2 96 x = zI τ1 96 x ∧ zI τ2 97 x = zI τ1 97 x) → zI τ2 49 71 = zI τ1 49 71 → Inv τ2 := fun τ2 hG2 y1 y2 => by
          have fr : ∀ x k, ¬ scr x k → zI τ2 x k = zI σ x k := fun x k g => by
            unfold scr at g
            rw [← zz x k (by omega), ← kFg_i hG1 (fun w => by have := exZ_T w; omega)]
            by_cases c1 : x = 96
            · rw [c1]; exact (y1 k).1
            · by_cases c2 : x = 97
              · rw [c2]; exact (y1 k).2
              · by_cases c3 : x = 49 ∧ k = 71
                · rw [c3.1, c3.2]; exact y2
                · exact kFg_i hG2 (fun w => by have := exW_T w; omega)
          refine Inv_way (σ := σ) (by rw [hG2.1, hG1.1, zN2]) (by rw [hG2.2.1, hG1.2.1, zR2]) hII (fun k => ?_) (fun x k g _ _ => fr x k g) (iWy_cg (σ := σ) (fun x k g => fr x k (by unfold rgWy at g; unfold scr; omega)) hW)
          rw [kFg_l hG2 (fun w => by have := exW_T w; omega), kFg_l hG1 (fun w => by have := exZ_T w; omega)]
          exact hS.2 k
        rw [GM]
        refine ⟨fun ps g => ?_, fun g τ2 hG2 y1 y2 => ?_, fun t g τ2 hG2 y1 y2 => ?_⟩
        · rw [g] at RC
          have sw := swy_l (o := (opn (fun k => q_sg (zI σ ((98 + 6 * i) + 3) k)) (cN σ 83 i)).length) RC
          rw [sw] at w
          exact absurd w (noneg _ (by omega))
        · rw [g] at RC
          have sw := swy_n (o := (opn (fun k => q_sg (zI σ ((98 + 6 * i) + 3) k)) (cN σ 83 i)).length) RC
          rw [← sw]
          exact kk _ (keep τ2 hG2 y1 y2)
        · rw [g] at RC
          have sw := swy_r (o := (opn (fun k => q_sg (zI σ ((98 + 6 * i) + 3) k)) (cN σ 83 i)).length) RC
          rw [← sw]
          exact kk _ (keep τ2 hG2 y1 y2)
    · have zz2 : ∀ x k, ¬ (16 ≤ x ∧ x ≤ 24) → ¬ x = 47 → ¬ x = 48 → zI ρ x k = zI σ x k := fun x k g1 g2 g3 => by rw [kFr_i hG (fun w => by have := e47_T w; omega), zz x k g1]
      have zN2 : zN ρ = zN σ := hG.1.trans zN1
      have zR2 : zR ρ = zR σ := hG.2.1.trans zR1
      have hS : mSame σ ρ := ⟨fun x k g1 g2 => zz2 x k (by omega) (by omega) (by omega), fun k => (kFr_l hG (fun w => by have := e47_T w; omega)).trans (zL1 k)⟩
      have hO1 : kOK ρ := kOK_cg (by rw [zN2]; omega) zR2 hO
      refine h _ _ hO1 (fun Q2 kk => ?_)
      refine c_X7_way (d := d + 26) (rf := fun k => cN σ 85 (8 * i + k)) hO1 (mPe_ms hS (h_mPe hE)) (kMp_ms hS (h_kMp hP)) (kMs_ms hS (h_kMs hP)) hbk.1 (by rw [hS.1 49 38 (by omega) (by omega)]; exact hbk.2) i1 (fun j hj => by rw [hS.1 85 (8 * i + j) (by omega) (by omega)]; exact h_rlM hP i1 hj) (fun g => ?_) (fun _ τ1 hG1 hact => ?_)
      · rw [hS.1 82 i (by omega) (by omega), (hP.2.2 i i1).1.2.2.2.2.2.1] at g
        exact absurd i3 g
      · have GM := way_M hS hE hP hB i1 htd hG1 hact
        rw [GM, opn_ms hS hn hP i1]
        refine ⟨fun ps g τ2 hG2 y1 y2 => ?_, fun g => ?_, fun t g => ?_⟩
        · have ps1 := mG_ps _ _ _ _ g
          have RC2 := RC.2
          rw [g] at RC2
          have R3 := RC
          rw [g] at R3
          have sw := swy_l (o := (opn (fun k => q_sg (zI σ ((98 + 6 * i) + 3) k)) (cN σ 83 i)).length) R3
          rw [← sw]
          refine kk _ (Inv_way (σ := σ) (by rw [hG2.1, hG1.1, zN2]) (by rw [hG2.2.1, hG1.2.1, zR2]) hII (fun k => ?_) (fun x k g1 g2 g3 => ?_) (Or.inr ⟨y1, fun x hx => ?_⟩))
          · rw [kFg_l hG2 (fun w => by have := exW_T w; omega), kFg_l hG1 (fun w => by have := exZ_T w; omega)]
            exact hS.2 k
          · unfold scr at g1
            rw [kFg_i hG2 (fun w => by have := exW_T w; omega), kFg_i hG1 (fun w => by have := exZ_T w; omega), zz2 x k (by omega) (by omega) (by omega)]
          · have z47 : zI τ2 47 x = zI ρ 47 x := by rw [kFg_i hG2 (fun w => by have := exW_T w; omega), kFg_i hG1 (fun w => by have := exZ_T w; omega)]
            have z48 : zI τ2 48 x = zI ρ 48 x := by rw [kFg_i hG2 (fun w => by have := exW_T w; omega), kFg_i hG1 (fun w => by have := exZ_T w; omega)]
            rw [(y2 x hx).1, (y2 x hx).2, z47, z48, e47, e48]
            constructor
            · exact cwy_cg hx _ (fun j hj => by
                have w := (RC2.2 j (by rw [ps1.1]; exact hj)).1
                rw [Nat.zero_add] at w
                exact w.symm)
            · exact cwy_cg hx _ (fun j hj => by
                have w := (RC2.2 j (by rw [ps1.1]; exact hj)).2
                rw [Nat.zero_add] at w
                exact w.symm)
        · rw [g] at RC
          have sw := swy_n (o := (opn (fun k => q_sg (zI σ ((98 + 6 * i) + 3) k)) (cN σ 83 i)).length) RC
          rw [sw] at w
          exact absurd (by decide) w
        · rw [g] at RC
          have sw := swy_r (o := (opn (fun k => q_sg (zI σ ((98 + 6 * i) + 3) k)) (cN σ 83 i)).length) RC
          rw [sw] at w
          exact absurd (by decide) w
