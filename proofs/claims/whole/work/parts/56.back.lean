/-! the calls one by one: back, paper; written by hand -/
theorem isN_kb {v : Int32} (h : isN v 2) : v = kb (!(decide (v = 0))) := by
  obtain ⟨j, hj, rfl⟩ := h
  match j, hj with
  | 0, _ => rfl
  | 1, _ => rfl
theorem kMr_ms {σ ρ : kS} {bk nr : Nat} {fo eo so : Nat → Nat} (h : mSame σ ρ) (g : kMr σ bk nr fo eo so) : kMr ρ bk nr fo eo so := by
  unfold kMr at g ⊢
  rw [h.1 49 38 (by omega) (by omega), ms_r h 72 (by omega) (by omega), ms_r h 63 (by omega) (by omega), ms_r h 64 (by omega) (by omega), ms_r h 65 (by omega) (by omega), ms_r h 70 (by omega) (by omega)]
  exact g
theorem mBeg_cg {ρ ρ2 : kS} {i : Nat} {st : Int32} {J : Int64} {td : Int32} {mm : Nat} {rl stp rl2 stp2 : Nat → Int32} {s84 : Int32} (hc : ∀ k, k < mm → rl k = rl2 k ∧ stp k = stp2 k) (h : mBeg ρ ρ2 i st J td mm rl stp s84) : mBeg ρ ρ2 i st J td mm rl2 stp2 s84 := by
  obtain ⟨h1, h2, h3, h4, h5, h6⟩ := h
  exact ⟨h1, h2, h3, h4, h5, fun k hk => ⟨(h6 k hk).1.trans (hc k hk).1, (h6 k hk).2.1.trans (hc k hk).2, (h6 k hk).2.2⟩⟩
theorem rfM_ro {σ τ : kS} {bk nr : Nat} {fo eo : Nat → Nat} {kind place : Int32} {J : Int64} {urg : Bool} (h62 : zI τ 62 = zI σ 62) (h70 : zI τ 70 = zI σ 70) (h71 : zI τ 71 = zI σ 71) : q_rfM τ bk fo eo kind J place urg 0 nr = q_rfM σ bk fo eo kind J place urg 0 nr := by
  show q_rfo (fun k => zI τ 62 (20 * bk + k)) kind (fun k => q_mh (zI τ 70) (zI τ 71) (1000 * bk + fo k) (eo k - fo k) J place urg) 0 nr = q_rfo (fun k => zI σ 62 (20 * bk + k)) kind (fun k => q_mh (zI σ 70) (zI σ 71) (1000 * bk + fo k) (eo k - fo k) J place urg) 0 nr
  rw [h62, h70, h71]
/-- a paper that stands begins anew on both sides -/
theorem Inv_back {σ ρ ρ2 : kS} {n s m c b b2 bk : Nat} {C : kB} {td sp L i : Nat} {st J tdv : Int32} {J64 : Int64} {mm : Nat} {rl stp : Nat → Int32} {s84 : Int32} (hO : kOK σ) (hE : iPe σ n s m) (hP : iPp σ n c) (hB : iBk σ b b2 bk C) (hT : iTm σ td sp) (hA : iTp σ L) (hW : iWy σ) (hi : i < c) (hc : cBeg σ ρ (98 + 6 * i) st J tdv mm rl stp) (hm : mBeg ρ ρ2 i st J64 tdv mm rl stp s84) (h8 : mm ≤ 8) (hp : iP1 ρ2 n i) : Inv ρ2 := by
  have hb := iB_b hB
  have hc40 := hP.1.2.1.1
  have hN : zN ρ2 = zN σ := hm.1.1.trans hc.1.1
  have hR : zR ρ2 = zR σ := hm.1.2.trans hc.1.2.1
  have fr : ∀ x k, ¬ x = 76 → ¬ (81 ≤ x ∧ x ≤ 84 ∧ k = i) → ¬ (85 ≤ x ∧ x ≤ 88 ∧ 8 * i ≤ k ∧ k < 8 * i + 8) → (x < 98 + 6 * i ∨ 98 + 6 * i + 5 ≤ x) → zI ρ2 x k = zI σ x k := fun x k h1 h2 h3 h4 => by
    rw [hm.2.1 x k h1 h2 (by omega), hc.2.1 x k h4]
  refine ⟨kOK_cg (by omega) hR hO, n, s, m, c, b, b2, bk, C, td, sp, L, iPe_cg (σ := σ) (fun x k w => fr x k ?_ ?_ ?_ ?_) hE, iPp_up (σ := σ) (i := i) hN hR (fr 12 1 (by omega) (by omega) (by omega) (by omega)) (fr 49 61 (by omega) (by omega) (by omega) (by omega)) (fun j x k g1 g2 w => fr x k ?_ ?_ ?_ ?_) (fun j _ g => ?_) ?_ (fun j g1 g2 => fr 83 j (by omega) (by omega) (by omega) (by omega)) (fun _ => hp) hP, iBk_cg (σ := σ) (by omega) (fun x k _ _ => by rw [hR]) (fun x k w => fr x k ?_ ?_ ?_ ?_) hB, iTm_cg (σ := σ) (fun x k w => fr x k ?_ ?_ ?_ ?_) hT, iTp_cg (σ := σ) (fun x k w => fr x k ?_ ?_ ?_ ?_) hA, iWy_cg (σ := σ) (fun x k w => fr x k ?_ ?_ ?_ ?_) hW⟩
  · unfold rgPe at w; omega
  · unfold rgPe at w; omega
  · unfold rgPe at w; omega
  · unfold rgPe at w; omega
  · unfold rgP1 at w; omega
  · unfold rgP1 at w; omega
  · unfold rgP1 at w; omega
  · unfold rgP1 at w; omega
  · rw [hm.2.2.1 j g, hc.1.2.2]
  · rw [hm.2.2.2.2.1.2.2.1]; exact ⟨mm, by omega, rfl⟩
  · unfold rgBk at w; omega
  · unfold rgBk at w; omega
  · unfold rgBk at w; omega
  · unfold rgBk at w; omega
  · unfold rgTm at w; omega
  · unfold rgTm at w; omega
  · unfold rgTm at w; omega
  · unfold rgTm at w; omega
  · unfold rgTp at w; omega
  · unfold rgTp at w; omega
  · unfold rgTp at w; omega
  · unfold rgTp at w; omega
  · unfold rgWy at w; omega
  · unfold rgWy at w; omega
  · unfold rgWy at w; omega
  · unfold rgWy at w; omega
theorem join_back {σ ρ : kS} {n c td sp i : Nat} (hS : mSame σ ρ) (hP : iPp σ n c) (hT : iTm σ td sp) (hi : i < c) : (zI ρ 78 i).toInt64 + q_othM (sI ρ 81 i (zI ρ 49 13)) (nI i) (zI ρ 77 i) (zI ρ 79 i) (zI ρ 80 i) c = (zI σ (98 + 6 * i) 1 + q_othσ (sI σ (98 + 6 * i) 7 (zI σ 0 6)) (nI i) (zI σ (98 + 6 * i) 0) (zI σ (98 + 6 * i) 2) (zI σ (98 + 6 * i) 3) (zI σ 0 6 - zI σ 0 7) c).toInt64 := by
  have hc40 := hP.1.2.1.1
  have ht : zI ρ 49 13 = nI td := by rw [hS.1 49 13 (by omega) (by omega)]; exact hT.1.2.2
  have hs : zI ρ 49 62 = nI sp := by rw [hS.1 49 62 (by omega) (by omega)]; exact hT.2.2.2
  have o := oth_P (σc := sI σ (98 + 6 * i) 7 (zI σ 0 6)) (σm := sI ρ 81 i (zI ρ 49 13)) (num := nI i) (kind := zI σ (98 + 6 * i) 0) (maker := zI σ (98 + 6 * i) 2) (place := zI σ (98 + 6 * i) 3) (td := td) (sp := sp) (c := c) (by omega) hT.1.1 hT.2.1 (fun k hk => by
    have P := hP.2.2 k hk
    refine ⟨?_, ?_, ?_, ?_, ?_, ?_, ?_, ?_⟩
    · rw [zI_sI, if_neg (by omega), zI_sI, if_neg (by omega), hS.1 77 k (by omega) (by omega)]; exact P.1.1
    · rw [zI_sI, if_neg (by omega), zI_sI, if_neg (by omega), hS.1 78 k (by omega) (by omega)]; exact P.1.2.1
    · rw [zI_sI, if_neg (by omega), zI_sI, if_neg (by omega), hS.1 79 k (by omega) (by omega)]; exact P.1.2.2.1
    · rw [zI_sI, if_neg (by omega), zI_sI, if_neg (by omega), hS.1 80 k (by omega) (by omega)]; exact P.1.2.2.2.1
    · rw [zI_sI, if_neg (by omega), zI_sI, if_neg (by omega), hS.1 82 k (by omega) (by omega)]; exact P.1.2.2.2.2.2.1
    · by_cases e : k = i
      · subst e
        rw [zI_sI, if_pos ⟨rfl, rfl⟩, zI_sI, if_pos ⟨rfl, rfl⟩, ht, hT.1.2.1]
      · rw [zI_sI, if_neg (by omega), zI_sI, if_neg (by omega), hS.1 81 k (by omega) (by omega)]; exact P.1.2.2.2.2.2.2.2.1
    · rw [zI_sI, if_neg (by omega)]; exact P.2.1.1
    · by_cases e : k = i
      · subst e
        rw [zI_sI, if_pos ⟨rfl, rfl⟩, hT.1.2.1]
        have := hT.1.1
        exact ⟨td, by omega, rfl⟩
      · rw [zI_sI, if_neg (by omega)]; exact P.2.1.2.2.2) (by rw [zI_sI, if_neg (by omega)]; exact ht) (by rw [zI_sI, if_neg (by omega)]; exact hs)
  have P := hP.2.2 i hi
  obtain ⟨v, v1, v2⟩ := o.2
  obtain ⟨s1, s2, s3⟩ := h_sm hP hi
  rw [hS.1 77 i (by omega) (by omega), hS.1 78 i (by omega) (by omega), hS.1 79 i (by omega) (by omega), hS.1 80 i (by omega) (by omega), P.1.1, P.1.2.2.1, P.1.2.2.2.1, o.1, s3, s2]
  rw [hT.1.2.1, hT.2.2.1]
  rw [hT.1.2.1] at v2
  rw [v2]
  exact (add_64 (by omega)).symm
theorem h_st {σ : kS} {b b2 bk : Nat} {C : kB} (h : iBk σ b b2 bk C) {r k : Nat} (hr : r < b_nr C) (hk : k < b_so C r) : zI σ 66 (8 * (20 * bk + r) + k) = zI σ (b + 5) (8 * r + k) ∧ zI σ 67 (8 * (20 * bk + r) + k) = zI σ (b + 6) (8 * r + k) := by
  have e5 : zI σ (b + 5) = b_rl C := h.2.2.2.1.2.1.2.2.2.2.1
  have e6 : zI σ (b + 6) = b_st C := h.2.2.2.1.2.1.2.2.2.2.2
  rw [e5, e6]
  exact (h.2.2.2.2.2.1.2.1 r hr).2 k hk
theorem p_back {d : Nat} {σ : kS} {x : Int32} {Q : Option Value → kS → Prop} (hI : Inv σ) (h : ∀ v τ, kOK τ → kMt yX7_back mX7_back (d + 30) [.ref 49, .int x] τ (.int v) → Q (some (.int v)) τ) : kCt yX6_back mX6_back (d + 30) 0 0 [.ref 0, .int x] σ Q := by
  have hII := hI
  obtain ⟨hO, n, s, m, c, b, b2, bk, C, td, sp, L, hE, hP, hB, hT, hA, hW⟩ := hI
  have hc40 := hP.1.2.1.1
  have hb := iB_b hB
  have htd : zI σ 49 13 = zI σ 0 6 := by rw [hT.1.2.2, hT.1.2.1]
  have hu : ∀ i, i < c → zI σ (98 + 6 * i) 4 = kb (!(decide (zI σ (98 + 6 * i) 4 = 0))) := fun i hi => isN_kb (hP.2.2 i hi).2.1.2.2.1
  have hum : ∀ i, i < c → zI σ 91 i = kb (!(decide (zI σ (98 + 6 * i) 4 = 0))) := fun i hi => by rw [(hP.2.2 i hi).1.2.2.2.2.1]; exact hu i hi
  refine c_X6_back (d := d + 26) (uf := fun i => !(decide (zI σ (98 + 6 * i) 4 = 0))) hO hP.1.2.1 hB.2.1.1 hB.2.2.2.1.1 (h_kBr hB) hu (fun i i1 i2 i3 r r1 r2 => ?_) (fun i i1 i2 i3 r2 => ?_) (fun a => ?_)
  · subst i2
    have cb := cbeg_S (σ := σ) (i := i) (c := c) (mm := b_so C r) (kd := zI σ (98 + 6 * i) 0) (sm := zI σ (98 + 6 * i) 1) (mk := zI σ (98 + 6 * i) 2) (pl := zI σ (98 + 6 * i) 3) (td := zI σ 0 6) (rc := zI σ 0 7) (rl := fun k => zI σ (b + 5) (8 * r + k)) (stp := fun k => zI σ (b + 6) (8 * r + k))
    have hS := ms_beg cb (by omega)
    generalize q_cps (98 + 6 * i) (fun k => zI σ (b + 5) (8 * r + k)) (fun k => zI σ (b + 6) (8 * r + k)) (b_so C r) (sI (q_xb σ i c (zI σ (98 + 6 * i) 0) (zI σ (98 + 6 * i) 1) (zI σ (98 + 6 * i) 2) (zI σ (98 + 6 * i) 3) (zI σ 0 6) (zI σ 0 7)) (98 + 6 * i) 5 0) = ρ at cb hS ⊢
    have hO1 : kOK ρ := kOK_cg (by rw [cb.1.1]; omega) cb.1.2.1 hO
    have J := join_back hS hP hT i1
    have rowq : ∀ x, ¬ x = 81 → 49 ≤ x → x ≤ 97 → zI (q_mb ρ i c) x = zI σ x := fun x h1 h2 h3 => funext fun k => by rw [mb_I (by omega), hS.1 x k h2 h3]
    have Lq : zL (q_mb ρ i c) 90 i = (zI ρ 78 i).toInt64 + q_othM (sI ρ 81 i (zI ρ 49 13)) (nI i) (zI ρ 77 i) (zI ρ 79 i) (zI ρ 80 i) c := by rw [q_mb, zL_sL, if_pos ⟨rfl, rfl⟩]
    have P := hP.2.2 i i1
    have rule : ∀ u, q_rfM (q_mb ρ i c) bk (b_fo C) (b_eo C) (zI ρ 77 i) (zL (q_mb ρ i c) 90 i) (zI ρ 80 i) (!(decide (zI σ (98 + 6 * i) 4 = 0))) 0 (b_nr C) = u → u = some r := fun u w => by
      rw [← w, rfM_ro (σ := σ) (rowq 62 (by omega) (by omega) (by omega)) (rowq 70 (by omega) (by omega) (by omega)) (rowq 71 (by omega) (by omega) (by omega)), h_rule hB (Lq.trans J), hS.1 77 i (by omega) (by omega), hS.1 80 i (by omega) (by omega), P.1.1, P.1.2.2.2.1]
      exact r2
    have g8 := (hB.2.2.2.2.2.2.1 r r1).2.1
    refine h _ _ hO1 (fun Q2 kk => ?_)
    refine c_X7_back (d := d + 27) (uf := fun i => !(decide (zI σ (98 + 6 * i) 4 = 0))) hO1 (kMp_ms hS (h_kMp hP)) (kMr_ms hS (h_kMr hB)) (fun j hj => by rw [hS.1 91 j (by omega) (by omega)]; exact hum j hj) (fun j j1 j2 j3 r' τ r1' r2' hF => ?_) (fun j j1 j2 j3 τ r2' hF => ?_) (fun w => ?_)
    · have ej : i = j := jeq j2 (by omega) (by omega)
      subst ej
      have er : r' = r := Option.some.inj (rule _ r2')
      subst er
      have mb := mbeg_S (i := i) (n := c) (R := 20 * bk + r') (mm := b_so C r') hF
      have mb2 := mBeg_cg (rl2 := fun k => zI σ (b + 5) (8 * r' + k)) (stp2 := fun k => zI σ (b + 6) (8 * r' + k)) (fun k hk => by
        have w := h_st hB r1 hk
        exact ⟨by rw [hS.1 66 _ (by omega) (by omega)]; exact w.1, by rw [hS.1 67 _ (by omega) (by omega)]; exact w.2⟩) mb
      rw [hS.1 49 13 (by omega) (by omega), htd] at mb2
      refine kk _ (Inv_back hO hE hP hB hT hA hW i1 cb mb2 g8.2 (iP1_beg cb mb2 (fun _ _ _ => rfl) ?_ ⟨P.2.1.1, P.2.1.2.1, P.2.1.2.2.1⟩ hT.1.2.1 hT.1.1 ?_ g8.2 ?_ (fun k hk => ?_)))
      · rw [hS.1 77 i (by omega) (by omega), hS.1 78 i (by omega) (by omega), hS.1 79 i (by omega) (by omega), hS.1 80 i (by omega) (by omega), hS.1 91 i (by omega) (by omega)]
        exact ⟨P.1.1, P.1.2.1, P.1.2.2.1, P.1.2.2.2.1, P.1.2.2.2.2.1⟩
      · rw [hS.1 49 13 (by omega) (by omega), htd] at J
        exact J
      · have w := h_st hB r1 (show b_so C r' - 1 < b_so C r' by omega)
        rw [if_neg (by omega), hS.1 67 _ (by omega) (by omega), show 8 * (20 * bk + r') + b_so C r' - 1 = 8 * (20 * bk + r') + (b_so C r' - 1) by omega, w.2]
      · exact ⟨_, (h_rr hB r' k r1 hk).1, (h_rr hB r' k r1 hk).2⟩
    · have ej : i = j := jeq j2 (by omega) (by omega)
      subst ej
      have := rule _ r2'
      cases this
    · have := w i i1 rfl
      rw [hS.1 82 i (by omega) (by omega), P.1.2.2.2.2.2.1] at this
      exact absurd i3 this
  · subst i2
    have cb := cbeg_N (σ := σ) (i := i) (c := c) (kd := zI σ (98 + 6 * i) 0) (sm := zI σ (98 + 6 * i) 1) (mk := zI σ (98 + 6 * i) 2) (pl := zI σ (98 + 6 * i) 3) (td := zI σ 0 6) (rc := zI σ 0 7) (rl := fun _ => 0) (stp := fun _ => 0)
    have hS := ms_beg cb (by omega)
    generalize sI (q_xb σ i c (zI σ (98 + 6 * i) 0) (zI σ (98 + 6 * i) 1) (zI σ (98 + 6 * i) 2) (zI σ (98 + 6 * i) 3) (zI σ 0 6) (zI σ 0 7)) (98 + 6 * i) 5 2 = ρ at cb hS ⊢
    have hO1 : kOK ρ := kOK_cg (by rw [cb.1.1]; omega) cb.1.2.1 hO
    have J := join_back hS hP hT i1
    have rowq : ∀ x, ¬ x = 81 → 49 ≤ x → x ≤ 97 → zI (q_mb ρ i c) x = zI σ x := fun x h1 h2 h3 => funext fun k => by rw [mb_I (by omega), hS.1 x k h2 h3]
    have Lq : zL (q_mb ρ i c) 90 i = (zI ρ 78 i).toInt64 + q_othM (sI ρ 81 i (zI ρ 49 13)) (nI i) (zI ρ 77 i) (zI ρ 79 i) (zI ρ 80 i) c := by rw [q_mb, zL_sL, if_pos ⟨rfl, rfl⟩]
    have P := hP.2.2 i i1
    have rule : ∀ u, q_rfM (q_mb ρ i c) bk (b_fo C) (b_eo C) (zI ρ 77 i) (zL (q_mb ρ i c) 90 i) (zI ρ 80 i) (!(decide (zI σ (98 + 6 * i) 4 = 0))) 0 (b_nr C) = u → u = none := fun u w => by
      rw [← w, rfM_ro (σ := σ) (rowq 62 (by omega) (by omega) (by omega)) (rowq 70 (by omega) (by omega) (by omega)) (rowq 71 (by omega) (by omega) (by omega)), h_rule hB (Lq.trans J), hS.1 77 i (by omega) (by omega), hS.1 80 i (by omega) (by omega), P.1.1, P.1.2.2.2.1]
      exact r2
    refine h _ _ hO1 (fun Q2 kk => ?_)
    refine c_X7_back (d := d + 27) (uf := fun i => !(decide (zI σ (98 + 6 * i) 4 = 0))) hO1 (kMp_ms hS (h_kMp hP)) (kMr_ms hS (h_kMr hB)) (fun j hj => by rw [hS.1 91 j (by omega) (by omega)]; exact hum j hj) (fun j j1 j2 j3 r' τ r1' r2' hF => ?_) (fun j j1 j2 j3 τ r2' hF => ?_) (fun w => ?_)
    · have ej : i = j := jeq j2 (by omega) (by omega)
      subst ej
      have := rule _ r2'
      cases this
    · have ej : i = j := jeq j2 (by omega) (by omega)
      subst ej
      have mb := mbeg_N (i := i) (n := c) (rl := fun _ => 0) (stp := fun _ => 0) hF
      rw [hS.1 49 13 (by omega) (by omega), htd] at mb
      refine kk _ (Inv_back hO hE hP hB hT hA hW i1 cb mb (by omega) (iP1_beg cb mb (fun _ _ _ => rfl) ?_ ⟨P.2.1.1, P.2.1.2.1, P.2.1.2.2.1⟩ hT.1.2.1 hT.1.1 ?_ (by omega) rfl (fun k hk => absurd hk (Nat.not_lt_zero _))))
      · rw [hS.1 77 i (by omega) (by omega), hS.1 78 i (by omega) (by omega), hS.1 79 i (by omega) (by omega), hS.1 80 i (by omega) (by omega), hS.1 91 i (by omega) (by omega)]
        exact ⟨P.1.1, P.1.2.1, P.1.2.2.1, P.1.2.2.2.1, P.1.2.2.2.2.1⟩
      · rw [hS.1 49 13 (by omega) (by omega), htd] at J
        exact J
    · have := w i i1 rfl
      rw [hS.1 82 i (by omega) (by omega), P.1.2.2.2.2.2.1] at this
      exact absurd i3 this
  · refine h _ _ hO (fun Q2 kk => ?_)
    refine c_X7_back (d := d + 27) (uf := fun i => !(decide (zI σ (98 + 6 * i) 4 = 0))) hO (h_kMp hP) (h_kMr hB) hum (fun j j1 j2 j3 _ _ _ _ _ => ?_) (fun j j1 j2 j3 _ _ _ => ?_) (fun _ => kk _ hII)
    · rw [(hP.2.2 j j1).1.2.2.2.2.2.1] at j3
      exact absurd j3 (a j j1 j2)
    · rw [(hP.2.2 j j1).1.2.2.2.2.2.1] at j3
      exact absurd j3 (a j j1 j2)
