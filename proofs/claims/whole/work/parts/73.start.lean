/-! the start: what two new objects hold; written by hand -/
theorem kfx_le {a k b : Nat} (h : kfx a k = some b) : a ≤ 49 := by
  unfold kfx at h
  split at h <;> first | omega | cases h
theorem zI_nW {σ : kS} {x k : Nat} (h : ¬ x = zN σ) : zI (sW σ) x k = zI σ x k := by rw [zI_sW, if_neg h]
theorem zR_nW {σ : kS} {x k : Nat} (h : ¬ x = zN σ) : zR (sW σ) x k = zR σ x k := by rw [zR_sW, if_neg h]
theorem zL_nW {σ : kS} {x k : Nat} (h : ¬ x = zN σ) : zL (sW σ) x k = zL σ x k := by rw [zL_sW, if_neg h]
theorem zA_sW {σ : kS} {k : Nat} : zI (sW σ) (zN σ) k = 0 ∧ zL (sW σ) (zN σ) k = 0 ∧ zR (sW σ) (zN σ) k = none := by
  refine ⟨?_, ?_, ?_⟩
  · show (if σ.1 = σ.1 then (0 : Int32) else _) = 0
    rw [if_pos rfl]
  · show (if σ.1 = σ.1 then (0 : Int64) else _) = 0
    rw [if_pos rfl]
  · show (if σ.1 = σ.1 then none else _) = none
    rw [if_pos rfl]
theorem xI0_0 {x k : Nat} (h1 : ¬ (x = 14 ∧ k = 7)) (h2 : x < 34 ∨ (35 < x ∧ x < 45) ∨ 48 < x) : xI0 x k = 0 := by
  unfold xI0
  rw [if_neg h1, if_neg (by omega), if_neg (by omega)]
theorem Inv_start {σ1 σ2 : kS} (h6 : pc_X6 σ1) (h7 : pc_X7 (sW σ1) σ2) : Inv σ2 := by
  obtain ⟨a1, a2, a3, a4, a5, a6⟩ := h6
  obtain ⟨b1, b2, b3, b4⟩ := h7
  have lo : ∀ x k, x < 49 → zI σ2 x k = xI0 x k := fun x k hx => by rw [(b2 x k hx).1, zI_nW (by omega), (a2 x k).1]
  have lr : ∀ x k, x < 49 → zR σ2 x k = zR σ1 x k := fun x k hx => by rw [(b2 x k hx).2.2, zR_nW (by omega)]
  have hi : ∀ x k, 49 ≤ x → ¬ (x = 49 ∧ k = 19) → zI σ2 x k = 0 := fun x k hx hk => by rw [(b3 x k hx).1, if_neg hk]
  have lz : ∀ x k, x < 34 ∨ (35 < x ∧ x < 45) → ¬ (x = 14 ∧ k = 7) → zI σ2 x k = 0 := fun x k hx hk => by rw [lo x k (by omega), xI0_0 hk (by omega)]
  have hO : kOK σ2 := ⟨by rw [b1]; omega, fun a k b e => by
    have le := kfx_le e
    by_cases c : a = 49
    · subst c; exact b4 k b e
    · rw [lr a k (by omega)]; exact a6 a k b (by omega) e⟩
  have kb1 : kBk σ2 25 := ⟨Or.inl rfl, by rw [b1]; omega, hO.2 25 1 26 rfl, hO.2 25 2 27 rfl, hO.2 25 3 28 rfl, hO.2 25 4 29 rfl, hO.2 25 5 30 rfl, hO.2 25 6 31 rfl, hO.2 25 8 32 rfl, hO.2 25 9 33 rfl, hO.2 25 12 34 rfl, hO.2 25 13 35 rfl⟩
  have kb2 : kBk σ2 36 := ⟨Or.inr rfl, by rw [b1]; omega, hO.2 36 1 37 rfl, hO.2 36 2 38 rfl, hO.2 36 3 39 rfl, hO.2 36 4 40 rfl, hO.2 36 5 41 rfl, hO.2 36 6 42 rfl, hO.2 36 8 43 rfl, hO.2 36 9 44 rfl, hO.2 36 12 45 rfl, hO.2 36 13 46 rfl⟩
  have e34 : ∀ k, k < 8 → zI σ2 34 k = 1000000000 ∧ zI σ2 35 k = 1000000000 := fun k hk => by
    rw [lo 34 k (by omega), lo 35 k (by omega)]
    unfold xI0
    rw [if_neg (by omega), if_pos (by omega), if_neg (by omega), if_pos (by omega)]
    exact ⟨rfl, rfl⟩
  have e47 : ∀ k, k < 8 → zI σ2 47 k = -1 ∧ zI σ2 48 k = -1 := fun k hk => by
    rw [lo 47 k (by omega), lo 48 k (by omega)]
    unfold xI0
    rw [if_neg (by omega), if_neg (by omega), if_pos (by omega), if_neg (by omega), if_neg (by omega), if_pos (by omega)]
    exact ⟨rfl, rfl⟩
  refine ⟨hO, 0, 0, 0, 0, 25, 36, 0, ((0, zI σ2 26, fun _ => 0, fun _ => 0, fun _ => 0, zI σ2 30, zI σ2 31), (0, zI σ2 32, zI σ2 33), 0, (0, zI σ2 34, zI σ2 35)), 0, 0, 0, ?_, ?_, ?_, ?_, ?_, ?_⟩
  · refine ⟨⟨by omega, lz 1 0 (by omega) (by omega), hi 49 10 (by omega) (by omega)⟩, ⟨by omega, lz 1 2 (by omega) (by omega), hi 49 11 (by omega) (by omega)⟩, ⟨by omega, lz 1 6 (by omega) (by omega), hi 49 12 (by omega) (by omega)⟩, fun k hk => absurd hk (Nat.not_lt_zero _), fun k hk => absurd hk (Nat.not_lt_zero _), fun k hk => absurd hk (Nat.not_lt_zero _), fun k _ => lz 11 k (by omega) (by omega)⟩
  · refine ⟨⟨b1, ⟨by omega, lz 12 1 (by omega) (by omega), fun i hi => absurd hi (Nat.not_lt_zero _)⟩, hi 49 61 (by omega) (by omega)⟩, fun i _ => ⟨0, by omega, hi 83 i (by omega) (by omega)⟩, fun i hi => absurd hi (Nat.not_lt_zero _)⟩
  · refine ⟨Or.inl ⟨rfl, rfl⟩, ⟨by rw [lr 0 4 (by omega)]; exact a4, by rw [lr 0 5 (by omega)]; exact a5⟩, kb2, ⟨kb1, ⟨Nat.zero_le _, lz 25 0 (by omega) (by omega), rfl, fun i hi => absurd hi (Nat.not_lt_zero _), rfl, rfl⟩, ⟨Nat.zero_le _, lz 25 7 (by omega) (by omega), rfl, rfl⟩, ⟨Nat.zero_le _, lz 25 10 (by omega) (by omega)⟩, Nat.zero_le _, lz 25 11 (by omega) (by omega), rfl, rfl⟩, ⟨by omega, hi 49 38 (by omega) (by omega)⟩, ⟨hi 72 0 (by omega) (by omega), fun i hi => absurd hi (Nat.not_lt_zero _), fun k hk => absurd hk (Nat.not_lt_zero _), hi 73 0 (by omega) (by omega), fun r hr => ?_⟩, fun i hi => absurd hi (Nat.not_lt_zero _), fun k hk => absurd hk (Nat.not_lt_zero _), fun r hr => ⟨Or.inl (e34 r hr).1, Or.inl (e34 r hr).2⟩⟩
    have hl : b_hl ((0, zI σ2 26, fun _ => 0, fun _ => 0, fun _ => 0, zI σ2 30, zI σ2 31), (0, zI σ2 32, zI σ2 33), 0, (0, zI σ2 34, zI σ2 35)) r = false := by
      unfold b_hl
      show (if ¬ zI σ2 34 r = 1000000000 then true else if zI σ2 35 r = 1000000000 then false else true) = false
      rw [if_neg (fun w => w (e34 r hr).1), if_pos (e34 r hr).2]
    rw [hl]
    exact ⟨hi 74 _ (by omega) (by omega), fun w => by cases w⟩
  · exact ⟨⟨by omega, lz 0 6 (by omega) (by omega), hi 49 13 (by omega) (by omega)⟩, by omega, lz 0 7 (by omega) (by omega), hi 49 62 (by omega) (by omega)⟩
  · refine ⟨⟨by omega, lz 14 1 (by omega) (by omega), hi 49 16 (by omega) (by omega)⟩, fun k hk => absurd hk (Nat.not_lt_zero _), ?_, ?_⟩
    · rw [hi 49 18 (by omega) (by omega), lz 14 6 (by omega) (by omega)]
    · rw [(b3 49 19 (by omega)).1, if_pos ⟨rfl, rfl⟩, lo 14 7 (by omega)]
      rfl
  · exact Or.inl ⟨hi 49 71 (by omega) (by omega), e47⟩
def kS0 : kS := (0, fun _ _ => 0, fun _ _ => 0, fun _ _ => none)
theorem lw_all {Ls d : Nat} {xs : Nat → Int32} {Q : Option Value → kS → Prop} (hL : Ls ≤ 3072) (hQ : ∀ τ, Q (some (.int 1)) τ) : kVL Ls xs mlaw (d + 31) 3170 41236 0 [some (.float 0), none, none, none] [] kS0 Q := by
  refine kx_newL (a := 0) (ci := 6) dlaw_0 (by decide) kk_law_7 kx_6 ki_6 rfl rfl (by decide) (by decide) ?_
  refine kx_dup dlaw_3 rfl ?_
  refine kx_cI0 48 4113 dlaw_4 kl_law_9 ky_X6_init rfl (Nat.le_of_ble_eq_true rfl) ⟨by decide, by decide⟩ ?_
  refine c_X6_init (d := d + 28) rfl (fun x k => ?_) (fun σ1 h1 => ?_)
  · by_cases c : x = 0
    · subst c
      exact zA_sW (σ := kS0)
    · rw [zI_nW (σ := kS0) c, zL_nW (σ := kS0) c, zR_nW (σ := kS0) c]
      exact ⟨rfl, rfl, rfl⟩
  refine kx_s0 ?_
  refine kx_astore1 dlaw_7 rfl ?_
  refine kx_newL (a := 49) (ci := 7) dlaw_8 (by decide) kk_law_10 kx_7 ki_7 h1.1 rfl (by decide) (by decide) ?_
  refine kx_dup dlaw_11 rfl ?_
  refine kx_cI0 48 9391 dlaw_12 kl_law_12 ky_X7_init rfl (Nat.le_of_ble_eq_true rfl) ⟨by decide, by decide⟩ ?_
  refine c_X7_init (d := d + 29) (by show zN σ1 + 1 = 50; rw [h1.1]) (fun x k hx => ?_) (fun σ2 h2 => ?_)
  · by_cases c : x = 49
    · have w := zA_sW (σ := σ1) (k := k)
      rw [h1.1] at w
      rw [c]
      exact w
    · rw [zI_nW (by rw [h1.1]; exact c), zL_nW (by rw [h1.1]; exact c), zR_nW (by rw [h1.1]; exact c), (h1.2.1 x k).1, (h1.2.1 x k).2, h1.2.2.1 x k hx, xI0_0 (by omega) (by omega)]
      exact ⟨rfl, rfl, rfl⟩
  refine kx_s0 ?_
  refine kx_astore2 dlaw_15 rfl ?_
  refine kx_iconst (v := 0) dlaw_16 (by decide) ?_
  refine kx_istore3 dlaw_17 rfl ?_
  exact lw_loop hL hQ 512 0 σ2 (by omega) (by omega) (Inv_start h1 h2)
