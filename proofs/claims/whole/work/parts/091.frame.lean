/-! frames: which rows of the heap are as they were (written by hand) -/
/-- all but the rows in ex are as they were -/
def kFr (ex : Nat → Bool) (σ τ : kS) : Prop := zN τ = zN σ ∧ zR τ = zR σ ∧ ∀ x k, ex x = false → zI τ x k = zI σ x k ∧ zL τ x k = zL σ x k
theorem kFr_rf {ex : Nat → Bool} {σ : kS} : kFr ex σ σ := ⟨rfl, rfl, fun _ _ _ => ⟨rfl, rfl⟩⟩
theorem kFr_tr {ex : Nat → Bool} {σ τ ρ : kS} (h : kFr ex σ τ) (g : kFr ex τ ρ) : kFr ex σ ρ := ⟨g.1.trans h.1, g.2.1.trans h.2.1, fun x k e => ⟨(g.2.2 x k e).1.trans (h.2.2 x k e).1, (g.2.2 x k e).2.trans (h.2.2 x k e).2⟩⟩
theorem kFr_sI {ex : Nat → Bool} {σ τ : kS} {a k : Nat} {v : Int32} (h : kFr ex σ τ) (ha : ex a = true) : kFr ex σ (sI τ a k v) := ⟨h.1, h.2.1, fun x j e => by
  have hx : ¬ x = a := fun q => by rw [q, ha] at e; cases e
  rw [zI_sI, if_neg (fun q => hx q.1)]
  exact h.2.2 x j e⟩
theorem kFr_sL {ex : Nat → Bool} {σ τ : kS} {a k : Nat} {v : Int64} (h : kFr ex σ τ) (ha : ex a = true) : kFr ex σ (sL τ a k v) := ⟨h.1, h.2.1, fun x j e => by
  have hx : ¬ x = a := fun q => by rw [q, ha] at e; cases e
  rw [zL_sL, if_neg (fun q => hx q.1)]
  exact h.2.2 x j e⟩
theorem kFr_w {ex ey : Nat → Bool} {σ τ : kS} (h : kFr ex σ τ) (hw : ∀ x, ey x = false → ex x = false) : kFr ey σ τ := ⟨h.1, h.2.1, fun x k e => h.2.2 x k (hw x e)⟩
theorem kOK_fr {ex : Nat → Bool} {σ τ : kS} (h : kFr ex σ τ) (hO : kOK σ) : kOK τ := by
  unfold kOK
  rw [h.1, h.2.1]
  exact hO
theorem kI_fx {ex : Nat → Bool} {σ τ : kS} (h : kFr ex σ τ) {x : Nat} (hx : ex x = false) : zI τ x = zI σ x := funext fun k => (h.2.2 x k hx).1
