/-! greatest: the two rows of sums; written by hand -/
/-- r is the greatest of K below S, or -1 -/
def bst (S : Int) (K : Int → Prop) (r : Int) : Prop := -1 ≤ r ∧ (r = -1 ∨ (K r ∧ r < S)) ∧ ∀ v, K v → v < S → v ≤ r
theorem bst_u {S : Int} {K : Int → Prop} {r r2 : Int} (h : bst S K r) (g : bst S K r2) : r = r2 := by
  obtain ⟨h1, h2, h3⟩ := h
  obtain ⟨g1, g2, g3⟩ := g
  have a : r ≤ r2 := by
    rcases h2 with e | e
    · omega
    · exact g3 r e.1 e.2
  have b : r2 ≤ r := by
    rcases g2 with e | e
    · omega
    · exact h3 r2 e.1 e.2
  omega
theorem bst_0 {S : Int} {K : Int → Prop} (h : ∀ v, ¬ K v) : bst S K (-1) := ⟨by omega, Or.inl rfl, fun v w => absurd w (h v)⟩
theorem bst_cg {S : Int} {K K2 : Int → Prop} {r : Int} (h : bst S K r) (hK : ∀ v, K2 v ↔ K v) : bst S K2 r := ⟨h.1, h.2.1.imp id (fun w => ⟨(hK r).mpr w.1, w.2⟩), fun v w => h.2.2 v ((hK v).mp w)⟩
theorem bst_s {S : Int} {K K2 : Int → Prop} {z r w : Int} {P : Prop} (h : bst S K z) (hK : ∀ v, K2 v ↔ K v ∨ (P ∧ v = w)) (h1 : P → w < S → z < w → r = w) (h2 : ¬ (P ∧ w < S ∧ z < w) → r = z) : bst S K2 r := by
  obtain ⟨a1, a2, a3⟩ := h
  by_cases c : P ∧ w < S ∧ z < w
  · have e := h1 c.1 c.2.1 c.2.2
    subst e
    refine ⟨by omega, Or.inr ⟨(hK r).mpr (Or.inr ⟨c.1, rfl⟩), c.2.1⟩, fun v g1 g2 => ?_⟩
    rcases (hK v).mp g1 with g | g
    · have := a3 v g g2; omega
    · omega
  · have e := h2 c
    subst e
    refine ⟨a1, a2.imp id (fun g => ⟨(hK r).mpr (Or.inl g.1), g.2⟩), fun v g1 g2 => ?_⟩
    rcases (hK v).mp g1 with g | g
    · exact a3 v g g2
    · have : ¬ r < w := fun g3 => c ⟨g.1, by omega, g3⟩
      omega
theorem bst_max {S : Int} {K K2 : Int → Prop} {r r2 x : Int} (h : bst S K r) (g : bst S K2 r2) (hx : x = if r < r2 then r2 else r) : bst S (fun v => K v ∨ K2 v) x := by
  obtain ⟨h1, h2, h3⟩ := h
  obtain ⟨g1, g2, g3⟩ := g
  by_cases c : r < r2
  · rw [if_pos c] at hx
    subst hx
    refine ⟨g1, g2.imp id (fun w => ⟨Or.inr w.1, w.2⟩), fun v w1 w2 => ?_⟩
    rcases w1 with w1 | w1
    · have := h3 v w1 w2; omega
    · exact g3 v w1 w2
  · rw [if_neg c] at hx
    subst hx
    refine ⟨h1, h2.imp id (fun w => ⟨Or.inl w.1, w.2⟩), fun v w1 w2 => ?_⟩
    rcases w1 with w1 | w1
    · exact h3 v w1 w2
    · have := g3 v w1 w2; omega
/-- the class's row of sums -/
def cRw (An : Nat → Int32) (nC : Nat → Int) : Nat → Int → Int32 → Prop
  | 0, _, res => res = -2
  | t + 1, s, res => if s < 0 then res = -2 else if An s.toNat = 1 then res = nI s.toNat else if An s.toNat = -3 then res = -3 else cRw An nC t (nC s.toNat) res
def mRw (An : Nat → Int32) (nM : Nat → Int) : Nat → Nat → Int32 → Prop
  | 0, _, _ => False
  | f + 1, S, res => (An S = 1 ∧ res = nI S) ∨ (An S = -3 ∧ res = -3) ∨ (An S = 0 ∧ nM S = -1 ∧ res = -2) ∨ (An S = 0 ∧ ∃ S2, S2 < S ∧ nM S = (S2 : Nat) ∧ mRw An nM f S2 res)
theorem mR_of {An : Nat → Int32} {nx : Nat → Int64} : ∀ (f S : Nat) (res : Int32), S ≤ 1000000 → mRel An nx f S res → mRw An (fun S => (nx S).toInt) f S res
  | 0, _, _, _, h => h
  | f + 1, S, res, hS, h => by
    rcases h with h | h | h | ⟨h1, S2, h2, h3, h4⟩
    · exact Or.inl h
    · exact Or.inr (Or.inl h)
    · refine Or.inr (Or.inr (Or.inl ⟨h.1, ?_, h.2.2⟩))
      show (nx S).toInt = -1
      rw [h.2.1]; decide
    · refine Or.inr (Or.inr (Or.inr ⟨h1, S2, h2, ?_, mR_of f S2 res (by omega) h4⟩))
      show (nx S).toInt = (S2 : Int)
      rw [h3, lN_toInt (by omega)]
theorem gR_c {An : Nat → Int32} {nC : Nat → Int} {ans : Int32 → Int32 → Prop} {nx : Int32 → Int32} {res : Int32} (hans : ∀ S v, S ≤ 1000000 → ans (nI S) v → (An S = 1 ∧ ¬ v = -2 ∧ ¬ v = -3) ∨ (An S = -3 ∧ v = -3) ∨ (An S = 0 ∧ v = -2)) (hnx : ∀ S, S ≤ 1000000 → (nx (nI S)).toInt = nC S ∧ nC S ≤ 1000000) : ∀ (t : Nat) (sum : Int32) (s : Int), sum.toInt = s → s ≤ 1000000 → gR ans nx t sum res → cRw An nC t s res
  | 0, _, _, _, _, h => h
  | t + 1, sum, s, hs, hl, h => by
    simp only [gR] at h
    simp only [cRw]
    have hz : sum < 0 ↔ s < 0 := by
      rw [Int32.lt_iff_toInt_lt, hs]
      exact Iff.rfl
    by_cases c : s < 0
    · rw [if_pos c]
      rw [if_pos (hz.mpr c)] at h
      exact h
    · rw [if_neg c]
      rw [if_neg (fun w => c (hz.mp w))] at h
      have e : sum = nI s.toNat := by
        apply Int32.toInt_inj.mp
        rw [hs, nI_toInt (by omega)]
        omega
      obtain ⟨v, v1, v2⟩ := h
      rw [e] at v1 v2
      rcases hans s.toNat v (by omega) v1 with ⟨a1, a2, a3⟩ | ⟨a1, a2⟩ | ⟨a1, a2⟩
      · rw [if_pos a1]
        rw [if_neg a3, if_neg a2] at v2
        exact v2
      · rw [if_neg (by rw [a1]; decide), if_pos a1]
        rw [if_pos a2] at v2
        exact v2
      · rw [if_neg (by rw [a1]; decide), if_neg (by rw [a1]; decide)]
        rw [if_neg (by rw [a2]; decide), if_pos a2] at v2
        have g := hnx s.toNat (by omega)
        exact gR_c hans hnx t _ _ g.1 g.2 v2
theorem flt_le {p q : Int → Bool} (h : ∀ x, p x = true → q x = true) : ∀ L : List Int, (L.filter p).length ≤ (L.filter q).length
  | [] => Nat.le_refl _
  | x :: L => by
    have ih := flt_le h L
    by_cases c : p x = true
    · rw [List.filter_cons_of_pos c, List.filter_cons_of_pos (h x c)]
      simp only [List.length_cons]; omega
    · rw [List.filter_cons_of_neg c]
      by_cases c2 : q x = true
      · rw [List.filter_cons_of_pos c2]
        simp only [List.length_cons]; omega
      · rw [List.filter_cons_of_neg c2]; exact ih
theorem flt_lt {p q : Int → Bool} (h : ∀ x, p x = true → q x = true) {a : Int} (hq : q a = true) (hp : ¬ p a = true) : ∀ L : List Int, a ∈ L → (L.filter p).length < (L.filter q).length
  | [], m => by cases m
  | x :: L, m => by
    have le := flt_le h L
    by_cases e : a = x
    · subst e
      rw [List.filter_cons_of_neg hp, List.filter_cons_of_pos hq]
      simp only [List.length_cons]; omega
    · have ih := flt_lt h hq hp L (by
        rcases List.mem_cons.mp m with w | w
        · exact absurd w e
        · exact w)
      by_cases c : p x = true
      · rw [List.filter_cons_of_pos c, List.filter_cons_of_pos (h x c)]
        simp only [List.length_cons]; omega
      · rw [List.filter_cons_of_neg c]
        by_cases c2 : q x = true
        · rw [List.filter_cons_of_pos c2]
          simp only [List.length_cons]; omega
        · rw [List.filter_cons_of_neg c2]; exact ih
def below (S : Nat) (L : List Int) : Nat := (L.filter (fun v => decide (v < (S : Int)))).length
theorem below_le {S S2 : Nat} {L : List Int} (h : S2 ≤ S) : below S2 L ≤ below S L := flt_le (fun x hx => decide_eq_true (by have := of_decide_eq_true hx; omega)) L
theorem below_lt {S S2 : Nat} {L : List Int} (h : S2 < S) (hm : ((S2 : Nat) : Int) ∈ L) : below S2 L < below S L := flt_lt (fun x hx => decide_eq_true (by have := of_decide_eq_true hx; omega)) (decide_eq_true (by omega)) (fun w => by have := of_decide_eq_true w; omega) L hm
/-- both rows come to the same end -/
theorem great_eq {An : Nat → Int32} {nC nM : Nat → Int} {Kc Mc : Int → Prop} {Lk : List Int} (hC : ∀ S : Nat, S ≤ 1000000 → bst (S : Int) Kc (nC S)) (hM : ∀ S : Nat, S ≤ 1000000 → bst (S : Int) Mc (nM S)) (hKM : ∀ v, Kc v → 0 ≤ v → v < 1000000 → Mc v) (hA : ∀ S2 S : Nat, S2 ≤ S → S ≤ 1000000 → (∀ v, Kc v → ¬ ((S2 : Int) ≤ v ∧ v < S)) → An S2 = An S) (hL : ∀ v, Kc v → 0 ≤ v → v ∈ Lk) : ∀ (j S f t : Nat) (rm rc : Int32), S < j → S ≤ 1000000 → mRw An nM f S rm → cRw An nC t S rc → below S Lk < t → rc = rm := by
  intro j
  induction j with
  | zero => intro S f t rm rc hj; exact absurd hj (Nat.not_lt_zero _)
  | succ j ih =>
    intro S f t rm rc hj hS hm hc ht
    cases t with
    | zero => exact absurd ht (Nat.not_lt_zero _)
    | succ t =>
      have hc0 := hc
      simp only [cRw] at hc
      rw [if_neg (by omega), Int.toNat_natCast] at hc
      cases f with
      | zero => exact absurd hm id
      | succ f =>
        obtain ⟨b1, b2, b3⟩ := hC S hS
        obtain ⟨m1, m2, m3⟩ := hM S hS
        have up : 0 ≤ nC S → nC S ≤ nM S := fun w => by
          rcases b2 with e | e
          · omega
          · exact m3 _ (hKM _ e.1 w (by omega)) e.2
        rcases hm with h | h | h | ⟨h1, S2, h2, h3, h4⟩
        · rw [if_pos h.1] at hc
          rw [hc, h.2]
        · rw [if_neg (by rw [h.1]; decide), if_pos h.1] at hc
          rw [hc, h.2]
        · rw [if_neg (by rw [h.1]; decide), if_neg (by rw [h.1]; decide)] at hc
          have e : nC S = -1 := by
            by_cases w : 0 ≤ nC S
            · have := up w; omega
            · omega
          rw [e] at hc
          rw [h.2.2]
          cases t with
          | zero => exact hc
          | succ t =>
            simp only [cRw] at hc
            rw [if_pos (by omega)] at hc
            exact hc
        · rw [if_neg (by rw [h1]; decide), if_neg (by rw [h1]; decide)] at hc
          by_cases e : nC S = S2
          · rw [e] at hc
            have hk : Kc (S2 : Int) := by
              rcases b2 with w | w
              · omega
              · rw [e] at w; exact w.1
            have := below_lt (L := Lk) h2 (hL _ hk (by omega))
            exact ih S2 f t rm rc (by omega) (by omega) h4 hc (by omega)
          · have lt : nC S < S2 := by
              by_cases w : 0 ≤ nC S
              · have := up w; omega
              · omega
            have no : ∀ v, Kc v → ¬ ((S2 : Int) ≤ v ∧ v < S) := fun v w1 w2 => by
              have := b3 v w1 w2.2
              omega
            have eA := hA S2 S (by omega) hS no
            have bS : bst (S2 : Int) Kc (nC S) := ⟨b1, b2.imp id (fun w => ⟨w.1, lt⟩), fun v w1 w2 => b3 v w1 (by omega)⟩
            have eN := bst_u (hC S2 (by omega)) bS
            have hc2 : cRw An nC (t + 1) (S2 : Int) rc := by
              simp only [cRw]
              rw [if_neg (by omega), Int.toNat_natCast, eA, if_neg (by rw [h1]; decide), if_neg (by rw [h1]; decide), eN]
              exact hc
            have := below_le (L := Lk) (show S2 ≤ S by omega)
            exact ih S2 f (t + 1) rm rc (by omega) (by omega) h4 hc2 (by omega)
/-! the greatest below: the class's and the model's loops -/
theorem lt_I {a b : Int32} : a < b ↔ a.toInt < b.toInt := Int32.lt_iff_toInt_lt
theorem le_I {a b : Int32} : a ≤ b ↔ a.toInt ≤ b.toInt := Int32.le_iff_toInt_le
/-- a step of the class -/
theorem bst_c {S : Int} {sum : Int32} {K K2 : Int → Prop} {z w r : Int32} {P : Prop} (hs : sum.toInt = S) (h : bst S K z.toInt) (hK : ∀ v, K2 v ↔ K v ∨ (P ∧ v = w.toInt)) (h1 : P → ¬ sum ≤ w → z < w → r = w) (h2 : sum ≤ w ∨ ¬ P ∨ ¬ z < w → r = z) : bst S K2 r.toInt := by
  refine bst_s h hK (fun p a b => ?_) (fun g => ?_)
  · rw [h1 p (fun q => by have := le_I.mp q; omega) (lt_I.mpr b)]
  · by_cases p : P
    · by_cases q : sum ≤ w
      · rw [h2 (Or.inl q)]
      · by_cases l : z < w
        · exact absurd ⟨p, by have : ¬ sum.toInt ≤ w.toInt := fun e => q (le_I.mpr e); omega, lt_I.mp l⟩ g
        · rw [h2 (Or.inr (Or.inr l))]
    · rw [h2 (Or.inr (Or.inl p))]
theorem bst_amt {upt en fr tt : Nat → Int32} {sum day : Int32} {S : Int} (hs : sum.toInt = S) : ∀ n, bst S (fun v => ∃ k, k < n ∧ q_stands en fr tt k day = true ∧ v = (upt k).toInt) (q_amt upt en fr tt sum day n).toInt
  | 0 => bst_0 (fun v ⟨k, hk, _⟩ => absurd hk (Nat.not_lt_zero _))
  | n + 1 => by
    refine bst_c (P := q_stands en fr tt n day = true) (w := upt n) hs (bst_amt (upt := upt) (en := en) (fr := fr) (tt := tt) (day := day) hs n) (fun v => ?_) (fun p a b => ?_) (fun g => ?_)
    · constructor
      · rintro ⟨k, k1, k2, k3⟩
        by_cases e : k = n
        · subst e; exact Or.inr ⟨k2, k3⟩
        · exact Or.inl ⟨k, by omega, k2, k3⟩
      · rintro (⟨k, k1, k2, k3⟩ | ⟨k2, k3⟩)
        · exact ⟨k, by omega, k2, k3⟩
        · exact ⟨n, by omega, k2, k3⟩
    · simp only [q_amt]
      rw [if_neg a, if_neg (by rw [p]; decide), if_pos b]
    · simp only [q_amt]
      by_cases c1 : sum ≤ upt n
      · rw [if_pos c1]
      · rw [if_neg c1]
        by_cases c2 : q_stands en fr tt n day = false
        · rw [if_pos c2]
        · rw [if_neg c2]
          rcases g with g | g | g
          · exact absurd g c1
          · exact absurd (by simpa using c2) g
          · rw [if_neg g]
theorem bst_rbR {rm : Nat → Int32} {hr : Nat → Bool} {sum z : Int32} {S : Int} {K : Int → Prop} (hs : sum.toInt = S) (h : bst S K z.toInt) : ∀ n, bst S (fun v => K v ∨ ∃ k, k < n ∧ hr k = true ∧ v = (rm k).toInt) (q_rbR rm hr sum z n).toInt
  | 0 => bst_cg h (fun v => ⟨fun w => w.elim id (fun ⟨k, hk, _⟩ => absurd hk (Nat.not_lt_zero _)), Or.inl⟩)
  | n + 1 => by
    refine bst_c (P := hr n = true) (w := rm n) hs (bst_rbR (rm := rm) (hr := hr) hs h n) (fun v => ?_) (fun p a b => ?_) (fun g => ?_)
    · constructor
      · rintro (w | ⟨k, k1, k2, k3⟩)
        · exact Or.inl (Or.inl w)
        · by_cases e : k = n
          · subst e; exact Or.inr ⟨k2, k3⟩
          · exact Or.inl (Or.inr ⟨k, by omega, k2, k3⟩)
      · rintro ((w | ⟨k, k1, k2, k3⟩) | ⟨k2, k3⟩)
        · exact Or.inl w
        · exact Or.inr ⟨k, by omega, k2, k3⟩
        · exact Or.inr ⟨n, by omega, k2, k3⟩
    · simp only [q_rbR]
      rw [if_neg a, if_neg (by rw [p]; decide), if_pos b]
    · simp only [q_rbR]
      by_cases c1 : sum ≤ rm n
      · rw [if_pos c1]
      · rw [if_neg c1]
        by_cases c2 : hr n = false
        · rw [if_pos c2]
        · rw [if_neg c2]
          rcases g with g | g | g
          · exact absurd g c1
          · exact absurd (by simpa using c2) g
          · rw [if_neg g]
theorem bst_rb {rm : Nat → Nat → Int32} {hr : Nat → Nat → Bool} {sum : Int32} {S : Int} (hs : sum.toInt = S) : ∀ n, bst S (fun v => ∃ p r, p < n ∧ r < 8 ∧ hr p r = true ∧ v = (rm p r).toInt) (q_rb rm hr sum n).toInt
  | 0 => bst_0 (fun v ⟨p, r, hk, _⟩ => absurd hk (Nat.not_lt_zero _))
  | n + 1 => bst_cg (bst_rbR (rm := rm n) (hr := hr n) hs (bst_rb hs n) 8) (fun v => by
    constructor
    · rintro ⟨p, r, k1, k2, k3⟩
      by_cases e : p = n
      · subst e; exact Or.inr ⟨r, k2, k3⟩
      · exact Or.inl ⟨p, r, by omega, k2, k3⟩
    · rintro (⟨p, r, k1, k2, k3⟩ | ⟨r, k2, k3⟩)
      · exact ⟨p, r, by omega, k2, k3⟩
      · exact ⟨n, r, by omega, k2, k3⟩)
theorem bst_tbR {op opd : Nat → Int32} {oth sum z : Int32} {f : Nat} {S : Int} {K : Int → Prop} (hs : sum.toInt = S) (h : bst S K z.toInt) : ∀ n, bst S (fun v => K v ∨ ∃ k, k < n ∧ v = (q_cp (op (f + k)) (opd (f + k)) oth).toInt) (q_tbR op opd oth sum f z n).toInt
  | 0 => bst_cg h (fun v => ⟨fun w => w.elim id (fun ⟨k, hk, _⟩ => absurd hk (Nat.not_lt_zero _)), Or.inl⟩)
  | n + 1 => by
    refine bst_c (P := True) (w := q_cp (op (f + n)) (opd (f + n)) oth) hs (bst_tbR (op := op) (opd := opd) (oth := oth) (f := f) hs h n) (fun v => ?_) (fun p a b => ?_) (fun g => ?_)
    · constructor
      · rintro (w | ⟨k, k1, k3⟩)
        · exact Or.inl (Or.inl w)
        · by_cases e : k = n
          · subst e; exact Or.inr ⟨trivial, k3⟩
          · exact Or.inl (Or.inr ⟨k, by omega, k3⟩)
      · rintro ((w | ⟨k, k1, k3⟩) | ⟨_, k3⟩)
        · exact Or.inl w
        · exact Or.inr ⟨k, by omega, k3⟩
        · exact Or.inr ⟨n, by omega, k3⟩
    · simp only [q_tbR]
      rw [if_neg a, if_pos b]
    · simp only [q_tbR]
      by_cases c1 : sum ≤ q_cp (op (f + n)) (opd (f + n)) oth
      · rw [if_pos c1]
      · rw [if_neg c1]
        rcases g with g | g | g
        · exact absurd g c1
        · exact absurd trivial g
        · rw [if_neg g]
theorem bst_tb {kn op opd : Nat → Int32} {kind oth sum : Int32} {fo eo : Nat → Nat} {S : Int} (hs : sum.toInt = S) : ∀ n, bst S (fun v => ∃ i k, i < n ∧ kn i = kind ∧ k < eo i - fo i ∧ v = (q_cp (op (fo i + k)) (opd (fo i + k)) oth).toInt) (q_tb kn kind fo eo op opd oth sum n).toInt
  | 0 => bst_0 (fun v ⟨p, r, hk, _⟩ => absurd hk (Nat.not_lt_zero _))
  | n + 1 => by
    simp only [q_tb]
    by_cases c : kn n = kind
    · rw [if_pos c]
      exact bst_cg (bst_tbR (op := op) (opd := opd) (oth := oth) (f := fo n) hs (bst_tb hs n) (eo n - fo n)) (fun v => by
        constructor
        · rintro ⟨i, k, k1, k2, k3⟩
          by_cases e : i = n
          · subst e; exact Or.inr ⟨k, k3⟩
          · exact Or.inl ⟨i, k, by omega, k2, k3⟩
        · rintro (⟨i, k, k1, k2, k3⟩ | ⟨k, k3⟩)
          · exact ⟨i, k, by omega, k2, k3⟩
          · exact ⟨n, k, by omega, c, k3⟩)
    · rw [if_neg c]
      exact bst_cg (bst_tb hs n) (fun v => by
        constructor
        · rintro ⟨i, k, k1, k2, k3⟩
          by_cases e : i = n
          · subst e; exact absurd k2 c
          · exact ⟨i, k, by omega, k2, k3⟩
        · rintro ⟨i, k, k1, k2, k3⟩
          exact ⟨i, k, by omega, k2, k3⟩)
/-- a step of the model -/
theorem bst_m {S : Int} {sum : Int64} {K K2 : Int → Prop} {z w : Int64} (hs : sum.toInt = S) (h : bst S K z.toInt) (hK : ∀ v, K2 v ↔ K v ∨ v = w.toInt) : bst S K2 (mbN sum z w).toInt := by
  have hz := h.1
  have z0 : (0 : Int64).toInt = 0 := by decide
  refine bst_s (P := True) h (fun v => (hK v).trans ⟨fun g => g.imp id (fun g => ⟨trivial, g⟩), fun g => g.imp id (fun g => g.2)⟩) (fun _ a b => ?_) (fun g => ?_)
  · unfold mbN
    rw [if_neg (fun e => by have := Int64.le_iff_toInt_le.mp ((lg_cmp_ge _ _).mp e); omega), if_neg (fun e => by have := Int64.le_iff_toInt_le.mp ((lg_cmp_le _ _).mp e); omega), if_neg (fun e => by have := Int64.lt_iff_toInt_lt.mp ((lg_cmp_lt _ _).mp e); omega)]
  · unfold mbN
    by_cases c1 : 0 ≤ lg_cmp w sum
    · rw [if_pos c1]
    · rw [if_neg c1]
      by_cases c2 : lg_cmp w z ≤ 0
      · rw [if_pos c2]
      · have a1 : ¬ sum.toInt ≤ w.toInt := fun e => c1 ((lg_cmp_ge _ _).mpr (Int64.le_iff_toInt_le.mpr e))
        have a2 : ¬ w.toInt ≤ z.toInt := fun e => c2 ((lg_cmp_le _ _).mpr (Int64.le_iff_toInt_le.mpr e))
        exact absurd ⟨trivial, by omega, by omega⟩ g
theorem bst_nbF {f : Nat → Int64} {sum z : Int64} {S : Int} {K : Int → Prop} (hs : sum.toInt = S) (h : bst S K z.toInt) : ∀ n, bst S (fun v => K v ∨ ∃ k, k < n ∧ v = (f k).toInt) (nbF f sum z n).toInt
  | 0 => bst_cg h (fun v => ⟨fun w => w.elim id (fun ⟨k, hk, _⟩ => absurd hk (Nat.not_lt_zero _)), Or.inl⟩)
  | n + 1 => bst_m hs (bst_nbF hs h n) (fun v => by
    constructor
    · rintro (w | ⟨k, k1, k3⟩)
      · exact Or.inl (Or.inl w)
      · by_cases e : k = n
        · subst e; exact Or.inr k3
        · exact Or.inl (Or.inr ⟨k, by omega, k3⟩)
    · rintro ((w | ⟨k, k1, k3⟩) | k3)
      · exact Or.inl w
      · exact Or.inr ⟨k, by omega, k3⟩
      · exact Or.inr ⟨n, by omega, k3⟩)
theorem bst_nbG {f : Nat → Nat → Int64} {sum z : Int64} {S : Int} {K : Int → Prop} (hs : sum.toInt = S) (h : bst S K z.toInt) : ∀ n, bst S (fun v => K v ∨ ∃ p r, p < n ∧ r < 8 ∧ v = (f p r).toInt) (nbG f sum z n).toInt
  | 0 => bst_cg h (fun v => ⟨fun w => w.elim id (fun ⟨k, _, hk, _⟩ => absurd hk (Nat.not_lt_zero _)), Or.inl⟩)
  | n + 1 => bst_cg (bst_nbF (f := f n) hs (bst_nbG hs h n) 8) (fun v => by
    constructor
    · rintro (w | ⟨p, r, k1, k2, k3⟩)
      · exact Or.inl (Or.inl w)
      · by_cases e : p = n
        · subst e; exact Or.inr ⟨r, k2, k3⟩
        · exact Or.inl (Or.inr ⟨p, r, by omega, k2, k3⟩)
    · rintro ((w | ⟨p, r, k1, k2, k3⟩) | ⟨r, k2, k3⟩)
      · exact Or.inl w
      · exact Or.inr ⟨p, r, by omega, k2, k3⟩
      · exact Or.inr ⟨n, r, by omega, k2, k3⟩)
theorem bst_nbC {ops num : Nat → Int32} {J sum z : Int64} {F : Nat} {S : Int} {K : Int → Prop} (hs : sum.toInt = S) (h : bst S K z.toInt) : ∀ n, bst S (fun v => K v ∨ ∃ k, k < n ∧ ((ops (F + k) = 60 ∧ v = ((num (F + k)).toInt64 - 1 - J).toInt) ∨ (ops (F + k) = 62 ∧ v = ((num (F + k)).toInt64 - J).toInt))) (nbC ops num J sum F z n).toInt
  | 0 => bst_cg h (fun v => ⟨fun w => w.elim id (fun ⟨k, hk, _⟩ => absurd hk (Nat.not_lt_zero _)), Or.inl⟩)
  | n + 1 => by
    have ih := bst_nbC (ops := ops) (num := num) (J := J) (F := F) hs h n
    simp only [nbC]
    have e60 : ¬ (60 : Int32) = 62 := by decide
    by_cases c1 : ops (F + n) = 60
    · rw [if_pos c1]
      refine bst_m hs ih (fun v => ?_)
      constructor
      · rintro (w | ⟨k, k1, k3⟩)
        · exact Or.inl (Or.inl w)
        · by_cases e : k = n
          · subst e
            rcases k3 with k3 | k3
            · exact Or.inr k3.2
            · exact absurd (c1.symm.trans k3.1) e60
          · exact Or.inl (Or.inr ⟨k, by omega, k3⟩)
      · rintro ((w | ⟨k, k1, k3⟩) | k3)
        · exact Or.inl w
        · exact Or.inr ⟨k, by omega, k3⟩
        · exact Or.inr ⟨n, by omega, Or.inl ⟨c1, k3⟩⟩
    · rw [if_neg c1]
      by_cases c2 : ops (F + n) = 62
      · rw [if_pos c2]
        refine bst_m hs ih (fun v => ?_)
        constructor
        · rintro (w | ⟨k, k1, k3⟩)
          · exact Or.inl (Or.inl w)
          · by_cases e : k = n
            · subst e
              rcases k3 with k3 | k3
              · exact absurd k3.1 c1
              · exact Or.inr k3.2
            · exact Or.inl (Or.inr ⟨k, by omega, k3⟩)
        · rintro ((w | ⟨k, k1, k3⟩) | k3)
          · exact Or.inl w
          · exact Or.inr ⟨k, by omega, k3⟩
          · exact Or.inr ⟨n, by omega, Or.inr ⟨c2, k3⟩⟩
      · rw [if_neg c2]
        refine bst_cg ih (fun v => ?_)
        constructor
        · rintro (w | ⟨k, k1, k3⟩)
          · exact Or.inl w
          · by_cases e : k = n
            · subst e
              rcases k3 with k3 | k3
              · exact absurd k3.1 c1
              · exact absurd k3.1 c2
            · exact Or.inr ⟨k, by omega, k3⟩
        · rintro (w | ⟨k, k1, k3⟩)
          · exact Or.inl w
          · exact Or.inr ⟨k, by omega, k3⟩
theorem bst_nbR {ops num : Nat → Int32} {J sum : Int64} {fo eo : Nat → Nat} {B : Nat} {S : Int} (hs : sum.toInt = S) : ∀ n, bst S (fun v => ∃ i k, i < n ∧ k < eo i - fo i ∧ ((ops (B + fo i + k) = 60 ∧ v = ((num (B + fo i + k)).toInt64 - 1 - J).toInt) ∨ (ops (B + fo i + k) = 62 ∧ v = ((num (B + fo i + k)).toInt64 - J).toInt))) (nbR ops num J sum fo eo B (-1) n).toInt
  | 0 => by
    have e : (-1 : Int64).toInt = -1 := by decide
    show bst S _ (-1 : Int64).toInt
    rw [e]
    exact bst_0 (fun v ⟨i, k, hk, _⟩ => absurd hk (Nat.not_lt_zero _))
  | n + 1 => bst_cg (bst_nbC (ops := ops) (num := num) (J := J) (F := B + fo n) hs (bst_nbR hs n) (eo n - fo n)) (fun v => by
    constructor
    · rintro ⟨i, k, k1, k2, k3⟩
      by_cases e : i = n
      · subst e; exact Or.inr ⟨k, k2, k3⟩
      · exact Or.inl ⟨i, k, by omega, k2, k3⟩
    · rintro (⟨i, k, k1, k2, k3⟩ | ⟨k, k2, k3⟩)
      · exact ⟨i, k, by omega, k2, k3⟩
      · exact ⟨n, k, by omega, k2, k3⟩)
