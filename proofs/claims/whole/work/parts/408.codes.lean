/-! the codes of a when, reckoned on a pile: class and model; written by hand -/
def rst (op : Int32) (e : Bool) (s : List Bool) : Option (List Bool) :=
  if op = 4 then (match s with
    | a :: r => some ((!a) :: r)
    | [] => none)
  else if op = 5 then (match s with
    | b :: a :: r => some ((a && b) :: r)
    | _ => none)
  else if op = 6 then (match s with
    | b :: a :: r => some ((a || b) :: r)
    | _ => none)
  else if op = 0 ∨ op = 1 ∨ op = 2 ∨ op = 3 then (if s.length < 30 then some (e :: s) else none) else none
theorem rst_4 {e : Bool} {a : Bool} {r : List Bool} : rst 4 e (a :: r) = some ((!a) :: r) := rfl
theorem rst_5 {e : Bool} {a b : Bool} {r : List Bool} : rst 5 e (b :: a :: r) = some ((a && b) :: r) := rfl
theorem rst_6 {e : Bool} {a b : Bool} {r : List Bool} : rst 6 e (b :: a :: r) = some ((a || b) :: r) := rfl
theorem rst_t {op : Int32} {e : Bool} {s : List Bool} (h : op = 0 ∨ op = 1 ∨ op = 2 ∨ op = 3) (hs : s.length < 30) : rst op e s = some (e :: s) := by
  have h4 : ¬ op = 4 := by rcases h with e | e | e | e <;> rw [e] <;> decide
  have h5 : ¬ op = 5 := by rcases h with e | e | e | e <;> rw [e] <;> decide
  have h6 : ¬ op = 6 := by rcases h with e | e | e | e <;> rw [e] <;> decide
  unfold rst
  rw [if_neg h4, if_neg h5, if_neg h6, if_pos h, if_pos hs]
/-- what a step that succeeds was -/
theorem rst_inv {op : Int32} {e : Bool} {s t : List Bool} (h : rst op e s = some t) : (op = 4 ∧ ∃ a r, s = a :: r ∧ t = (!a) :: r) ∨ (op = 5 ∧ ∃ a b r, s = b :: a :: r ∧ t = (a && b) :: r) ∨ (op = 6 ∧ ∃ a b r, s = b :: a :: r ∧ t = (a || b) :: r) ∨ ((op = 0 ∨ op = 1 ∨ op = 2 ∨ op = 3) ∧ s.length < 30 ∧ t = e :: s) := by
  unfold rst at h
  split at h
  · next c =>
    cases s with
    | nil => cases h
    | cons a r => exact Or.inl ⟨c, a, r, rfl, (Option.some.inj h).symm⟩
  · split at h
    · next c =>
      cases s with
      | nil => cases h
      | cons b r =>
        cases r with
        | nil => cases h
        | cons a r => exact Or.inr (Or.inl ⟨c, a, b, r, rfl, (Option.some.inj h).symm⟩)
    · split at h
      · next c =>
        cases s with
        | nil => cases h
        | cons b r =>
          cases r with
          | nil => cases h
          | cons a r => exact Or.inr (Or.inr (Or.inl ⟨c, a, b, r, rfl, (Option.some.inj h).symm⟩))
      · split at h
        · next c =>
          split at h
          · next c2 => exact Or.inr (Or.inr (Or.inr ⟨c, c2, (Option.some.inj h).symm⟩))
          · cases h
        · cases h
def rrun (op : Nat → Int32) (E : Nat → Bool) (f : Nat) : Nat → List Bool → Option (List Bool)
  | 0, s => some s
  | n + 1, s => (rrun op E f n s).bind (rst (op (f + n)) (E (f + n)))
theorem rrun_s {op : Nat → Int32} {E : Nat → Bool} {f n : Nat} {s : List Bool} : rrun op E f (n + 1) s = (rrun op E f n s).bind (rst (op (f + n)) (E (f + n))) := rfl
theorem rrun_cg {op op2 : Nat → Int32} {E : Nat → Bool} {f : Nat} : ∀ (n : Nat) (s : List Bool), (∀ k, f ≤ k → k < f + n → op k = op2 k) → rrun op E f n s = rrun op2 E f n s
  | 0, _, _ => rfl
  | n + 1, s, h => by
    rw [rrun_s, rrun_s, rrun_cg n s (fun k h1 h2 => h k h1 (by omega)), h (f + n) (by omega) (by omega)]
theorem rrun_add {op : Nat → Int32} {E : Nat → Bool} {f a : Nat} : ∀ (b : Nat) (s : List Bool), rrun op E f (a + b) s = (rrun op E f a s).bind (rrun op E (f + a) b)
  | 0, s => by
    rw [Nat.add_zero]
    cases rrun op E f a s with
    | none => rfl
    | some t => rfl
  | b + 1, s => by
    rw [← Nat.add_assoc, rrun_s, rrun_add b s]
    cases rrun op E f a s with
    | none => rfl
    | some t =>
      show (rrun op E (f + a) b t).bind _ = rrun op E (f + a) (b + 1) t
      rw [rrun_s, Nat.add_assoc]
/-- the codes from f to g leave one value more; they want M places -/
def uW (op : Nat → Int32) (M f g : Nat) : Prop := f < g ∧ ∀ E : Nat → Bool, ∃ v : Bool, ∀ s : List Bool, s.length + M ≤ 30 → rrun op E f (g - f) s = some (v :: s)
theorem uW_mono {op : Nat → Int32} {M N f g : Nat} (h : uW op M f g) (hM : M ≤ N) : uW op N f g := ⟨h.1, fun E => by
  obtain ⟨v, hv⟩ := h.2 E
  exact ⟨v, fun s hs => hv s (by omega)⟩⟩
theorem uW_cg {op op2 : Nat → Int32} {M f g : Nat} (hc : ∀ k, k < g → op k = op2 k) (h : uW op M f g) : uW op2 M f g := ⟨h.1, fun E => by
  obtain ⟨v, hv⟩ := h.2 E
  have := h.1
  exact ⟨v, fun s hs => by rw [← rrun_cg (op := op) (g - f) s (fun k _ h2 => hc k (by omega))]; exact hv s hs⟩⟩
theorem uW_test {op : Nat → Int32} {M f : Nat} (h : op f = 0 ∨ op f = 1 ∨ op f = 2 ∨ op f = 3) (hM : 1 ≤ M) : uW op M f (f + 1) := ⟨by omega, fun E => ⟨E f, fun s hs => by
  rw [show f + 1 - f = 0 + 1 by omega, rrun_s]
  show rst (op (f + 0)) (E (f + 0)) s = _
  rw [Nat.add_zero, rst_t h (by omega)]⟩⟩
theorem uW_not {op : Nat → Int32} {M f g : Nat} (h : uW op M f g) (hg : op g = 4) : uW op M f (g + 1) := ⟨by have := h.1; omega, fun E => by
  obtain ⟨v, hv⟩ := h.2 E
  have h1 := h.1
  refine ⟨!v, fun s hs => ?_⟩
  rw [show g + 1 - f = (g - f) + 1 by omega, rrun_s, hv s hs]
  show rst (op (f + (g - f))) (E (f + (g - f))) (v :: s) = _
  rw [show f + (g - f) = g by omega, hg]
  rfl⟩
theorem uW_bin {op : Nat → Int32} {M M2 N f g k : Nat} (h : uW op M f g) (h2 : uW op M2 g k) (hM : M ≤ N) (hM2 : M2 + 1 ≤ N) (hk : op k = 5 ∨ op k = 6) : uW op N f (k + 1) := ⟨by have := h.1; have := h2.1; omega, fun E => by
  obtain ⟨v, hv⟩ := h.2 E
  obtain ⟨w, hw⟩ := h2.2 E
  have a1 := h.1
  have a2 := h2.1
  have key : ∀ s : List Bool, s.length + N ≤ 30 → rrun op E f (k + 1 - f) s = rst (op k) (E k) (w :: v :: s) := fun s hs => by
    rw [show k + 1 - f = ((g - f) + (k - g)) + 1 by omega, rrun_s, rrun_add, hv s (by omega)]
    show (rrun op E (f + (g - f)) (k - g) (v :: s)).bind _ = _
    rw [show f + (g - f) = g by omega, hw (v :: s) (by simp only [List.length_cons]; omega)]
    show rst (op (f + (g - f + (k - g)))) (E (f + (g - f + (k - g)))) (w :: v :: s) = _
    rw [show f + (g - f + (k - g)) = k by omega]
  rcases hk with e | e
  · exact ⟨v && w, fun s hs => by rw [key s hs, e]; rfl⟩
  · exact ⟨v || w, fun s hs => by rw [key s hs, e]; rfl⟩⟩
/-! bits -/
theorem lb_xor {x y : Int32} {q : Nat} : lb (x ^^^ y) q = (lb x q ^^ lb y q) := by unfold lb; rw [Int32.toBitVec_xor, BitVec.getLsbD_xor]
theorem lb_shl {x : Int32} {n i : Nat} (hn : n < 32) (hi : i < 32) : lb (x <<< (nI n &&& 31)) i = (decide (n ≤ i) && lb x (i - n)) := by
  unfold lb
  rw [Int32.toBitVec_shiftLeft]
  show (x.toBitVec <<< ((nI n &&& 31).toBitVec.smod 32).toNat).getLsbD i = _
  rw [sm32 n hn, BitVec.getLsbD_shiftLeft]
  rcases Nat.lt_or_ge i n with h | h
  · simp [h, Nat.not_le.mpr h]
  · simp [hi, h, Nat.not_lt.mpr h]
theorem lb_shr2 {x : Int32} {n i : Nat} (hn : n < 32) (hi : i < 32) : lb (x >>> (nI n &&& 31)) i = if n + i < 32 then lb x (n + i) else lb x 31 := by
  unfold lb
  rw [Int32.toBitVec_shiftRight]
  show (x.toBitVec.sshiftRight ((nI n &&& 31).toBitVec.smod 32).toNat).getLsbD i = _
  rw [sm32 n hn, BitVec.getLsbD_sshiftRight, BitVec.msb_eq_getLsbD_last]
  simp [hi]
theorem lb_kb {b : Bool} {q : Nat} (hq : q < 32) : lb (kb b) q = (decide (q = 0) && b) := by
  cases b
  · rw [kb_f, lb_0, Bool.and_false]
  · rw [kb_t, lb_one q hq, Bool.and_true]
/-- the class's values: bits, the latest lowest -/
def rbt (v : Int32) (s : List Bool) : Prop := ∀ j, j < 32 → lb v j = s.getD j false
theorem getD_big {s : List Bool} {j : Nat} (h : s.length ≤ j) : s.getD j false = false := by
  rw [List.getD_eq_getElem?_getD, List.getElem?_eq_none h]; rfl
theorem rbt_step {op opd v joined place : Int32} {urg : Bool} {s t : List Bool} (hv : rbt v s) (hs : s.length ≤ 30) (h : rst op (q_pass op opd joined place urg) s = some t) : rbt (q_stp op opd v joined place urg) t := by
  have e1 : ((1 : Int32) &&& 31) = (nI 1 &&& 31) := rfl
  have e2 : ((2 : Int32) &&& 31) = (nI 2 &&& 31) := rfl
  have h31 : lb v 31 = false := by rw [hv 31 (by omega)]; exact getD_big (by omega)
  have top : ∀ j, 1 ≤ j → j < 32 → lb ((v >>> ((2 : Int32) &&& 31)) <<< ((1 : Int32) &&& 31)) j = s.getD (j + 1) false := fun j h1 hj => by
    rw [e1, e2, lb_shl (by omega) hj, lb_shr2 (by omega) (by omega)]
    by_cases c : 2 + (j - 1) < 32
    · rw [if_pos c, show 2 + (j - 1) = j + 1 by omega, hv (j + 1) (by omega)]
      simp [h1]
    · rw [if_neg c, h31, getD_big (by omega)]
      simp
  have bot : lb ((v >>> ((2 : Int32) &&& 31)) <<< ((1 : Int32) &&& 31)) 0 = false := by
    rw [e1, lb_shl (by omega) (by omega)]
    simp
  have one : ∀ j, 1 ≤ j → j < 32 → lb 1 j = false := fun j h1 hj => by
    rw [lb_one j hj]
    simp; omega
  have s1 : lb (v >>> ((1 : Int32) &&& 31)) 0 = s.getD 1 false := by
    rw [e1, lb_shr2 (by omega) (by omega), if_pos (by omega)]
    exact hv 1 (by omega)
  rcases rst_inv h with ⟨ho, a, r, rfl, rfl⟩ | ⟨ho, a, b, r, rfl, rfl⟩ | ⟨ho, a, b, r, rfl, rfl⟩ | ⟨ho, hl, rfl⟩
  · intro j hj
    unfold q_stp
    rw [if_pos ho, lb_xor]
    cases j with
    | zero =>
      rw [hv 0 (by omega), lb_one 0 (by omega)]
      simp
    | succ j =>
      rw [hv (j + 1) hj, one (j + 1) (by omega) hj]
      simp
  · intro j hj
    unfold q_stp
    rw [if_neg (by rw [ho]; decide), if_pos ho, lb_or, lb_and, lb_and]
    cases j with
    | zero =>
      rw [bot, s1, hv 0 (by omega), lb_one 0 (by omega)]
      simp
    | succ j =>
      rw [top (j + 1) (by omega) hj, one (j + 1) (by omega) hj]
      simp
  · intro j hj
    unfold q_stp
    rw [if_neg (by rw [ho]; decide), if_neg (by rw [ho]; decide), if_pos ho, lb_or, lb_and, lb_or]
    cases j with
    | zero =>
      rw [bot, s1, hv 0 (by omega), lb_one 0 (by omega)]
      simp
    | succ j =>
      rw [top (j + 1) (by omega) hj, one (j + 1) (by omega) hj]
      simp
  · intro j hj
    have h4 : ¬ op = 4 := by rcases ho with e | e | e | e <;> rw [e] <;> decide
    have h5 : ¬ op = 5 := by rcases ho with e | e | e | e <;> rw [e] <;> decide
    have h6 : ¬ op = 6 := by rcases ho with e | e | e | e <;> rw [e] <;> decide
    unfold q_stp
    rw [if_neg h4, if_neg h5, if_neg h6, lb_or, e1, lb_shl (by omega) hj, lb_kb hj]
    cases j with
    | zero => simp
    | succ j =>
      rw [show j + 1 - 1 = j by omega, hv j (by omega)]
      simp
/-- a run that succeeds: how long its pile is -/
theorem rrun_len {op : Nat → Int32} {E : Nat → Bool} {f : Nat} : ∀ (n : Nat) (t : List Bool), rrun op E f n [] = some t → t.length ≤ 30
  | 0, t, h => by
    rw [← Option.some.inj h]
    simp
  | n + 1, t, h => by
    rw [rrun_s] at h
    cases hq : rrun op E f n [] with
    | none => rw [hq] at h; cases h
    | some u =>
      rw [hq] at h
      have ih := rrun_len n u hq
      rcases rst_inv (show rst (op (f + n)) (E (f + n)) u = some t from h) with ⟨_, a, r, rfl, rfl⟩ | ⟨_, a, b, r, rfl, rfl⟩ | ⟨_, a, b, r, rfl, rfl⟩ | ⟨_, hl, rfl⟩
      · simpa using ih
      · simp only [List.length_cons] at ih ⊢; omega
      · simp only [List.length_cons] at ih ⊢; omega
      · simp only [List.length_cons]; omega
theorem hv_run {ops opd : Nat → Int32} {joined place : Int32} {urg : Bool} {f : Nat} : ∀ (n : Nat) (t : List Bool), rrun ops (fun k => q_pass (ops k) (opd k) joined place urg) f n [] = some t → rbt (q_hv ops opd joined place urg f n) t
  | 0, t, h => by
    rw [← Option.some.inj h]
    intro j hj
    show lb 0 j = _
    rw [lb_0]
    rfl
  | n + 1, t, h => by
    rw [rrun_s] at h
    cases hq : rrun ops (fun k => q_pass (ops k) (opd k) joined place urg) f n [] with
    | none => rw [hq] at h; cases h
    | some u =>
      rw [hq] at h
      rw [q_hv_s]
      exact rbt_step (hv_run n u hq) (rrun_len n u hq) h
/-- the model's codes -/
theorem mcd_4 {c : Int32} (h : c = 4) : mcd c = 126 := by rw [h]; rfl
theorem mcd_5 {c : Int32} (h : c = 5) : mcd c = 38 := by rw [h]; rfl
theorem mcd_6 {c : Int32} (h : c = 6) : mcd c = 124 := by rw [h]; rfl
theorem mcd_t {c : Int32} (h : c = 0 ∨ c = 1 ∨ c = 2 ∨ c = 3) : ¬ mcd c = 126 ∧ ¬ mcd c = 38 ∧ ¬ mcd c = 124 := by rcases h with e | e | e | e <;> rw [e] <;> decide
theorem tm_pass {op opd joined place : Int32} {J : Int64} {urg : Bool} (h : op = 0 ∨ op = 1 ∨ op = 2 ∨ op = 3) (hJ : J = joined.toInt64) : q_tm (mcd op) opd J place urg = q_pass op opd joined place urg := by
  have hle : ∀ a b : Int32, (a.toInt64 ≤ b.toInt64) ↔ a ≤ b := fun a b => by rw [Int64.le_iff_toInt_le, Int32.le_iff_toInt_le, Int32.toInt_toInt64, Int32.toInt_toInt64]
  subst hJ
  rcases h with e | e | e | e
  · subst e
    show (if 0 ≤ lg_cmp joined.toInt64 opd.toInt64 then false else true) = (if opd ≤ joined then false else true)
    exact if_congr_i ((lg_cmp_ge _ _).trans (hle _ _))
  · subst e
    show (if lg_cmp joined.toInt64 opd.toInt64 ≤ 0 then false else true) = (if joined ≤ opd then false else true)
    exact if_congr_i ((lg_cmp_le _ _).trans (hle _ _))
  · subst e; rfl
  · subst e; rfl
/-- the model's values: a row, the latest highest -/
def rmv (ops num : Nat → Int32) (F : Nat) (J : Int64) (place : Int32) (urg : Bool) (n : Nat) (s : List Bool) : Prop := q_dp ops F n = s.length ∧ ∀ j, j < s.length → q_mv ops num F J place urg n (s.length - 1 - j) = s.getD j false
theorem getD_c0 {a : Bool} {r : List Bool} : (a :: r).getD 0 false = a := rfl
theorem getD_cs {a : Bool} {r : List Bool} {j : Nat} : (a :: r).getD (j + 1) false = r.getD j false := rfl
theorem rmv_step {ops num : Nat → Int32} {F : Nat} {J : Int64} {place : Int32} {urg : Bool} {n : Nat} {s t : List Bool} {op : Int32} {e : Bool} (hv : rmv ops num F J place urg n s) (h : rst op e s = some t) (ho : ops (F + n) = mcd op) (he : (op = 0 ∨ op = 1 ∨ op = 2 ∨ op = 3) → q_tm (mcd op) (num (F + n)) J place urg = e) : rmv ops num F J place urg (n + 1) t ∧ (ops (F + n) = 126 → 1 ≤ q_dp ops F n) ∧ (ops (F + n) = 38 ∨ ops (F + n) = 124 → 2 ≤ q_dp ops F n) := by
  obtain ⟨hd, hm⟩ := hv
  rcases rst_inv h with ⟨hc, a, r, rfl, rfl⟩ | ⟨hc, a, b, r, rfl, rfl⟩ | ⟨hc, a, b, r, rfl, rfl⟩ | ⟨hc, hl, rfl⟩
  · have ho2 : ops (F + n) = 126 := by rw [ho, mcd_4 hc]
    simp only [List.length_cons] at hd hm
    refine ⟨⟨?_, fun j hj => ?_⟩, fun _ => by omega, fun w => by rcases w with w | w <;> (rw [ho2] at w; exact absurd w (by decide))⟩
    · simp only [q_dp, ho2, if_true, List.length_cons]; exact hd
    · simp only [List.length_cons] at hj ⊢
      simp only [q_mv, ho2, if_true]
      cases j with
      | zero =>
        rw [if_pos (by omega)]
        have := hm 0 (by omega)
        rw [this, getD_c0, getD_c0]
      | succ j =>
        rw [if_neg (by omega)]
        have := hm (j + 1) (by omega)
        rw [this, getD_cs, getD_cs]
  · have ho2 : ops (F + n) = 38 := by rw [ho, mcd_5 hc]
    have n1 : ¬ (38 : Int32) = 126 := by decide
    simp only [List.length_cons] at hd hm
    refine ⟨⟨?_, fun j hj => ?_⟩, fun w => by rw [ho2] at w; exact absurd w (by decide), fun _ => by omega⟩
    · simp only [q_dp, ho2, if_neg n1, if_true, List.length_cons]; omega
    · simp only [List.length_cons] at hj ⊢
      simp only [q_mv, ho2, if_neg n1, if_true]
      cases j with
      | zero =>
        rw [if_pos (by omega)]
        have w0 := hm 0 (by omega)
        have w1 := hm 1 (by omega)
        rw [show r.length + 1 + 1 - 1 - 0 = q_dp ops F n - 1 by omega] at w0
        rw [show r.length + 1 + 1 - 1 - 1 = r.length + 1 - 1 - 0 by omega] at w1
        rw [w0, w1]
        rfl
      | succ j =>
        rw [if_neg (by omega)]
        have w := hm (j + 2) (by omega)
        rw [show r.length + 1 + 1 - 1 - (j + 2) = r.length + 1 - 1 - (j + 1) by omega] at w
        rw [w]
        rfl
  · have ho2 : ops (F + n) = 124 := by rw [ho, mcd_6 hc]
    have n1 : ¬ (124 : Int32) = 126 := by decide
    have n2 : ¬ (124 : Int32) = 38 := by decide
    simp only [List.length_cons] at hd hm
    refine ⟨⟨?_, fun j hj => ?_⟩, fun w => by rw [ho2] at w; exact absurd w (by decide), fun _ => by omega⟩
    · simp only [q_dp, ho2, if_neg n1, if_neg n2, if_true, List.length_cons]; omega
    · simp only [List.length_cons] at hj ⊢
      simp only [q_mv, ho2, if_neg n1, if_neg n2, if_true]
      cases j with
      | zero =>
        rw [if_pos (by omega)]
        have w0 := hm 0 (by omega)
        have w1 := hm 1 (by omega)
        rw [show r.length + 1 + 1 - 1 - 0 = q_dp ops F n - 1 by omega] at w0
        rw [show r.length + 1 + 1 - 1 - 1 = r.length + 1 - 1 - 0 by omega] at w1
        rw [w0, w1]
        rfl
      | succ j =>
        rw [if_neg (by omega)]
        have w := hm (j + 2) (by omega)
        rw [show r.length + 1 + 1 - 1 - (j + 2) = r.length + 1 - 1 - (j + 1) by omega] at w
        rw [w]
        rfl
  · have hq := mcd_t hc
    rw [← ho] at hq
    refine ⟨⟨?_, fun j hj => ?_⟩, fun w => absurd w hq.1, fun w => w.elim (fun w => absurd w hq.2.1) (fun w => absurd w hq.2.2)⟩
    · simp only [q_dp, if_neg hq.1, if_neg hq.2.1, if_neg hq.2.2, List.length_cons]; omega
    · simp only [List.length_cons] at hj ⊢
      simp only [q_mv, if_neg hq.1, if_neg hq.2.1, if_neg hq.2.2]
      cases j with
      | zero =>
        rw [if_pos (by omega), ho, he hc]
        rfl
      | succ j =>
        rw [if_neg (by omega)]
        have w := hm j (by omega)
        rw [show s.length - 1 - j = s.length + 1 - 1 - (j + 1) by omega] at w
        rw [w]
        rfl
theorem mv_run {op od ops num : Nat → Int32} {joined place : Int32} {J : Int64} {urg : Bool} {f F : Nat} (hJ : J = joined.toInt64) : ∀ (n : Nat) (t : List Bool), (∀ k, k < n → ops (F + k) = mcd (op (f + k)) ∧ num (F + k) = od (f + k)) → rrun op (fun k => q_pass (op k) (od k) joined place urg) f n [] = some t → rmv ops num F J place urg n t ∧ kWf ops F n
  | 0, t, _, h => by
    rw [← Option.some.inj h]
    exact ⟨⟨rfl, fun j hj => absurd hj (Nat.not_lt_zero _)⟩, fun t ht => absurd ht (Nat.not_lt_zero _)⟩
  | n + 1, t, hc, h => by
    rw [rrun_s] at h
    cases hq : rrun op (fun k => q_pass (op k) (od k) joined place urg) f n [] with
    | none => rw [hq] at h; cases h
    | some u =>
      rw [hq] at h
      have ih := mv_run hJ n u (fun k hk => hc k (by omega)) hq
      have hl := rrun_len n u hq
      obtain ⟨c1, c2⟩ := hc n (by omega)
      have st := rmv_step ih.1 (show rst (op (f + n)) (q_pass (op (f + n)) (od (f + n)) joined place urg) u = some t from h) c1 (fun w => by rw [c2]; exact tm_pass w hJ)
      refine ⟨st.1, fun k hk => ?_⟩
      by_cases e : k = n
      · subst e
        exact ⟨by rw [ih.1.1]; omega, st.2⟩
      · exact ih.2 k (by omega)
theorem and1_lb {x : Int32} : (x &&& 1 = 0) ↔ lb x 0 = false := by
  constructor
  · intro h
    have g : lb (x &&& 1) 0 = false := by rw [h]; exact lb_0
    rw [lb_and, lb_one 0 (by omega)] at g
    simpa using g
  · intro h
    apply lb_ext
    intro i hi
    rw [lb_and, lb_one i hi, lb_0]
    by_cases e : i = 0
    · rw [e, h]; rfl
    · simp [e]
/-- a rule holds on both sides alike -/
theorem hol_eq {op od ops num : Nat → Int32} {joined place : Int32} {J : Int64} {urg : Bool} {f e F : Nat} (hJ : J = joined.toInt64) (hu : f = e ∨ uW op 18 f e) (hc : ∀ k, k < e - f → ops (F + k) = mcd (op (f + k)) ∧ num (F + k) = od (f + k)) : q_hol op od f e joined place urg = q_mh ops num F (e - f) J place urg ∧ kWf ops F (e - f) := by
  rcases hu with h | h
  · subst h
    rw [Nat.sub_self]
    refine ⟨?_, fun t ht => absurd ht (Nat.not_lt_zero _)⟩
    unfold q_hol q_mh
    rw [if_pos rfl]
    rfl
  · obtain ⟨v, hv⟩ := h.2 (fun k => q_pass (op k) (od k) joined place urg)
    have hr := hv [] (by simp)
    have h1 := hv_run (opd := od) (e - f) [v] hr
    have h2 := mv_run hJ (e - f) [v] hc hr
    refine ⟨?_, h2.2⟩
    have b0 := h1 0 (by omega)
    have m0 := h2.1.2 0 (by simp)
    have d0 := h2.1.1
    simp only [List.length_cons, List.length_nil] at m0 d0
    have hne : ¬ f = e := by have := h.1; omega
    unfold q_hol q_mh
    rw [if_neg hne, if_neg (show ¬ q_dp ops F (e - f) = 0 by omega), m0, if_congr_i and1_lb, b0]
    cases v <;> rfl
