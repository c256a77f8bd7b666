/-! the start: what the tables and the statement give; written by hand -/
theorem kx_all : ∀ ci, ci < 8 → Cond.instantiable (kCn ci) (kNn ci) ∈ kl_ws := by
  intro ci h
  rcases (show ci = 0 ∨ ci = 1 ∨ ci = 2 ∨ ci = 3 ∨ ci = 4 ∨ ci = 5 ∨ ci = 6 ∨ ci = 7 by omega) with rfl | rfl | rfl | rfl | rfl | rfl | rfl | rfl
  · exact kx_0
  · exact kx_1
  · exact kx_2
  · exact kx_3
  · exact kx_4
  · exact kx_5
  · exact kx_6
  · exact kx_7
theorem ar_prim {s : State} {args : Array Value} {ty : FieldType} (h : (Cond.arrayClass ty).before args s = true) : ∃ cA : ClassId, ArrOfT s cA ty ∧ s.vm.findClass ("[" ++ ty.toString) = some cA := by
  obtain ⟨cA, kA, comp, h1, h2, h3⟩ := Cond.arrayClass_spec h
  exact ⟨cA, fun n z => ⟨fun k h => (by cases h), kA, h2, comp, h3⟩, h1⟩
theorem ar_obj {s : State} {args : Array Value} {C : String} (h : (Cond.arrayOver (.object C)).before args s = true) : ∃ cA : ClassId, ArrOfT s cA (.object C) ∧ va_RA s cA (.object C) := by
  obtain ⟨comp, cA, kA, h1, _, h2, h3, h4⟩ := Cond.arrayOver_spec h
  exact ⟨cA, fun n z => ⟨fun k h => (by cases h), kA, h2, comp, h3⟩, kA, comp, h2, h3, h1, h4⟩
def arF (a b c d e : ClassId) (ty : FieldType) : ClassId := match ty with
  | .int => a
  | .byte => b
  | .boolean => c
  | .long => d
  | _ => e
theorem kSt_of {s : State} {args : Array Value} (hts : ∀ w ∈ lw_tbl, w.before args s = true) : ∃ (arr : FieldType → ClassId) (D : va_G), ∀ n0 b a1 a2 : Nat, kSt (n0, b, a1, a2, arr, D) s := by
  have hw : ∀ w ∈ kl_ws, w.before args s = true := fun w h => hts w (kl_sub h).1
  have h0 : ∀ ci : Nat, ∃ q : ClassId × (Nat → Nat), ci < 8 → u_Kn s (kCn ci) (kTn ci) (kNn ci) q.1 q.2 := fun ci => by
    by_cases h : ci < 8
    · obtain ⟨c, iS, hk⟩ := u_known (C := kCn ci) (T := kTn ci) (N := kNn ci) (n := kNn ci) hw (kcl_ws ci h) (hw _ (kx_all ci h))
      exact ⟨(c, iS), fun _ => hk⟩
    · exact ⟨(0, fun _ => 0), fun g => absurd g h⟩
  obtain ⟨f, hf⟩ := Classical.axiomOfChoice h0
  obtain ⟨cI, i1, i2⟩ := ar_prim (hw _ kr_int)
  obtain ⟨cB, b1, b2⟩ := ar_prim (hw _ kr_byte)
  obtain ⟨cZ, z1, z2⟩ := ar_prim (hw _ kr_boolean)
  obtain ⟨cL, l1, l2⟩ := ar_prim (hw _ kr_long)
  have hao : (Cond.arrayOver (.object RX1)).before args s = true := hts _ (List.mem_of_getElem? (i := 149) (by decide +kernel))
  obtain ⟨cP, p1, p2⟩ := ar_obj hao
  refine ⟨arF cI cB cZ cL cP, (fun c => (f c).1, fun c => (f c).2), fun n0 b a1 a2 => ⟨⟨fun c q hq => ?_, fun k q hk => ?_⟩, fun w hwn => ?_, va_AO.of hao⟩⟩
  · have hc : c < 8 := (List.getElem?_eq_some_iff.mp hq).1
    have e := (kcl_at c hc).symm.trans hq
    cases e
    exact hf c hc
  · have hlt : k < 5 := (List.getElem?_eq_some_iff.mp hk).1
    rcases (show k = 0 ∨ k = 1 ∨ k = 2 ∨ k = 3 ∨ k = 4 by omega) with rfl | rfl | rfl | rfl | rfl
    · cases hk; exact ⟨i1, i2⟩
    · cases hk; exact ⟨b1, b2⟩
    · cases hk; exact ⟨z1, z2⟩
    · cases hk; exact ⟨l1, l2⟩
    · cases hk; exact ⟨p1, p2⟩
  · have g := kl_nsub hwn
    have hb := hts w g.1
    have hn := g.2
    cases w <;> first | exact va_Nw.of rfl hb | cases hn
def tmW : Term := Term.string RX2 148
theorem el_in : ∀ j, j < 124 → Cond.eq (.elem (.field tmW "java/lang/String" "value" "[B") (.int (Int32.ofNat j))) (.int (kByt.getD j 0)) ∈ flatC (Jvm.Cond.and given_1 narrow_1) := by decide +kernel
theorem kStr_of {s : State} {args : Array Value} {b : Nat} (hts : ∀ w ∈ lw_tbl, w.before args s = true) (hgv : (Jvm.Cond.and given_1 narrow_1).before args s = true) : ∃ a1 a2 : Nat, ∀ (arr : FieldType → ClassId) (D : va_G), kStr (s.heap.size, b, a1, a2, arr, D) s s.heap := by
  have hs := flat_of_before _ hgv
  have hA : ∀ a : Nat, a < s.heap.size → ¬ (fun q : Nat => s.heap.size ≤ q) a := fun a h => Nat.not_le.mpr h
  obtain ⟨adK, adV, h1, h2⟩ := vk_Sof (N := 1) (tm := fun _ => tmW) (len := [124]) (byt := [kByt]) (A := fun q : Nat => s.heap.size ≤ q) (args := args) (s := s) (fun i hi => by rcases (show i = 0 by omega) with rfl; decide) (fun i hi => hs _ (by decide +kernel)) (fun i hi => hs _ (by decide +kernel)) (fun i hi => hs _ (by decide +kernel)) (fun i hi => by rcases (show i = 0 by omega) with rfl; exact hs _ (by decide +kernel)) (fun i hi j hj => by
    rcases (show i = 0 by omega) with rfl
    exact hs _ (el_in j hj)) (fun i j hi hj hij => absurd (show i = j by omega) hij) hA
  refine ⟨adK 0, adV 0, fun arr D => ⟨?_, ?_, ?_, ?_⟩⟩
  · refine ⟨fun i hi => ?_, fun i j hi hj _ => by omega⟩
    rcases (show i = 0 by omega) with rfl
    exact h1.1 0 (by omega)
  · exact va_Zof (hts (.laysStatic "java/lang/String" "COMPACT_STRINGS" "Z") (List.mem_of_getElem? (i := 464) (by decide +kernel))) (hts (.initialized "java/lang/String") (List.mem_of_getElem? (i := 80) (by decide +kernel))) (va_eqt (hs (.eq (.static "java/lang/String" "COMPACT_STRINGS" "Z") (.int 1)) (by decide +kernel))) hA
  · exact vk_R.of (hts (.stringRef RX2 148 kTxt) (List.mem_of_getElem? (i := 454) (by decide +kernel))) (h2 0 (by omega))
  · exact va_Zqof (hts (.laysStatic "jdk/internal/util/Preconditions" "SIOOBE_FORMATTER" "Ljava/util/function/BiFunction;") (List.mem_of_getElem? (i := 480) (by decide +kernel))) (hts (.initialized "jdk/internal/util/Preconditions") (List.mem_of_getElem? (i := 82) (by decide +kernel))) (hs (.isRef (.static "jdk/internal/util/Preconditions" "SIOOBE_FORMATTER" "Ljava/util/function/BiFunction;")) (by decide +kernel)) hA
