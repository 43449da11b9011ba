/-! calls, constants, makings: the tables against the words -/
def am_pp (e : Nat × Nat × Nat × Nat × Nat × List Nat) (j : Nat) : Nat := e.2.2.2.2.2.getD j 0
/-- a method of the program, as a callee -/
def am_ckm (mj : Nat) : Bool := plainName (am_y mj).cls && (decide ((am_y mj).cls ≠ "java/lang/invoke/MethodHandle") && (decide ((am_y mj).cls ≠ "java/lang/invoke/VarHandle") && (decide ((am_y mj).cls = am_cn (am_cls mj)) && (decide ((parseMethodDescriptor (am_y mj).desc).map (fun d => d.parameters.length) = some (am_np mj)) &&
  ((match am_rtc mj with | 0 => decide (am_ret mj = none) | 1 => decide (am_ret mj = some .int) | 2 => decide (am_ret mj = some .boolean) | 3 => (match am_ret mj with | some (.object _) => true | _ => false) | 4 => decide (am_ret mj = some .float) | _ => false) &&
  (cond (am_ini mj) (decide ((am_y mj).name = "<init>")) true))))))
theorem am_ckm_ok : (List.range 232).all am_ckm = true := by decide +kernel
theorem am_m_e {mj : Nat} (h : mj < 232) : plainName (am_y mj).cls = true ∧ (am_y mj).cls ≠ "java/lang/invoke/MethodHandle" ∧ (am_y mj).cls ≠ "java/lang/invoke/VarHandle" ∧ (am_y mj).cls = am_cn (am_cls mj) ∧ (parseMethodDescriptor (am_y mj).desc).map (fun d => d.parameters.length) = some (am_np mj) ∧
    ((am_rtc mj = 0 ∧ am_ret mj = none) ∨ (am_rtc mj = 1 ∧ am_ret mj = some .int) ∨ (am_rtc mj = 2 ∧ am_ret mj = some .boolean) ∨ (am_rtc mj = 3 ∧ ∃ n, am_ret mj = some (.object n)) ∨ (am_rtc mj = 4 ∧ am_ret mj = some .float)) ∧ (am_ini mj = true → (am_y mj).name = "<init>") := by
  have h1 := List.all_eq_true.mp am_ckm_ok mj (List.mem_range.mpr h)
  unfold am_ckm at h1
  obtain ⟨g1, h1⟩ := Bool.and_eq_true_iff.mp h1
  obtain ⟨g2, h1⟩ := Bool.and_eq_true_iff.mp h1
  obtain ⟨g3, h1⟩ := Bool.and_eq_true_iff.mp h1
  obtain ⟨g4, h1⟩ := Bool.and_eq_true_iff.mp h1
  obtain ⟨g5, h1⟩ := Bool.and_eq_true_iff.mp h1
  obtain ⟨g6, g7⟩ := Bool.and_eq_true_iff.mp h1
  refine ⟨g1, of_decide_eq_true g2, of_decide_eq_true g3, of_decide_eq_true g4, of_decide_eq_true g5, ?_, ?_⟩
  · revert g6
    generalize am_rtc mj = q
    intro g6
    match q, g6 with
    | 0, g6 => exact Or.inl ⟨rfl, of_decide_eq_true g6⟩
    | 1, g6 => exact Or.inr (Or.inl ⟨rfl, of_decide_eq_true g6⟩)
    | 2, g6 => exact Or.inr (Or.inr (Or.inl ⟨rfl, of_decide_eq_true g6⟩))
    | 3, g6 =>
      refine Or.inr (Or.inr (Or.inr (Or.inl ⟨rfl, ?_⟩)))
      revert g6
      generalize am_ret mj = q
      intro g6
      match q, g6 with
      | some (.object n), _ => exact ⟨n, rfl⟩
    | 4, g6 => exact Or.inr (Or.inr (Or.inr (Or.inr ⟨rfl, of_decide_eq_true g6⟩)))
  · intro hi
    rw [hi] at g7
    exact of_decide_eq_true g7
def am_ck0 (oc : Nat) (e : Nat × Nat × Nat × Nat × Nat × List Nat) : Bool := match e.2.1 with
  | 0 => Nat.ble (e.2.2.1 + 1) 231 && (Nat.ble (am_cls e.2.2.1 + 1) 12 && (Nat.beq e.2.2.2.1 (am_np e.2.2.1 + 1) && (am_wd (am_pp e 0) (.methodLink (am_cn oc) e.1 (am_y e.2.2.1)) && (am_wd (am_pp e 1) (.instanceMethod (am_y e.2.2.1)) && (am_wd (am_pp e 2) (.selects (am_y e.2.2.1).cls (am_y e.2.2.1) (am_y e.2.2.1)) && (am_wd (am_pp e 3) (.initialized (am_y e.2.2.1).cls)))))))
  | 1 => Nat.ble (e.2.2.1 + 1) 231 && (Nat.beq e.2.2.2.1 (am_np e.2.2.1) && (am_wd (am_pp e 0) (.methodLink (am_cn oc) e.1 (am_y e.2.2.1)) && (am_wd (am_pp e 1) (.static (am_y e.2.2.1)) && (am_wd (am_pp e 3) (.initialized (am_y e.2.2.1).cls)))))
  | 2 => Nat.ble (e.2.2.1 + 1) 231 && (Nat.beq e.2.2.2.1 (am_np e.2.2.1 + 1) && (am_wd (am_pp e 0) (.methodLink (am_cn oc) e.1 (am_y e.2.2.1)) && (am_wd (am_pp e 1) (.instanceMethod (am_y e.2.2.1)) && (am_wd (am_pp e 3) (.initialized (am_y e.2.2.1).cls) && (am_ini e.2.2.1 && Nat.beq (am_rtc e.2.2.1) 0)))))
  | 3 => Nat.ble (e.2.2.1 + 1) 231 && (Nat.beq e.2.2.2.1 (am_np e.2.2.1 + 1) && (am_wn (am_pp e 0) (.methodLinkNest (am_cn oc) e.1 (am_y e.2.2.1) RX10) && (am_wd (am_pp e 1) (.instanceMethod (am_y e.2.2.1)) && (am_wd (am_pp e 3) (.initialized (am_y e.2.2.1).cls) && (am_ini e.2.2.1 && Nat.beq (am_rtc e.2.2.1) 0)))))
  | 4 => am_wd (am_pp e 0) (.methodLink (am_cn oc) e.1 objectInit) && (am_wd (am_pp e 1) (.instanceMethod objectInit) && am_wd (am_pp e 2) (.code objectInit ⟨#[0xb1]⟩ 1 none))
  | 5 => am_wd (am_pp e 0) (.methodLink (am_cn oc) e.1 Lib.Math.max.name) && (am_wd (am_pp e 1) (.static Lib.Math.max.name) && (am_wd (am_pp e 2) (.initialized "java/lang/Math") && am_wd (am_pp e 3) (.code Lib.Math.max.name Lib.Math.max.code 2 (some .int))))
  | 6 => am_wd (am_pp e 0) (.methodLink (am_cn oc) e.1 Lib.Math.min.name) && (am_wd (am_pp e 1) (.static Lib.Math.min.name) && (am_wd (am_pp e 2) (.initialized "java/lang/Math") && am_wd (am_pp e 3) (.code Lib.Math.min.name Lib.Math.min.code 2 (some .int))))
  | 7 => am_wd (am_pp e 0) (.methodLink (am_cn oc) e.1 Lib.Math.abs.name) && (am_wd (am_pp e 1) (.static Lib.Math.abs.name) && (am_wd (am_pp e 2) (.initialized "java/lang/Math") && am_wd (am_pp e 3) (.code Lib.Math.abs.name Lib.Math.abs.code 1 (some .int))))
  | 8 => am_wd (am_pp e 0) (.methodLink (am_cn oc) e.1 ⟨"java/lang/Float", "intBitsToFloat", "(I)F"⟩) && (am_wd (am_pp e 1) (.static ⟨"java/lang/Float", "intBitsToFloat", "(I)F"⟩) && (am_wd (am_pp e 2) (.initialized "java/lang/Float") && am_wd (am_pp e 3) (.native ⟨"java/lang/Float", "intBitsToFloat", "(I)F"⟩)))
  | _ => false
theorem am_CT_ok0 : (List.range' 0 6).all (fun oc => (am_CT oc).all (am_ck0 oc)) = true := by decide +kernel
theorem am_CT_ok1 : (List.range' 6 4).all (fun oc => (am_CT oc).all (am_ck0 oc)) = true := by decide +kernel
theorem am_CT_ok2 : (List.range' 10 1).all (fun oc => (am_CT oc).all (am_ck0 oc)) = true := by decide +kernel
theorem am_CT_ok3 : (List.range' 11 1).all (fun oc => (am_CT oc).all (am_ck0 oc)) = true := by decide +kernel
theorem am_CT_ok4 : (List.range' 12 4).all (fun oc => (am_CT oc).all (am_ck0 oc)) = true := by decide +kernel
theorem am_CT_ok (oc : Nat) (h : oc < 16) : (am_CT oc).all (am_ck0 oc) = true := by
  by_cases h0 : oc < 6
  · exact List.all_eq_true.mp am_CT_ok0 oc (List.mem_range'_1.mpr ⟨by omega, by omega⟩)
  by_cases h1 : oc < 10
  · exact List.all_eq_true.mp am_CT_ok1 oc (List.mem_range'_1.mpr ⟨by omega, by omega⟩)
  by_cases h2 : oc < 11
  · exact List.all_eq_true.mp am_CT_ok2 oc (List.mem_range'_1.mpr ⟨by omega, by omega⟩)
  by_cases h3 : oc < 12
  · exact List.all_eq_true.mp am_CT_ok3 oc (List.mem_range'_1.mpr ⟨by omega, by omega⟩)
  by_cases h4 : oc < 16
  · exact List.all_eq_true.mp am_CT_ok4 oc (List.mem_range'_1.mpr ⟨by omega, by omega⟩)
  omega
theorem am_CT_e {oc idx : Nat} {q : Nat × Nat × Nat × Nat × List Nat} (ho : oc < 16) (h : am_lk (am_CT oc) idx = some q) : am_ck0 oc (idx, q) = true := List.all_eq_true.mp (am_CT_ok oc ho) _ (am_lk_mem h)
def am_ckK (oc : Nat) (e : Nat × Value × Nat) : Bool := match e.2.1 with
  | .int v => am_wd e.2.2 (.constant (am_cn oc) e.1 v)
  | .long v => am_wd e.2.2 (.constantLong (am_cn oc) e.1 v)
  | .float v => am_wd e.2.2 (.constantFloat (am_cn oc) e.1 v)
  | _ => false
theorem am_KT_ok : (List.range 16).all (fun oc => (am_KT oc).all (am_ckK oc)) = true := by decide +kernel
theorem am_KT_e {oc idx : Nat} {q : Value × Nat} (ho : oc < 16) (h : am_lk (am_KT oc) idx = some q) : am_ckK oc (idx, q) = true := List.all_eq_true.mp (List.all_eq_true.mp am_KT_ok oc (List.mem_range.mpr ho)) _ (am_lk_mem h)
def am_ckN (oc : Nat) (e : Nat × Nat × Nat × Nat × Nat × Nat) : Bool := Nat.ble (e.2.1 + 1) 12 && (Nat.beq e.2.2.1 (am_nf e.2.1) && (am_wd e.2.2.2.1 (.classLink (am_cn oc) e.1 (am_vw e.2.1).1) && (am_wd e.2.2.2.2.1 (.instantiable (am_vw e.2.1).1 (am_nf e.2.1)) && am_wd e.2.2.2.2.2 (.initialized (am_vw e.2.1).1))))
theorem am_NT_ok : (List.range 16).all (fun oc => (am_NT oc).all (am_ckN oc)) = true := by decide +kernel
theorem am_NT_e {oc idx : Nat} {q : Nat × Nat × Nat × Nat × Nat} (ho : oc < 16) (h : am_lk (am_NT oc) idx = some q) : am_ckN oc (idx, q) = true := List.all_eq_true.mp (List.all_eq_true.mp am_NT_ok oc (List.mem_range.mpr ho)) _ (am_lk_mem h)
def am_ckA (oc : Nat) (e : Nat × Nat × Nat) : Bool := match e.2.1 with
  | 23 => am_wd e.2.2 (.classLink (am_cn oc) e.1 RX1)
  | 24 => am_wd e.2.2 (.classLink (am_cn oc) e.1 RX6)
  | _ => false
theorem am_AT_ok : (List.range 16).all (fun oc => (am_AT oc).all (am_ckA oc)) = true := by decide +kernel
theorem am_AT_e {oc idx : Nat} {q : Nat × Nat} (ho : oc < 16) (h : am_lk (am_AT oc) idx = some q) : am_ckA oc (idx, q) = true := List.all_eq_true.mp (List.all_eq_true.mp am_AT_ok oc (List.mem_range.mpr ho)) _ (am_lk_mem h)
def am_ckS (oc : Nat) (e : Nat × Nat × Nat) : Bool := match e.2.1 with
  | 0 => am_wd e.2.2 (.fieldLink (am_cn oc) e.1 "SmokeWatch" "LOOK_DOWN" "[I")
  | 1 => am_wd e.2.2 (.fieldLink (am_cn oc) e.1 "SmokeWatch" "LOOK_RIGHT" "[I")
  | _ => false
theorem am_ST_ok : (List.range 16).all (fun oc => (am_ST oc).all (am_ckS oc)) = true := by decide +kernel
theorem am_ST_e {oc idx : Nat} {q : Nat × Nat} (ho : oc < 16) (h : am_lk (am_ST oc) idx = some q) : am_ckS oc (idx, q) = true := List.all_eq_true.mp (List.all_eq_true.mp am_ST_ok oc (List.mem_range.mpr ho)) _ (am_lk_mem h)
