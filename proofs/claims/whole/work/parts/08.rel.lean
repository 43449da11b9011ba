/-! ===== what the abstract machine stands for ===== -/
abbrev am_E : Type := Nat × (Nat → Nat) × (Nat → ClassId) × (Nat → Nat → Nat) × (Nat → ClassId)
def am_ad (E : am_E) (a : Nat) : Nat := if a < 3 then E.2.1 a else E.1 + (a - 3)
def am_cv (E : am_E) (v : Value) : Value := match v with
  | .ref a => .ref (am_ad E a)
  | v => v
def am_A (E : am_E) : Nat → Prop := fun q => E.1 ≤ q
abbrev am_D (E : am_E) : va_G := (E.2.2.1, E.2.2.2.1)
def am_fv (E : am_E) (Y : am_Y) (m : am_M) (ci a k : Nat) : Value := cond (am_isr ci k) (va_rf ((am_gR Y m a k).map (am_ad E))) (.int (m.1 a k))
def am_fs (E : am_E) (Y : am_Y) (m : am_M) (ci a : Nat) : List Value := (List.range (am_nf ci)).map (am_fv E Y m ci a)
def am_ar (E : am_E) (Y : am_Y) (m : am_M) (c a : Nat) : (Nat → Int32) ⊕ (Nat → Int64) ⊕ (Nat → UInt32) ⊕ (Nat → UInt64) ⊕ (Nat → Option Nat) :=
  if c = 21 then .inr (.inl (m.2.1 a)) else if c = 20 ∨ c = 22 then .inl (m.1 a) else .inr (.inr (.inr (.inr (fun j => (am_gR Y m a j).map (am_ad E)))))
def am_ce (E : am_E) (Y : am_Y) (m : am_M) (a : Nat) : va_E :=
  if (am_k Y m a).1 < 12 then .inr ((am_k Y m a).1, am_fs E Y m (am_k Y m a).1 a)
  else .inl (E.2.2.2.2 (am_k Y m a).1, (am_k Y m a).2, am_ar E Y m (am_k Y m a).1 a)
def am_tys (E : am_E) : List (ClassId × FieldType) := [(E.2.2.2.2 20, .int), (E.2.2.2.2 21, .long), (E.2.2.2.2 22, .boolean), (E.2.2.2.2 23, .object RX1), (E.2.2.2.2 24, .object RX6)]
def am_Wd (mi : Nat) : List Cond := Cond.code (am_y mi) (am_bytes mi) (am_ml mi) (am_ret mi) :: am_TB
/-- the table of instructions is what the class files hold (proved in the parts decode and dec) -/
def am_DEC : Prop := ∀ (mi pc l : Nat) (i : Instr), am_code mi pc = some (i, l) → decode (am_bytes mi) pc = .ok (i, l)
/-- what the tables say, of any state of the run -/
def am_G (E : am_E) (U : State) : Prop := am_DEC ∧ va_K (am_D E) vwCl (am_tys E) U ∧ (∀ w ∈ am_NW, va_Nw w U) ∧ va_AO RX1 U ∧ va_AO RX6 U
/-- the arrays that were there before: two constants and the script -/
def am_SA (E : am_E) (Y : am_Y) (m : am_M) (U : State) (H : Heap) : Prop :=
  (∀ a, a < 3 → ∃ (cell : Cell) (n : Nat), am_k Y m a = (20, n) ∧ H[E.2.1 a]? = some cell ∧ U.isArrayOf cell .int ∧ cell.vm ≠ .unknown ∧ n ≤ cell.slots.size ∧ cell.slots.size.toInt32 = Int32.ofNat n ∧ (∀ j, j < n → cell.slots[j]? = some (.int (m.1 a j))) ∧ E.2.1 a < E.1)
  ∧ va_Z "SmokeWatch" "LOOK_DOWN" "[I" (.ref (E.2.1 0)) (am_A E) U H ∧ va_Z "SmokeWatch" "LOOK_RIGHT" "[I" (.ref (E.2.1 1)) (am_A E) U H
def am_Rel (E : am_E) (Y : am_Y) (m : am_M) (U : State) (H : Heap) : Prop :=
  H.size = E.1 + am_n m ∧ (∀ a, 3 ≤ a → a < am_n m + 3 → va_at (am_D E) vwCl (am_ad E a, am_ce E Y m a) H) ∧ am_SA E Y m U H ∧ ∀ a, am_n m + 3 ≤ a → (am_k Y m a).1 = 99
def am_C (E : am_E) (mi : Nat) (p : Program) (R : Room) (s : State) (mth : MethodId) (args : Array Value) (meth : Method) (c : Code) : Prop :=
  p.tables.exec = Jvm.exec ∧ c.code = am_bytes mi ∧ c.maxLocals = am_ml mi ∧ s.vm.findClass (am_cn (am_cls mi)) = some mth.cls ∧ (∀ w ∈ am_TB, w.before args s = true) ∧ (am_ini mi = true → meth.name = "<init>") ∧ am_rk mi ≤ R.frames ∧ am_lo mi ≤ R.locals ∧ am_G E s ∧ E.1 ≤ s.heap.size
def am_lr (E : am_E) (ls : Array Slot) (nL : Nat) (L : am_L) : Prop := ls.size = nL ∧ lv_wf ls ∧ ∀ i v, am_ge L i = some v → ls[i]? = some (.val (am_cv E v))
def am_Z (E : am_E) (Y : am_Y) (mi : Nat) (p : Program) (l : Launch) (e : Env) (R : Room) (s : State) (mth : MethodId) (args : Array Value) (below : List Frame) (meth : Method) (c : Code) (Z : State → Prop) (Q : Option Value → am_M → Prop) : Prop :=
  ∀ (d0 : Drawn) (H : Heap) (locs : List Loc) (cells slots : Nat) (r : Option Value) (m : am_M) (i : Instr) (pc : Nat) (ls : Array Slot), s.drawn.sameBut d0 lw_cs → am_Rel E Y m s H → va_S (am_A E) s.heap H locs → cells ≤ R.cells → slots ≤ R.slots → decode (am_bytes mi) pc = .ok (i, 1) → am_rt mi i r → Q r m →
    W p l e R (s.setDrawn d0) mth args below meth c H locs cells slots Z (F0 mth pc ls (r.toList.map (am_cv E)))
/-- THE MEANING: from this frame over this memory the method comes to its end with Q, making at most mc cells of ms slots -/
def am_WP (Y : am_Y) (mi mc ms pc : Nat) (L : am_L) (S : List Value) (m : am_M) (Q : Option Value → am_M → Prop) : Prop :=
  ∀ (E : am_E) (p : Program) (l : Launch) (e : Env) (R : Room) (s : State) (mth : MethodId) (args : Array Value) (below : List Frame) (meth : Method) (c : Code) (Z : State → Prop) (d0 : Drawn) (H : Heap) (locs : List Loc) (cells slots : Nat) (ls : Array Slot),
    am_C E mi p R s mth args meth c → am_Z E Y mi p l e R s mth args below meth c Z Q → s.drawn.sameBut d0 lw_cs → am_Rel E Y m s H → va_S (am_A E) s.heap H locs → am_lr E ls (am_ml mi) L → cells + mc ≤ R.cells → slots + ms ≤ R.slots →
    W p l e R (s.setDrawn d0) mth args below meth c H locs cells slots Z (F0 mth pc ls (S.map (am_cv E)))
/-! taking the combinators apart -/
theorem am_g_e {b : Bool} {P : Prop} (h : am_g b P) : b = true ∧ P := by
  cases b
  · exact h.elim
  · exact ⟨rfl, h⟩
theorem am_v1_e {S : List Value} {f : Value → List Value → Prop} (h : am_v1 S f) : ∃ v r, S = v :: r ∧ f v r := by
  cases S with
  | nil => exact h.elim
  | cons v r => exact ⟨v, r, rfl, h⟩
theorem am_i1_e {S : List Value} {f : Int32 → List Value → Prop} (h : am_i1 S f) : ∃ x r, S = .int x :: r ∧ f x r := by
  cases S with
  | nil => exact h.elim
  | cons v r => cases v <;> first | exact h.elim | exact ⟨_, r, rfl, h⟩
theorem am_l1_e {S : List Value} {f : Int64 → List Value → Prop} (h : am_l1 S f) : ∃ x r, S = .long x :: r ∧ f x r := by
  cases S with
  | nil => exact h.elim
  | cons v r => cases v <;> first | exact h.elim | exact ⟨_, r, rfl, h⟩
theorem am_f1_e {S : List Value} {f : UInt32 → List Value → Prop} (h : am_f1 S f) : ∃ x r, S = .float x :: r ∧ f x r := by
  cases S with
  | nil => exact h.elim
  | cons v r => cases v <;> first | exact h.elim | exact ⟨_, r, rfl, h⟩
theorem am_r1_e {S : List Value} {f : Nat → List Value → Prop} (h : am_r1 S f) : ∃ x r, S = .ref x :: r ∧ f x r := by
  cases S with
  | nil => exact h.elim
  | cons v r => cases v <;> first | exact h.elim | exact ⟨_, r, rfl, h⟩
theorem am_i2_e {S : List Value} {f : Int32 → Int32 → List Value → Prop} (h : am_i2 S f) : ∃ x y r, S = .int y :: .int x :: r ∧ f x y r := by
  rcases S with _ | ⟨v, _ | ⟨w, r⟩⟩
  · exact h.elim
  · cases v <;> exact h.elim
  · cases v <;> first | exact h.elim | (cases w <;> first | exact h.elim | exact ⟨_, _, r, rfl, h⟩)
theorem am_l2_e {S : List Value} {f : Int64 → Int64 → List Value → Prop} (h : am_l2 S f) : ∃ x y r, S = .long y :: .long x :: r ∧ f x y r := by
  rcases S with _ | ⟨v, _ | ⟨w, r⟩⟩
  · exact h.elim
  · cases v <;> exact h.elim
  · cases v <;> first | exact h.elim | (cases w <;> first | exact h.elim | exact ⟨_, _, r, rfl, h⟩)
theorem am_li_e {S : List Value} {f : Int64 → Int32 → List Value → Prop} (h : am_li S f) : ∃ x y r, S = .int y :: .long x :: r ∧ f x y r := by
  rcases S with _ | ⟨v, _ | ⟨w, r⟩⟩
  · exact h.elim
  · cases v <;> exact h.elim
  · cases v <;> first | exact h.elim | (cases w <;> first | exact h.elim | exact ⟨_, _, r, rfl, h⟩)
theorem am_f2_e {S : List Value} {f : UInt32 → UInt32 → List Value → Prop} (h : am_f2 S f) : ∃ x y r, S = .float y :: .float x :: r ∧ f x y r := by
  rcases S with _ | ⟨v, _ | ⟨w, r⟩⟩
  · exact h.elim
  · cases v <;> exact h.elim
  · cases v <;> first | exact h.elim | (cases w <;> first | exact h.elim | exact ⟨_, _, r, rfl, h⟩)
theorem am_o1_e {S : List Value} {f : Option Nat → List Value → Prop} (h : am_o1 S f) : ∃ o r, S = va_rf o :: r ∧ f o r := by
  cases S with
  | nil => exact h.elim
  | cons v r => cases v <;> first | exact h.elim | exact ⟨some _, r, rfl, h⟩ | exact ⟨none, r, rfl, h⟩
theorem am_oV_e {v : Option Value} {f : Option Nat → Prop} (h : am_oV v f) : ∃ o, v = some (va_rf o) ∧ f o := by
  cases v with
  | none => exact h.elim
  | some v => cases v <;> first | exact h.elim | exact ⟨some _, rfl, h⟩ | exact ⟨none, rfl, h⟩
theorem am_iV_e {v : Option Value} {f : Int32 → Prop} (h : am_iV v f) : ∃ o, v = some (.int o) ∧ f o := by
  cases v with
  | none => exact h.elim
  | some v => cases v <;> first | exact h.elim | exact ⟨_, rfl, h⟩
theorem am_lV_e {v : Option Value} {f : Int64 → Prop} (h : am_lV v f) : ∃ o, v = some (.long o) ∧ f o := by
  cases v with
  | none => exact h.elim
  | some v => cases v <;> first | exact h.elim | exact ⟨_, rfl, h⟩
theorem am_fV_e {v : Option Value} {f : UInt32 → Prop} (h : am_fV v f) : ∃ o, v = some (.float o) ∧ f o := by
  cases v with
  | none => exact h.elim
  | some v => cases v <;> first | exact h.elim | exact ⟨_, rfl, h⟩
theorem am_beq {a b : Nat} (h : Nat.beq a b = true) : a = b := Nat.eq_of_beq_eq_true h
theorem am_ble {a b : Nat} (h : Nat.ble a b = true) : a ≤ b := Nat.le_of_ble_eq_true h
theorem am_cat (E : am_E) (v : Value) : (am_cv E v).category = v.category := by cases v <;> rfl
theorem am_cats (E : am_E) (S : List Value) : ((S.map (am_cv E)).map fun v => v.category) = S.map fun v => v.category := by
  rw [List.map_map]
  exact List.map_congr_left (fun v _ => am_cat E v)
theorem am_cv_rf (E : am_E) (o : Option Nat) : am_cv E (va_rf o) = va_rf (o.map (am_ad E)) := by cases o <;> rfl
theorem am_tgt {pc : Nat} {off : Int} (h : am_tok pc off = true) : (pc : Int) + off = ((am_to pc off : Nat) : Int) := by
  cases off with
  | ofNat k => show (pc : Int) + (k : Int) = ((pc + k : Nat) : Int); omega
  | negSucc k =>
    have h1 : k + 1 ≤ pc := Nat.le_of_ble_eq_true h
    show (pc : Int) + Int.negSucc k = ((pc - (k + 1) : Nat) : Int)
    omega
/-! the locals -/
theorem am_ge_se : ∀ (L : am_L) (i j : Nat) (v : Option Value) (w : Value), am_ge (am_se L i v) j = some w → (j = i ∧ v = some w) ∨ (j ≠ i ∧ am_ge L j = some w)
  | [], i, j, v, w, h => by cases i <;> cases j <;> cases h
  | x :: r, 0, 0, v, w, h => Or.inl ⟨rfl, h⟩
  | x :: r, 0, j + 1, v, w, h => Or.inr ⟨by omega, h⟩
  | x :: r, i + 1, 0, v, w, h => Or.inr ⟨by omega, h⟩
  | x :: r, i + 1, j + 1, v, w, h => by
    rcases am_ge_se r i j v w h with ⟨e, h⟩ | ⟨e, h⟩
    · exact Or.inl ⟨by omega, h⟩
    · exact Or.inr ⟨by omega, h⟩
theorem am_ge_cl {L : am_L} {i j : Nat} {w : Value} (h : am_ge (am_cl L i) j = some w) : am_ge L j = some w ∧ ¬ (j + 1 = i ∧ w.category = 2) := by
  cases i with
  | zero => exact ⟨h, by omega⟩
  | succ i =>
    unfold am_cl at h
    dsimp only at h
    cases hg : am_ge L i with
    | none =>
      rw [hg] at h
      refine ⟨h, fun q => ?_⟩
      have e : j = i := by omega
      subst e
      rw [hg] at h
      cases h
    | some v =>
      rw [hg] at h
      dsimp only at h
      by_cases hc : v.category = 2
      · rw [hc] at h
        rcases am_ge_se L i j none w h with ⟨_, q⟩ | ⟨e, h⟩
        · cases q
        · exact ⟨h, by omega⟩
      · have hb : Nat.beq v.category 2 = false := by
          cases hb : Nat.beq v.category 2
          · rfl
          · exact absurd (am_beq hb) hc
        rw [hb] at h
        have h5 : am_ge L j = some w := h
        refine ⟨h5, fun q => ?_⟩
        have e : j = i := by omega
        subst e
        rw [hg] at h5
        cases h5
        exact hc q.2
def am_as (E : am_E) : Nat → am_L → List (Nat × Value)
  | _, [] => []
  | i, none :: r => am_as E (i + 1) r
  | i, some v :: r => (i, am_cv E v) :: am_as E (i + 1) r
theorem am_as_mem (E : am_E) : ∀ (L : am_L) (i j : Nat) (v : Value), am_ge L j = some v → (i + j, am_cv E v) ∈ am_as E i L
  | [], i, j, v, h => by cases j <;> cases h
  | none :: r, i, 0, v, h => by cases h
  | none :: r, i, j + 1, v, h => by
    have := am_as_mem E r (i + 1) j v h
    rw [show i + (j + 1) = i + 1 + j by omega]
    exact this
  | some w :: r, i, 0, v, h => by
    cases h
    exact List.mem_cons_self
  | some w :: r, i, j + 1, v, h => by
    have := am_as_mem E r (i + 1) j v h
    rw [show i + (j + 1) = i + 1 + j by omega]
    exact List.mem_cons_of_mem _ this
theorem am_as_of (E : am_E) : ∀ (L : am_L) (i : Nat) (q : Nat × Value), q ∈ am_as E i L → ∃ j v, q = (i + j, am_cv E v) ∧ am_ge L j = some v
  | [], i, q, h => by cases h
  | none :: r, i, q, h => by
    obtain ⟨j, v, e, h⟩ := am_as_of E r (i + 1) q h
    exact ⟨j + 1, v, by rw [e, show i + (j + 1) = i + 1 + j by omega], h⟩
  | some w :: r, i, q, h => by
    rcases List.mem_cons.mp h with e | h
    · exact ⟨0, w, e, rfl⟩
    · obtain ⟨j, v, e, h⟩ := am_as_of E r (i + 1) q h
      exact ⟨j + 1, v, by rw [e, show i + (j + 1) = i + 1 + j by omega], h⟩
theorem am_lr.has {E : am_E} {ls : Array Slot} {nL : Nat} {L : am_L} (h : am_lr E ls nL L) : lv_has ls nL (am_as E 0 L) := by
  refine ⟨h.1, h.2.1, fun q hq => ?_⟩
  obtain ⟨j, v, rfl, hg⟩ := am_as_of E L 0 q hq
  rw [Nat.zero_add]
  exact h.2.2 j v hg
theorem am_lr.s1 {E : am_E} {ls : Array Slot} {nL : Nat} {L : am_L} {i : Nat} {v : Value} (h : lv_has ls nL ((i, am_cv E v) :: (am_as E 0 L).filter (fun q => !(q.1 == i) && !(q.1 + 1 == i && q.2.category == 2)))) : am_lr E ls nL (am_s1 L i v) := by
  refine ⟨h.1, h.2.1, fun j w hg => ?_⟩
  rcases am_ge_se _ i j _ w hg with ⟨rfl, e⟩ | ⟨hne, hg⟩
  · cases e
    exact h.2.2 (j, am_cv E v) List.mem_cons_self
  · obtain ⟨hg, hc⟩ := am_ge_cl hg
    refine h.2.2 (j, am_cv E w) (List.mem_cons_of_mem _ (List.mem_filter.mpr ⟨?_, ?_⟩))
    · have := am_as_mem E L 0 j w hg
      rwa [Nat.zero_add] at this
    · simp only [Bool.and_eq_true, Bool.not_eq_true', beq_eq_false_iff_ne, ne_eq, Bool.and_eq_false_iff, am_cat]
      refine ⟨hne, ?_⟩
      by_cases a : j + 1 = i
      · exact Or.inr (fun b => hc ⟨a, b⟩)
      · exact Or.inl a
theorem am_lr.s2 {E : am_E} {ls : Array Slot} {nL : Nat} {L : am_L} {i : Nat} {v : Value} (h : lv_has ls nL ((i, am_cv E v) :: (am_as E 0 L).filter (fun q => !(q.1 == i) && (!(q.1 == i + 1) && !(q.1 + 1 == i && q.2.category == 2))))) : am_lr E ls nL (am_s2 L i v) := by
  refine ⟨h.1, h.2.1, fun j w hg => ?_⟩
  rcases am_ge_se _ (i + 1) j _ w hg with ⟨rfl, e⟩ | ⟨hne2, hg⟩
  · cases e
  rcases am_ge_se _ i j _ w hg with ⟨rfl, e⟩ | ⟨hne, hg⟩
  · cases e
    exact h.2.2 (j, am_cv E v) List.mem_cons_self
  · obtain ⟨hg, hc⟩ := am_ge_cl hg
    refine h.2.2 (j, am_cv E w) (List.mem_cons_of_mem _ (List.mem_filter.mpr ⟨?_, ?_⟩))
    · have := am_as_mem E L 0 j w hg
      rwa [Nat.zero_add] at this
    · simp only [Bool.and_eq_true, Bool.not_eq_true', beq_eq_false_iff_ne, ne_eq, Bool.and_eq_false_iff, am_cat]
      refine ⟨hne, hne2, ?_⟩
      by_cases a : j + 1 = i
      · exact Or.inr (fun b => hc ⟨a, b⟩)
      · exact Or.inl a
