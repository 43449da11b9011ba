/-! ===== office: class and reference apart ===== -/
theorem cst_fr {A : List Nat} {m m1 : am_M} (h : Ar A m m1) (hK : ∀ a, a ∈ [35, 36, 38, 39, 41] → a ∉ A) (f : Int) : cst m1 f = cst m f := by
  unfold cst cfo
  rw [h.I (hK 38 (by decide)), h.I (hK 39 (by decide)), h.I (hK 41 (by decide))]
theorem cfp_fr {A : List Nat} {m m1 : am_M} (h : Ar A m m1) (hA : ∀ a, a ∈ A → a < 133) (hK : ∀ a, a ∈ [35, 36, 38, 39, 41] → a ∉ A) (hB : BK m) (i : Int) {f : Nat} (hP : 48 + 2 * f ∉ A) : cfp m1 i f = cfp m i f := by
  have e36 := h.I (hK 36 (by decide))
  have ec : cent m1 i = cent m i := by
    unfold cent
    rw [h.R (hK 35 (by decide))]
  have ei : cfi m1 i = cfi m i := by
    unfold cfi
    rw [e36]
  unfold cfp
  rw [ec, ei]
  cases hc : cent m i with
  | none => rfl
  | some e =>
    have hin : 0 ≤ i ∧ i < 60 := by
      by_cases c : 0 ≤ i ∧ i < 60
      · exact c
      · unfold cent at hc
        rw [if_neg c] at hc
        cases hc
    have he : am_gR YL m 35 i.toNat = some e := by
      unfold cent at hc
      rw [if_pos hin] at hc
      exact hc
    have b := hB i.toNat (by omega) e he
    have b1 := b.2.1
    have en : e ∉ A := fun z => by have := hA e z; omega
    dsimp only
    rw [h.R en]
    cases hx : am_gR YL m e 4 with
    | none => rfl
    | some s =>
      have sb := b.2.2.2 s hx
      dsimp only
      have cb : ∀ k, k ≤ 60 → cbt m1 e f k = cbt m e f k := by
        intro k
        induction k with
        | zero => exact fun _ => rfl
        | succ k ih =>
          intro hk
          show (cbt m1 e f k || (cck m1 e k && decide (jf m1 k = f))) = (cbt m e f k || (cck m e k && decide (jf m k = f)))
          rw [ih (by omega)]
          have e1 : jf m1 k = jf m k := by unfold jf; rw [e36]
          have e2 : cck m1 e k = cck m e k := by
            unfold cck
            rw [e36, h.R (hK 35 (by decide))]
            cases hr : am_gR YL m 35 k with
            | none => rfl
            | some o =>
              have b2 := (hB k (by omega) o hr).2.1
              dsimp only
              unfold ecl
              rw [h.I en, h.I (a := o) (fun z => by have := hA o z; omega)]
          rw [e1, e2]
      unfold cfit
      rw [cb 60 (Nat.le_refl _), cst_fr h hK, h.J hP, h.J (a := s + 1) (fun z => by have := hA _ z; omega)]
def MRL : List Nat := [109, 110, 111, 112, 113, 114, 115, 116, 117, 118, 119, 120, 121, 122, 123, 124, 125, 126, 127, 128, 129, 130, 131, 132]
theorem MRL_in {a : Nat} (h1 : 109 ≤ a) (h2 : a < 133) : a ∈ MRL := by
  have : ∀ k, k < 24 → 109 + k ∈ MRL := by decide
  have e : a = 109 + (a - 109) := by omega
  rw [e]
  exact this _ (by omega)
theorem MRL_b : ∀ a, a ∈ MRL → 109 ≤ a ∧ a < 133 := by decide
/-- the class's side of x, the reference's of y -/
def mg (x y : am_M) : am_M := (fun a => if 109 ≤ a ∧ a < 133 then y.1 a else x.1 a, fun a => if 109 ≤ a ∧ a < 133 then y.2.1 a else x.2.1 a, x.2.2)
theorem mg_i (x y : am_M) {a : Nat} (h : 109 ≤ a ∧ a < 133) : (mg x y).1 a = y.1 a ∧ (mg x y).2.1 a = y.2.1 a := ⟨if_pos h, if_pos h⟩
theorem mg_o (x y : am_M) {a : Nat} (h : ¬ (109 ≤ a ∧ a < 133)) : (mg x y).1 a = x.1 a ∧ (mg x y).2.1 a = x.2.1 a := ⟨if_neg h, if_neg h⟩
theorem mg_ar (x y : am_M) : Ar MRL x (mg x y) := ⟨fun a ha => ⟨(mg_o x y (fun z => ha (MRL_in z.1 z.2))).1, (mg_o x y (fun z => ha (MRL_in z.1 z.2))).2, rfl⟩, rfl⟩
theorem mg_ra (x y : am_M) : Ar MRL (mg x y) x := ⟨fun a ha => ⟨(mg_o x y (fun z => ha (MRL_in z.1 z.2))).1.symm, (mg_o x y (fun z => ha (MRL_in z.1 z.2))).2.symm, rfl⟩, rfl⟩
theorem mg_R (x y : am_M) (a j : Nat) : am_gR YL (mg x y) a j = am_gR YL x a j := rfl
theorem mg_pI (x y : am_M) {a : Nat} (ha : a < 109) (j : Nat) (v : Int32) : am_pI (mg x y) a j v = mg (am_pI x a j v) y := by
  unfold am_pI mg am_u
  refine Prod.ext (funext fun b => funext fun k => ?_) rfl
  dsimp only
  by_cases c : 109 ≤ b ∧ b < 133
  · rw [if_pos c, if_pos c, if_neg (fun z => by omega)]
  · rw [if_neg c, if_neg c]
theorem mg_id (m : am_M) : mg m m = m := by
  unfold mg
  refine Prod.ext (funext fun a => ?_) (Prod.ext (funext fun a => ?_) rfl)
  · dsimp only
    by_cases c : 109 ≤ a ∧ a < 133
    · rw [if_pos c]
    · rw [if_neg c]
  · dsimp only
    by_cases c : 109 ≤ a ∧ a < 133
    · rw [if_pos c]
    · rw [if_neg c]
theorem mg_Ag {A : List Nat} {x x' : am_M} (y : am_M) (h : Ag A x x') : Ag A (mg x y) (mg x' y) := by
  refine ⟨fun a ha => ?_, h.2⟩
  by_cases c : 109 ≤ a ∧ a < 133
  · rw [(mg_i x' y c).1, (mg_i x y c).1, (mg_i x' y c).2, (mg_i x y c).2]
    exact ⟨rfl, rfl⟩
  · rw [(mg_o x' y c).1, (mg_o x y c).1, (mg_o x' y c).2, (mg_o x y c).2]
    exact h.1 a ha
theorem mg_Ar {A : List Nat} {x x' : am_M} (y : am_M) (h : Ar A x x') : Ar A (mg x y) (mg x' y) := by
  refine ⟨fun a ha => ?_, h.2⟩
  by_cases c : 109 ≤ a ∧ a < 133
  · rw [(mg_i x' y c).1, (mg_i x y c).1, (mg_i x' y c).2, (mg_i x y c).2]
    exact ⟨rfl, rfl, (h.1 a ha).2.2⟩
  · rw [(mg_o x' y c).1, (mg_o x y c).1, (mg_o x' y c).2, (mg_o x y c).2]
    exact h.1 a ha
theorem mg_Rn {x x' : am_M} (y : am_M) {f : Nat} (hf : f < 20) (hB : BK x) (h : Rn x x' f) : Rn (mg x y) (mg x' y) f := by
  have p := pat_e (m := x) (m2 := mg x y) (F := iI (f : Int)) (fun k _ => by rw [(mg_o x y (a := 36) (by omega)).1])
  refine ⟨mg_Ag y h.1, fun j => ?_, fun q hq => ?_⟩
  · rw [(mg_o x' y (a := 41) (by omega)).1, (mg_o x y (a := 41) (by omega)).1, p.1]
    exact h.2.1 j
  · rw [(mg_o x' y (a := 48 + 2 * f) (by omega)).2, h.2.2 q hq]
    exact (p.2 q (fun k hk _ => has_fr (mg_ar x y) (fun a ha => (MRL_b a ha).2) (by decide) hB k q)).symm
theorem mg_Kept {x x' : am_M} (y : am_M) {tp sz : Nat} {a w o : Int32} {e : Option Nat} (h : Kept x x' tp sz a w o e) : Kept (mg x y) (mg x' y) tp sz a w o e := by
  obtain ⟨h1, h2, h3, h4, h5, h6, h7⟩ := h
  refine ⟨mg_Ar y h1, ?_, ?_, fun j => ?_, fun j => ?_, fun j => ?_, h7⟩
  · rw [(mg_o x' y (a := 97) (by omega)).1]; exact h2
  · rw [(mg_o x' y (a := 97) (by omega)).1]; exact h3
  · rw [(mg_o x' y (a := 98) (by omega)).1, (mg_o x y (a := 98) (by omega)).1]; exact h4 j
  · rw [(mg_o x' y (a := 99) (by omega)).1, (mg_o x y (a := 99) (by omega)).1]; exact h5 j
  · rw [(mg_o x' y (a := 100) (by omega)).1, (mg_o x y (a := 100) (by omega)).1]; exact h6 j
theorem mg_Fm {A F : List Nat} {y y' : am_M} (x : am_M) (h : Fm A F y y') : Fm A F (mg x y) (mg x y') := by
  refine ⟨fun a h1 h2 => ?_, fun a h1 => ?_, fun j h1 => ?_, rfl⟩
  · by_cases c : 109 ≤ a ∧ a < 133
    · rw [(mg_i x y' c).1, (mg_i x y c).1]
      exact h.1 a h1 h2
    · rw [(mg_o x y' c).1, (mg_o x y c).1]
  · by_cases c : 109 ≤ a ∧ a < 133
    · rw [(mg_i x y' c).2, (mg_i x y c).2]
      exact h.2.1 a h1
    · rw [(mg_o x y' c).2, (mg_o x y c).2]
  · rw [(mg_i x y' (a := 109) (by omega)).1, (mg_i x y (a := 109) (by omega)).1]
    exact h.2.2.1 j h1
theorem mg_Acted {y y' : am_M} (x : am_M) {lt kp : Nat} (h : Acted y y' lt kp) : Acted (mg x y) (mg x y') lt kp := by
  unfold Acted at h ⊢
  rw [(mg_i x y' (a := 109) (by omega)).1, (mg_i x y' (a := 117) (by omega)).1, (mg_i x y (a := 115) (by omega)).1, (mg_i x y (a := 117) (by omega)).1, (mg_i x y' (a := 118) (by omega)).2, (mg_i x y (a := 116) (by omega)).2, (mg_i x y (a := 118) (by omega)).2]
  exact h
/-- the reference's join, written out -/
def rj (y : am_M) (i f lt sz : Nat) : am_M := am_wI (am_wI (am_wJ (am_pI (am_pI y 109 14 (iI (((lt + 1) % 50 : Nat) : Int))) 109 13 (iI ((if sz + 1 < 50 then sz + 1 else 50 : Nat) : Int))) 118 (fun k => if 240 * ((lt + 1) % 50) ≤ k ∧ k < 240 * ((lt + 1) % 50) + 240 then y.2.1 116 (k - 240 * ((lt + 1) % 50)) else y.2.1 118 k)) 117 (fun k => if 350 * ((lt + 1) % 50) ≤ k ∧ k < 350 * ((lt + 1) % 50) + 350 then y.1 115 (k - 350 * ((lt + 1) % 50)) else y.1 117 k)) 115 (fun k => if k = 180 + i then iI (f : Int) else y.1 115 k)
theorem rj_fm (y : am_M) (i f lt sz : Nat) : Fm [115, 117, 118] [13, 14] y (rj y i f lt sz) := by
  unfold rj
  refine ⟨fun a h1 h2 => ?_, fun a h1 => ?_, fun j h1 => ?_, rfl⟩
  · rw [am_wI_ne (fun e => h1 (by rw [e]; decide)), am_wI_ne (fun e => h1 (by rw [e]; decide)), am_wJ_I, am_pI_ne h2, am_pI_ne h2]
  · show (am_wJ _ 118 _).2.1 a = _
    rw [am_wJ_ne (fun e => h1 (by rw [e]; decide))]
    rfl
  · rw [am_wI_ne (by decide), am_wI_ne (by decide), am_wJ_I, am_pI_at, if_neg (fun e => h1 (by rw [e]; decide)), am_pI_at, if_neg (fun e => h1 (by rw [e]; decide))]
theorem rj_115 (y : am_M) (i f lt sz k : Nat) : (rj y i f lt sz).1 115 k = if k = 180 + i then iI (f : Int) else y.1 115 k := by
  unfold rj
  rw [am_wI_at]
theorem rj_116 (y : am_M) (i f lt sz : Nat) : (rj y i f lt sz).2.1 116 = y.2.1 116 := (rj_fm y i f lt sz).2.1 116 (by decide)
theorem rj_ac (y : am_M) (i f lt sz : Nat) : Acted y (rj y i f lt sz) lt sz := by
  have e117 : ∀ k, (rj y i f lt sz).1 117 k = if 350 * ((lt + 1) % 50) ≤ k ∧ k < 350 * ((lt + 1) % 50) + 350 then y.1 115 (k - 350 * ((lt + 1) % 50)) else y.1 117 k := fun k => by
    unfold rj
    rw [am_wI_ne (by decide), am_wI_at]
  have e118 : ∀ k, (rj y i f lt sz).2.1 118 k = if 240 * ((lt + 1) % 50) ≤ k ∧ k < 240 * ((lt + 1) % 50) + 240 then y.2.1 116 (k - 240 * ((lt + 1) % 50)) else y.2.1 118 k := fun k => by
    unfold rj
    show (am_wJ _ 118 _).2.1 118 k = _
    rw [am_wJ_at]
  refine ⟨?_, ?_, fun k hk => ?_, fun j hj ne k hk => ?_, fun k hk => ?_, fun j hj ne k hk => ?_⟩
  · unfold rj
    rw [am_wI_ne (by decide), am_wI_ne (by decide), am_wJ_I, am_pI_at, if_neg (by decide), am_pI_at, if_pos rfl]
  · unfold rj
    rw [am_wI_ne (by decide), am_wI_ne (by decide), am_wJ_I, am_pI_at, if_pos rfl]
  · rw [e117, if_pos (by omega), Nat.add_sub_cancel_left]
  · rw [e117, if_neg]
    omega
  · rw [e118, if_pos (by omega), Nat.add_sub_cancel_left]
  · rw [e118, if_neg]
    omega
/-- one join on both sides -/
theorem off_step {x x0 x' y : am_M} {n E C tp sz lt : Nat} (i1 : Wd (mg x y)) (i2 : LK (mg x y)) (i3 : Tw (mg x y) n) (i4 : RN (mg x y) E C) (i5 : WC (mg x y)) (i6 : ∀ f, f < 20 → (mg x y).1 93 f = (mg x y).1 126 f) (i7 : ∀ i, i < 60 → (mg x y).1 37 i = (mg x y).1 132 i) (i8 : 130 ≤ am_n (mg x y)) (i9 : Hist (mg x y) tp sz lt (core (mg x y) E C))
    {i f : Nat} (hi : i < 60) (hf : f < E) (ft : mfits y (i : Int) (f : Int) = true) (rr : Rn (am_pI x 36 i (iI (f : Int))) x0 f) (k1 : Kept x0 x' tp sz 2 (iI (i : Int)) (iI (f : Int)) none) : Inv (mg x' (rj y i f lt sz)) := by
  have hE := i4.1.ever.1
  have f20 : f < 20 := by omega
  have hB : BK x := i4.bk.fr (mg_ra x y) (fun a ha => (MRL_b a ha).2) (by decide)
  have hB2 : BK (am_pI x 36 i (iI (f : Int))) := hB.fr ((Ar.rf [36] x).pI (by decide) _ _) (by decide) (by decide)
  have r2 : Rn (am_pI (mg x y) 36 i (iI (f : Int))) (mg x0 y) f := by
    rw [mg_pI x y (by decide)]
    exact mg_Rn y f20 hB2 rr
  refine join_inv i1 i2 i3 i4 i5 i6 i7 i8 i9 hi hf ?_ r2 (mg_Kept y k1) (mg_Fm x' ((rj_fm y i f lt sz).sub (by decide) (by decide))) (mg_Acted x' (rj_ac y i f lt sz)) (fun k => ?_) ?_ ?_
  · rw [mfits_fe (m := y) (m1 := mg x y) (mg_i x y (a := 115) (by omega)).1 (mg_i x y (a := 116) (by omega)).2]
    exact ft
  · rw [(mg_i x' _ (a := 115) (by omega)).1, (mg_i x y (a := 115) (by omega)).1]
    exact rj_115 y i f lt sz k
  · rw [(mg_i x' _ (a := 116) (by omega)).2, (mg_i x y (a := 116) (by omega)).2]
    exact rj_116 y i f lt sz
  · rw [(mg_i x' _ (a := 109) (by omega)).1, (mg_i x y (a := 109) (by omega)).1]
    exact (rj_fm y i f lt sz).2.2.1 5 (by decide)
