/-! ===== the history of the class ===== -/
def Kept (m m1 : am_M) (tp sz : Nat) (a w o : Int32) (e : Option Nat) : Prop := Ar [97, 98, 99, 100, 101] m m1 ∧ m1.1 97 4 = iI (((tp + 1) % 50 : Nat) : Int) ∧ m1.1 97 5 = iI ((if sz + 1 < 50 then sz + 1 else 50 : Nat) : Int) ∧ (∀ j, m1.1 98 j = if j = tp then a else m.1 98 j) ∧ (∀ j, m1.1 99 j = if j = tp then w else m.1 99 j) ∧ (∀ j, m1.1 100 j = if j = tp then o else m.1 100 j) ∧ (∀ j, am_gR YL m1 101 j = if j = tp then e else am_gR YL m 101 j)
theorem gR101 (m : am_M) (j : Nat) : am_gR YL m 101 j = m.2.2.1 101 j := rfl
theorem keep_end (m : am_M) (Q : Option Value → am_M → Prop) (tp sz : Nat) (ht : tp < 50) (hs : sz ≤ 50) (a w o : Int32) (e : Option Nat) (m3 : am_M) (f3 : Ar [97, 98, 99, 100, 101] m m3) (h4 : m3.1 97 4 = iI (tp : Int)) (h5 : m3.1 97 5 = iI (sz : Int)) (g1 : ∀ j, m3.1 98 j = if j = tp then a else m.1 98 j) (g2 : ∀ j, m3.1 99 j = if j = tp then w else m.1 99 j) (g3 : ∀ j, m3.1 100 j = if j = tp then o else m.1 100 j) (g4 : ∀ j, am_gR YL m3 101 j = if j = tp then e else am_gR YL m 101 j) (h : ∀ m1, Kept m m1 tp sz a w o e → Q none m1) : am_WP YL 47 0 0 58 [some (.ref 97), none, none, none, none] [] m3 Q := by
  have fin : ∀ v : Int32, v = iI (((tp + 1) % 50 : Nat) : Int) → am_WP YL 47 0 0 81 [some (.ref 97), none, none, none, none] [] (am_pI m3 97 4 v) Q := by
    intro v hv
    refine D_X4_keep_81 _ Q (D_X4_keep_96 _ Q ?_)
    have e5 : (am_pI m3 97 4 v).1 97 5 = iI (sz : Int) := by rw [am_pI_at, if_neg (by decide), h5]
    rw [e5, iI_i1]
    have ei : (if (50 : Int32) < iI ((sz : Int) + 1) then (50 : Int32) else iI ((sz : Int) + 1)) = iI ((if sz + 1 < 50 then sz + 1 else 50 : Nat) : Int) := by
      rw [show (50 : Int32) = iI 50 from rfl]
      simp (disch := omega) only [iI_lt, iI_ite]
      congr 1
      split <;> split <;> omega
    rw [ei]
    refine h _ ⟨(f3.pI (by decide) _ _).pI (by decide) _ _, ?_, ?_, fun j => ?_, fun j => ?_, fun j => ?_, g4⟩
    · rw [am_pI_at, if_neg (by decide), am_pI_at, if_pos rfl]
      exact hv
    · rw [am_pI_at, if_pos rfl]
    · rw [am_pI_ne (by decide), am_pI_ne (by decide)]; exact g1 j
    · rw [am_pI_ne (by decide), am_pI_ne (by decide)]; exact g2 j
    · rw [am_pI_ne (by decide), am_pI_ne (by decide)]; exact g3 j
  refine D_X4_keep_58 m3 Q ?_
  rw [h4, show (49 : Int32) = iI 49 from rfl, iI_eq (by omega) (by omega) (by omega) (by omega), iI_i1]
  refine ⟨fun z => fin _ ?_, fun z => fin _ ?_⟩
  · congr 1
    omega
  · rw [show (tp + 1) % 50 = 0 by omega]
    rfl
theorem S_keepN (m : am_M) (Q : Option Value → am_M → Prop) (tp sz : Nat) (ht : tp < 50) (hs : sz ≤ 50) (h4 : m.1 97 4 = iI (tp : Int)) (h5 : m.1 97 5 = iI (sz : Int)) (a w o : Int32) (h : ∀ m1, Kept m m1 tp sz a w o none → Q none m1) : am_WP YL 47 0 0 0 [some (.ref 97), some (.int a), some (.int w), some (.int o), some .null] [] m Q := by
  have e : (iI (tp : Int)).toNatClampNeg = tp := by rw [iI_cl (by omega) (by omega), Int.toNat_natCast]
  have v : vp_in (iI (tp : Int)) 50 := (iI_in (by omega) (by omega)).mpr (by omega)
  refine D_X4_keep_0z m Q _ _ _ ?_
  rw [h4, e]
  refine ⟨fun z => absurd ((iI_lt (b := 0) (by omega) (by omega) (by omega) (by omega)).mp z) (by omega), fun _ => ⟨fun _ => ⟨v, D_X4_keep_27z _ Q _ _ ?_⟩, fun z => absurd ((iI_lt (b := 50) (by omega) (by omega) (by omega) (by omega)).mpr (by omega)) z⟩⟩
  rw [am_pI_ne (by decide), h4, e]
  refine ⟨v, D_X4_keep_37z _ Q _ ?_⟩
  rw [am_pI_ne (by decide), am_pI_ne (by decide), h4, e]
  refine ⟨v, D_X4_keep_47z _ Q ?_⟩
  rw [am_pI_ne (by decide), am_pI_ne (by decide), am_pI_ne (by decide), h4, e]
  refine ⟨v, keep_end m Q tp sz ht hs a w o none _ ((((Ar.rf _ m).pI (by decide) _ _).pI (by decide) _ _).pI (by decide) _ _ |>.pR (by decide) _ _) ?_ ?_ (fun j => ?_) (fun j => ?_) (fun j => ?_) (fun j => ?_) h⟩
  · show (am_pI (am_pI (am_pI m 98 tp a) 99 tp w) 100 tp o).1 97 4 = _
    rw [am_pI_ne (by decide), am_pI_ne (by decide), am_pI_ne (by decide), h4]
  · show (am_pI (am_pI (am_pI m 98 tp a) 99 tp w) 100 tp o).1 97 5 = _
    rw [am_pI_ne (by decide), am_pI_ne (by decide), am_pI_ne (by decide), h5]
  · show (am_pI (am_pI (am_pI m 98 tp a) 99 tp w) 100 tp o).1 98 j = _
    rw [am_pI_ne (by decide), am_pI_ne (by decide), am_pI_at]
  · show (am_pI (am_pI (am_pI m 98 tp a) 99 tp w) 100 tp o).1 99 j = _
    rw [am_pI_ne (by decide), am_pI_at, am_pI_ne (by decide)]
  · show (am_pI (am_pI (am_pI m 98 tp a) 99 tp w) 100 tp o).1 100 j = _
    rw [am_pI_at, am_pI_ne (by decide), am_pI_ne (by decide)]
  · rw [gR101, am_pR_at]
    rfl
theorem S_keepE (m : am_M) (Q : Option Value → am_M → Prop) (tp sz : Nat) (ht : tp < 50) (hs : sz ≤ 50) (h4 : m.1 97 4 = iI (tp : Int)) (h5 : m.1 97 5 = iI (sz : Int)) (a w o : Int32) (x : Nat) (hx : sw_en m x) (h : ∀ m1, Kept m m1 tp sz a w o (some x) → Q none m1) : am_WP YL 47 0 0 0 [some (.ref 97), some (.int a), some (.int w), some (.int o), some (.ref x)] [] m Q := by
  have e : (iI (tp : Int)).toNatClampNeg = tp := by rw [iI_cl (by omega) (by omega), Int.toNat_natCast]
  have v : vp_in (iI (tp : Int)) 50 := (iI_in (by omega) (by omega)).mpr (by omega)
  refine D_X4_keep_0 m Q _ _ _ x hx ?_
  rw [h4, e]
  refine ⟨fun z => absurd ((iI_lt (b := 0) (by omega) (by omega) (by omega) (by omega)).mp z) (by omega), fun _ => ⟨fun _ => ⟨v, D_X4_keep_27 _ Q _ _ x (by exact hx) ?_⟩, fun z => absurd ((iI_lt (b := 50) (by omega) (by omega) (by omega) (by omega)).mpr (by omega)) z⟩⟩
  rw [am_pI_ne (by decide), h4, e]
  refine ⟨v, D_X4_keep_37 _ Q _ x (by exact hx) ?_⟩
  rw [am_pI_ne (by decide), am_pI_ne (by decide), h4, e]
  refine ⟨v, D_X4_keep_47 _ Q x (by exact hx) ?_⟩
  rw [am_pI_ne (by decide), am_pI_ne (by decide), am_pI_ne (by decide), h4, e]
  refine ⟨v, keep_end m Q tp sz ht hs a w o (some x) _ ((((Ar.rf _ m).pI (by decide) _ _).pI (by decide) _ _).pI (by decide) _ _ |>.pR (by decide) _ _) ?_ ?_ (fun j => ?_) (fun j => ?_) (fun j => ?_) (fun j => ?_) h⟩
  · show (am_pI (am_pI (am_pI m 98 tp a) 99 tp w) 100 tp o).1 97 4 = _
    rw [am_pI_ne (by decide), am_pI_ne (by decide), am_pI_ne (by decide), h4]
  · show (am_pI (am_pI (am_pI m 98 tp a) 99 tp w) 100 tp o).1 97 5 = _
    rw [am_pI_ne (by decide), am_pI_ne (by decide), am_pI_ne (by decide), h5]
  · show (am_pI (am_pI (am_pI m 98 tp a) 99 tp w) 100 tp o).1 98 j = _
    rw [am_pI_ne (by decide), am_pI_ne (by decide), am_pI_at]
  · show (am_pI (am_pI (am_pI m 98 tp a) 99 tp w) 100 tp o).1 99 j = _
    rw [am_pI_ne (by decide), am_pI_at, am_pI_ne (by decide)]
  · show (am_pI (am_pI (am_pI m 98 tp a) 99 tp w) 100 tp o).1 100 j = _
    rw [am_pI_at, am_pI_ne (by decide), am_pI_ne (by decide)]
  · rw [gR101, am_pR_at]
    rfl
theorem S_takeLast (m : am_M) (Q : Option Value → am_M → Prop) (tp sz : Nat) (ht : tp < 50) (hs : sz < 50) (h4 : m.1 97 4 = iI (tp : Int)) (h5 : m.1 97 5 = iI ((sz + 1 : Nat) : Int)) (h : ∀ m1, Ag [97] m m1 → m1.1 97 4 = iI (((tp + 49) % 50 : Nat) : Int) → m1.1 97 5 = iI (sz : Int) → Q (some (.int 1)) m1) : am_WP YL 48 0 0 0 [some (.ref 97)] [] m Q := by
  refine B_X4_takeLast_0 m Q ?_
  rw [h5, am_pI_at, if_neg (by decide), h4, show (1 : Int32) = iI 1 from rfl, iI_sub, iI_sub, show ((sz + 1 : Nat) : Int) - 1 = (sz : Int) by omega]
  refine ⟨fun _ => ⟨fun z => ?_, fun z => ?_⟩, fun z => absurd ((iI_lt (a := 0) (by omega) (by omega) (by omega) (by omega)).mpr (by omega)) z⟩
  · have z0 : tp ≠ 0 := fun c => z (by rw [c]; rfl)
    refine h _ (((Ag.rf _ m).pI (by decide) _ _).pI (by decide) _ _) ?_ ?_
    · rw [am_pI_at, if_pos rfl]
      congr 1
      omega
    · rw [am_pI_at, if_neg (by decide), am_pI_at, if_pos rfl]
  · have z0 : tp = 0 := by
      have := (iI_eq (b := 0) (by omega) (by omega) (by omega) (by omega)).mp z
      omega
    refine h _ (((Ag.rf _ m).pI (by decide) _ _).pI (by decide) _ _) ?_ ?_
    · rw [am_pI_at, if_pos rfl, z0]
      rfl
    · rw [am_pI_at, if_neg (by decide), am_pI_at, if_pos rfl]
theorem S_takeLastNo (m : am_M) (Q : Option Value → am_M → Prop) (h5 : m.1 97 5 = 0) (h : Q (some (.int 0)) m) : am_WP YL 48 0 0 0 [some (.ref 97)] [] m Q := by
  refine B_X4_takeLast_0 m Q ?_
  rw [h5]
  exact ⟨fun z => absurd z (by decide), fun _ => h⟩
theorem S_hAct (m : am_M) (Q : Option Value → am_M → Prop) (tp : Nat) (ht : tp < 50) (h4 : m.1 97 4 = iI (tp : Int)) (h : Q (some (.int (m.1 98 tp))) m) : am_WP YL 49 0 0 0 [some (.ref 97)] [] m Q := by
  refine B_X4_act_0 m Q ?_
  rw [h4, iI_cl (by omega) (by omega), Int.toNat_natCast]
  exact ⟨fun z => absurd ((iI_lt (b := 0) (by omega) (by omega) (by omega) (by omega)).mp z) (by omega), fun _ => ⟨fun z => absurd ((iI_le (a := 50) (by omega) (by omega) (by omega) (by omega)).mp z) (by omega), fun _ => ⟨(iI_in (by omega) (by omega)).mpr (by omega), h⟩⟩⟩
theorem S_hWhich (m : am_M) (Q : Option Value → am_M → Prop) (tp : Nat) (ht : tp < 50) (h4 : m.1 97 4 = iI (tp : Int)) (h : Q (some (.int (m.1 99 tp))) m) : am_WP YL 50 0 0 0 [some (.ref 97)] [] m Q := by
  refine B_X4_which_0 m Q ?_
  rw [h4, iI_cl (by omega) (by omega), Int.toNat_natCast]
  exact ⟨fun z => absurd ((iI_lt (b := 0) (by omega) (by omega) (by omega) (by omega)).mp z) (by omega), fun _ => ⟨fun z => absurd ((iI_le (a := 50) (by omega) (by omega) (by omega) (by omega)).mp z) (by omega), fun _ => ⟨(iI_in (by omega) (by omega)).mpr (by omega), h⟩⟩⟩
theorem S_hOld (m : am_M) (Q : Option Value → am_M → Prop) (tp : Nat) (ht : tp < 50) (h4 : m.1 97 4 = iI (tp : Int)) (h : Q (some (.int (m.1 100 tp))) m) : am_WP YL 51 0 0 0 [some (.ref 97)] [] m Q := by
  refine B_X4_old_0 m Q ?_
  rw [h4, iI_cl (by omega) (by omega), Int.toNat_natCast]
  exact ⟨fun z => absurd ((iI_lt (b := 0) (by omega) (by omega) (by omega) (by omega)).mp z) (by omega), fun _ => ⟨fun z => absurd ((iI_le (a := 50) (by omega) (by omega) (by omega) (by omega)).mp z) (by omega), fun _ => ⟨(iI_in (by omega) (by omega)).mpr (by omega), h⟩⟩⟩
theorem S_hEntry (m : am_M) (Q : Option Value → am_M → Prop) (tp : Nat) (ht : tp < 50) (h4 : m.1 97 4 = iI (tp : Int)) (x : Nat) (hx : am_gR YL m 101 tp = some x) (he : sw_en m x) (h : Q (some (.ref x)) m) : am_WP YL 52 0 0 0 [some (.ref 97)] [] m Q := by
  refine B_X4_entry_0 m Q ?_
  rw [h4, iI_cl (by omega) (by omega), Int.toNat_natCast, hx]
  exact ⟨fun z => absurd ((iI_lt (b := 0) (by omega) (by omega) (by omega) (by omega)).mp z) (by omega), fun _ => ⟨fun z => absurd ((iI_le (a := 50) (by omega) (by omega) (by omega) (by omega)).mp z) (by omega), fun _ => ⟨(iI_in (by omega) (by omega)).mpr (by omega), B_X4_entry_25r m Q x he h⟩⟩⟩
