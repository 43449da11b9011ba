/-! ===== the class: the wood laid out ===== -/
/-- all that a new row takes away -/
def Tk (m1 : am_M) : Prop := m1.1 9 9 = 0 ∧ m1.1 9 7 = 0 ∧ m1.1 9 8 = -2 ∧ (∀ t, t < 8 → m1.1 12 t = 0) ∧ m1.1 34 3 = 0 ∧ (∀ i, i < 60 → am_gR YL m1 35 i = none) ∧ (∀ i, i < 60 → m1.1 36 i = -1) ∧ (∀ i, i < 60 → m1.1 37 i = -1) ∧ m1.1 38 8 = 0 ∧ m1.1 91 6 = 0 ∧ (∀ f, f < 20 → m1.1 93 f = -1) ∧ m1.1 97 5 = 0 ∧ m1.1 87 6 = -1
theorem S_crow (m : am_M) (Q : Option Value → am_M → Prop) (r n h mi : Int) (hbr : -2147483648 ≤ r ∧ r ≤ 2147483647) (hbn : -2147483648 ≤ n ∧ n ≤ 2147483647) (hbh : -2147483648 ≤ h ∧ h ≤ 2147483647) (hbmi : -2147483648 ≤ mi ∧ mi ≤ 2147483647) (h0 : rok r n h mi = false → Q (some (.int 0)) m)
    (h1 : rok r n h mi = true → ∀ m1, Ar [5, 6, 8, 9, 12, 34, 35, 36, 37, 38, 87, 91, 93, 97] m m1 → Tk m1 → m1.1 97 4 = m.1 97 4 → (∀ q, q < 256 → m1.1 5 q = if q / 16 = r.toNat ∧ q % 16 < n.toNat then iI h else m.1 5 q) → (∀ q, q < 256 → m1.1 6 q = if q / 16 = r.toNat ∧ q % 16 < n.toNat then iI mi else m.1 6 q) → (∀ q, q < 256 → wb (m1.2.1 8) q = if q / 16 = r.toNat then decide (q % 16 < n.toNat) else wb (m.2.1 8) q) → Q (some (.int 1)) m1) :
    am_WP YL 114 0 0 0 [some (.ref 3), some (.int (iI r)), some (.int (iI n)), some (.int (iI h)), some (.int (iI mi))] [] m Q := by
  have e1 : iI r < (0 : Int32) ↔ r < 0 := iI_lt (b := 0) (by omega) (by omega) (by omega) (by omega)
  have e2 : (16 : Int32) ≤ iI r ↔ 16 ≤ r := iI_le (a := 16) (by omega) (by omega) (by omega) (by omega)
  have e3 : iI n < (0 : Int32) ↔ n < 0 := iI_lt (b := 0) (by omega) (by omega) (by omega) (by omega)
  have e4 : iI n ≤ (16 : Int32) ↔ n ≤ 16 := iI_le (b := 16) (by omega) (by omega) (by omega) (by omega)
  have e5 : iI n ≤ (0 : Int32) ↔ n ≤ 0 := iI_le (b := 0) (by omega) (by omega) (by omega) (by omega)
  have k : rok r n h mi = true ↔ (0 ≤ r ∧ r ≤ 15 ∧ 0 ≤ n ∧ n ≤ 16 ∧ (n ≤ 0 ∨ told h mi = true)) := by
    unfold rok told inR
    simp only [Bool.and_eq_true, Bool.or_eq_true, decide_eq_true_eq]
    omega
  have no : ¬ (0 ≤ r ∧ r ≤ 15 ∧ 0 ≤ n ∧ n ≤ 16 ∧ (n ≤ 0 ∨ told h mi = true)) → Q (some (.int 0)) m := fun z => h0 (by
    cases c : rok r n h mi
    · rfl
    · exact absurd (k.mp c) z)
  have go : (0 ≤ r ∧ r ≤ 15 ∧ 0 ≤ n ∧ n ≤ 16 ∧ (n ≤ 0 ∨ told h mi = true)) → am_WP YL 102 0 0 0 [some (.ref 4), some (.int (iI r)), some (.int (iI n)), some (.int (iI h)), some (.int (iI mi)), none, none] [] m (fun r1 m1 => am_WP YL 114 0 0 49 [some (.ref 3), none, none, none, none] (am_pu r1 []) m1 Q) := by
    intro z
    obtain ⟨rn, hr⟩ : ∃ x : Nat, r = (x : Int) := ⟨r.toNat, by omega⟩
    obtain ⟨nn, hn⟩ : ∃ x : Nat, n = (x : Int) := ⟨n.toNat, by omega⟩
    have ok := k.mpr z
    subst hr hn
    refine S_layRow m _ rn nn (by omega) (by omega) _ _ (fun m1 f1 a1 a2 a3 => B_X10_row_49 m1 Q ?_)
    refine S_tTake m1 _ (fun m2 f2 b1 b2 b3 b4 => B_X10_row_56 m2 Q (S_bTake m2 _ (fun m3 f3 c1 c2 c3 c4 => B_X10_row_63 m3 Q (B_X2_takeAway_0 m3 _ (B_X10_row_70 _ Q (S_cTake _ _ (fun m4 f4 d1 d2 => B_X10_row_77 m4 Q (B_X4_takeAway_0 m4 _ (B_X10_row_84 _ Q (B_X8_forget_0 _ _ (B_X10_row_91 _ Q ?_)))))))))))
    have g3 : Ar [5, 6, 8, 9, 12, 34, 35, 36, 37, 38, 87, 91, 93, 97] m m3 := ((Ar.ag f1 (by decide)).tr (Ar.ag f2 (by decide))).tr (f3.sub (by decide))
    have g4 : Ar [5, 6, 8, 9, 12, 34, 35, 36, 37, 38, 87, 91, 93, 97] m m4 := (g3.pI (by decide) 8 0).tr (Ar.ag f4 (by decide))
    have i4 : ∀ a, a ∉ [91, 93] → a ≠ 38 → m4.1 a = m3.1 a := fun a h1 h2 => by rw [f4.I h1, am_pI_ne h2]
    have i5 : ∀ a, a ≠ 97 → a ≠ 87 → (am_pI (am_pI m4 97 5 0) 87 6 (-1)).1 a = m4.1 a := fun a h1 h2 => by rw [am_pI_ne h2, am_pI_ne h1]
    have e48 : m4.1 38 8 = 0 := by rw [f4.I (by decide), am_pI_at, if_pos rfl]
    have j4 : m4.2.1 8 = m1.2.1 8 := by rw [f4.J (by decide)]; show m3.2.1 8 = _; rw [f3.J (by decide), f2.J (by decide)]
    have r4 : ∀ i, am_gR YL (am_pI (am_pI m4 97 5 0) 87 6 (-1)) 35 i = am_gR YL m3 35 i := fun i => by
      have : am_gR YL m4 35 i = am_gR YL (am_pI m3 38 8 0) 35 i := f4.R 35 i
      exact this
    refine h1 ok _ ((g4.pI (by decide) _ _).pI (by decide) _ _) ⟨?_, ?_, ?_, ?_, ?_, ?_, ?_, ?_, ?_, ?_, ?_, ?_, ?_⟩ ?_ ?_ ?_ ?_
    · rw [i5 9 (by decide) (by decide), i4 9 (by decide) (by decide), f3.I (by decide)]; exact b1
    · rw [i5 9 (by decide) (by decide), i4 9 (by decide) (by decide), f3.I (by decide)]; exact b2
    · rw [i5 9 (by decide) (by decide), i4 9 (by decide) (by decide), f3.I (by decide)]; exact b3
    · rw [i5 12 (by decide) (by decide), i4 12 (by decide) (by decide), f3.I (by decide)]; exact b4
    · rw [i5 34 (by decide) (by decide), i4 34 (by decide) (by decide)]; exact c1
    · intro i hi
      rw [r4]
      exact c2 i hi
    · rw [i5 36 (by decide) (by decide), i4 36 (by decide) (by decide)]; exact c3
    · rw [i5 37 (by decide) (by decide), i4 37 (by decide) (by decide)]; exact c4
    · rw [i5 38 (by decide) (by decide)]; exact e48
    · rw [i5 91 (by decide) (by decide)]; exact d1
    · rw [i5 93 (by decide) (by decide)]; exact d2
    · rw [am_pI_ne (by decide), am_pI_at, if_pos rfl]
    · rw [am_pI_at, if_pos rfl]
    · rw [am_pI_ne (by decide), am_pI_at, if_neg (by decide), i4 97 (by decide) (by decide), f3.I (by decide), f2.I (by decide), f1.I (by decide)]
    · intro q hq
      rw [i5 5 (by decide) (by decide), i4 5 (by decide) (by decide), f3.I (by decide), f2.I (by decide), Int.toNat_natCast, Int.toNat_natCast]
      exact a1 q hq
    · intro q hq
      rw [i5 6 (by decide) (by decide), i4 6 (by decide) (by decide), f3.I (by decide), f2.I (by decide), Int.toNat_natCast, Int.toNat_natCast]
      exact a2 q hq
    · intro q hq
      show wb (m4.2.1 8) q = _
      rw [j4, Int.toNat_natCast, Int.toNat_natCast]
      exact a3 q hq
  refine B_X10_row_0 m Q _ _ _ _ ?_
  rw [e1, e2, e3, e4, e5]
  refine ⟨fun z => no (by omega), fun z => ⟨fun y => no (by omega), fun y => ⟨fun x => no (by omega), fun x => ⟨fun w => ⟨fun v => go ⟨by omega, by omega, by omega, w, Or.inl v⟩, fun v => ?_⟩, fun w => no (by omega)⟩⟩⟩⟩
  refine S_isTold m _ h mi hbh hbmi (B_X10_row_32 m Q _ _ _ _ _ (bz' (fun u => no (fun s => ?_)) (fun u => go ⟨by omega, by omega, by omega, w, Or.inr u⟩)))
  rcases s.2.2.2.2 with s | s
  · exact v s
  · rw [u] at s
    cases s
def cqok (m : am_M) (r c h mi : Int) : Bool := cth m r c && (told h mi && (decide ((m.1 34 3).toInt ≤ 0) && (decide ((m.1 38 8).toInt ≤ 0) && decide ((m.1 91 6).toInt ≤ 0))))
theorem pos_i (x : Int32) : (0 < x ↔ 0 < x.toInt) ∧ (x ≤ 0 ↔ x.toInt ≤ 0) := ⟨Int32.lt_iff_toInt_lt, Int32.le_iff_toInt_le⟩
theorem S_csquare (m : am_M) (Q : Option Value → am_M → Prop) (r c h mi : Int) (hbr : -2147483648 ≤ r ∧ r ≤ 2147483647) (hbc : -2147483648 ≤ c ∧ c ≤ 2147483647) (hbh : -2147483648 ≤ h ∧ h ≤ 2147483647) (hbmi : -2147483648 ≤ mi ∧ mi ≤ 2147483647) (h0 : cqok m r c h mi = false → Q (some (.int 0)) m)
    (h1 : cqok m r c h mi = true → ∀ m1, Ag [5, 6, 9, 12, 87] m m1 → (∀ q, m1.1 5 q = if q = (16 * r + c).toNat then iI h else m.1 5 q) → (∀ q, m1.1 6 q = if q = (16 * r + c).toNat then iI mi else m.1 6 q) → (∀ j, j ≠ 7 → j ≠ 8 → m1.1 9 j = m.1 9 j) → m1.1 9 7 = 0 → m1.1 9 8 = -2 → (∀ t, t < 8 → m1.1 12 t = 0) → m1.1 87 6 = -1 → Q (some (.int 1)) m1) :
    am_WP YL 115 0 0 0 [some (.ref 3), some (.int (iI r)), some (.int (iI c)), some (.int (iI h)), some (.int (iI mi)), none] [] m Q := by
  have no : (cth m r c = true → told h mi = true → (m.1 34 3).toInt ≤ 0 → (m.1 38 8).toInt ≤ 0 → (m.1 91 6).toInt ≤ 0 → False) → Q (some (.int 0)) m := fun z => h0 (by
    cases e : cqok m r c h mi
    · rfl
    · unfold cqok at e
      simp only [Bool.and_eq_true, decide_eq_true_eq] at e
      exact absurd (z e.1 e.2.1 e.2.2.1 e.2.2.2.1 e.2.2.2.2) id)
  refine B_X10_square_0 m Q _ _ _ _ (S_numberOf m _ r c (by omega) (by omega) (by omega) (by omega) (B_X10_square_9 m Q _ _ _ ?_))
  cases z : cth m r c with
  | false => exact ⟨fun _ => no (fun w => by rw [z] at w; cases w), fun w => absurd rfl w⟩
  | true =>
    obtain ⟨b1, b2, b3, b4⟩ := num_of.2 z
    rw [z] at b1
    rw [b1]
    refine ⟨fun w => absurd w b3, fun _ => S_isTold m _ h mi hbh hbmi (B_X10_square_23 m Q _ _ _ _ (bz' (fun y => no (fun _ w => by rw [y] at w; cases w)) (fun y => B_X5_used_0 m _ (B_X10_square_35 m Q _ _ _ _ ?_))))⟩
    rw [(pos_i _).1]
    refine ⟨fun x => no (fun _ _ w => by omega), fun x => B_X2_ever_0 m _ (B_X10_square_45 m Q _ _ _ _ ?_)⟩
    rw [(pos_i _).1]
    refine ⟨fun w => no (fun _ _ _ v => by omega), fun w => B_X0_number_0 m _ (B_X10_square_55 m Q _ _ _ _ ?_)⟩
    rw [(pos_i _).2]
    refine ⟨fun v => S_shape m _ _ b2 _ _ (B_X10_square_72 _ Q (S_forget _ _ (fun m1 f1 a1 a2 a3 a4 => B_X10_square_79 m1 Q (B_X8_forget_0 m1 _ (B_X10_square_86 _ Q ?_))))), fun v => no (fun _ _ _ _ u => v u)⟩
    have ok : cqok m r c h mi = true := by
      unfold cqok
      rw [z, y, decide_eq_true (show (m.1 34 3).toInt ≤ 0 by omega), decide_eq_true (show (m.1 38 8).toInt ≤ 0 by omega), decide_eq_true v]
      rfl
    have g1 : Ag [5, 6, 9, 12, 87] m m1 := (((Ag.rf _ m).pI (a := 5) (by decide) _ _).pI (a := 6) (by decide) _ _).tr (f1.sub (by decide))
    refine h1 ok _ (g1.pI (by decide) _ _) (fun q => ?_) (fun q => ?_) (fun j j1 j2 => ?_) ?_ ?_ ?_ ?_
    · rw [am_pI_ne (by decide), f1.I (by decide), am_pI_ne (by decide), am_pI_at]
    · rw [am_pI_ne (by decide), f1.I (by decide), am_pI_at, am_pI_ne (by decide)]
    · rw [am_pI_ne (by decide), a1 j j1 j2, am_pI_ne (by decide), am_pI_ne (by decide)]
    · rw [am_pI_ne (by decide)]; exact a2
    · rw [am_pI_ne (by decide)]; exact a3
    · rw [am_pI_ne (by decide)]; exact a4
    · rw [am_pI_at, if_pos rfl]
def ctok (m : am_M) (r c h : Int) (n : Nat) : Bool := cth m r c && (inR h 0 100 && (!decide (n = 8) && decide ((m.1 34 3).toInt ≤ 0)))
theorem S_ctower (m : am_M) (Q : Option Value → am_M → Prop) (n : Nat) (hn : n ≤ 8) (h9 : m.1 9 9 = iI (n : Int)) (r c h : Int) (hbr : -2147483648 ≤ r ∧ r ≤ 2147483647) (hbc : -2147483648 ≤ c ∧ c ≤ 2147483647) (hbh : -2147483648 ≤ h ∧ h ≤ 2147483647) (h0 : ctok m r c h n = false → Q (some (.int (-1))) m)
    (h1 : ctok m r c h n = true → ∀ m1, Ag [9, 10, 11, 12] m m1 → m1.1 9 9 = iI ((n + 1 : Nat) : Int) → m1.1 9 7 = 0 → m1.1 9 8 = -2 → (∀ t, m1.1 10 t = if t = n then iI (16 * r + c) else m.1 10 t) → (∀ t, m1.1 11 t = if t = n then iI h else m.1 11 t) → (∀ t, m1.1 12 t = if t = n then 0 else m.1 12 t) → Q (some (.int (iI (n : Int)))) m1) :
    am_WP YL 116 0 0 0 [some (.ref 3), some (.int (iI r)), some (.int (iI c)), some (.int (iI h)), none] [] m Q := by
  have no : (cth m r c = true → 0 ≤ h → h ≤ 100 → n ≠ 8 → (m.1 34 3).toInt ≤ 0 → False) → Q (some (.int (-1))) m := fun z => h0 (by
    cases e : ctok m r c h n
    · rfl
    · unfold ctok inR at e
      simp only [Bool.and_eq_true, decide_eq_true_eq, Bool.not_eq_true', decide_eq_false_iff_not] at e
      exact absurd (z e.1 e.2.1.1 e.2.1.2 e.2.2.1 e.2.2.2) id)
  have e1 : iI h < (0 : Int32) ↔ h < 0 := iI_lt (b := 0) (by omega) (by omega) (by omega) (by omega)
  have e2 : (100 : Int32) < iI h ↔ 100 < h := iI_lt (a := 100) (by omega) (by omega) (by omega) (by omega)
  refine B_X10_tower_0 m Q _ _ _ (S_numberOf m _ r c (by omega) (by omega) (by omega) (by omega) (B_X10_tower_9 m Q _ _ ?_))
  rw [e1, e2]
  cases z : cth m r c with
  | false => exact ⟨fun _ => no (fun w => by rw [z] at w; cases w), fun w => absurd rfl w⟩
  | true =>
    obtain ⟨b1, b2, b3, b4⟩ := num_of.2 z
    rw [z] at b1
    rw [b1]
    refine ⟨fun w => absurd w b3, fun _ => ⟨fun y => no (fun _ w => by omega), fun y => ⟨fun x => no (fun _ _ w => by omega), fun x => B_X5_used_0 m _ (B_X10_tower_34 m Q _ _ _ ?_)⟩⟩⟩
    rw [(pos_i _).2]
    refine ⟨fun w => ?_, fun w => no (fun _ _ _ _ u => w u)⟩
    by_cases e8 : n = 8
    · exact S_buildNo m _ (by rw [h9, e8]; rfl) _ _ (B_X10_tower_49 m Q _ (no (fun _ _ _ u => absurd e8 u)))
    · have ok : ctok m r c h n = true := by
        unfold ctok inR
        rw [z, decide_eq_true (show 0 ≤ h ∧ h ≤ 100 by omega), decide_eq_false e8, decide_eq_true w]
        rfl
      have cb := cth_b z
      rw [show (((16 * r + c).toNat : Nat) : Int) = 16 * r + c by omega]
      exact S_build m _ n (by omega) h9 _ _ (fun m1 f1 a1 a2 a3 a4 a5 a6 => B_X10_tower_49 m1 Q _ (h1 ok m1 f1 a1 a2 a3 a4 a5 a6))
