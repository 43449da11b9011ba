/-! ===== whole arrays written, and sets of squares ===== -/
theorem iI_ofNat (n : Nat) : Int32.ofNat n = iI (n : Int) := iI_nI n
def am_wI (m : am_M) (a : Nat) (f : Nat → Int32) : am_M := (fun x => if x = a then f else m.1 x, m.2)
def am_wJ (m : am_M) (a : Nat) (f : Nat → Int64) : am_M := (m.1, fun x => if x = a then f else m.2.1 x, m.2.2)
theorem am_wI_at (m : am_M) (a : Nat) (f : Nat → Int32) : (am_wI m a f).1 a = f := if_pos rfl
theorem am_wJ_at (m : am_M) (a : Nat) (f : Nat → Int64) : (am_wJ m a f).2.1 a = f := if_pos rfl
theorem am_wI_ne {m : am_M} {a b : Nat} {f : Nat → Int32} (h : b ≠ a) : (am_wI m a f).1 b = m.1 b := if_neg h
theorem am_wJ_ne {m : am_M} {a b : Nat} {f : Nat → Int64} (h : b ≠ a) : (am_wJ m a f).2.1 b = m.2.1 b := if_neg h
theorem am_pI_w (m : am_M) (a j : Nat) (v : Int32) : am_pI m a j v = am_wI m a (fun y => if y = j then v else m.1 a y) := by
  unfold am_pI am_wI am_u
  congr 1
  funext x y
  by_cases hx : x = a
  · subst hx
    by_cases hy : y = j
    · rw [if_pos ⟨rfl, hy⟩, if_pos rfl, if_pos hy]
    · rw [if_neg (fun q => hy q.2), if_pos rfl, if_neg hy]
  · rw [if_neg (fun q => hx q.1), if_neg hx]
theorem am_pJ_w (m : am_M) (a j : Nat) (v : Int64) : am_pJ m a j v = am_wJ m a (fun y => if y = j then v else m.2.1 a y) := by
  unfold am_pJ am_wJ am_u
  congr 2
  funext x y
  by_cases hx : x = a
  · subst hx
    by_cases hy : y = j
    · rw [if_pos ⟨rfl, hy⟩, if_pos rfl, if_pos hy]
    · rw [if_neg (fun q => hy q.2), if_pos rfl, if_neg hy]
  · rw [if_neg (fun q => hx q.1), if_neg hx]
theorem am_wI_w (m : am_M) (a : Nat) (f g : Nat → Int32) : am_wI (am_wI m a f) a g = am_wI m a g := by
  unfold am_wI
  congr 1
  funext x
  by_cases hx : x = a
  · rw [if_pos hx, if_pos hx]
  · rw [if_neg hx, if_neg hx]
    exact if_neg hx
theorem am_wJ_w (m : am_M) (a : Nat) (f g : Nat → Int64) : am_wJ (am_wJ m a f) a g = am_wJ m a g := by
  unfold am_wJ
  congr 2
  funext x
  by_cases hx : x = a
  · rw [if_pos hx, if_pos hx]
  · rw [if_neg hx, if_neg hx]
    exact if_neg hx
theorem am_wI_id (m : am_M) (a : Nat) : am_wI m a (m.1 a) = m := by
  unfold am_wI
  have : (fun x => if x = a then m.1 a else m.1 x) = m.1 := by
    funext x
    by_cases hx : x = a
    · rw [if_pos hx, hx]
    · rw [if_neg hx]
  rw [this]
theorem am_wJ_id (m : am_M) (a : Nat) : am_wJ m a (m.2.1 a) = m := by
  unfold am_wJ
  have : (fun x => if x = a then m.2.1 a else m.2.1 x) = m.2.1 := by
    funext x
    by_cases hx : x = a
    · rw [if_pos hx, hx]
    · rw [if_neg hx]
  rw [this]
/-- the first k of an array written -/
def am_fx {α : Type} (k : Nat) (g old : Nat → α) : Nat → α := fun j => if j < k then g j else old j
theorem am_fx_0 {α : Type} (g old : Nat → α) : am_fx 0 g old = old := by
  funext j
  exact if_neg (Nat.not_lt_zero j)
theorem am_fx_s {α : Type} (k : Nat) (g old : Nat → α) : (fun y => if y = k then g k else am_fx k g old y) = am_fx (k + 1) g old := by
  funext y
  unfold am_fx
  by_cases h : y = k
  · subst h
    rw [if_pos rfl, if_pos (Nat.lt_succ_self y)]
  · rw [if_neg h]
    by_cases h2 : y < k
    · rw [if_pos h2, if_pos (by omega)]
    · rw [if_neg h2, if_neg (by omega)]
theorem am_fx_lt {α : Type} {k : Nat} {g old : Nat → α} {j : Nat} (h : j < k) : am_fx k g old j = g j := if_pos h
theorem am_fx_ge {α : Type} {k : Nat} {g old : Nat → α} {j : Nat} (h : k ≤ j) : am_fx k g old j = old j := if_neg (by omega)
theorem am_wI_s (m : am_M) (a k : Nat) (g old : Nat → Int32) : am_pI (am_wI m a (am_fx k g old)) a k (g k) = am_wI m a (am_fx (k + 1) g old) := by
  rw [am_pI_w, am_wI_w, am_wI_at, am_fx_s]
theorem am_wJ_s (m : am_M) (a k : Nat) (g old : Nat → Int64) : am_pJ (am_wJ m a (am_fx k g old)) a k (g k) = am_wJ m a (am_fx (k + 1) g old) := by
  rw [am_pJ_w, am_wJ_w, am_wJ_at, am_fx_s]
theorem am_wI_0 (m : am_M) (a : Nat) (g : Nat → Int32) : am_wI m a (am_fx 0 g (m.1 a)) = m := by rw [am_fx_0, am_wI_id]
theorem am_wJ_0 (m : am_M) (a : Nat) (g : Nat → Int64) : am_wJ m a (am_fx 0 g (m.2.1 a)) = m := by rw [am_fx_0, am_wJ_id]
/-- Arrays.fill -/
theorem S_fillI (m : am_M) (Q : Option Value → am_M → Prop) (a n : Nat) (hk : am_k YL m a = (20, n)) (hb : Nat.ble 3 a = true) (hn : n < 100000) (v : Int32) (h : Q none (am_wI m a (am_fx n (fun _ => v) (m.1 a)))) : am_WP YL 230 0 0 0 [some (.ref a), some (.int v), none, none] [] m Q := by
  refine B_J7_fill_53178_0 m Q a n hk hb v ?_
  have := lp (N := n) (W := fun k m1 => am_WP YL 230 0 0 5 [some (.ref a), some (.int v), some (.int (iI (k : Int))), some (.int (Int32.ofNat n))] [] m1 Q) (fun k m1 => m1 = am_wI m a (am_fx k (fun _ => v) (m.1 a))) (am_wI_0 m a _).symm ?_ ?_
  · exact this
  · rintro k _ hkn rfl ih
    refine B_J7_fill_53178_5 _ Q a n (by exact hk) hb v _ _ ?_
    simp (disch := omega) only [iI_lit, iI_ofNat, iI_neg, iI_add, iI_sub, iI_mul, iI_lt, iI_le, iI_eq, iI_in, iI_cl]
    refine ⟨fun q => by omega, fun _ => ⟨by omega, ?_⟩⟩
    rw [Int.toNat_natCast]
    exact ih _ (am_wI_s m a k (fun _ => v) _)
  · rintro _ rfl
    refine B_J7_fill_53178_5 _ Q a n (by exact hk) hb v _ _ ?_
    simp (disch := omega) only [iI_lit, iI_ofNat, iI_neg, iI_add, iI_sub, iI_mul, iI_lt, iI_le, iI_eq, iI_in, iI_cl]
    exact ⟨fun _ => h, fun q => by omega⟩
theorem S_fillJ (m : am_M) (Q : Option Value → am_M → Prop) (a n : Nat) (hk : am_k YL m a = (21, n)) (hb : Nat.ble 3 a = true) (hn : n < 100000) (v : Int64) (h : Q none (am_wJ m a (am_fx n (fun _ => v) (m.2.1 a)))) : am_WP YL 229 0 0 0 [some (.ref a), some (.long v), none, none, none] [] m Q := by
  refine B_J7_fill_d0a16_0 m Q a n hk hb v ?_
  have := lp (N := n) (W := fun k m1 => am_WP YL 229 0 0 6 [some (.ref a), some (.long v), none, some (.int (iI (k : Int))), some (.int (Int32.ofNat n))] [] m1 Q) (fun k m1 => m1 = am_wJ m a (am_fx k (fun _ => v) (m.2.1 a))) (am_wJ_0 m a _).symm ?_ ?_
  · exact this
  · rintro k _ hkn rfl ih
    refine B_J7_fill_d0a16_6 _ Q a n (by exact hk) hb v _ _ ?_
    simp (disch := omega) only [iI_lit, iI_ofNat, iI_neg, iI_add, iI_sub, iI_mul, iI_lt, iI_le, iI_eq, iI_in, iI_cl]
    refine ⟨fun q => by omega, fun _ => ⟨by omega, ?_⟩⟩
    rw [Int.toNat_natCast]
    exact ih _ (am_wJ_s m a k (fun _ => v) _)
  · rintro _ rfl
    refine B_J7_fill_d0a16_6 _ Q a n (by exact hk) hb v _ _ ?_
    simp (disch := omega) only [iI_lit, iI_ofNat, iI_neg, iI_add, iI_sub, iI_mul, iI_lt, iI_le, iI_eq, iI_in, iI_cl]
    exact ⟨fun _ => h, fun q => by omega⟩
/-! the words of the set at a; its squares -/
abbrev sq_w (m : am_M) (a : Nat) : Nat → Int64 := m.2.1 (a + 1)
def sq_h (m : am_M) (a q : Nat) : Bool := zw_b (m.2.1 (a + 1) (q / 64)) (q % 64)
theorem sw_sq_w {m : am_M} {a : Nat} {b : Nat} {f : Nat → Int64} (h : sw_sq m a) : sw_sq (am_wJ m b f) a := h
theorem sw_sq_i {m : am_M} {a : Nat} {b : Nat} {f : Nat → Int32} (h : sw_sq m a) : sw_sq (am_wI m b f) a := h
theorem S_empty (m : am_M) (Q : Option Value → am_M → Prop) (a : Nat) (ha : sw_sq m a) (h : Q none (am_wJ m (a + 1) (am_fx 4 (fun _ => 0) (m.2.1 (a + 1))))) : am_WP YL 65 0 0 0 [some (.ref a)] [] m Q := by
  refine B_X6_empty_0 m Q a ha ?_
  refine S_fillJ m _ (a + 1) 4 ha.2.2.1 (sw_b1 ha.2.2.2) (by decide) 0 ?_
  exact B_X6_empty_8 _ Q h
theorem S_fill (m : am_M) (Q : Option Value → am_M → Prop) (a : Nat) (ha : sw_sq m a) (h : Q none (am_wJ m (a + 1) (am_fx 4 (fun _ => -1) (m.2.1 (a + 1))))) : am_WP YL 66 0 0 0 [some (.ref a)] [] m Q := by
  refine B_X6_fill_0 m Q a ha ?_
  refine S_fillJ m _ (a + 1) 4 ha.2.2.1 (sw_b1 ha.2.2.2) (by decide) (-1) ?_
  exact B_X6_fill_10 _ Q h
theorem S_keepOnly (m : am_M) (Q : Option Value → am_M → Prop) (a b : Nat) (ha : sw_sq m a) (hb : sw_sq m b) (hab : b ≠ a) (h : Q none (am_wJ m (a + 1) (am_fx 4 (fun j => m.2.1 (a + 1) j &&& m.2.1 (b + 1) j) (m.2.1 (a + 1))))) : am_WP YL 71 0 0 0 [some (.ref a), some (.ref b), none] [] m Q := by
  refine B_X6_keepOnly_0 m Q a ha b hb ?_
  have := lp (N := 4) (W := fun k m1 => am_WP YL 71 0 0 2 [some (.ref a), some (.ref b), some (.int (iI (k : Int)))] [] m1 Q) (fun k m1 => m1 = am_wJ m (a + 1) (am_fx k (fun j => m.2.1 (a + 1) j &&& m.2.1 (b + 1) j) (m.2.1 (a + 1)))) (am_wJ_0 m (a + 1) _).symm ?_ ?_
  · exact this
  · rintro k _ hkn rfl ih
    refine B_X6_keepOnly_2 _ Q a (by exact ha) b (by exact hb) _ ?_
    simp (disch := omega) only [iI_lit, iI_ofNat, iI_neg, iI_add, iI_sub, iI_mul, iI_lt, iI_le, iI_eq, iI_in, iI_cl]
    refine ⟨fun q => by omega, fun _ => ⟨by omega, by omega, by omega, ?_⟩⟩
    rw [Int.toNat_natCast, am_wJ_at, am_wJ_ne (show b + 1 ≠ a + 1 by omega), am_fx_ge (Nat.le_refl k)]
    exact ih _ (am_wJ_s m (a + 1) k (fun j => m.2.1 (a + 1) j &&& m.2.1 (b + 1) j) _)
  · rintro _ rfl
    refine B_X6_keepOnly_2 _ Q a (by exact ha) b (by exact hb) _ ?_
    simp (disch := omega) only [iI_lit, iI_ofNat, iI_neg, iI_add, iI_sub, iI_mul, iI_lt, iI_le, iI_eq, iI_in, iI_cl]
    exact ⟨fun _ => h, fun q => by omega⟩
theorem S_takeOut (m : am_M) (Q : Option Value → am_M → Prop) (a b : Nat) (ha : sw_sq m a) (hb : sw_sq m b) (hab : b ≠ a) (h : Q none (am_wJ m (a + 1) (am_fx 4 (fun j => m.2.1 (a + 1) j &&& (m.2.1 (b + 1) j ^^^ (-1))) (m.2.1 (a + 1))))) : am_WP YL 72 0 0 0 [some (.ref a), some (.ref b), none] [] m Q := by
  refine B_X6_takeOut_0 m Q a ha b hb ?_
  have := lp (N := 4) (W := fun k m1 => am_WP YL 72 0 0 2 [some (.ref a), some (.ref b), some (.int (iI (k : Int)))] [] m1 Q) (fun k m1 => m1 = am_wJ m (a + 1) (am_fx k (fun j => m.2.1 (a + 1) j &&& (m.2.1 (b + 1) j ^^^ (-1))) (m.2.1 (a + 1)))) (am_wJ_0 m (a + 1) _).symm ?_ ?_
  · exact this
  · rintro k _ hkn rfl ih
    refine B_X6_takeOut_2 _ Q a (by exact ha) b (by exact hb) _ ?_
    simp (disch := omega) only [iI_lit, iI_ofNat, iI_neg, iI_add, iI_sub, iI_mul, iI_lt, iI_le, iI_eq, iI_in, iI_cl]
    refine ⟨fun q => by omega, fun _ => ⟨by omega, by omega, by omega, ?_⟩⟩
    rw [Int.toNat_natCast, am_wJ_at, am_wJ_ne (show b + 1 ≠ a + 1 by omega), am_fx_ge (Nat.le_refl k)]
    exact ih _ (am_wJ_s m (a + 1) k (fun j => m.2.1 (a + 1) j &&& (m.2.1 (b + 1) j ^^^ (-1))) _)
  · rintro _ rfl
    refine B_X6_takeOut_2 _ Q a (by exact ha) b (by exact hb) _ ?_
    simp (disch := omega) only [iI_lit, iI_ofNat, iI_neg, iI_add, iI_sub, iI_mul, iI_lt, iI_le, iI_eq, iI_in, iI_cl]
    exact ⟨fun _ => h, fun q => by omega⟩
theorem S_copyFrom (m : am_M) (Q : Option Value → am_M → Prop) (a b : Nat) (ha : sw_sq m a) (hb : sw_sq m b) (hab : b ≠ a) (h : Q none (am_wJ m (a + 1) (am_fx 4 (m.2.1 (b + 1)) (m.2.1 (a + 1))))) : am_WP YL 67 0 0 0 [some (.ref a), some (.ref b)] [] m Q := by
  refine B_X6_copyFrom_0 m Q a ha b hb (S_fill m _ a ha ?_)
  refine B_X6_copyFrom_4 _ Q a (by exact ha) b (by exact hb) (S_keepOnly _ _ a b (by exact ha) (by exact hb) hab ?_)
  refine B_X6_copyFrom_9 _ Q ?_
  rw [am_wJ_w, am_wJ_at, am_wJ_ne (show b + 1 ≠ a + 1 by omega)]
  have e : (am_fx 4 (fun j => am_fx 4 (fun _ => (-1 : Int64)) (m.2.1 (a + 1)) j &&& m.2.1 (b + 1) j) (am_fx 4 (fun _ => -1) (m.2.1 (a + 1)))) = am_fx 4 (m.2.1 (b + 1)) (m.2.1 (a + 1)) := by
    funext j
    by_cases hj : j < 4
    · rw [am_fx_lt hj, am_fx_lt hj, am_fx_lt hj, Int64.neg_one_and]
    · rw [am_fx_ge (by omega), am_fx_ge (by omega), am_fx_ge (by omega)]
  rw [e]
  exact h
