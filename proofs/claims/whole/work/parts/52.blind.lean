/-! ===== what no tower sees; the best place ===== -/
theorem cbl_fr {m m1 : am_M} (h8 : m1.2.1 8 = m.2.1 8) (h5 : m1.1 5 = m.1 5) (h10 : m1.1 10 = m.1 10) (h11 : m1.1 11 = m.1 11) (q : Nat) : ∀ n, cbl m1 n q = cbl m n q
  | 0 => by
    show wb (m1.2.1 8) q = wb (m.2.1 8) q
    rw [h8]
  | n + 1 => by
    show (cbl m1 n q && !tsee m1 n q) = (cbl m n q && !tsee m n q)
    rw [cbl_fr h8 h5 h10 h11 q n, tsee_fr h8 h5 h10 h11]
theorem Ft.bl {m m1 : am_M} (h : Ft m m1) (n q : Nat) : cbl m1 n q = cbl m n q := cbl_fr (h.1.J (by decide)) (h.1.I (by decide)) (h.1.I (by decide)) (h.1.I (by decide)) q n
def tu_ok (m : am_M) (n : Nat) : Prop := m.1 9 7 ≠ 0 → ∀ q, q < 256 → wb (m.2.1 17) q = cbl m n q
theorem Ft_mem (t : Nat) (ht : t < 8) : ∀ a, a ∈ [12, 19 + 2 * t] → a ∈ [9, 12, 17, 19, 21, 23, 25, 27, 29, 31, 33] := by
  intro a ha
  rcases List.mem_cons.mp ha with z | z
  · rw [z]; decide
  · rw [List.mem_singleton.mp z]
    exact (by decide : ∀ t, t < 8 → 19 + 2 * t ∈ [9, 12, 17, 19, 21, 23, 25, 27, 29, 31, 33]) t ht
theorem S_unseen (m : am_M) (Q : Option Value → am_M → Prop) (n : Nat) (hT : tw_ok m n) (hK : tk_ok m n) (hU : tu_ok m n) (hh : ∀ k, k < 256 → ((m.1 5 k).toInt).natAbs ≤ 3000)
    (h : ∀ m1, Ft m m1 → m1.1 9 8 = m.1 9 8 → tk_ok m1 n → m1.1 9 7 ≠ 0 → (∀ q, q < 256 → wb (m1.2.1 17) q = cbl m n q) → Q (some (.ref 16)) m1) : am_WP YL 89 0 0 0 [some (.ref 9), none] [] m Q := by
  have hn8 := hT.1
  refine B_X7_unseen_0 m Q ⟨fun z => h m (Ft.rf m) rfl hK z (hU z), fun z => ?_⟩
  have s16 : ∀ m1, sw_sq m1 16 := fun m1 => ⟨rfl, rfl, rfl, rfl⟩
  refine B_X9_there_0 m _ (B_X7_unseen_18r m Q 16 (s16 m) 7 (sq_7 m) (S_copyFrom m _ 16 7 (s16 m) (sq_7 m) (by decide) ?_))
  refine B_X7_unseen_21 _ Q ?_
  have f0 : Ft m (am_wJ m 17 (am_fx 4 (m.2.1 8) (m.2.1 17))) := ⟨(Ag.rf _ m).wJ (by decide) _, rfl⟩
  have := lp (N := n) (W := fun k m1 => am_WP YL 89 0 0 23 [some (.ref 9), some (.int (iI (k : Int)))] [] m1 Q) (fun k m1 => Ft m m1 ∧ m1.1 9 8 = m.1 9 8 ∧ tk_ok m1 n ∧ ∀ q, q < 256 → wb (m1.2.1 17) q = cbl m k q) (s := am_wJ m 17 (am_fx 4 (m.2.1 8) (m.2.1 17))) ⟨f0, rfl, ?_, ?_⟩ ?_ ?_
  · exact this
  · intro t ht hz q hq
    rw [f0.see, am_wJ_ne (show 19 + 2 * t ≠ 17 by omega)]
    exact hK t ht hz q hq
  · intro q hq
    rw [am_wJ_at, wb_fx hq]
    rfl
  · rintro k m1 hk ⟨f1, a1, a2, a3⟩ ih
    have hT1 := f1.ok hT
    refine B_X7_unseen_23 m1 Q _ ?_
    rw [hT1.2.1]
    refine ⟨fun y => absurd ((iI_le (by omega) (by omega) (by omega) (by omega)).mp y) (by omega), fun _ => ?_⟩
    refine S_seenBy m1 _ n k hk hT1 a2 (by rw [f1.1.I (show 5 ∉ _ by decide)]; exact hh) (fun m2 f2 b1 b2 => ?_)
    have hq2 := (sq_t m2 k (by omega)).1
    refine B_X7_unseen_40r m2 Q _ 16 (s16 m2) (18 + 2 * k) hq2 (S_takeOut m2 _ 16 (18 + 2 * k) (s16 m2) hq2 (by omega) (B_X7_unseen_43 _ Q _ ?_))
    rw [iI_i1]
    have n17 : 17 ∉ [12, 19 + 2 * k] := by
      intro z
      rcases List.mem_cons.mp z with z | z
      · cases z
      · have := List.mem_singleton.mp z
        omega
    have n9 : 9 ∉ [12, 19 + 2 * k] := by
      intro z
      rcases List.mem_cons.mp z with z | z
      · cases z
      · have := List.mem_singleton.mp z
        omega
    have f2' : Ft m1 m2 := ⟨f2.sub (Ft_mem k (by omega)), by rw [f2.I n9]⟩
    have f3 : Ft m2 (am_wJ m2 17 (am_fx 4 (fun j => m2.2.1 17 j &&& (m2.2.1 (18 + 2 * k + 1) j ^^^ (-1))) (m2.2.1 17))) := ⟨(Ag.rf _ m2).wJ (by decide) _, rfl⟩
    refine ih _ ⟨(f1.tr f2').tr f3, ?_, ?_, ?_⟩
    · rw [am_wJ_I, f2.I n9]
      exact a1
    · intro t ht hz q hq
      rw [f3.see, am_wJ_ne (show 19 + 2 * t ≠ 17 by omega)]
      exact b1 t ht hz q hq
    · intro q hq
      rw [am_wJ_at, wb_fx hq, wb_out', f2.J n17, a3 q hq, show 18 + 2 * k + 1 = 19 + 2 * k by omega, b2 q hq, f1.see]
      rfl
  · rintro m1 ⟨f1, a1, a2, a3⟩
    have hT1 := f1.ok hT
    refine B_X7_unseen_23 m1 Q _ ?_
    rw [hT1.2.1]
    refine ⟨fun _ => ?_, fun y => absurd ((iI_le (by omega) (by omega) (by omega) (by omega)).mpr (by omega)) y⟩
    have f2 : Ft m1 (am_pI m1 9 7 1) := ⟨(Ag.rf _ m1).pI (by decide) _ _, by rw [am_pI_at, if_neg (by decide)]⟩
    refine h _ (f1.tr f2) ?_ ?_ ?_ ?_
    · rw [am_pI_at, if_neg (by decide)]
      exact a1
    · intro t ht hz q hq
      rw [f2.see]
      exact a2 t ht (by rw [am_pI_ne (by decide)] at hz; exact hz) q hq
    · rw [am_pI_at, if_pos rfl]
      decide
    · exact a3
theorem fb_rest {p u : Nat → Bool} (h : ∀ k, p k = true → u k = true) (k d : Nat) : fb_ct p (k + d) + fb_ct u k ≤ fb_ct p k + fb_ct u (k + d) := by
  rw [fb_ct_split p k d, fb_ct_split u k d]
  have := fb_ct_sub (p := fun i => p (k + i)) (q := fun i => u (k + i)) (n := d) (fun i _ z => h _ z)
  omega
theorem S_countNew (m : am_M) (Q : Option Value → am_M → Prop) (q : Nat) (hq : q < 256) (u : Nat → Bool) (hu : ∀ k, k < 256 → wb (m.2.1 17) k = u k) (mo : Nat) (hmo : mo ≤ 256) (hh : ∀ k, k < 256 → ((m.1 5 k).toInt).natAbs ≤ 3000)
    (h : ∀ v : Nat, v ≤ 256 → (v ≤ mo ∧ fb_ct (fun k => u k && decide (cf m q 10 k = -1)) 256 ≤ mo) ∨ v = fb_ct (fun k => u k && decide (cf m q 10 k = -1)) 256 → Q (some (.int (iI (v : Int)))) m) :
    am_WP YL 91 0 0 0 [some (.ref 9), some (.int (iI (q : Int))), some (.int (iI (fb_ct u 256 : Int))), some (.int (iI (mo : Int))), none, none, none] [] m Q := by
  refine B_X7_countNew_0 m Q _ _ _ ?_
  have s16 : sw_sq m 16 := ⟨rfl, rfl, rfl, rfl⟩
  have uu := fb_ct_le u 256
  have pp := fb_ct_le (fun k => u k && decide (cf m q 10 k = -1))
  have := lp (N := 256) (W := fun k (_ : Unit) => am_WP YL 91 0 0 9 [some (.ref 9), some (.int (iI (q : Int))), none, some (.int (iI (mo : Int))), some (.int (iI (fb_ct (fun k => u k && decide (cf m q 10 k = -1)) k : Int))), some (.int (iI ((fb_ct u 256 : Int) - (fb_ct u k : Int)))), some (.int (iI (k : Int)))] [] m Q) (fun _ _ => True) (s := ()) trivial ?_ ?_
  · have e : (fb_ct u 256 : Int) - (fb_ct u 0 : Int) = (fb_ct u 256 : Int) := Int.sub_zero _
    rw [e] at this
    exact this
  · intro k _ hk _ ih
    have ih := ih () trivial
    have hr := fb_rest (p := fun k => u k && decide (cf m q 10 k = -1)) (u := u) (fun k z => (Bool.and_eq_true_iff.mp z).1) k (256 - k)
    rw [show k + (256 - k) = 256 by omega] at hr
    have hm := fb_ct_mono u (show k ≤ 256 by omega)
    have hpk := pp k
    rw [fb_ct_succ _ k, fb_ct_succ u k] at ih
    refine B_X7_countNew_9 m Q _ _ _ _ _ ?_
    simp (disch := omega) only [iI_lit, iI_add, iI_le]
    refine ⟨fun z => by omega, fun _ => ⟨fun z => h _ (by omega) (Or.inl ⟨by omega, by omega⟩), fun z => ?_⟩⟩
    refine S_has m _ 16 s16 k hk ?_
    rw [hu k hk]
    refine B_X7_countNew_35 m Q _ _ _ _ _ _ (bz (fun y => ?_) (fun y => ?_))
    · rw [y, Bool.false_and] at ih
      rw [iI_i1]
      exact ih
    · rw [y, Bool.true_and] at ih
      refine S_fh m _ q k hq hk 10 (by decide) hh (fun g1 g2 => ?_)
      refine B_X7_countNew_55 m Q _ _ _ _ _ _ ?_
      rw [show (-1 : Int32) = iI (-1) from rfl, iI_eq (by omega) (by omega) (by omega) (by omega), iI_i1]
      simp only [iI_lit, iI_neg, iI_add]
      have e : (fb_ct u 256 : Int) - (fb_ct u k : Int) + -1 = (fb_ct u 256 : Int) - ((fb_ct u k + if true = true then 1 else 0 : Nat) : Int) := by simp; omega
      rw [e]
      refine ⟨fun x => ?_, fun x => ?_⟩
      · rw [decide_eq_false x] at ih
        rw [Int.add_zero]
        exact ih
      · rw [decide_eq_true x] at ih
        exact ih
  · intro _ _
    refine B_X7_countNew_9 m Q _ _ _ _ _ ?_
    exact ⟨fun _ => h _ (pp 256) (Or.inr rfl), fun z => absurd (show (256 : Int32) ≤ iI ((256 : Nat) : Int) by decide) z⟩
/-- the first of the greatest -/
def bsc (n : Nat → Nat) (th : Nat → Bool) : Nat → Nat × Int
  | 0 => (0, -1)
  | k + 1 => if th k = true ∧ (bsc n th k).1 < n k then (n k, (k : Int)) else bsc n th k
def bsm (n : Nat → Nat) (th : Nat → Bool) : Nat → Int × Int
  | 0 => (-1, -1)
  | k + 1 => if th k = true ∧ (bsm n th k).1 < (n k : Int) then ((n k : Int), (k : Int)) else bsm n th k
theorem bs_b (n : Nat → Nat) (th : Nat → Bool) (hn : ∀ k, n k ≤ 256) : ∀ k, (bsc n th k).1 ≤ 256 ∧ -1 ≤ (bsc n th k).2 ∧ (bsc n th k).2 < k
  | 0 => ⟨by show 0 ≤ 256; omega, by show (-1 : Int) ≤ -1; omega, by show (-1 : Int) < 0; omega⟩
  | k + 1 => by
    have := bs_b n th hn k
    have h2 := hn k
    unfold bsc
    split
    · exact ⟨h2, by show -1 ≤ (k : Int); omega, by show (k : Int) < _; omega⟩
    · omega
theorem bm_b (n : Nat → Nat) (th : Nat → Bool) (hn : ∀ k, n k ≤ 256) : ∀ k, -1 ≤ (bsm n th k).1 ∧ (bsm n th k).1 ≤ 256 ∧ -1 ≤ (bsm n th k).2 ∧ (bsm n th k).2 < k
  | 0 => ⟨by show (-1 : Int) ≤ -1; omega, by show (-1 : Int) ≤ 256; omega, by show (-1 : Int) ≤ -1; omega, by show (-1 : Int) < 0; omega⟩
  | k + 1 => by
    have := bm_b n th hn k
    have h2 := hn k
    unfold bsm
    split
    · exact ⟨by show (-1 : Int) ≤ (n k : Int); omega, by show (n k : Int) ≤ 256; omega, by show -1 ≤ (k : Int); omega, by show (k : Int) < _; omega⟩
    · omega
theorem bs_eq (n : Nat → Nat) (th : Nat → Bool) : ∀ k, ((bsc n th k).1 = 0 ∧ (bsc n th k).2 = -1 ∧ (bsm n th k).1 ≤ 0) ∨ (0 < (bsc n th k).1 ∧ (bsm n th k).1 = ((bsc n th k).1 : Int) ∧ (bsm n th k).2 = (bsc n th k).2)
  | 0 => Or.inl ⟨rfl, rfl, by show (-1 : Int) ≤ 0; omega⟩
  | k + 1 => by
    have h := bs_eq n th k
    show ((if th k = true ∧ (bsc n th k).1 < n k then (n k, (k : Int)) else bsc n th k).1 = 0 ∧ (if th k = true ∧ (bsc n th k).1 < n k then (n k, (k : Int)) else bsc n th k).2 = -1 ∧ (if th k = true ∧ (bsm n th k).1 < (n k : Int) then ((n k : Int), (k : Int)) else bsm n th k).1 ≤ 0) ∨ (0 < (if th k = true ∧ (bsc n th k).1 < n k then (n k, (k : Int)) else bsc n th k).1 ∧ (if th k = true ∧ (bsm n th k).1 < (n k : Int) then ((n k : Int), (k : Int)) else bsm n th k).1 = ((if th k = true ∧ (bsc n th k).1 < n k then (n k, (k : Int)) else bsc n th k).1 : Int) ∧ (if th k = true ∧ (bsm n th k).1 < (n k : Int) then ((n k : Int), (k : Int)) else bsm n th k).2 = (if th k = true ∧ (bsc n th k).1 < n k then (n k, (k : Int)) else bsc n th k).2)
    by_cases c : th k = true
    · by_cases c1 : (bsc n th k).1 < n k
      · have c2 : (bsm n th k).1 < (n k : Int) := by omega
        rw [if_pos ⟨c, c1⟩, if_pos ⟨c, c2⟩]
        exact Or.inr ⟨by show 0 < n k; omega, rfl, rfl⟩
      · rw [if_neg (fun z => c1 z.2)]
        by_cases c2 : (bsm n th k).1 < (n k : Int)
        · rw [if_pos ⟨c, c2⟩]
          rcases h with h | h
          · exact Or.inl ⟨h.1, h.2.1, by show (n k : Int) ≤ 0; omega⟩
          · omega
        · rw [if_neg (fun z => c2 z.2)]
          exact h
    · rw [if_neg (fun z => c z.1), if_neg (fun z => c z.1)]
      exact h
theorem bs_pos (n : Nat → Nat) (th : Nat → Bool) {q : Nat} (h1 : th q = true) (h2 : 0 < n q) : ∀ k, q < k → 0 < (bsc n th k).1
  | 0, h => absurd h (Nat.not_lt_zero q)
  | k + 1, h => by
    unfold bsc
    by_cases c : q = k
    · subst c
      by_cases c1 : (bsc n th q).1 < n q
      · rw [if_pos ⟨h1, c1⟩]; exact h2
      · rw [if_neg (fun z => c1 z.2)]; omega
    · have := bs_pos n th h1 h2 k (by omega)
      split
      · rename_i z; show 0 < n k; omega
      · exact this
theorem bs_zero (n : Nat → Nat) (th : Nat → Bool) (h : ∀ q, n q = 0) : ∀ k, bsc n th k = (0, -1)
  | 0 => rfl
  | k + 1 => by
    unfold bsc
    rw [if_neg (fun z => by have := h k; omega)]
    exact bs_zero n th h k
theorem bs_cong {n n' : Nat → Nat} {th th' : Nat → Bool} : ∀ k, (∀ q, q < k → n q = n' q) → (∀ q, q < k → th q = th' q) → bsc n th k = bsc n' th' k
  | 0, _, _ => rfl
  | k + 1, h1, h2 => by
    unfold bsc
    rw [bs_cong k (fun q hq => h1 q (by omega)) (fun q hq => h2 q (by omega)), h1 k (Nat.lt_succ_self k), h2 k (Nat.lt_succ_self k)]
noncomputable def cnew (m : am_M) (n q : Nat) : Nat := fb_ct (fun k => cbl m n k && decide (cf m q 10 k = -1)) 256
noncomputable def cbest (m : am_M) (n : Nat) : Int := (bsc (cnew m n) (wb (m.2.1 8)) 256).2
theorem Ft.new {m m1 : am_M} (h : Ft m m1) (n q : Nat) : cnew m1 n q = cnew m n q := by
  unfold cnew
  apply fb_ct_cong
  intro k _
  rw [h.bl, cf_fr (h.1.J (by decide)) (h.1.I (by decide))]
theorem Ft.best {m m1 : am_M} (h : Ft m m1) (n : Nat) : cbest m1 n = cbest m n := by
  unfold cbest
  rw [h.1.J (show 8 ∉ _ by decide), show cnew m1 n = cnew m n from funext (h.new n)]
def tb_ok (m : am_M) (n : Nat) : Prop := m.1 9 8 ≠ -2 → m.1 9 8 = iI (cbest m n)
/-- the towers -/
def TI (m : am_M) (n : Nat) : Prop := tw_ok m n ∧ tk_ok m n ∧ tu_ok m n ∧ tb_ok m n
theorem S_unseen' (m : am_M) (Q : Option Value → am_M → Prop) (n : Nat) (hT : TI m n) (hh : ∀ k, k < 256 → ((m.1 5 k).toInt).natAbs ≤ 3000)
    (h : ∀ m1, Ft m m1 → TI m1 n → (∀ q, q < 256 → wb (m1.2.1 17) q = cbl m n q) → Q (some (.ref 16)) m1) : am_WP YL 89 0 0 0 [some (.ref 9), none] [] m Q := by
  refine S_unseen m Q n hT.1 hT.2.1 hT.2.2.1 hh (fun m1 f1 a1 a2 a3 a4 => h m1 f1 ⟨f1.ok hT.1, a2, fun _ q hq => ?_, fun z => ?_⟩ a4)
  · rw [f1.bl]
    exact a4 q hq
  · rw [f1.best, a1]
    exact hT.2.2.2 (by rw [← a1]; exact z)
theorem S_bestNew (m : am_M) (Q : Option Value → am_M → Prop) (n : Nat) (hT : TI m n) (hh : ∀ k, k < 256 → ((m.1 5 k).toInt).natAbs ≤ 3000)
    (h : ∀ m1, Ft m m1 → TI m1 n → Q (some (.int (iI (cbest m n)))) m1) : am_WP YL 90 0 0 0 [some (.ref 9), none, none, none, none] [] m Q := by
  refine B_X7_bestNew_0 m Q ⟨fun _ => ?_, fun z => by rw [hT.2.2.2 z]; exact h m (Ft.rf m) hT⟩
  refine S_unseen m _ n hT.1 hT.2.1 hT.2.2.1 hh (fun m1 f1 a1 a2 a3 a4 => ?_)
  have s16 : sw_sq m1 16 := ⟨rfl, rfl, rfl, rfl⟩
  refine B_X7_bestNew_18r m1 Q 16 s16 (S_size m1 _ 16 s16 ?_)
  refine B_X7_bestNew_21 m1 Q _ ?_
  rw [fb_ct_cong (q := cbl m n) a4]
  have nn : ∀ k, cnew m n k ≤ 256 := fun k => fb_ct_le _ 256
  have bb := bs_b (cnew m n) (wb (m.2.1 8)) nn
  have f2 : Ft m (am_pI m1 9 8 (-1)) := f1.tr ⟨(Ag.rf _ m1).pI (by decide) _ _, by rw [am_pI_at, if_neg (by decide)]⟩
  have := lp (N := 256) (W := fun k m2 => am_WP YL 90 0 0 31 [some (.ref 9), some (.int (iI (fb_ct (cbl m n) 256 : Int))), some (.int (iI ((bsc (cnew m n) (wb (m.2.1 8)) k).1 : Int))), some (.int (iI (k : Int))), none] [] m2 Q) (fun k m2 => Ft m m2 ∧ m2.1 12 = m1.1 12 ∧ m2.2.1 = m1.2.1 ∧ m2.1 9 7 = m1.1 9 7 ∧ m2.1 9 8 = iI (bsc (cnew m n) (wb (m.2.1 8)) k).2) (s := am_pI m1 9 8 (-1)) ⟨f2, by rw [am_pI_ne (by decide)], rfl, by rw [am_pI_at, if_neg (by decide)], by rw [am_pI_at, if_pos rfl]; rfl⟩ ?_ ?_
  · exact this
  · rintro k m2 hk ⟨g1, g2, g3, g4, g5⟩ ih
    have b := bb k
    have s16 : sw_sq m2 16 := ⟨rfl, rfl, rfl, rfl⟩
    have keep : ¬ (wb (m.2.1 8) k = true ∧ (bsc (cnew m n) (wb (m.2.1 8)) k).1 < cnew m n k) → am_WP YL 90 0 0 31 [some (.ref 9), some (.int (iI (fb_ct (cbl m n) 256 : Int))), some (.int (iI ((bsc (cnew m n) (wb (m.2.1 8)) k).1 : Int))), some (.int (iI ((k : Int) + 1))), none] [] m2 Q := by
      intro z
      have e : bsc (cnew m n) (wb (m.2.1 8)) (k + 1) = bsc (cnew m n) (wb (m.2.1 8)) k := if_neg z
      have := ih m2 ⟨g1, g2, g3, g4, by rw [e]; exact g5⟩
      rw [e] at this
      exact this
    refine B_X7_bestNew_31 m2 Q _ _ _ ⟨fun z => absurd ((iI_le (a := 256) (by omega) (by omega) (by omega) (by omega)).mp z) (by omega), fun _ => ?_⟩
    refine B_X9_there_0 m2 _ (B_X7_bestNew_45r m2 Q _ _ _ 7 (sq_7 m2) (S_has m2 _ 7 (sq_7 m2) k hk ?_))
    rw [show m2.2.1 (7 + 1) = m.2.1 8 from g1.1.J (by decide)]
    refine B_X7_bestNew_49 m2 Q _ _ _ _ (bz (fun z => ?_) (fun z => ?_))
    · refine ⟨fun _ => ?_, fun y => absurd ((iI_le (a := 0) (by omega) (by omega) (by omega) (by omega)).mpr (by omega)) y⟩
      rw [iI_i1]
      exact keep (fun y => by rw [z] at y; cases y.1)
    · have ec : fb_ct (fun x => cbl m n x && decide (cf m2 k 10 x = -1)) 256 = cnew m n k := by
        unfold cnew
        apply fb_ct_cong
        intro x _
        rw [cf_fr (g1.1.J (show 8 ∉ _ by decide)) (g1.1.I (show 5 ∉ _ by decide))]
      refine S_countNew m2 _ k hk (cbl m n) (by rw [g3]; exact a4) _ b.1 (by rw [g1.1.I (show 5 ∉ _ by decide)]; exact hh) (fun v hv hx => ?_)
      rw [ec] at hx
      refine B_X7_bestNew_59 m2 Q _ _ _ _ ?_
      rw [iI_le (by omega) (by omega) (by omega) (by omega), iI_i1]
      refine ⟨fun y => keep (fun x => by omega), fun y => ?_⟩
      have hv2 : v = cnew m n k := by omega
      have e : bsc (cnew m n) (wb (m.2.1 8)) (k + 1) = (cnew m n k, (k : Int)) := if_pos ⟨z, by omega⟩
      have := ih (am_pI m2 9 8 (iI (k : Int))) ⟨g1.tr ⟨(Ag.rf _ m2).pI (by decide) _ _, by rw [am_pI_at, if_neg (by decide)]⟩, by rw [am_pI_ne (by decide)]; exact g2, g3, by rw [am_pI_at, if_neg (by decide)]; exact g4, by rw [am_pI_at, if_pos rfl, e]⟩
      rw [e] at this
      rw [hv2]
      exact this
  · rintro m2 ⟨g1, g2, g3, g4, g5⟩
    refine B_X7_bestNew_31 m2 Q _ _ _ ⟨fun _ => ?_, fun z => absurd (show (256 : Int32) ≤ iI ((256 : Nat) : Int) by decide) z⟩
    rw [g5]
    refine h m2 g1 ⟨g1.ok hT.1, ?_, ?_, ?_⟩
    · intro t ht hz q hq
      rw [g3, g1.see, ← f1.see]
      exact a2 t ht (by rw [← g2]; exact hz) q hq
    · intro _ q hq
      rw [g3, g1.bl]
      exact a4 q hq
    · intro _
      rw [g5, g1.best]
      rfl
