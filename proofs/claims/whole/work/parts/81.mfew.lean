/-! ===== the reference's fewest ===== -/
theorem iI_tb1 {a k : Nat} (ha : a < 2147483648) (hk : k < 31) : ((iI (a : Int) >>> (iI (k : Int) &&& 31)) &&& 1) = 1 ↔ a.testBit k = true := by
  have e : ((iI (a : Int) >>> (iI (k : Int) &&& iI 31)) &&& iI 1) = iI (((a / 2 ^ k % 2 : Nat)) : Int) := iI_bit (by omega) (by omega) (by omega)
  have e2 : ((iI (a : Int) >>> (iI (k : Int) &&& 31)) &&& 1) = iI (((a / 2 ^ k % 2 : Nat)) : Int) := e
  have b : a / 2 ^ k % 2 < 2 := Nat.mod_lt _ (by decide)
  rw [e2, show (1 : Int32) = iI 1 from rfl, iI_eq (by omega) (by omega) (by omega) (by omega), Nat.testBit_eq_decide_div_mod_eq]
  constructor
  · intro h
    exact decide_eq_true (by omega)
  · intro h
    have := of_decide_eq_true h
    omega
def msl (m : am_M) (l1 l2 : Int32) (i : Nat) : Bool := msi m (i : Int) && (!decide (m.1 115 (60 + i) < l1) && !decide (l2 < m.1 115 (60 + i)))
def pON (m : am_M) (pl : Nat → Nat) (g : Nat) : Prop := ONE (fun i j => mak m (pl i) (pl j)) (fun j q => wb (mv m 116 (pl j)) q) g
theorem or4 (f : Nat → Int64) : ((f 0 ||| f 1) ||| f 2) ||| f 3 = 0 ↔ ∀ q, q < 256 → wb f q = false := by
  have e := wm_or f f
  rw [Int64.and_self, Int64.and_self, Int64.and_self, Int64.and_self] at e
  rw [e]
  constructor
  · intro z q hq
    cases c : wb f q
    · rfl
    · rw [(wm_iff f f).mpr ⟨q, hq, c, c⟩] at z
      cases z
  · intro z
    cases c : wm f f
    · rfl
    · obtain ⟨q, hq, a, _⟩ := (wm_iff f f).mp c
      rw [z q hq] at a
      cases a
theorem wb4 {f g : Nat → Int64} (h : ∀ w, w < 4 → f w = g w) {q : Nat} (hq : q < 256) : wb f q = wb g q := by
  unfold wb
  rw [h (q / 64) (by omega)]
theorem iI_lo {g : Nat} (hg : 0 < g) (hb : g < 1024) : iI (g : Int) &&& (iI (g : Int) - (1 : Int32)) = iI (lo g : Int) := by
  rw [show (1 : Int32) = iI 1 from rfl, iI_sub, show (g : Int) - 1 = ((g - 1 : Nat) : Int) by omega, iI_and (by omega) (by omega)]
  rfl
theorem S_mfb (m : am_M) (Q : Option Value → am_M → Prop) (n : Nat) (hn : n ≤ 10) (pl : Nat → Nat) (hpl : ∀ j, j < n → m.1 120 j = iI (pl j : Int) ∧ pl j < 60) (g : Nat) (hg : 0 < g) (hgn : g < 2 ^ n)
    (hT : ∀ x, 0 < x → x < g → (m.1 121 x = 1 ↔ pON m pl x) ∧ ∀ q, q < 256 → (wb (mv m 122 x) q = true ↔ ∀ j, x.testBit j = true → wb (mv m 116 (pl j)) q = true))
    (h : ∀ m1, Fm [121, 122] [] m m1 → (∀ x, x < g → m1.1 121 x = m.1 121 x ∧ ∀ w, w < 4 → mv m1 122 x w = mv m 122 x w) → ((pON m pl g ∧ m1.1 121 g = 1) ∨ (¬ pON m pl g ∧ m1.1 121 g = 1000000000)) → (∀ q, q < 256 → (wb (mv m1 122 g) q = true ↔ ∀ j, g.testBit j = true → wb (mv m 116 (pl j)) q = true)) → am_WP YL 203 0 0 125 [some (.ref 109), none, none, some (.int (iI (n : Int))), none, some (.int (iI ((g + 1 : Nat) : Int))), none, none, none, none] [] m1 Q) :
    am_WP YL 203 0 0 136 [some (.ref 109), none, none, some (.int (iI (n : Int))), none, some (.int (iI (g : Int))), some (.int (iI ((0 : Nat) : Int))), none, none, none] [] m Q := by
  obtain ⟨k, k1, k2, k3⟩ := lo_bits g hg
  have hN := p2_10 hn
  have gb : ∀ j, g.testBit j = true → j < n := fun j hj => by
    by_cases c : j < n
    · exact c
    · rw [Nat.testBit_lt_two_pow (Nat.lt_of_lt_of_le hgn (Nat.pow_le_pow_right (by decide) (by omega)))] at hj
      cases hj
  have hk := gb k k1
  have ll := lo_lt hg
  obtain ⟨p1, p2⟩ := hpl k hk
  have lob : ∀ j, (lo g).testBit j = true → g.testBit j = true ∧ k < j := fun j hj => by
    rw [k3] at hj
    have := Bool.and_eq_true_iff.mp hj
    refine ⟨this.1, ?_⟩
    rcases Nat.lt_trichotomy j k with c | c | c
    · rw [k2 j c] at this
      cases this.1
    · rw [decide_eq_true c] at this
      cases this.2
    · exact c
  have glo : ∀ j, g.testBit j = true → j = k ∨ (lo g).testBit j = true := fun j hj => by
    by_cases c : j = k
    · exact Or.inl c
    · exact Or.inr (by rw [k3, hj, decide_eq_false c]; rfl)
  have vg : vp_in (iI (g : Int)) 1024 := (iI_in (by omega) (by omega)).mpr (by omega)
  have eg : (iI (g : Int)).toNatClampNeg = g := by rw [iI_cl (by omega) (by omega), Int.toNat_natCast]
  -- from the words on
  have fin : ∀ b0 : Bool, (b0 = true ↔ (lo g = 0 ∨ pON m pl (lo g))) → am_WP YL 203 0 0 185 [some (.ref 109), none, none, some (.int (iI (n : Int))), none, some (.int (iI (g : Int))), some (.int (iI (k : Int))), some (.int (iI (lo g : Int))), some (.int (bI b0)), some (.int 0)] [] m Q := by
    intro b0 hb0
    have := lp (N := 4) (W := fun w m1 => am_WP YL 203 0 0 185 [some (.ref 109), none, none, some (.int (iI (n : Int))), none, some (.int (iI (g : Int))), some (.int (iI (k : Int))), some (.int (iI (lo g : Int))), some (.int (bI b0)), some (.int (iI (w : Int)))] [] m1 Q) (fun w m1 => Fm [122] [] m m1 ∧ (∀ v, v < w → m1.2.1 122 (4 * g + v) = if lo g = 0 then mv m 116 (pl k) v else mv m 122 (lo g) v &&& mv m 116 (pl k) v) ∧ ∀ x, x < 4 * g → m1.2.1 122 x = m.2.1 122 x) (s := m) ⟨Fm.rf _ _ _, fun v hv => absurd hv (Nat.not_lt_zero v), fun _ _ => rfl⟩ ?_ ?_
    · exact this
    · rintro w m1 hw ⟨f1, w1, w2⟩ ih
      have a1 : (4 : Int32) * iI (lo g : Int) + iI (w : Int) = iI ((4 * lo g + w : Nat) : Int) := by
        rw [show (4 : Int32) = iI 4 from rfl, iI_mul, iI_add]
        congr 1
      have a2 : (4 : Int32) * iI (pl k : Int) + iI (w : Int) = iI ((4 * pl k + w : Nat) : Int) := by
        rw [show (4 : Int32) = iI 4 from rfl, iI_mul, iI_add]
        congr 1
      have a3 : (4 : Int32) * iI (g : Int) + iI (w : Int) = iI ((4 * g + w : Nat) : Int) := by
        rw [show (4 : Int32) = iI 4 from rfl, iI_mul, iI_add]
        congr 1
      refine B_X11_fewest_185 m1 Q _ _ _ _ _ _ ⟨fun z => absurd ((iI_le (a := 4) (by omega) (by omega) (by omega) (by omega)).mp z) (by omega), fun _ => ?_⟩
      rw [show (iI (k : Int)).toNatClampNeg = k by rw [iI_cl (by omega) (by omega), Int.toNat_natCast], f1.1 120 (by decide) (by decide), p1, a1, a2, a3, iI_i1]
      rw [iI_cl (by omega) (by omega), iI_cl (by omega) (by omega), iI_cl (by omega) (by omega), Int.toNat_natCast, Int.toNat_natCast, Int.toNat_natCast]
      have v1 : vp_in (iI ((4 * lo g + w : Nat) : Int)) 4096 := (iI_in (by omega) (by omega)).mpr (by omega)
      have v2 : vp_in (iI ((4 * pl k + w : Nat) : Int)) 240 := (iI_in (by omega) (by omega)).mpr (by omega)
      have v3 : vp_in (iI ((4 * g + w : Nat) : Int)) 4096 := (iI_in (by omega) (by omega)).mpr (by omega)
      have v4 : vp_in (iI (k : Int)) 10 := (iI_in (by omega) (by omega)).mpr (by omega)
      have nx : ∀ v : Int64, (v = if lo g = 0 then mv m 116 (pl k) w else mv m 122 (lo g) w &&& mv m 116 (pl k) w) → am_WP YL 203 0 0 185 [some (.ref 109), none, none, some (.int (iI (n : Int))), none, some (.int (iI (g : Int))), some (.int (iI (k : Int))), some (.int (iI (lo g : Int))), some (.int (bI b0)), some (.int (iI ((w : Int) + 1)))] [] (am_pJ m1 122 (4 * g + w) v) Q := by
        intro v hv
        refine ih _ ⟨f1.pJ (by decide) _ _, fun u hu => ?_, fun x hx => ?_⟩
        · rw [am_pJ_at]
          by_cases c : u = w
          · rw [if_pos (by omega), c]; exact hv
          · rw [if_neg (by omega)]; exact w1 u (by omega)
        · rw [am_pJ_at, if_neg (by omega)]; exact w2 x hx
      have e116 : m1.2.1 116 (4 * pl k + w) = mv m 116 (pl k) w := by rw [f1.2.1 116 (by decide)]; rfl
      refine ⟨fun z => ⟨v1, v4, v2, v3, nx _ ?_⟩, fun z => ⟨v4, v2, v3, nx _ ?_⟩⟩
      · have z : lo g ≠ 0 := fun y => z (by rw [y]; rfl)
        rw [if_neg z, e116, w2 _ (by omega)]
        rfl
      · have z : lo g = 0 := by have := (iI_eq (b := 0) (by omega) (by omega) (by omega) (by omega)).mp z; omega
        rw [if_pos z, e116]
    · rintro m1 ⟨f1, w1, w2⟩
      refine B_X11_fewest_185 m1 Q _ _ _ _ _ _ ⟨fun _ => ?_, fun z => absurd (show (4 : Int32) ≤ iI ((4 : Nat) : Int) by decide) z⟩
      have words : ∀ q, q < 256 → (wb (mv m1 122 g) q = true ↔ ∀ j, g.testBit j = true → wb (mv m 116 (pl j)) q = true) := by
        intro q hq
        have e : wb (mv m1 122 g) q = (if lo g = 0 then wb (mv m 116 (pl k)) q else (wb (mv m 122 (lo g)) q && wb (mv m 116 (pl k)) q)) := by
          rw [wb4 (f := mv m1 122 g) (g := fun v => if lo g = 0 then mv m 116 (pl k) v else mv m 122 (lo g) v &&& mv m 116 (pl k) v) (fun w hw => w1 w hw) hq]
          by_cases c : lo g = 0
          · rw [if_pos c]
            exact wb4 (fun w hw => if_pos c) hq
          · rw [if_neg c, ← wb_and']
            exact wb4 (fun w hw => if_neg c) hq
        rw [e]
        by_cases c : lo g = 0
        · rw [if_pos c]
          constructor
          · intro z j hj
            rcases glo j hj with y | y
            · rw [y]; exact z
            · rw [c, Nat.zero_testBit] at y
              cases y
          · intro z
            exact z k k1
        · rw [if_neg c, Bool.and_eq_true, (hT (lo g) (by omega) ll).2 q hq]
          constructor
          · rintro ⟨z1, z2⟩ j hj
            rcases glo j hj with y | y
            · rw [y]; exact z2
            · exact z1 j y
          · intro z
            exact ⟨fun j hj => z j (lob j hj).1, z k k1⟩
      have al : ∀ i j, mak m1 i j = mak m i j := fun i j => by unfold mak; rw [f1.1 115 (by decide) (by decide)]
      have := lp (N := n) (W := fun j (_ : Unit) => am_WP YL 203 0 0 267 [some (.ref 109), none, none, some (.int (iI (n : Int))), none, some (.int (iI (g : Int))), some (.int (iI (k : Int))), some (.int (iI (lo g : Int))), some (.int (bI (b0 && !anyb (fun j => (lo g).testBit j && mak m (pl k) (pl j)) j))), some (.int (iI (j : Int)))] [] m1 Q) (fun _ _ => True) (s := ()) trivial ?_ ?_
      · have e : (b0 && !anyb (fun j => (lo g).testBit j && mak m (pl k) (pl j)) 0) = b0 := by
          show (b0 && !false) = b0
          rw [Bool.not_false, Bool.and_true]
        rw [e] at this
        exact this
      · intro j _ hj _ ih
        have ih := ih () trivial
        have es : anyb (fun j => (lo g).testBit j && mak m (pl k) (pl j)) (j + 1) = (anyb (fun j => (lo g).testBit j && mak m (pl k) (pl j)) j || ((lo g).testBit j && mak m (pl k) (pl j))) := rfl
        rw [es] at ih
        obtain ⟨q1, q2⟩ := hpl j hj
        refine B_X11_fewest_267 m1 Q _ _ _ _ _ _ ⟨fun z => absurd ((iI_le (by omega) (by omega) (by omega) (by omega)).mp z) (by omega), fun _ => ?_⟩
        rw [iI_i1]
        generalize anyb (fun j => (lo g).testBit j && mak m (pl k) (pl j)) j = a at ih ⊢
        refine bz (fun y => ?_) (fun y => ?_)
        · have : (b0 && !(a || ((lo g).testBit j && mak m (pl k) (pl j)))) = false := by
            revert y
            cases b0 <;> cases a <;> simp
          rw [this] at ih
          exact ih
        · have y2 : b0 = true ∧ a = false := by
            revert y
            cases b0 <;> cases a <;> simp
          rw [y2.1, y2.2, Bool.true_and, Bool.false_or] at ih
          refine ⟨fun z => ?_, fun z => ⟨(iI_in (by omega) (by omega)).mpr (by omega), (iI_in (by omega) (by omega)).mpr (by omega), ?_⟩⟩
          · have z : (lo g).testBit j = false := by
              cases c : (lo g).testBit j
              · rfl
              · exact absurd ((iI_tb1 (by omega) (by omega)).mpr c) z
            rw [z] at ih
            exact ih
          · have z := (iI_tb1 (by omega) (by omega)).mp z
            rw [z, Bool.true_and] at ih
            rw [show (iI (k : Int)).toNatClampNeg = k by rw [iI_cl (by omega) (by omega), Int.toNat_natCast], show (iI (j : Int)).toNatClampNeg = j by rw [iI_cl (by omega) (by omega), Int.toNat_natCast], f1.1 120 (by decide) (by decide), p1, q1]
            refine S_alike m1 _ (pl k) (pl j) p2 q2 (B_X11_fewest_307 m1 Q _ _ _ _ _ _ ?_)
            rw [al, iI_i1]
            refine bz' (fun x => ?_) (fun x => ?_)
            · rw [x] at ih
              exact ih
            · rw [x] at ih
              exact ih
      · intro _ _
        have key : pON m pl g ↔ ((b0 && !anyb (fun j => (lo g).testBit j && mak m (pl k) (pl j)) n) = true ∧ ∃ q, q < 256 ∧ wb (mv m1 122 g) q = true) := by
          rw [Bool.and_eq_true, hb0, Bool.not_eq_true', anyb_f]
          constructor
          · rintro ⟨x, q, hq, y⟩
            refine ⟨⟨Or.inr ⟨fun i j hij hi hj => x i j hij (lob i hi).1 (lob j hj).1, q, hq, fun j hj => y j (lob j hj).1⟩, fun j hj => ?_⟩, q, hq, (words q hq).mpr y⟩
            cases c : (lo g).testBit j
            · rfl
            · have : mak m (pl k) (pl j) = false := x k j (lob j c).2 k1 (lob j c).1
              rw [this]
              rfl
          · rintro ⟨⟨x, y⟩, q, hq, z⟩
            refine ⟨fun i j hij hi hj => ?_, q, hq, (words q hq).mp z⟩
            have cj : (lo g).testBit j = true := by
              rcases glo j hj with c | c
              · rcases glo i hi with d | d
                · omega
                · have := (lob i d).2
                  omega
              · exact c
            rcases glo i hi with c | c
            · have := y j (gb j hj)
              rw [cj, Bool.true_and, ← c] at this
              exact this
            · rcases x with x | x
              · rw [x, Nat.zero_testBit] at cj
                cases cj
              · exact x.1 i j hij c cj
        have out : ∀ v : Int32, ((pON m pl g ∧ v = 1) ∨ (¬ pON m pl g ∧ v = 1000000000)) → am_WP YL 203 0 0 125 [some (.ref 109), none, none, some (.int (iI (n : Int))), none, some (.int (iI (g : Int) + 1)), none, none, none, none] [] (am_pI m1 121 (iI (g : Int)).toNatClampNeg v) Q := by
          intro v hv
          rw [eg, iI_i1]
          refine h _ ((f1.sub (by decide) (by decide)).pI (by decide) (by decide) _ _) (fun x hx => ⟨?_, fun w hw => ?_⟩) ?_ (fun q hq => words q hq)
          · rw [am_pI_at, if_neg (by omega), f1.1 121 (by decide) (by decide)]
          · exact w2 (4 * x + w) (by omega)
          · rw [am_pI_at, if_pos rfl]
            exact hv
        have a0 : (4 : Int32) * iI (g : Int) = iI ((4 * g : Nat) : Int) := by
          rw [show (4 : Int32) = iI 4 from rfl, iI_mul]
          congr 1
        refine B_X11_fewest_267 m1 Q _ _ _ _ _ _ ⟨fun _ => ?_, fun z => absurd ((iI_le (by omega) (by omega) (by omega) (by omega)).mpr (Int.le_refl _)) z⟩
        refine bz (fun y => ⟨fun _ => ⟨vg, out _ (Or.inr ⟨fun z => ?_, rfl⟩)⟩, fun z => absurd rfl z⟩) (fun y => ?_)
        · have := (key.mp z).1
          rw [y] at this
          cases this
        · rw [a0, show (1 : Int32) = iI 1 from rfl, show (2 : Int32) = iI 2 from rfl, show (3 : Int32) = iI 3 from rfl, iI_add, iI_add, iI_add]
          refine ⟨(iI_in (by omega) (by omega)).mpr (by omega), (iI_in (by omega) (by omega)).mpr (by omega), (iI_in (by omega) (by omega)).mpr (by omega), (iI_in (by omega) (by omega)).mpr (by omega), ?_⟩
          rw [lg_z, iI_cl (by omega) (by omega), iI_cl (by omega) (by omega), iI_cl (by omega) (by omega), iI_cl (by omega) (by omega), show (((4 * g : Nat) : Int)).toNat = 4 * g by omega, show (((4 * g : Nat) : Int) + 1).toNat = 4 * g + 1 by omega, show (((4 * g : Nat) : Int) + 2).toNat = 4 * g + 2 by omega, show (((4 * g : Nat) : Int) + 3).toNat = 4 * g + 3 by omega]
          have o := or4 (mv m1 122 g)
          have o2 : ((m1.2.1 122 (4 * g) ||| m1.2.1 122 (4 * g + 1)) ||| m1.2.1 122 (4 * g + 2)) ||| m1.2.1 122 (4 * g + 3) = 0 ↔ ∀ q, q < 256 → wb (mv m1 122 g) q = false := o
          refine ⟨fun z => ⟨fun _ => ⟨vg, out _ (Or.inr ⟨fun x => ?_, rfl⟩)⟩, fun x => absurd rfl x⟩, fun z => ⟨fun x => absurd x (by decide), fun _ => ⟨vg, out _ (Or.inl ⟨key.mpr ⟨y, ?_⟩, rfl⟩)⟩⟩⟩
          · obtain ⟨_, q, hq, w⟩ := key.mp x
            rw [o2.mp z q hq] at w
            cases w
          · refine Classical.byContradiction (fun x => z (o2.mpr (fun q hq => ?_)))
            cases c : wb (mv m1 122 g) q
            · rfl
            · exact absurd ⟨q, hq, c⟩ x
  have := lp (N := k) (W := fun j (_ : Unit) => am_WP YL 203 0 0 136 [some (.ref 109), none, none, some (.int (iI (n : Int))), none, some (.int (iI (g : Int))), some (.int (iI (j : Int))), none, none, none] [] m Q) (fun _ _ => True) (s := ()) trivial ?_ ?_
  · exact this
  · intro j _ hj _ ih
    have ih := ih () trivial
    refine B_X11_fewest_136 m Q _ _ _ ⟨fun z => absurd ((iI_tb (by omega) (by omega)).mpr (k2 j hj)) z, fun _ => ?_⟩
    rw [iI_i1]
    exact ih
  · intro _ _
    refine B_X11_fewest_136 m Q _ _ _ ⟨fun _ => ?_, fun z => ?_⟩
    · rw [iI_lo hg (by omega)]
      refine ⟨fun z => ?_, fun z => ?_⟩
      · have z : lo g = 0 := by have := (iI_eq (b := 0) (by omega) (by omega) (by omega) (by omega)).mp z; omega
        exact fin true ⟨fun _ => Or.inl z, fun _ => rfl⟩
      · have z : lo g ≠ 0 := fun y => z (by rw [y]; rfl)
        have t := (hT (lo g) (by omega) ll).1
        refine B_X11_isOne_0 m _ _ ⟨(iI_in (by omega) (by omega)).mpr (by omega), ?_⟩
        rw [iI_cl (by omega) (by omega), Int.toNat_natCast]
        refine ⟨fun y => B_X11_fewest_172 m Q _ _ _ _ _ ⟨fun _ => fin false ⟨fun x => (by cases x), fun x => ?_⟩, fun x => absurd rfl x⟩, fun y => B_X11_fewest_172 m Q _ _ _ _ _ ⟨fun x => absurd x (by decide), fun _ => fin true ⟨fun _ => Or.inr (t.mp y), fun _ => rfl⟩⟩⟩
        rcases x with x | x
        · exact absurd x z
        · exact absurd (t.mpr x) y
    · rw [(iI_tb (by omega) (by omega)).mp z] at k1
      cases k1
theorem andnot (x y : Int32) : x &&& (y ^^^ (-1 : Int32)) = x ^^^ (x &&& y) := by
  rw [← Int32.toBitVec_inj, Int32.toBitVec_and, Int32.toBitVec_xor, Int32.toBitVec_xor, Int32.toBitVec_and]
  have : (-1 : Int32).toBitVec = BitVec.allOnes 32 := by decide
  rw [this]
  ext i hi
  rw [BitVec.getElem_and, BitVec.getElem_xor, BitVec.getElem_xor, BitVec.getElem_and, BitVec.getElem_allOnes]
  cases x.toBitVec[i] <;> cases y.toBitVec[i] <;> rfl
theorem iI_low : ∀ g : Nat, g < 1024 → 0 < g → iI (g : Int) &&& (- iI (g : Int)) = iI ((g ^^^ lo g : Nat) : Int) := by decide +kernel
theorem x_lo {g s : Nat} (hg : 0 < g) (hs : s &&& lo g = s) : s ||| (g ^^^ lo g) = g ^^^ (lo g ^^^ s) ∧ g ^^^ (g &&& (s ||| (g ^^^ lo g))) = lo g ^^^ s ∧ (lo g ^^^ s) &&& lo g = lo g ^^^ s ∧ g ^^^ (g &&& (g ^^^ lo g)) = lo g := by
  obtain ⟨k, _, _, h3⟩ := lo_bits g hg
  have a : ∀ j, (lo g).testBit j = true → g.testBit j = true := fun j hj => by
    rw [h3] at hj
    exact (Bool.and_eq_true_iff.mp hj).1
  have b := sub_iff.mp hs
  refine ⟨Nat.eq_of_testBit_eq (fun j => ?_), Nat.eq_of_testBit_eq (fun j => ?_), Nat.eq_of_testBit_eq (fun j => ?_), Nat.eq_of_testBit_eq (fun j => ?_)⟩
  all_goals
    have a := a j
    have b := b j
    revert a b
    simp only [Nat.testBit_or, Nat.testBit_xor, Nat.testBit_and]
    cases g.testBit j <;> cases (lo g).testBit j <;> cases s.testBit j <;> simp
theorem S_mfc (m : am_M) (Q : Option Value → am_M → Prop) (n : Nat) (hn : n ≤ 10) (O : Nat → Prop) (hO : ∀ k, k < n → O (2 ^ k)) (F : Nat → Nat) (g : Nat) (hg : 0 < g) (hgn : g < 2 ^ n)
    (hF : ∀ x, 0 < x → x < g → m.1 121 x = iI (F x : Int) ∧ FL O F x ∧ F x ≤ pcn x) (hgo : (O g ∧ m.1 121 g = 1) ∨ (¬ O g ∧ m.1 121 g = 1000000000))
    (h : ∀ m1 v, Fm [121] [] m m1 → (∀ x, x ≠ g → m1.1 121 x = m.1 121 x) → m1.1 121 g = iI (v : Nat) → FL O (fun x => if x = g then v else F x) g → am_WP YL 203 0 0 412 [some (.ref 109), none, none, some (.int (iI (n : Int))), none, some (.int (iI ((g + 1 : Nat) : Int))), none, none, none, none] [] m1 Q) :
    am_WP YL 203 0 0 412 [some (.ref 109), none, none, some (.int (iI (n : Int))), none, some (.int (iI (g : Int))), none, none, none, none] [] m Q := by
  have hN := p2_10 hn
  have ll := lo_lt hg
  have vg : vp_in (iI (g : Int)) 1024 := (iI_in (by omega) (by omega)).mpr (by omega)
  have eg : (iI (g : Int)).toNatClampNeg = g := by rw [iI_cl (by omega) (by omega), Int.toNat_natCast]
  refine B_X11_fewest_412 m Q _ _ ⟨fun z => ?_, fun _ => ⟨vg, ?_⟩⟩
  · rw [iI_sh1 (by omega)] at z
    exact absurd ((iI_le (by omega) (by omega) (by omega) (by omega)).mp z) (by omega)
  rw [eg]
  rcases hgo with ⟨o, e⟩ | ⟨o, e⟩
  · refine ⟨fun z => absurd e z, fun _ => ?_⟩
    rw [iI_i1]
    exact h m 1 (Fm.rf _ _ _) (fun _ _ => rfl) e (Or.inl ⟨o, if_pos rfl⟩)
  refine ⟨fun _ => ?_, fun z => by rw [e] at z; exact absurd z (by decide)⟩
  have low := iI_low g (by omega) hg
  have lb : g ^^^ lo g < 1024 := Nat.xor_lt_two_pow (n := 10) (by omega) (by omega)
  have hx := x_lo hg (s := lo g) (Nat.and_self _)
  rw [low, andnot, iI_and (by omega) (by omega), iI_xor (by omega) (by have : g &&& (g ^^^ lo g) ≤ g := Nat.and_le_left; omega), hx.2.2.2]
  have Fb : ∀ x, 0 < x → x < g → F x ≤ 10 := fun x a b => by
    have := (hF x a b).2.2
    have := pcn_10 (g := x) (by omega)
    omega
  have F1 : ∀ x, 0 < x → x < g → (F x = 1 ↔ O x) := fun x a b => FL_one (hF x a b).2.1 (fun p p1 p2 => FL_pos (hF p p1 (by omega)).2.1) a
  -- the end of the walk
  have fin : ∀ m1 (v : Nat), Fm [121] [] m m1 → (∀ x, x ≠ g → m1.1 121 x = m.1 121 x) → m1.1 121 g = iI (v : Nat) → (∀ p, p ≠ 0 → p &&& lo g = p → O (g ^^^ p) → v ≤ F p + 1) → (v = 1000000000 ∨ ∃ p, p ≠ 0 ∧ p &&& lo g = p ∧ O (g ^^^ p) ∧ v = F p + 1) → am_WP YL 203 0 0 455 [some (.ref 109), none, none, some (.int (iI (n : Int))), none, some (.int (iI (g : Int))), some (.int (iI ((g ^^^ lo g : Nat) : Int))), some (.int (iI (lo g : Int))), some (.int (-1)), none] [] m1 Q := by
    intro m1 v f1 a1 a2 a3 a4
    refine B_X11_fewest_455 m1 Q _ _ _ _ _ ⟨fun _ => ?_, fun z => absurd (show (-1 : Int32) < 0 by decide) z⟩
    rw [iI_i1]
    refine h m1 v f1 a1 a2 (Or.inr ⟨o, fun p p1 p2 p3 => ?_, ?_⟩)
    · dsimp only
      rw [if_pos rfl, if_neg (by have := (sub_x hg p1 p2).2.2; omega)]
      exact a3 p p1 p2 p3
    · dsimp only
      rw [if_pos rfl]
      rcases a4 with w | ⟨p, p1, p2, p3, p4⟩
      · have x := FL_ex' hn hO hg hgn o
        have y := a3 (lo g) x.1 (Nat.and_self _) x.2
        have z := Fb (lo g) (by have := x.1; omega) ll
        omega
      · refine ⟨p, p1, p2, p3, ?_⟩
        rw [if_neg (by have := (sub_x hg p1 p2).2.2; omega)]
        exact p4
  have loop : ∀ d s m1 (v : Nat), s ≤ d → s &&& lo g = s → Fm [121] [] m m1 → (∀ x, x ≠ g → m1.1 121 x = m.1 121 x) → m1.1 121 g = iI (v : Nat) → v ≤ 1000000000 → (∀ t, s < t → t ≠ lo g → t &&& lo g = t → O (g ^^^ (lo g ^^^ t)) → v ≤ F (lo g ^^^ t) + 1) → (v = 1000000000 ∨ ∃ p, p ≠ 0 ∧ p &&& lo g = p ∧ O (g ^^^ p) ∧ v = F p + 1) → am_WP YL 203 0 0 455 [some (.ref 109), none, none, some (.int (iI (n : Int))), none, some (.int (iI (g : Int))), some (.int (iI ((g ^^^ lo g : Nat) : Int))), some (.int (iI (lo g : Int))), some (.int (iI (s : Int))), none] [] m1 Q := by
    intro d
    induction d with
    | zero => ?_
    | succ d ih => ?_
    all_goals
      intro s m1 v hd hs f1 a1 a2 a25 a3 a4
      obtain ⟨x1, x2, x3, _⟩ := x_lo hg hs
      have sl := sub_le hs
      have bor : s ||| (g ^^^ lo g) < 1024 := Nat.or_lt_two_pow (n := 10) (by omega) lb
      -- what comes next
      have nx : ∀ m2 (w : Nat), Fm [121] [] m m2 → (∀ x, x ≠ g → m2.1 121 x = m.1 121 x) → m2.1 121 g = iI (w : Nat) → w ≤ v → (s ≠ lo g → O (g ^^^ (lo g ^^^ s)) → w ≤ F (lo g ^^^ s) + 1) → (w = 1000000000 ∨ ∃ p, p ≠ 0 ∧ p &&& lo g = p ∧ O (g ^^^ p) ∧ w = F p + 1) → (¬ iI (s : Int) = 0 → am_WP YL 203 0 0 455 [some (.ref 109), none, none, some (.int (iI (n : Int))), none, some (.int (iI (g : Int))), some (.int (iI ((g ^^^ lo g : Nat) : Int))), some (.int (iI (lo g : Int))), some (.int ((iI (s : Int) - (1 : Int32)) &&& iI (lo g : Int))), none] [] m2 Q) ∧ (iI (s : Int) = 0 → am_WP YL 203 0 0 455 [some (.ref 109), none, none, some (.int (iI (n : Int))), none, some (.int (iI (g : Int))), some (.int (iI ((g ^^^ lo g : Nat) : Int))), some (.int (iI (lo g : Int))), some (.int (-1)), none] [] m2 Q) := by
        intro m2 w f2 b1 b2 b3 b4 b5
        have all : ∀ t, s ≤ t → t ≠ lo g → t &&& lo g = t → O (g ^^^ (lo g ^^^ t)) → w ≤ F (lo g ^^^ t) + 1 := fun t t1 t2 t3 t4 => by
          by_cases c : t = s
          · rw [c] at t2 t4 ⊢
            exact b4 t2 t4
          · have := a3 t (by omega) t2 t3 t4
            omega
        have ez : iI (s : Int) = 0 ↔ s = 0 := by
          rw [show (0 : Int32) = iI 0 from rfl, iI_eq (by omega) (by omega) (by omega) (by omega)]
          omega
        rw [ez]
        refine ⟨fun z => ?_, fun z => fin m2 w f2 b1 b2 (fun p p1 p2 p3 => ?_) b5⟩
        · first
          | exact absurd (by omega) z
          | rw [show (1 : Int32) = iI 1 from rfl, iI_sub, show (s : Int) - 1 = ((s - 1 : Nat) : Int) by omega, iI_and (by omega) (by omega)]
            have nl : (s - 1) &&& lo g ≤ s - 1 := Nat.and_le_left
            refine ih _ m2 w (by omega) (by rw [Nat.and_assoc, Nat.and_self]) f2 b1 b2 (by omega) (fun t t1 t2 t3 t4 => ?_) b5
            by_cases c : t < s
            · have := sub_step s (lo g) t hs t3 c
              omega
            · exact all t (by omega) t2 t3 t4
        · have q := x_lo hg (s := p) p2
          have e2 : lo g ^^^ (lo g ^^^ p) = p := by rw [← Nat.xor_assoc, Nat.xor_self, Nat.zero_xor]
          have := all (lo g ^^^ p) (by omega) (fun y => p1 (by rw [← e2, y, Nat.xor_self])) q.2.2.1 (by rw [e2]; exact p3)
          rw [e2] at this
          exact this
      refine B_X11_fewest_455 m1 Q _ _ _ _ _ ⟨fun z => absurd ((iI_lt (b := 0) (by omega) (by omega) (by omega) (by omega)).mp z) (by omega), fun _ => ?_⟩
      have esg : iI (s : Int) ||| iI ((g ^^^ lo g : Nat) : Int) = iI ((g ^^^ (lo g ^^^ s) : Nat) : Int) := by rw [iI_or (by omega) (by omega), x1]
      rw [esg]
      rw [x1] at bor
      have eq : iI ((g ^^^ (lo g ^^^ s) : Nat) : Int) = iI (g : Int) ↔ s = lo g := by
        rw [iI_eq (by omega) (by omega) (by omega) (by omega)]
        constructor
        · intro z
          have z : g ^^^ (lo g ^^^ s) = g := by omega
          have e3 : g ^^^ (g ^^^ (lo g ^^^ s)) = lo g ^^^ s := by rw [← Nat.xor_assoc, Nat.xor_self, Nat.zero_xor]
          rw [z, Nat.xor_self] at e3
          have e2 : lo g ^^^ (lo g ^^^ s) = s := by rw [← Nat.xor_assoc, Nat.xor_self, Nat.zero_xor]
          rw [← e3, Nat.xor_zero] at e2
          exact e2.symm
        · intro z
          rw [z, Nat.xor_self, Nat.xor_zero]
      rw [eq]
      refine ⟨fun z => nx m1 v f1 a1 a2 (Nat.le_refl _) (fun y => absurd z y) a4, fun z => ⟨(iI_in (by omega) (by omega)).mpr (by omega), ?_⟩⟩
      have p0 : lo g ^^^ s ≠ 0 := fun y => z (by
        have e2 : lo g ^^^ (lo g ^^^ s) = s := by rw [← Nat.xor_assoc, Nat.xor_self, Nat.zero_xor]
        rw [y, Nat.xor_zero] at e2
        exact e2.symm)
      obtain ⟨y1, y2, y3⟩ := sub_x hg p0 x3
      rw [iI_cl (by omega) (by omega), Int.toNat_natCast, a1 _ (by omega), (hF _ y1 y2).1]
      have b1 := Fb _ y1 y2
      have b2 := Fb _ (by omega) y3
      have e1 : (iI (F (g ^^^ (lo g ^^^ s)) : Int) = (1 : Int32)) ↔ O (g ^^^ (lo g ^^^ s)) := by
        rw [show (1 : Int32) = iI 1 from rfl, iI_eq (by omega) (by omega) (by omega) (by omega), ← F1 _ y1 y2]
        omega
      rw [e1]
      refine ⟨fun w => nx m1 v f1 a1 a2 (Nat.le_refl _) (fun _ y => absurd y w) a4, fun w => ⟨vg, ?_⟩⟩
      have ep : iI (g : Int) &&& (iI ((g ^^^ (lo g ^^^ s) : Nat) : Int) ^^^ (-1 : Int32)) = iI ((lo g ^^^ s : Nat) : Int) := by
        rw [andnot, iI_and (by omega) (by omega), iI_xor (by omega) (by have : g &&& (g ^^^ (lo g ^^^ s)) ≤ g := Nat.and_le_left; omega)]
        rw [x1] at x2
        rw [x2]
      rw [ep, eg]
      rw [iI_cl (by omega) (by omega), Int.toNat_natCast, a1 _ (by omega), (hF _ (by omega) y3).1, a2]
      refine ⟨(iI_in (by omega) (by omega)).mpr (by omega), vg, ?_⟩
      rw [show (1 : Int32) + iI (F (lo g ^^^ s) : Int) = iI ((F (lo g ^^^ s) + 1 : Nat) : Int) by rw [show (1 : Int32) = iI 1 from rfl, iI_add]; congr 1; omega]
      by_cases c : F (lo g ^^^ s) + 1 < v
      · rw [if_pos ((iI_lt (by omega) (by omega) (by omega) (by omega)).mpr (by omega))]
        exact nx _ (F (lo g ^^^ s) + 1) (f1.pI (by decide) (by decide) _ _) (fun x hx => by rw [am_pI_at, if_neg hx]; exact a1 x hx) (by rw [am_pI_at, if_pos rfl]) (by omega) (fun _ _ => Nat.le_refl _) (Or.inr ⟨_, p0, x3, w, rfl⟩)
      · rw [if_neg (fun u => c (by have := (iI_lt (by omega) (by omega) (by omega) (by omega)).mp u; omega))]
        exact nx _ v (f1.pI (by decide) (by decide) _ _) (fun x hx => by rw [am_pI_at, if_neg hx]; exact a1 x hx) (by rw [am_pI_at, if_pos rfl]) (Nat.le_refl _) (fun _ _ => by omega) a4
  exact loop (lo g) (lo g) m 1000000000 (Nat.le_refl _) (Nat.and_self _) (Fm.rf _ _ _) (fun _ _ => rfl) e (Nat.le_refl _) (fun t t1 _ t3 => by have := sub_le t3; omega) (Or.inl rfl)
