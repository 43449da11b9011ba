/-! ===== the reference's fewest ===== -/
theorem iI_tb1 {a k : Nat} (ha : a < 2147483648) (hk : k < 31) : ((iI (a : Int) >>> (iI (k : Int) &&& 31)) &&& 1) = 1 ↔ a.testBit k = true := by
  have e : ((iI (a : Int) >>> (iI (k : Int) &&& iI 31)) &&& iI 1) = iI (((a / 2 ^ k % 2 : Nat)) : Int) := iI_bit (by omega) (by omega) (by omega)
  have e2 : ((iI (a : Int) >>> (iI (k : Int) &&& 31)) &&& 1) = iI (((a / 2 ^ k % 2 : Nat)) : Int) := e
  have b : a / 2 ^ k % 2 < 2 := Nat.mod_lt _ (by decide)
  rw [e2, show (1 : Int32) = iI 1 from rfl, iI_eq (by omega) (by omega) (by omega) (by omega), Nat.testBit_eq_decide_div_mod_eq]
  constructor
  · intro h
    exact decide_eq_true (by omega)
  · intro h
    have := of_decide_eq_true h
    omega
def msl (m : am_M) (l1 l2 : Int32) (i : Nat) : Bool := msi m (i : Int) && (!decide (m.1 115 (60 + i) < l1) && !decide (l2 < m.1 115 (60 + i)))
def pON (m : am_M) (pl : Nat → Nat) (g : Nat) : Prop := ONE (fun i j => mak m (pl i) (pl j)) (fun j q => wb (mv m 116 (pl j)) q) g
theorem or4 (f : Nat → Int64) : ((f 0 ||| f 1) ||| f 2) ||| f 3 = 0 ↔ ∀ q, q < 256 → wb f q = false := by
  have e := wm_or f f
  rw [Int64.and_self, Int64.and_self, Int64.and_self, Int64.and_self] at e
  rw [e]
  constructor
  · intro z q hq
    cases c : wb f q
    · rfl
    · rw [(wm_iff f f).mpr ⟨q, hq, c, c⟩] at z
      cases z
  · intro z
    cases c : wm f f
    · rfl
    · obtain ⟨q, hq, a, _⟩ := (wm_iff f f).mp c
      rw [z q hq] at a
      cases a
theorem wb4 {f g : Nat → Int64} (h : ∀ w, w < 4 → f w = g w) {q : Nat} (hq : q < 256) : wb f q = wb g q := by
  unfold wb
  rw [h (q / 64) (by omega)]
theorem iI_lo {g : Nat} (hg : 0 < g) (hb : g < 1024) : iI (g : Int) &&& (iI (g : Int) - (1 : Int32)) = iI (lo g : Int) := by
  rw [show (1 : Int32) = iI 1 from rfl, iI_sub, show (g : Int) - 1 = ((g - 1 : Nat) : Int) by omega, iI_and (by omega) (by omega)]
  rfl
theorem S_mfb (m : am_M) (Q : Option Value → am_M → Prop) (n : Nat) (hn : n ≤ 10) (pl : Nat → Nat) (hpl : ∀ j, j < n → m.1 120 j = iI (pl j : Int) ∧ pl j < 60) (g : Nat) (hg : 0 < g) (hgn : g < 2 ^ n)
    (hT : ∀ x, 0 < x → x < g → (m.1 121 x = 1 ↔ pON m pl x) ∧ ∀ q, q < 256 → (wb (mv m 122 x) q = true ↔ ∀ j, x.testBit j = true → wb (mv m 116 (pl j)) q = true))
    (h : ∀ m1, Fm [121, 122] [] m m1 → (∀ x, x < g → m1.1 121 x = m.1 121 x ∧ ∀ w, w < 4 → mv m1 122 x w = mv m 122 x w) → ((pON m pl g ∧ m1.1 121 g = 1) ∨ (¬ pON m pl g ∧ m1.1 121 g = 1000000000)) → (∀ q, q < 256 → (wb (mv m1 122 g) q = true ↔ ∀ j, g.testBit j = true → wb (mv m 116 (pl j)) q = true)) → am_WP YL 203 0 0 125 [some (.ref 109), none, none, some (.int (iI (n : Int))), none, some (.int (iI ((g + 1 : Nat) : Int))), none, none, none, none] [] m1 Q) :
    am_WP YL 203 0 0 136 [some (.ref 109), none, none, some (.int (iI (n : Int))), none, some (.int (iI (g : Int))), some (.int (iI ((0 : Nat) : Int))), none, none, none] [] m Q := by
  obtain ⟨k, k1, k2, k3⟩ := lo_bits g hg
  have hN := p2_10 hn
  have gb : ∀ j, g.testBit j = true → j < n := fun j hj => by
    by_cases c : j < n
    · exact c
    · rw [Nat.testBit_lt_two_pow (Nat.lt_of_lt_of_le hgn (Nat.pow_le_pow_right (by decide) (by omega)))] at hj
      cases hj
  have hk := gb k k1
  have ll := lo_lt hg
  obtain ⟨p1, p2⟩ := hpl k hk
  have lob : ∀ j, (lo g).testBit j = true → g.testBit j = true ∧ k < j := fun j hj => by
    rw [k3] at hj
    have := Bool.and_eq_true_iff.mp hj
    refine ⟨this.1, ?_⟩
    rcases Nat.lt_trichotomy j k with c | c | c
    · rw [k2 j c] at this
      cases this.1
    · rw [decide_eq_true c] at this
      cases this.2
    · exact c
  have glo : ∀ j, g.testBit j = true → j = k ∨ (lo g).testBit j = true := fun j hj => by
    by_cases c : j = k
    · exact Or.inl c
    · exact Or.inr (by rw [k3, hj, decide_eq_false c]; rfl)
  have vg : vp_in (iI (g : Int)) 1024 := (iI_in (by omega) (by omega)).mpr (by omega)
  have eg : (iI (g : Int)).toNatClampNeg = g := by rw [iI_cl (by omega) (by omega), Int.toNat_natCast]
  -- from the words on
  have fin : ∀ b0 : Bool, (b0 = true ↔ (lo g = 0 ∨ pON m pl (lo g))) → am_WP YL 203 0 0 185 [some (.ref 109), none, none, some (.int (iI (n : Int))), none, some (.int (iI (g : Int))), some (.int (iI (k : Int))), some (.int (iI (lo g : Int))), some (.int (bI b0)), some (.int 0)] [] m Q := by
    intro b0 hb0
    have := lp (N := 4) (W := fun w m1 => am_WP YL 203 0 0 185 [some (.ref 109), none, none, some (.int (iI (n : Int))), none, some (.int (iI (g : Int))), some (.int (iI (k : Int))), some (.int (iI (lo g : Int))), some (.int (bI b0)), some (.int (iI (w : Int)))] [] m1 Q) (fun w m1 => Fm [122] [] m m1 ∧ (∀ v, v < w → m1.2.1 122 (4 * g + v) = if lo g = 0 then mv m 116 (pl k) v else mv m 122 (lo g) v &&& mv m 116 (pl k) v) ∧ ∀ x, x < 4 * g → m1.2.1 122 x = m.2.1 122 x) (s := m) ⟨Fm.rf _ _ _, fun v hv => absurd hv (Nat.not_lt_zero v), fun _ _ => rfl⟩ ?_ ?_
    · exact this
    · rintro w m1 hw ⟨f1, w1, w2⟩ ih
      have a1 : (4 : Int32) * iI (lo g : Int) + iI (w : Int) = iI ((4 * lo g + w : Nat) : Int) := by
        rw [show (4 : Int32) = iI 4 from rfl, iI_mul, iI_add]
        congr 1
        omega
      have a2 : (4 : Int32) * iI (pl k : Int) + iI (w : Int) = iI ((4 * pl k + w : Nat) : Int) := by
        rw [show (4 : Int32) = iI 4 from rfl, iI_mul, iI_add]
        congr 1
        omega
      have a3 : (4 : Int32) * iI (g : Int) + iI (w : Int) = iI ((4 * g + w : Nat) : Int) := by
        rw [show (4 : Int32) = iI 4 from rfl, iI_mul, iI_add]
        congr 1
        omega
      refine B_X11_fewest_185 m1 Q _ _ _ _ _ _ ⟨fun z => absurd ((iI_le (a := 4) (by omega) (by omega) (by omega) (by omega)).mp z) (by omega), fun _ => ?_⟩
      rw [show (iI (k : Int)).toNatClampNeg = k by rw [iI_cl (by omega) (by omega), Int.toNat_natCast], f1.1 120 (by decide) (by decide), p1, a1, a2, a3, iI_i1]
      rw [iI_cl (by omega) (by omega), iI_cl (by omega) (by omega), iI_cl (by omega) (by omega), Int.toNat_natCast, Int.toNat_natCast, Int.toNat_natCast]
      have v1 : vp_in (iI ((4 * lo g + w : Nat) : Int)) 4096 := (iI_in (by omega) (by omega)).mpr (by omega)
      have v2 : vp_in (iI ((4 * pl k + w : Nat) : Int)) 240 := (iI_in (by omega) (by omega)).mpr (by omega)
      have v3 : vp_in (iI ((4 * g + w : Nat) : Int)) 4096 := (iI_in (by omega) (by omega)).mpr (by omega)
      have v4 : vp_in (iI (k : Int)) 10 := (iI_in (by omega) (by omega)).mpr (by omega)
      have nx : ∀ v : Int64, (v = if lo g = 0 then mv m 116 (pl k) w else mv m 122 (lo g) w &&& mv m 116 (pl k) w) → am_WP YL 203 0 0 185 [some (.ref 109), none, none, some (.int (iI (n : Int))), none, some (.int (iI (g : Int))), some (.int (iI (k : Int))), some (.int (iI (lo g : Int))), some (.int (bI b0)), some (.int (iI ((w : Int) + 1)))] [] (am_pJ m1 122 (4 * g + w) v) Q := by
        intro v hv
        refine ih _ ⟨f1.pJ (by decide) _ _, fun u hu => ?_, fun x hx => ?_⟩
        · rw [am_pJ_at]
          by_cases c : u = w
          · rw [if_pos (by omega), c]; exact hv
          · rw [if_neg (by omega)]; exact w1 u (by omega)
        · rw [am_pJ_at, if_neg (by omega)]; exact w2 x hx
      have e116 : m1.2.1 116 (4 * pl k + w) = mv m 116 (pl k) w := by rw [f1.2.1 116 (by decide)]; rfl
      refine ⟨fun z => ⟨v1, v4, v2, v3, nx _ ?_⟩, fun z => ⟨v4, v2, v3, nx _ ?_⟩⟩
      · have z : lo g ≠ 0 := fun y => z (by rw [y]; rfl)
        rw [if_neg z, e116, w2 _ (by omega)]
        rfl
      · have z : lo g = 0 := by have := (iI_eq (b := 0) (by omega) (by omega) (by omega) (by omega)).mp z; omega
        rw [if_pos z, e116]
    · rintro m1 ⟨f1, w1, w2⟩
      refine B_X11_fewest_185 m1 Q _ _ _ _ _ _ ⟨fun _ => ?_, fun z => absurd (show (4 : Int32) ≤ iI ((4 : Nat) : Int) by decide) z⟩
      have words : ∀ q, q < 256 → (wb (mv m1 122 g) q = true ↔ ∀ j, g.testBit j = true → wb (mv m 116 (pl j)) q = true) := by
        intro q hq
        have e : wb (mv m1 122 g) q = (if lo g = 0 then wb (mv m 116 (pl k)) q else (wb (mv m 122 (lo g)) q && wb (mv m 116 (pl k)) q)) := by
          rw [wb4 (g := fun v => if lo g = 0 then mv m 116 (pl k) v else mv m 122 (lo g) v &&& mv m 116 (pl k) v) (fun w hw => w1 w hw) hq]
          by_cases c : lo g = 0
          · rw [if_pos c]
            exact wb4 (fun w hw => if_pos c) hq
          · rw [if_neg c, ← wb_and']
            exact wb4 (fun w hw => if_neg c) hq
        rw [e]
        by_cases c : lo g = 0
        · rw [if_pos c]
          constructor
          · intro z j hj
            rcases glo j hj with y | y
            · rw [y]; exact z
            · rw [c, Nat.zero_testBit] at y
              cases y
          · intro z
            exact z k k1
        · rw [if_neg c, Bool.and_eq_true, (hT (lo g) (by omega) ll).2 q hq]
          constructor
          · rintro ⟨z1, z2⟩ j hj
            rcases glo j hj with y | y
            · rw [y]; exact z2
            · exact z1 j y
          · intro z
            exact ⟨fun j hj => z j (lob j hj).1, z k k1⟩
      have al : ∀ i j, mak m1 i j = mak m i j := fun i j => by unfold mak; rw [f1.1 115 (by decide) (by decide)]
      have := lp (N := n) (W := fun j (_ : Unit) => am_WP YL 203 0 0 267 [some (.ref 109), none, none, some (.int (iI (n : Int))), none, some (.int (iI (g : Int))), some (.int (iI (k : Int))), some (.int (iI (lo g : Int))), some (.int (bI (b0 && !anyb (fun j => (lo g).testBit j && mak m (pl k) (pl j)) j))), some (.int (iI (j : Int)))] [] m1 Q) (fun _ _ => True) (s := ()) trivial ?_ ?_
      · have e : (b0 && !anyb (fun j => (lo g).testBit j && mak m (pl k) (pl j)) 0) = b0 := by
          show (b0 && !false) = b0
          rw [Bool.not_false, Bool.and_true]
        dsimp only at this
        rw [e] at this
        exact this
      · intro j _ hj _ ih
        have ih := ih () trivial
        have es : anyb (fun j => (lo g).testBit j && mak m (pl k) (pl j)) (j + 1) = (anyb (fun j => (lo g).testBit j && mak m (pl k) (pl j)) j || ((lo g).testBit j && mak m (pl k) (pl j))) := rfl
        rw [es] at ih
        obtain ⟨q1, q2⟩ := hpl j hj
        refine B_X11_fewest_267 m1 Q _ _ _ _ _ _ ⟨fun z => absurd ((iI_le (by omega) (by omega) (by omega) (by omega)).mp z) (by omega), fun _ => ?_⟩
        rw [iI_i1]
        generalize anyb (fun j => (lo g).testBit j && mak m (pl k) (pl j)) j = a at ih ⊢
        refine bz (fun y => ?_) (fun y => ?_)
        · have : (b0 && !(a || ((lo g).testBit j && mak m (pl k) (pl j)))) = false := by
            revert y
            cases b0 <;> cases a <;> simp
          rw [this] at ih
          exact ih
        · have y2 : b0 = true ∧ a = false := by
            revert y
            cases b0 <;> cases a <;> simp
          rw [y2.1, y2.2, Bool.true_and, Bool.false_or] at ih
          refine ⟨fun z => ?_, fun z => ⟨(iI_in (by omega) (by omega)).mpr (by omega), (iI_in (by omega) (by omega)).mpr (by omega), ?_⟩⟩
          · have z : (lo g).testBit j = false := by
              cases c : (lo g).testBit j
              · rfl
              · exact absurd ((iI_tb1 (by omega) (by omega)).mpr c) z
            rw [z] at ih
            exact ih
          · have z := (iI_tb1 (by omega) (by omega)).mp z
            rw [z, Bool.true_and] at ih
            rw [show (iI (k : Int)).toNatClampNeg = k by rw [iI_cl (by omega) (by omega), Int.toNat_natCast], show (iI (j : Int)).toNatClampNeg = j by rw [iI_cl (by omega) (by omega), Int.toNat_natCast], f1.1 120 (by decide) (by decide), p1, q1]
            refine S_alike m1 _ (pl k) (pl j) p2 q2 (B_X11_fewest_307 m1 Q _ _ _ _ _ _ ?_)
            rw [al, iI_i1]
            refine bz' (fun x => ?_) (fun x => ?_)
            · rw [x] at ih
              exact ih
            · rw [x] at ih
              exact ih
      · intro _ _
        have key : pON m pl g ↔ ((b0 && !anyb (fun j => (lo g).testBit j && mak m (pl k) (pl j)) n) = true ∧ ∃ q, q < 256 ∧ wb (mv m1 122 g) q = true) := by
          rw [Bool.and_eq_true, hb0, Bool.not_eq_true', anyb_f]
          constructor
          · rintro ⟨x, q, hq, y⟩
            refine ⟨⟨Or.inr ⟨fun i j hij hi hj => x i j hij (lob i hi).1 (lob j hj).1, q, hq, fun j hj => y j (lob j hj).1⟩, fun j hj => ?_⟩, q, hq, (words q hq).mpr y⟩
            cases c : (lo g).testBit j
            · rfl
            · have : mak m (pl k) (pl j) = false := x k j (lob j c).2 k1 (lob j c).1
              rw [this]
              rfl
          · rintro ⟨⟨x, y⟩, q, hq, z⟩
            refine ⟨fun i j hij hi hj => ?_, q, hq, (words q hq).mp z⟩
            have cj : (lo g).testBit j = true := by
              rcases glo j hj with c | c
              · rcases glo i hi with d | d
                · omega
                · have := (lob i d).2
                  omega
              · exact c
            rcases glo i hi with c | c
            · have := y j (gb j hj)
              rw [cj, Bool.true_and, ← c] at this
              exact this
            · rcases x with x | x
              · rw [x, Nat.zero_testBit] at cj
                cases cj
              · exact x.1 i j hij c cj
        have out : ∀ v : Int32, ((pON m pl g ∧ v = 1) ∨ (¬ pON m pl g ∧ v = 1000000000)) → am_WP YL 203 0 0 125 [some (.ref 109), none, none, some (.int (iI (n : Int))), none, some (.int (iI (g : Int) + 1)), none, none, none, none] [] (am_pI m1 121 (iI (g : Int)).toNatClampNeg v) Q := by
          intro v hv
          rw [eg, iI_i1]
          refine h _ ((f1.sub (by decide) (by decide)).pI (by decide) (by decide) _ _) (fun x hx => ⟨?_, fun w hw => ?_⟩) ?_ (fun q hq => words q hq)
          · rw [am_pI_at, if_neg (by omega), f1.1 121 (by decide) (by decide)]
          · exact w2 (4 * x + w) (by omega)
          · rw [am_pI_at, if_pos rfl]
            exact hv
        have a0 : (4 : Int32) * iI (g : Int) = iI ((4 * g : Nat) : Int) := by
          rw [show (4 : Int32) = iI 4 from rfl, iI_mul]
          congr 1
        refine B_X11_fewest_267 m1 Q _ _ _ _ _ _ ⟨fun _ => ?_, fun z => absurd ((iI_le (by omega) (by omega) (by omega) (by omega)).mpr (Int.le_refl _)) z⟩
        refine bz (fun y => ⟨fun _ => ⟨vg, out _ (Or.inr ⟨fun z => ?_, rfl⟩)⟩, fun z => absurd rfl z⟩) (fun y => ?_)
        · have := (key.mp z).1
          rw [y] at this
          cases this
        · rw [a0, show (1 : Int32) = iI 1 from rfl, show (2 : Int32) = iI 2 from rfl, show (3 : Int32) = iI 3 from rfl, iI_add, iI_add, iI_add]
          refine ⟨(iI_in (by omega) (by omega)).mpr (by omega), (iI_in (by omega) (by omega)).mpr (by omega), (iI_in (by omega) (by omega)).mpr (by omega), (iI_in (by omega) (by omega)).mpr (by omega), ?_⟩
          rw [lg_z, iI_cl (by omega) (by omega), iI_cl (by omega) (by omega), iI_cl (by omega) (by omega), iI_cl (by omega) (by omega), show (((4 * g : Nat) : Int)).toNat = 4 * g by omega, show (((4 * g : Nat) : Int) + 1).toNat = 4 * g + 1 by omega, show (((4 * g : Nat) : Int) + 2).toNat = 4 * g + 2 by omega, show (((4 * g : Nat) : Int) + 3).toNat = 4 * g + 3 by omega]
          have o := or4 (mv m1 122 g)
          have o2 : ((m1.2.1 122 (4 * g) ||| m1.2.1 122 (4 * g + 1)) ||| m1.2.1 122 (4 * g + 2)) ||| m1.2.1 122 (4 * g + 3) = 0 ↔ ∀ q, q < 256 → wb (mv m1 122 g) q = false := o
          refine ⟨fun z => ⟨fun _ => ⟨vg, out _ (Or.inr ⟨fun x => ?_, rfl⟩)⟩, fun x => absurd rfl x⟩, fun z => ⟨fun x => absurd x (by decide), fun _ => ⟨vg, out _ (Or.inl ⟨key.mpr ⟨y, ?_⟩, rfl⟩)⟩⟩⟩
          · obtain ⟨_, q, hq, w⟩ := key.mp x
            rw [o2.mp z q hq] at w
            cases w
          · refine Classical.byContradiction (fun x => z (o2.mpr (fun q hq => ?_)))
            cases c : wb (mv m1 122 g) q
            · rfl
            · exact absurd ⟨q, hq, c⟩ x
  have := lp (N := k) (W := fun j (_ : Unit) => am_WP YL 203 0 0 136 [some (.ref 109), none, none, some (.int (iI (n : Int))), none, some (.int (iI (g : Int))), some (.int (iI (j : Int))), none, none, none] [] m Q) (fun _ _ => True) (s := ()) trivial ?_ ?_
  · exact this
  · intro j _ hj _ ih
    have ih := ih () trivial
    refine B_X11_fewest_136 m Q _ _ _ ⟨fun z => absurd ((iI_tb (by omega) (by omega)).mpr (k2 j hj)) z, fun _ => ?_⟩
    rw [iI_i1]
    exact ih
  · intro _ _
    refine B_X11_fewest_136 m Q _ _ _ ⟨fun _ => ?_, fun z => ?_⟩
    · rw [iI_lo hg (by omega)]
      refine ⟨fun z => ?_, fun z => ?_⟩
      · have z : lo g = 0 := by have := (iI_eq (b := 0) (by omega) (by omega) (by omega) (by omega)).mp z; omega
        exact fin true ⟨fun _ => Or.inl z, fun _ => rfl⟩
      · have z : lo g ≠ 0 := fun y => z (by rw [y]; rfl)
        have t := (hT (lo g) (by omega) ll).1
        refine B_X11_isOne_0 m _ _ ⟨(iI_in (by omega) (by omega)).mpr (by omega), ?_⟩
        rw [iI_cl (by omega) (by omega), Int.toNat_natCast]
        refine ⟨fun y => B_X11_fewest_172 m Q _ _ _ _ _ ⟨fun _ => fin false ⟨fun x => (by cases x), fun x => ?_⟩, fun x => absurd rfl x⟩, fun y => B_X11_fewest_172 m Q _ _ _ _ _ ⟨fun x => absurd x (by decide), fun _ => fin true ⟨fun _ => Or.inr (t.mp y), fun _ => rfl⟩⟩⟩
        rcases x with x | x
        · exact absurd x z
        · exact absurd (t.mpr x) y
    · rw [(iI_tb (by omega) (by omega)).mp z] at k1
      cases k1
