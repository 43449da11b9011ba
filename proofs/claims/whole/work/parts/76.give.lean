/-! ===== the reference's give ===== -/
/-- those that have been tried: below f's first i, or there alike and at most t -/
def PD (f : Nat → Nat) (i : Nat) (t : Int) (g : Nat → Nat) : Prop := (∃ j, j < i ∧ (∀ p, p < j → g p = f p) ∧ g j < f j) ∨ ((∀ p, p < i → g p = f p) ∧ (g i : Int) ≤ t)
def PB (f : Nat → Nat) (i : Nat) (g : Nat → Nat) : Prop := (∃ j, j < i ∧ (∀ p, p < j → g p = f p) ∧ g j < f j) ∨ (∀ p, p < i → g p = f p)
def BS (n C : Nat) (w : Nat → Nat → Nat) (P : (Nat → Nat) → Prop) (m : am_M) (ls : Nat) : Prop := (ls = 1000000000 ∧ ∀ g, feas n C w g → ¬ P g) ∨ (∃ bs, feas n C w bs ∧ P bs ∧ wsum w bs n = ls ∧ ls ≤ 8000000 ∧ (∀ p, p < n → m.1 130 p = iI (bs p : Int)) ∧ ∀ g, feas n C w g → P g → ls ≤ wsum w g n ∧ (wsum w g n = ls → lexle n bs g))
theorem BS_eq {n C : Nat} {w : Nat → Nat → Nat} {P P' : (Nat → Nat) → Prop} {m m1 : am_M} {ls : Nat} (h : BS n C w P m ls) (hP : ∀ g, feas n C w g → (P g ↔ P' g)) (h130 : ∀ p, p < n → m1.1 130 p = m.1 130 p) : BS n C w P' m1 ls := by
  rcases h with h | ⟨bs, h1, h2, h3, h3b, h4, h5⟩
  · exact Or.inl ⟨h.1, fun g hg z => h.2 g hg ((hP g hg).mpr z)⟩
  · exact Or.inr ⟨bs, h1, (hP bs h1).mp h2, h3, h3b, fun p hp => (h130 p hp).trans (h4 p hp), fun g hg z => h5 g hg ((hP g hg).mpr z)⟩
theorem wsum_b {n C : Nat} {w : Nat → Nat → Nat} {f : Nat → Nat} (hf : feas n C w f) : ∀ k, k ≤ n → wsum w f k ≤ 1000000 * k
  | 0, _ => Nat.le_refl _
  | k + 1, hk => by
    have := wsum_b hf k (by omega)
    have := (hf.1 k (by omega)).2
    show wsum w f k + w k (f k) ≤ _
    omega
def dup (f : Nat → Nat) (x : Nat) : Nat → Bool
  | 0 => false
  | k + 1 => dup f x k || decide (f k = x)
theorem dup_iff {f : Nat → Nat} {x : Nat} : ∀ {k : Nat}, dup f x k = true ↔ ∃ j, j < k ∧ f j = x
  | 0 => ⟨fun z => (by cases z), fun ⟨j, hj, _⟩ => absurd hj (Nat.not_lt_zero j)⟩
  | k + 1 => by
    show (dup f x k || decide (f k = x)) = true ↔ _
    rw [Bool.or_eq_true, dup_iff]
    constructor
    · intro z
      rcases z with ⟨j, h1, h2⟩ | z
      · exact ⟨j, by omega, h2⟩
      · exact ⟨k, by omega, of_decide_eq_true z⟩
    · rintro ⟨j, h1, h2⟩
      by_cases c : j = k
      · rw [c] at h2
        exact Or.inr (decide_eq_true h2)
      · exact Or.inl ⟨j, by omega, h2⟩
/-- the ways as the reference has them -/
def MG (m : am_M) (n C : Nat) (w : Nat → Nat → Nat) : Prop := 0 < n ∧ n ≤ C ∧ C ≤ 8 ∧ m.1 115 349 = iI (C : Int) ∧ (∀ p k, p < n → k < C → m.1 128 (8 * p + k) = iI (w p k : Int)) ∧ (∀ p k, w p k < 1000000 ∨ w p k = 1000000000)
theorem S_giveG (m : am_M) (Q : Option Value → am_M → Prop) (n C : Nat) (w : Nat → Nat → Nat) (hG : MG m n C w) : ∀ (d i : Nat), i + d + 1 = n → ∀ (r : Nat) (t : Int) (f : Nat → Nat) (m1 : am_M) (ls : Nat), t + 1 + (r : Int) = (C : Int) → -1 ≤ t → Fm [129, 130] [] m m1 → (∀ j, j < i → m1.1 129 j = iI (f j : Int) ∧ f j < C ∧ w j (f j) < 1000000) → (∀ p q, p < q → q < i → f p ≠ f q) → m1.1 129 i = iI t → BS n C w (PD f i t) m1 ls →
    (∀ m2 ls2, Fm [129, 130] [] m m2 → (∀ j, j < i → m2.1 129 j = iI (f j : Int)) → BS n C w (PB f i) m2 ls2 → am_WP YL 218 0 0 12 [some (.ref 109), some (.int (iI (n : Int))), some (.int (iI (ls2 : Int))), some (.int (iI ((i : Int) - 1))), none, none, none] [] m2 Q) →
    am_WP YL 218 0 0 12 [some (.ref 109), some (.int (iI (n : Int))), some (.int (iI (ls : Int))), some (.int (iI (i : Int))), none, none, none] [] m1 Q := by
  obtain ⟨hn0, hnC, hC8, h349, hw, hwb⟩ := hG
  intro d
  induction d with
  | zero => ?_
  | succ d ihd => ?_
  all_goals
    intro i hi r
    induction r with
    | zero =>
      intro t f m1 ls ht ht1 f1 hpre hdis hti hbs k
      have v : vp_in (iI (i : Int)) 20 := (iI_in (by omega) (by omega)).mpr (by omega)
      have ei : (iI (i : Int)).toNatClampNeg = i := by rw [iI_cl (by omega) (by omega), Int.toNat_natCast]
      refine D_X11_give_12 m1 Q _ _ _ ⟨fun z => absurd ((iI_lt (b := 0) (by omega) (by omega) (by omega) (by omega)).mp z) (by omega), fun _ => ⟨v, v, D_X11_give_26 _ Q _ _ _ ?_⟩⟩
      rw [ei, hti, am_pI_at, if_pos rfl, iI_i1, show (349 : Int32).toNatClampNeg = 349 from rfl, am_pI_ne (show 115 ≠ 129 by decide), f1.1 115 (by decide) (by decide), h349]
      refine ⟨v, fun z => absurd (by congr 1; omega) z, fun _ => ?_⟩
      rw [show (-1 : Int32) = iI (-1) from rfl, iI_add, show (i : Int) + -1 = (i : Int) - 1 by omega]
      refine k _ ls (f1.pI (by decide) (by decide) _ _) (fun j hj => ?_) (BS_eq hbs (fun g hg => ?_) (fun p _ => by rw [am_pI_ne (by decide)]))
      · rw [am_pI_at, if_neg (by omega)]
        exact (hpre j hj).1
      · constructor
        · intro z
          rcases z with z | z
          · exact Or.inl z
          · exact Or.inr z.1
        · intro z
          rcases z with z | z
          · exact Or.inl z
          · have := (hg.1 i (by omega)).1
            exact Or.inr ⟨z, by omega⟩
    | succ r ihr =>
      intro t f m1 ls ht ht1 f1 hpre hdis hti hbs k
      have v : vp_in (iI (i : Int)) 20 := (iI_in (by omega) (by omega)).mpr (by omega)
      have ei : (iI (i : Int)).toNatClampNeg = i := by rw [iI_cl (by omega) (by omega), Int.toNat_natCast]
      obtain ⟨x, hx⟩ : ∃ x : Nat, t + 1 = (x : Int) := ⟨(t + 1).toNat, by omega⟩
      have hxC : x < C := by omega
      refine D_X11_give_12 m1 Q _ _ _ ⟨fun z => absurd ((iI_lt (b := 0) (by omega) (by omega) (by omega) (by omega)).mp z) (by omega), fun _ => ⟨v, v, D_X11_give_26 _ Q _ _ _ ?_⟩⟩
      have f2 : Fm [129, 130] [] m (am_pI m1 129 i (iI (x : Int))) := f1.pI (by decide) (by decide) _ _
      have t2 : (am_pI m1 129 i (iI (x : Int))).1 129 i = iI (x : Int) := by rw [am_pI_at, if_pos rfl]
      have p2 : ∀ j, j < i → (am_pI m1 129 i (iI (x : Int))).1 129 j = iI (f j : Int) := fun j hj => by rw [am_pI_at, if_neg (by omega)]; exact (hpre j hj).1
      have b2 : BS n C w (PD f i t) (am_pI m1 129 i (iI (x : Int))) ls := BS_eq hbs (fun g _ => Iff.rfl) (fun p _ => by rw [am_pI_ne (by decide)])
      rw [ei, hti, iI_i1, hx]
      generalize am_pI m1 129 i (iI (x : Int)) = m2 at f2 t2 p2 b2 ⊢
      rw [t2, show (349 : Int32).toNatClampNeg = 349 from rfl, f2.1 115 (by decide) (by decide), h349, show (8 : Int32) = iI 8 from rfl, iI_mul, iI_add, iI_cl (a := 8 * (i : Int) + (x : Int)) (by omega) (by omega), iI_in (a := 8 * (i : Int) + (x : Int)) (by omega) (by omega), show (8 * (i : Int) + (x : Int)).toNat = 8 * i + x by omega, f2.1 128 (by decide) (by decide), hw i x (by omega) hxC]
      have wbx := hwb i x
      -- the state with x tried
      have again : ∀ m3 ls3, Fm [129, 130] [] m m3 → (∀ j, j < i → m3.1 129 j = iI (f j : Int)) → m3.1 129 i = iI (x : Int) → BS n C w (PD f i (x : Int)) m3 ls3 → am_WP YL 218 0 0 12 [some (.ref 109), some (.int (iI (n : Int))), some (.int (iI (ls3 : Int))), some (.int (iI (i : Int))), none, none, none] [] m3 Q := fun m3 ls3 g1 g2 g3 g4 => ihr (x : Int) f m3 ls3 (by omega) (by omega) g1 (fun j hj => ⟨g2 j hj, (hpre j hj).2⟩) hdis g3 g4 k
      have more : ∀ g, PD f i (x : Int) g ↔ (PD f i t g ∨ ((∀ p, p < i → g p = f p) ∧ g i = x)) := by
        intro g
        unfold PD
        constructor
        · intro z
          rcases z with z | ⟨z1, z2⟩
          · exact Or.inl (Or.inl z)
          · by_cases c : g i = x
            · exact Or.inr ⟨z1, c⟩
            · exact Or.inl (Or.inr ⟨z1, by omega⟩)
        · intro z
          rcases z with (z | ⟨z1, z2⟩) | ⟨z1, z2⟩
          · exact Or.inl z
          · exact Or.inr ⟨z1, by omega⟩
          · exact Or.inr ⟨z1, by omega⟩
      have bad : (w i x = 1000000000 ∨ dup f x i = true) → am_WP YL 218 0 0 12 [some (.ref 109), some (.int (iI (n : Int))), some (.int (iI (ls : Int))), some (.int (iI (i : Int))), none, none, none] [] m2 Q := by
        intro z
        refine again m2 ls f2 p2 t2 (BS_eq b2 (fun g hg => ?_) (fun _ _ => rfl))
        rw [more g]
        constructor
        · exact Or.inl
        · rintro (y | ⟨y1, y2⟩)
          · exact y
          · exfalso
            have hgi := hg.1 i (by omega)
            rcases z with z | z
            · rw [y2] at hgi
              omega
            · obtain ⟨j, h1, h2⟩ := dup_iff.mp z
              exact hg.2 j i h1 (by omega) (by rw [y1 j h1, h2, y2])
      -- the flag
      have flag : ∀ b : Bool, (b = true → w i x < 1000000) → (b = false → w i x = 1000000000) → am_WP YL 218 0 0 80 [some (.ref 109), some (.int (iI (n : Int))), some (.int (iI (ls : Int))), some (.int (iI (i : Int))), some (.int (bI b)), some (.int 0), none] [] m2 Q := by
        intro b hb1 hb2
        have := lp (N := i) (W := fun j (_ : Unit) => am_WP YL 218 0 0 80 [some (.ref 109), some (.int (iI (n : Int))), some (.int (iI (ls : Int))), some (.int (iI (i : Int))), some (.int (bI (b && !dup f x j))), some (.int (iI (j : Int))), none] [] m2 Q) (fun _ _ => True) (s := ()) trivial ?_ ?_
        · have e : (b && !dup f x 0) = b := Bool.and_true b
          rw [e] at this
          exact this
        · intro j _ hj _ ihj
          have ihj := ihj () trivial
          refine B_X11_give_80 m2 Q _ _ _ _ _ ⟨fun z => absurd ((iI_le (by omega) (by omega) (by omega) (by omega)).mp z) (by omega), fun _ => ?_⟩
          have es : (b && !dup f x (j + 1)) = ((b && !dup f x j) && !decide (f j = x)) := by
            show (b && !(dup f x j || decide (f j = x))) = _
            cases b <;> cases dup f x j <;> cases decide (f j = x) <;> rfl
          rw [es] at ihj
          have fj := (hpre j hj).2.1
          rw [iI_cl (a := (j : Int)) (by omega) (by omega), Int.toNat_natCast, iI_in (a := (j : Int)) (by omega) (by omega), ei, p2 j hj, t2, iI_eq (a := (f j : Int)) (by omega) (by omega) (by omega) (by omega), iI_i1]
          refine bz (fun z => ?_) (fun z => ⟨by omega, v, fun y => ?_, fun y => ?_⟩)
          · rw [z, Bool.false_and] at ihj
            exact ihj
          · rw [z, decide_eq_true (show f j = x by omega)] at ihj
            exact ihj
          · rw [z, decide_eq_false (show ¬ f j = x by omega)] at ihj
            exact ihj
        · intro _ _
          refine B_X11_give_80 m2 Q _ _ _ _ _ ⟨fun _ => ?_, fun z => absurd ((iI_le (by omega) (by omega) (by omega) (by omega)).mpr (Int.le_refl _)) z⟩
          refine bz' (fun z => bad ?_) (fun z => ?_)
          · cases b
            · exact Or.inl (hb2 rfl)
            · right
              cases hd2 : dup f x i
              · rw [hd2] at z; cases z
              · rfl
          · have hbt : b = true := by cases b; cases z; rfl
            have hnd : dup f x i = false := by
              cases hd2 : dup f x i
              · rfl
              · rw [hd2, hbt] at z; cases z
            have hfin := hb1 hbt
            have nd : ∀ j, j < i → f j ≠ x := fun j hj e => by
              have := dup_iff.mpr ⟨j, hj, e⟩
              rw [hnd] at this
              cases this
            obtain ⟨f', hf'⟩ : ∃ f' : Nat → Nat, f' = fun p => if p = i then x else f p := ⟨_, rfl⟩
            have f'i : f' i = x := by rw [hf']; exact if_pos rfl
            have f'j : ∀ p, p < i → f' p = f p := fun p hp => by rw [hf']; exact if_neg (by omega)
            have pre' : ∀ j, j < i + 1 → f' j < C ∧ w j (f' j) < 1000000 := by
              intro j hj
              by_cases c : j = i
              · rw [c, f'i]; exact ⟨hxC, hfin⟩
              · rw [f'j j (by omega)]; exact (hpre j (by omega)).2
            have dis' : ∀ p q, p < q → q < i + 1 → f' p ≠ f' q := by
              intro p q hpq hq
              by_cases c : q = i
              · rw [c, f'i, f'j p (by omega)]
                exact nd p (by omega)
              · rw [f'j p (by omega), f'j q (by omega)]
                exact hdis p q hpq (by omega)
            rw [show (1 : Int32) = iI 1 from rfl, iI_sub, iI_le (by omega) (by omega) (by omega) (by omega)]
            try
              refine ⟨fun y => by omega, fun _ => ?_⟩
              rw [iI_add, iI_cl (by omega) (by omega), iI_in (by omega) (by omega), show ((i : Int) + 1).toNat = i + 1 by omega]
              refine ⟨by omega, ?_⟩
              refine ihd (i + 1) (by omega) C (-1) f' (am_pI m2 129 (i + 1) (-1)) ls (by omega) (by omega) (f2.pI (by decide) (by decide) _ _) (fun j hj => ⟨?_, pre' j hj⟩) dis' (by rw [am_pI_at, if_pos rfl]; rfl) (BS_eq b2 (fun g _ => ?_) (fun p _ => by rw [am_pI_ne (by decide)])) (fun m3 ls3 g1 g2 g3 => ?_)
              · rw [am_pI_at, if_neg (by omega)]
                by_cases c : j = i
                · rw [c, f'i]; exact t2
                · rw [f'j j (by omega)]; exact p2 j (by omega)
              · constructor
                · intro u
                  left
                  rcases u with ⟨j, u1, u2, u3⟩ | ⟨u1, u2⟩
                  · exact ⟨j, by omega, fun p hp => by rw [f'j p (by omega)]; exact u2 p hp, by rw [f'j j u1]; exact u3⟩
                  · exact ⟨i, by omega, fun p hp => by rw [f'j p hp]; exact u1 p hp, by rw [f'i]; omega⟩
                · intro u
                  rcases u with ⟨j, u1, u2, u3⟩ | ⟨u1, u2⟩
                  · by_cases c : j = i
                    · subst c
                      rw [f'i] at u3
                      exact Or.inr ⟨fun p hp => by rw [← f'j p hp]; exact u2 p hp, by omega⟩
                    · exact Or.inl ⟨j, by omega, fun p hp => by rw [← f'j p (by omega)]; exact u2 p hp, by rw [← f'j j (by omega)]; exact u3⟩
                  · omega
              · rw [show (((i + 1 : Nat)) : Int) - 1 = (i : Int) by omega]
                refine again m3 ls3 g1 (fun j hj => by rw [← f'j j hj]; exact g2 j (by omega)) (by rw [← f'i]; exact g2 i (by omega)) (BS_eq g3 (fun g _ => ?_) (fun _ _ => rfl))
                rw [more g]
                constructor
                · intro u
                  rcases u with ⟨j, u1, u2, u3⟩ | u
                  · by_cases c : j = i
                    · subst c
                      rw [f'i] at u3
                      exact Or.inl (Or.inr ⟨fun p hp => by rw [← f'j p hp]; exact u2 p hp, by omega⟩)
                    · exact Or.inl (Or.inl ⟨j, by omega, fun p hp => by rw [← f'j p (by omega)]; exact u2 p hp, by rw [← f'j j (by omega)]; exact u3⟩)
                  · exact Or.inr ⟨fun p hp => by rw [← f'j p hp]; exact u p (by omega), by rw [← f'i]; exact u i (by omega)⟩
                · intro u
                  rcases u with (⟨j, u1, u2, u3⟩ | ⟨u1, u2⟩) | ⟨u1, u2⟩
                  · exact Or.inl ⟨j, by omega, fun p hp => by rw [f'j p (by omega)]; exact u2 p hp, by rw [f'j j u1]; exact u3⟩
                  · exact Or.inl ⟨i, by omega, fun p hp => by rw [f'j p hp]; exact u1 p hp, by rw [f'i]; omega⟩
                  · exact Or.inr (fun p hp => by
                      by_cases c : p = i
                      · rw [c, f'i]; exact u2
                      · rw [f'j p (by omega)]; exact u1 p (by omega))
              done
            try
              refine ⟨fun _ => ?_, fun y => by omega⟩
              have hin : i + 1 = n := by omega
              have ff : feas n C w f' := ⟨fun p hp => pre' p (by omega), fun p q hpq hq => dis' p q hpq (by omega)⟩
              have sb := wsum_b ff
              have vals : ∀ p, p < n → m2.1 129 p = iI (f' p : Int) := by
                intro p hp
                by_cases c : p = i
                · rw [c, f'i]; exact t2
                · rw [f'j p (by omega)]; exact p2 p (by omega)
              have eqs : ∀ g, feas n C w g → ((∀ p, p < i → g p = f p) ∧ g i = x) → ∀ p, p < n → g p = f' p := by
                intro g _ hgg p hp
                by_cases c : p = i
                · rw [c, f'i]; exact hgg.2
                · rw [f'j p (by omega)]; exact hgg.1 p (by omega)
              have lexn : ∀ g, PD f i t g → lexle n g f' := by
                intro g hg
                right
                rcases hg with ⟨j, u1, u2, u3⟩ | ⟨u1, u2⟩
                · exact ⟨j, by omega, fun p hp => by rw [f'j p (by omega)]; exact u2 p hp, by rw [f'j j u1]; exact u3⟩
                · exact ⟨i, by omega, fun p hp => by rw [f'j p hp]; exact u1 p hp, by rw [f'i]; omega⟩
              have lsb : ls ≤ 1000000000 := by
                rcases b2 with u | ⟨bs, _, _, _, u, _⟩ <;> omega
              have := lp (N := n) (W := fun j (_ : Unit) => am_WP YL 218 0 0 154 [some (.ref 109), some (.int (iI (n : Int))), some (.int (iI (ls : Int))), some (.int (iI (i : Int))), none, some (.int (iI (wsum w f' j : Int))), some (.int (iI (j : Int)))] [] m2 Q) (fun _ _ => True) (s := ()) trivial ?_ ?_
              · exact this
              · intro j _ hj _ ihj
                have ihj := ihj () trivial
                have fj := ff.1 j hj
                have sbj := sb j (by omega)
                refine B_X11_give_154 m2 Q _ _ _ _ _ ⟨fun y => absurd ((iI_le (by omega) (by omega) (by omega) (by omega)).mp y) (by omega), fun _ => ?_⟩
                rw [iI_cl (a := (j : Int)) (by omega) (by omega), Int.toNat_natCast, iI_in (a := (j : Int)) (by omega) (by omega), vals j hj, show (8 : Int32) = iI 8 from rfl, iI_mul, iI_add, iI_cl (by omega) (by omega), iI_in (by omega) (by omega), show (8 * (j : Int) + (f' j : Int)).toNat = 8 * j + f' j by omega, f2.1 128 (by decide) (by decide), hw j (f' j) hj fj.1, iI_add, iI_i1]
                exact ⟨by omega, by omega, ihj⟩
              · intro _ _
                have sbn := sb n (Nat.le_refl n)
                refine B_X11_give_154 m2 Q _ _ _ _ _ ⟨fun _ => ?_, fun y => absurd ((iI_le (by omega) (by omega) (by omega) (by omega)).mpr (Int.le_refl _)) y⟩
                rw [iI_lt (by omega) (by omega) (by omega) (by omega)]
                refine ⟨fun y => ?_, fun y => ?_⟩
                · -- a better one: kept
                  have := lp (N := n) (W := fun j m3 => am_WP YL 218 0 0 204 [some (.ref 109), some (.int (iI (n : Int))), some (.int (iI (wsum w f' n : Int))), some (.int (iI (i : Int))), none, none, some (.int (iI (j : Int)))] [] m3 Q) (fun j m3 => Fm [129, 130] [] m m3 ∧ m3.1 129 = m2.1 129 ∧ ∀ p, p < j → m3.1 130 p = iI (f' p : Int)) (s := m2) ⟨f2, rfl, fun p hp => absurd hp (Nat.not_lt_zero p)⟩ ?_ ?_
                  · exact this
                  · rintro j m3 hj ⟨g1, g2, g3⟩ ihj
                    refine B_X11_give_204 m3 Q _ _ _ _ ⟨fun u => absurd ((iI_le (by omega) (by omega) (by omega) (by omega)).mp u) (by omega), fun _ => ?_⟩
                    rw [iI_cl (a := (j : Int)) (by omega) (by omega), Int.toNat_natCast, iI_in (a := (j : Int)) (by omega) (by omega), g2, vals j hj, iI_i1]
                    refine ⟨by omega, by omega, ihj _ ⟨g1.pI (by decide) (by decide) _ _, by rw [am_pI_ne (by decide)]; exact g2, fun p hp => ?_⟩⟩
                    rw [am_pI_at]
                    by_cases c : p = j
                    · rw [if_pos c, c]
                    · rw [if_neg c]; exact g3 p (by omega)
                  · rintro m3 ⟨g1, g2, g3⟩
                    refine B_X11_give_204 m3 Q _ _ _ _ ⟨fun _ => ?_, fun u => absurd ((iI_le (by omega) (by omega) (by omega) (by omega)).mpr (Int.le_refl _)) u⟩
                    refine again m3 (wsum w f' n) g1 (fun j hj => by rw [g2]; exact p2 j hj) (by rw [g2]; exact t2) (Or.inr ⟨f', ff, ?_, rfl, by omega, g3, fun g hg hP => ?_⟩)
                    · rw [more f']
                      exact Or.inr ⟨fun p hp => f'j p hp, f'i⟩
                    · rw [more g] at hP
                      rcases hP with hP | hP
                      · rcases b2 with u | ⟨bs, u1, u2, u3, u3b, u4, u5⟩
                        · exact absurd hP (u.2 g hg)
                        · have := (u5 g hg hP).1
                          exact ⟨by omega, fun e => by omega⟩
                      · have e := eqs g hg hP
                        rw [wsum_cong n e]
                        exact ⟨Nat.le_refl _, fun _ => Or.inl (fun p hp => (e p hp).symm)⟩
                · -- no better one
                  refine again m2 ls f2 p2 t2 ?_
                  rcases b2 with u | ⟨bs, u1, u2, u3, u3b, u4, u5⟩
                  · have := u.1
                    omega
                  · refine Or.inr ⟨bs, u1, (more bs).mpr (Or.inl u2), u3, u3b, u4, fun g hg hP => ?_⟩
                    rw [more g] at hP
                    rcases hP with hP | hP
                    · exact u5 g hg hP
                    · have e := eqs g hg hP
                      rw [wsum_cong n e]
                      refine ⟨by omega, fun _ => ?_⟩
                      rcases lexn bs u2 with q | ⟨j, q1, q2, q3⟩
                      · exact Or.inl (fun p hp => (q p hp).trans (e p hp).symm)
                      · exact Or.inr ⟨j, q1, fun p hp => (q2 p hp).trans (e p (by omega)).symm, by rw [e j q1]; exact q3⟩
              done
      refine ⟨v, fun _ => ⟨v, by omega, ?_⟩, fun z => absurd ((iI_eq (by omega) (by omega) (by omega) (by omega)).mp z) (by omega)⟩
      rw [show (1000000000 : Int32) = iI 1000000000 from rfl, iI_le (by omega) (by omega) (by omega) (by omega)]
      exact ⟨fun z => flag false (fun y => by cases y) (fun _ => by omega), fun z => flag true (fun _ => by omega) (fun y => by cases y)⟩
theorem S_give (m : am_M) (Q : Option Value → am_M → Prop) (n C : Nat) (w : Nat → Nat → Nat) (hG : MG m n C w)
    (h0 : ∀ m1, Fm [129, 130] [] m m1 → (∀ f, ¬ feas n C w f) → Q (some (.int 1000000000)) m1)
    (h1 : ∀ m1 kk S, Fm [129, 130] [] m m1 → AS n C w kk S → S ≤ 8000000 → (∀ p, p < n → m1.1 130 p = iI (kk p : Int)) → Q (some (.int (iI (S : Int)))) m1) :
    am_WP YL 218 0 0 0 [some (.ref 109), some (.int (iI (n : Int))), none, none, none, none, none] [] m Q := by
  have hn0 := hG.1
  have hC8 := hG.2.2.1
  refine B_X11_give_0 m Q _ ?_
  rw [show (0 : Int32).toNatClampNeg = 0 from rfl]
  have := S_giveG m Q n C w hG (n - 1) 0 (by omega) C (-1) (fun _ => 0) (am_pI m 129 0 (-1)) 1000000000 (by omega) (by omega) ((Fm.rf _ _ m).pI (by decide) (by decide) _ _) (fun j hj => absurd hj (Nat.not_lt_zero j)) (fun p q _ hq => absurd hq (Nat.not_lt_zero q)) (by rw [am_pI_at, if_pos rfl]; rfl) (Or.inl ⟨rfl, fun g _ z => ?_⟩) (fun m2 ls2 f2 _ hbs => ?_)
  · exact this
  · rcases z with ⟨j, hj, _⟩ | ⟨_, z⟩
    · exact absurd hj (Nat.not_lt_zero j)
    · omega
  · refine D_X11_give_12 m2 Q _ _ _ ⟨fun _ => ?_, fun z => absurd (show iI (((0 : Nat) : Int) - 1) < 0 by decide) z⟩
    have all : ∀ g, PB (fun _ => 0) 0 g := fun g => Or.inr (fun p hp => absurd hp (Nat.not_lt_zero p))
    rcases hbs with z | ⟨bs, u1, u2, u3, u3b, u4, u5⟩
    · rw [z.1]
      exact h0 m2 f2 (fun f hf => z.2 f hf (all f))
    · exact h1 m2 bs ls2 f2 ⟨u1, u3, fun f hf => u5 f hf (all f)⟩ u3b u4
