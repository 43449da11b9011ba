/-! ===== the way itself ===== -/
def sok (bd : Nat → Nat → Int) (w : Nat → Nat → Nat) (L : Nat → Nat) (a k : Nat) : Bool := decide (bd a k ≠ -1 ∧ L (bd a k).toNat < 1000000000 ∧ L (bd a k).toNat + w a (bd a k).toNat = L a)
/-- the first of the sides from k on that leads on -/
def nstk (bd : Nat → Nat → Int) (w : Nat → Nat → Nat) (L : Nat → Nat) (a : Nat) : Nat → Int
  | 0 => -1
  | d + 1 => if sok bd w L a (4 - (d + 1)) = true then bd a (4 - (d + 1)) else nstk bd w L a d
def nst (bd : Nat → Nat → Int) (w : Nat → Nat → Nat) (L : Nat → Nat) (a : Nat) : Int := nstk bd w L a 4
def wlk (nx : Nat → Int) (g : Nat) (s : Int) : Nat → Int
  | 0 => s
  | n + 1 => if wlk nx g s n = -1 then -1 else if wlk nx g s n = (g : Int) then -1 else nx (wlk nx g s n).toNat
theorem wlk_none {nx : Nat → Int} {g : Nat} {s : Int} {n : Nat} (h : wlk nx g s n = -1) : ∀ d, wlk nx g s (n + d) = -1
  | 0 => h
  | d + 1 => by
    show (if wlk nx g s (n + d) = -1 then -1 else _) = _
    rw [if_pos (wlk_none h d)]
/-- each square that has a way has a next one, nearer -/
def stp (nx : Nat → Int) (L : Nat → Nat) (g : Nat) : Prop := ∀ s, s < 256 → L s < 1000000000 → s ≠ g → ∃ b : Nat, nx s = (b : Int) ∧ b < 256 ∧ L b < L s
theorem wlk_cnt {nx : Nat → Int} {L : Nat → Nat} {g s : Nat} (h : stp nx L g) (hs : s < 256) (hl : L s < 1000000000) : ∀ n, wlk nx g (s : Int) n ≠ -1 → ∃ a : Nat, wlk nx g (s : Int) n = (a : Int) ∧ a < 256 ∧ L a < 1000000000 ∧ n < fb_ct (fun q => decide (L a ≤ L q)) 256
  | 0, _ => ⟨s, rfl, hs, hl, fb_ct_pos.mpr ⟨s, hs, decide_eq_true (Nat.le_refl _)⟩⟩
  | n + 1, hne => by
    have e : wlk nx g (s : Int) (n + 1) = if wlk nx g (s : Int) n = -1 then -1 else if wlk nx g (s : Int) n = (g : Int) then -1 else nx (wlk nx g (s : Int) n).toNat := rfl
    by_cases c : wlk nx g (s : Int) n = -1
    · rw [e, if_pos c] at hne
      exact absurd rfl hne
    · obtain ⟨a, h1, h2, h3, h4⟩ := wlk_cnt h hs hl n c
      by_cases c2 : wlk nx g (s : Int) n = (g : Int)
      · rw [e, if_neg c, if_pos c2] at hne
        exact absurd rfl hne
      · obtain ⟨b, b1, b2, b3⟩ := h a h2 h3 (fun z => c2 (by rw [h1, z]))
        rw [e, if_neg c, if_neg c2, h1, Int.toNat_natCast]
        refine ⟨b, b1, b2, by omega, ?_⟩
        have := fb_lt (p := fun q => decide (L a ≤ L q)) (q := fun q => decide (L b ≤ L q)) (x := b) (decide_eq_false (by omega)) (decide_eq_true (Nat.le_refl _)) b2 (fun k _ z => decide_eq_true (by have := of_decide_eq_true z; omega))
        omega
theorem wlk_256 {nx : Nat → Int} {L : Nat → Nat} {g s : Nat} (h : stp nx L g) (hs : s < 256) (hl : L s < 1000000000) {i : Nat} (hi : 256 ≤ i) : wlk nx g (s : Int) i = -1 := by
  by_cases c : wlk nx g (s : Int) i = -1
  · exact c
  · obtain ⟨a, h1, h2, h3, h4⟩ := wlk_cnt h hs hl i c
    have := fb_ct_le (fun q => decide (L a ≤ L q)) 256
    omega
theorem nstk_some {bd : Nat → Nat → Int} {w : Nat → Nat → Nat} {L : Nat → Nat} {a k : Nat} (h : sok bd w L a k = true) : ∀ d, d ≤ 4 → 4 - d ≤ k → k < 4 → ∃ j, j < 4 ∧ sok bd w L a j = true ∧ nstk bd w L a d = bd a j
  | 0, _, h1, h2 => by omega
  | d + 1, h0, h1, h2 => by
    unfold nstk
    by_cases c : sok bd w L a (4 - (d + 1)) = true
    · rw [if_pos c]
      exact ⟨4 - (d + 1), by omega, c, rfl⟩
    · rw [if_neg c]
      have : k ≠ 4 - (d + 1) := fun z => c (by rw [← z]; exact h)
      exact nstk_some h d (by omega) (by omega) h2
theorem nst_stp {ed : Nat → Nat → Bool} {bd : Nat → Nat → Int} {w : Nat → Nat → Nat} {g : Nat} {L : Nat → Nat} (hg : gr ed w) (hL : tab ed w g L) (hs : ∀ a s, ed a s = true → ∃ k, k < 4 ∧ bd s k = (a : Int)) (hb : ∀ s k, s < 256 → k < 4 → bd s k = -1 ∨ (0 ≤ bd s k ∧ bd s k < 256)) (hw : ∀ s k, s < 256 → k < 4 → bd s k ≠ -1 → 1 ≤ w s (bd s k).toNat) : stp (nst bd w L) L g := by
  intro s hs2 hl hne
  rcases hL.2.2 s hl with z | ⟨a, h1, h2, h3⟩
  · exact absurd z hne
  · obtain ⟨k, hk, hbk⟩ := hs a s h1
    have hok : sok bd w L s k = true := by
      refine decide_eq_true ⟨by omega, ?_, ?_⟩
      · rw [hbk, Int.toNat_natCast]; exact h2
      · rw [hbk, Int.toNat_natCast]; omega
    obtain ⟨j, hj, hj2, hj3⟩ := nstk_some hok 4 (by omega) (by omega) hk
    have hj4 := of_decide_eq_true hj2
    have hb2 := (hb s j hs2 hj).resolve_left hj4.1
    have := hw s j hs2 hj hj4.1
    refine ⟨(bd s j).toNat, ?_, by omega, by omega⟩
    show nstk bd w L s 4 = _
    rw [hj3]
    omega
theorem S_stepOn (m : am_M) (Q : Option Value → am_M → Prop) (hW : WO m) (hg : ¬ m.1 87 6 = -1) (B : Nat) (hB : B ≤ 100000000) (hL : LB m B) (a : Nat) (ha : a < 256) (hl : ¬ m.1 88 a = -1) (h : Q (some (.int (iI (nst (cbs m) (cw m) (lvt m) a)))) m) : am_WP YL 100 0 0 0 [some (.ref 87), some (.int (iI (a : Int))), none, none] [] m Q := by
  refine B_X8_stepOn_0 m Q _ ?_
  have la := lv_v hL (by omega) ha hl
  have key : ∀ d, d ≤ 4 → nstk (cbs m) (cw m) (lvt m) a d = nst (cbs m) (cw m) (lvt m) a → am_WP YL 100 0 0 2 [some (.ref 87), some (.int (iI (a : Int))), some (.int (iI ((4 - d : Nat) : Int))), none] [] m Q := by
    intro d
    induction d with
    | zero =>
      intro _ he
      rw [← he] at h
      exact B_X8_stepOn_2 m Q _ _ ⟨fun _ => h, fun z => absurd (show (4 : Int32) ≤ iI ((4 - 0 : Nat) : Int) by decide) z⟩
    | succ d ih =>
      intro hd he
      obtain ⟨k, hk⟩ : ∃ k, k = 4 - (d + 1) := ⟨_, rfl⟩
      have hk4 : k < 4 := by omega
      have e0 : nstk (cbs m) (cw m) (lvt m) a (d + 1) = if sok (cbs m) (cw m) (lvt m) a k = true then cbs m a k else nstk (cbs m) (cw m) (lvt m) a d := by rw [hk]; rfl
      rw [← hk]
      have nx : sok (cbs m) (cw m) (lvt m) a k = false → am_WP YL 100 0 0 2 [some (.ref 87), some (.int (iI (a : Int))), some (.int (iI ((k : Int) + 1))), none] [] m Q := by
        intro z
        have := ih (by omega) (by rw [← he, e0, z]; rfl)
        rw [show ((4 - d : Nat) : Int) = (k : Int) + 1 by omega] at this
        exact this
      refine B_X8_stepOn_2 m Q _ _ ⟨fun z => absurd ((iI_le (a := 4) (by omega) (by omega) (by omega) (by omega)).mp z) (by omega), fun _ => S_beside m _ a k ha hk4 (B_X8_stepOn_16 m Q _ _ _ ?_)⟩
      have hcb := cbs_b m ha hk4
      rw [show (-1 : Int32) = iI (-1) from rfl, iI_eq (by omega) (by omega) (by omega) (by omega), iI_i1]
      refine ⟨fun z => nx (decide_eq_false (fun y => y.1 z)), fun z => ?_⟩
      have hcb := hcb.resolve_left z
      obtain ⟨b, hbe⟩ : ∃ b : Nat, cbs m a k = (b : Int) := ⟨(cbs m a k).toNat, by omega⟩
      have hb2 : b < 256 := by omega
      rw [hbe]
      have hok : sok (cbs m) (cw m) (lvt m) a k = decide (lv m b < 1000000000 ∧ lv m b + cw m a b = lv m a) := by
        unfold sok
        rw [hbe, Int.toNat_natCast, lvt_lt hb2, lvt_lt ha]
        exact decide_eq_decide.mpr ⟨fun y => y.2, fun y => ⟨by omega, y⟩⟩
      refine S_minutesFrom m _ b hb2 hg (B_X8_stepOn_27 m Q _ _ _ _ ?_)
      rw [iI_i1]
      refine ⟨fun y => nx (by rw [hok]; exact decide_eq_false (fun x => by have := x.1; rw [lv_n y] at this; omega)), fun y => ?_⟩
      have lb := lv_v hL (by omega) hb2 y
      have wb1 := cwi_b hW hb2 ha
      have ecw : (cw m a b : Int) = cwi m a b := by unfold cw; omega
      refine S_minutesFrom m _ b hb2 hg (B_X8_stepOn_36 m Q _ _ _ _ (S_stepCost m _ a b ha hb2 hW.h (B_X8_stepOn_45 m Q _ _ _ _ _ (S_minutesFrom m _ a ha hg (B_X8_stepOn_51 m Q _ _ _ _ _ ?_)))))
      have ecs : (m.1 6 b).toInt + (if 0 < (m.1 5 b).toInt - (m.1 5 a).toInt then ((m.1 5 b).toInt - (m.1 5 a).toInt) / 10 else 0) = (cw m a b : Int) := ecw.symm
      rw [ecs, lb.1, la.1, iI_add, iI_eq (by omega) (by omega) (by omega) (by omega), iI_i1]
      refine ⟨fun x => nx (by rw [hok]; exact decide_eq_false (fun w => by omega)), fun x => ?_⟩
      have e1 : sok (cbs m) (cw m) (lvt m) a k = true := by rw [hok]; exact decide_eq_true ⟨by omega, by omega⟩
      rw [← he, e0, if_pos e1, hbe] at h
      exact h
  have := key 4 (Nat.le_refl _) rfl
  exact this
theorem S_stepFrom (m : am_M) (Q : Option Value → am_M → Prop) (hW : WO m) (g : Nat) (hg2 : g < 256) (hgo : m.1 87 6 = iI (g : Int)) (B : Nat) (hB : B ≤ 100000000) (hL : LB m B) (hst : stp (nst (cbs m) (cw m) (lvt m)) (lvt m) g) (s : Nat) (hs : s < 256) (i : Int) (hbi : -2147483648 ≤ i ∧ i ≤ 2147483647)
    (h : Q (some (.int (iI (if 0 ≤ i ∧ lvt m s < 1000000000 then wlk (nst (cbs m) (cw m) (lvt m)) g (s : Int) i.toNat else -1)))) m) : am_WP YL 99 0 0 0 [some (.ref 87), some (.int (iI (s : Int))), some (.int (iI i)), none, none] [] m Q := by
  have hg : ¬ m.1 87 6 = -1 := by
    rw [hgo]
    intro z
    have := (iI_eq (b := -1) (by omega) (by omega) (by omega) (by omega)).mp z
    omega
  have lt0 := lvv_lt hL (by omega) hs
  refine B_X8_stepFrom_0 m Q _ _ ?_
  simp (disch := omega) only [iI_lit, iI_lt, iI_le]
  refine ⟨fun z => ?_, fun z => ⟨fun y => ?_, fun y => S_minutesFrom m _ s hs hg (B_X8_stepFrom_16 m Q _ _ _ ?_)⟩⟩
  · rw [if_neg (by omega)] at h
    exact h
  · by_cases c : lvt m s < 1000000000
    · rw [if_pos ⟨by omega, c⟩, wlk_256 hst hs c (by omega)] at h
      exact h
    · rw [if_neg (fun x => c x.2)] at h
      exact h
  · refine ⟨fun x => ?_, fun x => ?_⟩
    · have hl := lt0.mpr x
      rw [← lvt_lt hs] at hl
      rw [if_pos ⟨by omega, hl⟩] at h
      obtain ⟨i, rfl⟩ : ∃ n : Nat, i = n := ⟨i.toNat, by omega⟩
      rw [Int.toNat_natCast] at h
      have wb0 : ∀ n, wlk (nst (cbs m) (cw m) (lvt m)) g (s : Int) n = -1 ∨ ∃ a : Nat, wlk (nst (cbs m) (cw m) (lvt m)) g (s : Int) n = (a : Int) ∧ a < 256 ∧ lvt m a < 1000000000 := by
        intro n
        by_cases c : wlk (nst (cbs m) (cw m) (lvt m)) g (s : Int) n = -1
        · exact Or.inl c
        · obtain ⟨a, h1, h2, h3, _⟩ := wlk_cnt hst hs hl n c
          exact Or.inr ⟨a, h1, h2, h3⟩
      have := lp (N := i) (W := fun n (_ : Unit) => am_WP YL 99 0 0 27 [some (.ref 87), none, some (.int (iI (i : Int))), some (.int (iI (wlk (nst (cbs m) (cw m) (lvt m)) g (s : Int) n))), some (.int (iI (n : Int)))] [] m Q) (fun _ _ => True) (s := ()) trivial ?_ ?_
      · exact this
      · intro n _ hn _ ih
        have ih := ih () trivial
        refine B_X8_stepFrom_27 m Q _ _ _ ⟨fun w => absurd ((iI_le (by omega) (by omega) (by omega) (by omega)).mp w) (by omega), fun _ => ⟨fun w => ?_, fun w => ?_⟩⟩
        · rcases wb0 n with v | ⟨a, v1, v2, v3⟩
          · rw [v]
            have := wlk_none v (i - n)
            rw [show n + (i - n) = i by omega] at this
            rw [this] at h
            exact h
          · rw [v1] at w
            exact absurd ((iI_eq (b := -1) (by omega) (by omega) (by omega) (by omega)).mp w) (by omega)
        · rcases wb0 n with v | ⟨a, v1, v2, v3⟩
          · rw [v] at w
            exact absurd rfl w
          · have e1 : wlk (nst (cbs m) (cw m) (lvt m)) g (s : Int) (n + 1) = if (a : Int) = (g : Int) then -1 else nst (cbs m) (cw m) (lvt m) a := by
              show (if wlk (nst (cbs m) (cw m) (lvt m)) g (s : Int) n = -1 then -1 else if wlk (nst (cbs m) (cw m) (lvt m)) g (s : Int) n = (g : Int) then -1 else nst (cbs m) (cw m) (lvt m) (wlk (nst (cbs m) (cw m) (lvt m)) g (s : Int) n).toNat) = _
              rw [v1, if_neg (by omega), Int.toNat_natCast]
            rw [e1] at ih
            rw [v1, hgo, iI_eq (by omega) (by omega) (by omega) (by omega), iI_i1]
            refine ⟨fun u => ?_, fun u => ?_⟩
            · rw [if_neg u] at ih
              refine S_stepOn m _ hW hg B hB hL a v2 ?_ (B_X8_stepFrom_55 m Q _ _ _ ?_)
              · have := v3
                rw [lvt_lt v2] at this
                exact (lvv_lt hL (by omega) v2).mp this
              · rw [iI_i1]
                exact ih
            · rw [if_pos u] at ih
              exact ih
      · intro _ _
        exact B_X8_stepFrom_27 m Q _ _ _ ⟨fun _ => h, fun w => absurd ((iI_le (by omega) (by omega) (by omega) (by omega)).mpr (Int.le_refl _)) w⟩
    · rw [if_neg (fun w => by
        have := w.2
        rw [lvt_lt hs, lv_n x] at this
        omega)] at h
      exact h
