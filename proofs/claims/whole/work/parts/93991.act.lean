/-! ===== acts: the frame of each ===== -/
theorem Wd.fe {m m2 : am_M} (e5 : m2.1 5 = m.1 5) (e6 : m2.1 6 = m.1 6) (e8 : m2.2.1 8 = m.2.1 8) (e110 : m2.1 110 = m.1 110) (e111 : m2.1 111 = m.1 111) (e112 : m2.1 112 = m.1 112) (hW : Wd m) : Wd m2 := by
  have et : ∀ q, mt m2 q = mt m q := fun q => by unfold mt mth; rw [e110]
  obtain ⟨w1, w2, w3, w4, w5⟩ := hW
  refine ⟨?_, ?_, fun q hq => by rw [e8, et]; exact w3 q hq, by rw [e5, e111]; exact w4, by rw [e6, e112]; exact w5⟩
  · unfold WO at w1 ⊢
    rw [e5, e6, e8]
    exact w1
  · unfold MW ML at w2 ⊢
    rw [e110, e111, e112]
    exact ⟨w2.1, w2.2.1, fun k hk z => w2.2.2.1 k hk (by rw [← et]; exact z), w2.2.2.2⟩
def UU : List Nat := [97, 98, 99, 100, 101, 109, 115, 116, 117, 118, 119, 124, 125]
theorem Kept.ar {mk m1 m2 : am_M} {tp sz : Nat} {a w o : Int32} {x : Option Nat} (hk : Kept mk m1 tp sz a w o x) (f2 : Fm [115, 116, 117, 118, 119, 124, 125] [6, 7, 8, 13, 14] m1 m2) : Ar UU mk m2 := (hk.1.sub (by decide)).tr (Ar.fm f2 (by decide) (by decide))
theorem Kept.fr {T : List Nat} {m mk m1 : am_M} {tp sz : Nat} {a w o : Int32} {x : Option Nat} (gk : Gr T m mk) (hn : 130 ≤ am_n m) (hk : Kept mk m1 tp sz a w o x) (b : Nat) (hb : b < 133) (h1 : b ∉ T) (h2 : b ∉ [97, 98, 99, 100, 101]) : m1.1 b = m.1 b ∧ m1.2.1 b = m.2.1 b := by
  rw [hk.1.I h2, hk.1.J h2]
  exact ⟨gk.I (by omega) h1, gk.J (by omega) h1⟩
def KT : List Nat := [0, 1, 5, 6, 8, 37, 87, 88, 90, 93, 97, 98, 99, 100, 101, 109, 110, 111, 112, 115, 116, 117, 118, 126, 132]
theorem Inv.act {T : List Nat} {m mk m1 m2 : am_M} {n E C tp sz lt E' C' : Nat} {a w o : Int32} {x : Option Nat} (i1 : Wd m) (i2 : LK m) (i4 : RN m E C) (i5 : WC m) (i6 : ∀ f, f < 20 → m.1 93 f = m.1 126 f) (i7 : ∀ i, i < 60 → m.1 37 i = m.1 132 i) (i8 : 130 ≤ am_n m) (i9 : Hist m tp sz lt (core m E C))
    (gk : Gr T m mk) (hT : ∀ a, a ∈ T → a < 133) (hK : ∀ a, a ∈ KT → a ∉ T) (hk : Kept mk m1 tp sz a w o x) (f2 : Fm [115, 116, 117, 118, 119, 124, 125] [6, 7, 8, 13, 14] m1 m2) (ha : Acted m1 m2 lt sz)
    (tw : Tw m2 n) (rn : RN m2 E' C') (dv : DV a w o x (core m2 E' C')) (ce : Ce (Un a w o x (core m2 E' C')) (core m E C)) : Inv m2 := by
  have ar := hk.ar f2
  have I : ∀ b, b ∈ KT → b < 133 → b ∉ UU → m2.1 b = m.1 b := fun b h1 h2 h3 => by rw [ar.I h3, gk.I (by omega) (hK b h1)]
  have J : ∀ b, b ∈ KT → b < 133 → b ∉ UU → m2.2.1 b = m.2.1 b := fun b h1 h2 h3 => by rw [ar.J h3, gk.J (by omega) (hK b h1)]
  have e5 := I 5 (by decide) (by decide) (by decide)
  have e6 := I 6 (by decide) (by decide) (by decide)
  have e8 := J 8 (by decide) (by decide) (by decide)
  have L : ∀ b, b ∈ KT → b < 133 → mk.1 b = m.1 b := fun b h1 h2 => gk.I (by omega) (hK b h1)
  refine ⟨n, E', C', _, _, _, i1.fe e5 e6 e8 (I 110 (by decide) (by decide) (by decide)) (I 111 (by decide) (by decide) (by decide)) (I 112 (by decide) (by decide) (by decide)), ?_, tw, rn, i5.fe e5 e6 e8 (I 87 (by decide) (by decide) (by decide)) (I 88 (by decide) (by decide) (by decide)) (I 90 (by decide) (by decide) (by decide)), ?_, ?_, ?_, Hist.act (A := T ++ UU) i9 i4.1 i8 (L 98 (by decide) (by decide)) (L 99 (by decide) (by decide)) (L 100 (by decide) (by decide)) (fun j => gk.R (by omega) (hK 101 (by decide)) j) hk (f2.1 98 (by decide) (by decide)) (f2.1 99 (by decide) (by decide)) (f2.1 100 (by decide) (by decide)) (fun j => f2.R 101 j) (f2.1 97 (by decide) (by decide)) (hk.fr gk i8 115 (by decide) (hK 115 (by decide)) (by decide)).1 (hk.fr gk i8 116 (by decide) (hK 116 (by decide)) (by decide)).2 (hk.fr gk i8 117 (by decide) (hK 117 (by decide)) (by decide)).1 (hk.fr gk i8 118 (by decide) (hK 118 (by decide)) (by decide)).2 ha ?_ ?_ ?_ dv ce⟩
  · unfold LK at i2 ⊢
    rw [I 0 (by decide) (by decide) (by decide), I 1 (by decide) (by decide) (by decide)]
    exact i2
  · rw [I 93 (by decide) (by decide) (by decide), I 126 (by decide) (by decide) (by decide)]
    exact i6
  · rw [I 37 (by decide) (by decide) (by decide), I 132 (by decide) (by decide) (by decide)]
    exact i7
  · rw [ar.n]
    exact Nat.le_trans i8 gk.1
  · exact (gk.sub (fun a z => List.mem_append.mpr (Or.inl z))).tr (Gr.ar (ar.sub (fun a z => List.mem_append.mpr (Or.inr z))))
  · intro b hb
    rcases List.mem_append.mp hb with z | z
    · exact hT b z
    · exact (show ∀ b, b ∈ UU → b < 133 by decide) b z
  · intro z
    rcases List.mem_append.mp z with z | z
    · exact hK 8 (by decide) z
    · revert z
      decide
theorem Tw.act {T : List Nat} {m mk m2 : am_M} {n : Nat} (i3 : Tw m n) (i8 : 130 ≤ am_n m) (gk : Gr T m mk) (hT : ∀ a, a ∈ [5, 8, 9, 10, 11, 12, 17, 19, 21, 23, 25, 27, 29, 31, 33, 113, 114] → a ∉ T) (ar : Ar UU mk m2) (h5 : m2.1 109 5 = m.1 109 5) : Tw m2 n := by
  have I : ∀ b, b ∈ [5, 8, 9, 10, 11, 12, 17, 19, 21, 23, 25, 27, 29, 31, 33, 113, 114] → b < 133 → b ∉ UU → m2.1 b = m.1 b := fun b h1 h2 h3 => by rw [ar.I h3, gk.I (by omega) (hT b h1)]
  have J : ∀ b, b ∈ [5, 8, 9, 10, 11, 12, 17, 19, 21, 23, 25, 27, 29, 31, 33, 113, 114] → b < 133 → b ∉ UU → m2.2.1 b = m.2.1 b := fun b h1 h2 h3 => by rw [ar.J h3, gk.J (by omega) (hT b h1)]
  refine i3.fr (I 5 (by decide) (by decide) (by decide)) (J 8 (by decide) (by decide) (by decide)) (I 9 (by decide) (by decide) (by decide)) (I 10 (by decide) (by decide) (by decide)) (I 11 (by decide) (by decide) (by decide)) (I 12 (by decide) (by decide) (by decide)) (J 17 (by decide) (by decide) (by decide)) (fun t ht => ?_) (I 113 (by decide) (by decide) (by decide)) (I 114 (by decide) (by decide) (by decide)) h5
  refine J _ ?_ (by omega) ?_
  · revert t
    decide
  · revert t
    decide
theorem PlOK.s {m : am_M} {o : Option Nat} {S S' : Nat → Int32} {Z Z' : Nat → Int64} {i : Nat} (h : PlOK m o S Z i) (hS : ∀ k, (k = i ∨ k = 60 + i ∨ k = 120 + i ∨ k = 240 + i) → S' k = S k) (hZ : ∀ w, w < 4 → Z' (4 * i + w) = Z (4 * i + w)) : PlOK m o S' Z' i := by
  unfold PlOK at h ⊢
  cases o with
  | none =>
    dsimp only at h ⊢
    rw [hS i (Or.inl rfl)]
    exact h
  | some e =>
    dsimp only at h ⊢
    rw [hS i (Or.inl rfl), hS (60 + i) (Or.inr (Or.inl rfl)), hS (120 + i) (Or.inr (Or.inr (Or.inl rfl))), hS (240 + i) (Or.inr (Or.inr (Or.inr rfl)))]
    obtain ⟨p0, p1, p2, p3, p4, p5, p6, p7, p8⟩ := h
    refine ⟨p0, p1, p2, p3, p4, p5, p6, p7, fun s hs q hq => ?_⟩
    rw [wb4 (fun w hw => hZ w hw) hq]
    exact p8 s hs q hq
theorem has_gr {T : List Nat} {m m2 : am_M} (g : Gr T m m2) (hT : ∀ a, a ∈ T → a < 133) (hB : BK m) {i q : Nat} (hi : i < 60) (e : am_gR YL m2 35 i = am_gR YL m 35 i) : has m2 i q = has m i q := by
  unfold has csq
  rw [cent_n m hi, cent_n m2 hi, e]
  cases hr : am_gR YL m 35 i with
  | none => rfl
  | some x =>
    have b := hB i hi x hr
    dsimp only
    rw [g.R b.2.2.1 (fun z => by have := hT x z; have := b.2.1; omega)]
    cases hx : am_gR YL m x 4 with
    | none => rfl
    | some s =>
      have sb := b.2.2.2 s hx
      dsimp only
      rw [g.J sb.2.2 (fun z => by have := hT _ z; omega)]
theorem pat_e {m m2 : am_M} {F : Int32} (h1 : ∀ k, k < 60 → (m2.1 36 k = F ↔ m.1 36 k = F)) : cnt m2 F = cnt m F ∧ ∀ q, (∀ k, k < 60 → m.1 36 k = F → has m2 k q = has m k q) → pat m2 F q = pat m F q := by
  have ec : cnt m2 F = cnt m F := fb_ct_cong (fun k hk => decide_eq_decide.mpr (h1 k hk))
  refine ⟨ec, fun q h2 => ?_⟩
  have ep : ∀ k, k ≤ 60 → pa m2 F k q = pa m F k q := by
    intro k
    induction k with
    | zero => exact fun _ => rfl
    | succ k ih =>
      intro hk
      show (pa m2 F k q && (!decide (m2.1 36 k = F) || has m2 k q)) = (pa m F k q && (!decide (m.1 36 k = F) || has m k q))
      rw [ih (by omega), decide_eq_decide.mpr (h1 k (by omega))]
      by_cases c : m.1 36 k = F
      · rw [h2 k (by omega) c]
      · rw [decide_eq_false c, Bool.not_false, Bool.true_or, Bool.true_or]
  unfold pat
  rw [ec, ep 60 (Nat.le_refl _)]
theorem iIn {f : Nat} (hf : f < 21) : ¬ iI (f : Int) = -1 := fun z => by
  have := (iI_eq (a := (f : Int)) (b := -1) (by omega) (by omega) (by omega) (by omega)).mp (show iI (f : Int) = iI (-1) from z)
  omega
theorem iIi {f g : Nat} (hf : f < 1000) (hg : g < 1000) (h : iI (f : Int) = iI (g : Int)) : f = g := by
  have := (iI_eq (by omega) (by omega) (by omega) (by omega)).mp h
  omega
/-- counts and patches behind an act: one fire alone may have changed -/
theorem RN.tail {T : List Nat} {m m2 : am_M} {E C E' : Nat} (hR : RN m E C) (g : Gr T m m2) (hT : ∀ a, a ∈ T → a < 133) (f0 : Nat)
    (h35 : ∀ i, i < 60 → ¬ m.1 36 i = -1 → am_gR YL m2 35 i = am_gR YL m 35 i)
    (h36 : ∀ f, f < E' → f ≠ f0 → ∀ k, k < 60 → (m2.1 36 k = iI (f : Int) ↔ m.1 36 k = iI (f : Int)))
    (h41 : ∀ f, f < E' → f ≠ f0 → m2.1 41 f = m.1 41 f) (h48 : ∀ f, f < E' → f ≠ f0 → m2.2.1 (48 + 2 * f) = m.2.1 (48 + 2 * f)) (hE : ∀ f, f < E' → f ≠ f0 → f < E)
    (x41 : f0 < E' → m2.1 41 f0 = iI (cnt m2 (iI (f0 : Int)) : Int)) (x48 : f0 < E' → ∀ q, q < 256 → wb (m2.2.1 (48 + 2 * f0)) q = pat m2 (iI (f0 : Int)) q) :
    (∀ f, f < E' → m2.1 41 f = iI (cnt m2 (iI (f : Int)) : Int)) ∧ ∀ f, f < E' → ∀ q, q < 256 → wb (m2.2.1 (48 + 2 * f)) q = pat m2 (iI (f : Int)) q := by
  have hE20 := hR.1.ever.1
  refine ⟨fun f hf => ?_, fun f hf q hq => ?_⟩
  · by_cases c : f = f0
    · subst c
      exact x41 hf
    · rw [h41 f hf c, (pat_e (h36 f hf c)).1]
      exact hR.2.2.2.2.1 f (hE f hf c)
  · by_cases c : f = f0
    · subst c
      exact x48 hf q hq
    · have fe := hE f hf c
      rw [h48 f hf c, (pat_e (h36 f hf c)).2 q (fun k hk e => has_gr g hT hR.bk hk (h35 k hk (fun z => iIn (show f < 21 by omega) (by rw [← e]; exact z))))]
      exact hR.2.2.2.2.2 f fe q hq
