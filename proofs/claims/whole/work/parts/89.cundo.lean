/-! ===== the class: undo; what fits once ===== -/
def Tl (m m1 : am_M) (tq sz : Nat) : Prop := Ag [97] m m1 ∧ m1.1 97 4 = iI (tq : Int) ∧ m1.1 97 5 = iI (sz : Int)
theorem S_cundo (m : am_M) (Q : Option Value → am_M → Prop) (hB : BK m) (hJ : JS m) (u : Int) (hu : m.1 34 3 = iI u) (tp tq sz : Nat) (ht : tp < 50) (hs : sz < 50) (h4 : m.1 97 4 = iI (tp : Int)) (h5 : m.1 97 5 = iI ((sz + 1 : Nat) : Int)) (hq : tq = (tp + 49) % 50)
    (hd : (m.1 98 tq = 0 ∧ ∃ i : Nat, i < 60 ∧ m.1 99 tq = iI (i : Int) ∧ ∀ m1, Tl m m1 tq sz → Q (some (.int 1)) (am_pR (am_pI m1 34 3 (iI (u + (0 - oI (am_gR YL m 35 i))))) 35 i none))
      ∨ (m.1 98 tq = 1 ∧ ∃ i : Nat, i < 60 ∧ m.1 99 tq = iI (i : Int) ∧ ∃ e, am_gR YL m 101 tq = some e ∧ sw_en m e ∧ ∀ m1, Tl m m1 tq sz → Q (some (.int 1)) (am_pR (am_pI m1 34 3 (iI (u + (1 - oI (am_gR YL m 35 i))))) 35 i (some e)))
      ∨ (m.1 98 tq = 2 ∧ ∃ i f : Nat, i < 60 ∧ m.1 99 tq = iI (i : Int) ∧ m.1 100 tq = iI (f : Int) ∧ cfo m (f : Int) = true ∧ ∀ m1 m2, Tl m m1 tq sz → Rn (am_pI m1 36 i (-1)) m2 f → Q (some (.int 1)) m2)
      ∨ (m.1 98 tq = 3 ∧ ∃ i E : Nat, i < 60 ∧ m.1 99 tq = iI (i : Int) ∧ E < 20 ∧ m.1 38 8 = iI ((E + 1 : Nat) : Int) ∧ ∀ m1, Tl m m1 tq sz → Q (some (.int 1)) (am_pI (am_pI m1 36 i (-1)) 38 8 (iI (E : Int))))
      ∨ (m.1 98 tq = 4 ∧ ∃ i f : Nat, i < 60 ∧ m.1 99 tq = iI (i : Int) ∧ m.1 100 tq = iI (f : Int) ∧ cfo m (f : Int) = true ∧ (∃ s, csq m (i : Int) = some s) ∧ ∀ m1 m2, Tl m m1 tq sz → Rn (am_pI m1 36 i (iI (f : Int))) m2 f → Q (some (.int 1)) m2)
      ∨ (m.1 98 tq = 5 ∧ ∃ f : Nat, m.1 99 tq = iI (f : Int) ∧ cfo m (f : Int) = true ∧ ∀ m1, Tl m m1 tq sz → Q (some (.int 1)) (am_pI m1 39 f 0))
      ∨ (m.1 98 tq = 6 ∧ ∃ C : Nat, C < 8 ∧ m.1 91 6 = iI ((C + 1 : Nat) : Int) ∧ ∀ m1, Tl m m1 tq sz → Q (some (.int 1)) (am_pI m1 91 6 (iI (C : Int))))
      ∨ (m.1 98 tq = 7 ∧ ∃ k : Nat, m.1 99 tq = iI (k : Int) ∧ cco m (k : Int) = true ∧ ∀ m1, Tl m m1 tq sz → Q (some (.int 1)) (am_pI m1 92 k (m.1 100 tq)))) :
    am_WP YL 146 0 0 0 [some (.ref 3), none, none] [] m Q := by
  refine B_X10_undo_0 m Q (S_takeLast m _ tp sz ht hs h4 h5 (fun m1 f1 a1 a2 => B_X10_undo_7 m1 Q _ ⟨fun _ => ?_, fun z => absurd z (by decide)⟩))
  rw [← hq] at a1
  have tl : Tl m m1 tq sz := ⟨f1, a1, a2⟩
  have tq50 : tq < 50 := by omega
  have ar : Ar [97] m m1 := Ar.ag f1 (fun _ z => z)
  have lt : ∀ a, a ∈ [97] → a < 133 := by decide
  have hB1 := hB.fr ar lt (by decide)
  have e98 := f1.I (show 98 ∉ [97] by decide)
  have e99 := f1.I (show 99 ∉ [97] by decide)
  have e100 := f1.I (show 100 ∉ [97] by decide)
  have hJ1 : ∀ f : Nat, f < 20 → ∀ j, j < 60 → m1.1 36 j = iI (f : Int) → ∃ s, csq m1 (j : Int) = some s := fun f hf j hj e => by
    rw [csq_fr ar lt (by decide) hB]
    rw [f1.I (by decide)] at e
    exact hJ.at f hf j hj e
  have cf1 : ∀ f : Int, cfo m1 f = cfo m f := fun f => by unfold cfo; rw [f1.I (by decide)]
  have hu1 : m1.1 34 3 = iI u := by rw [f1.I (by decide)]; exact hu
  refine S_hWhich m1 _ tq tq50 a1 (B_X10_undo_19 m1 Q _ (S_hOld m1 _ tq tq50 a1 (B_X10_undo_27 m1 Q _ _ (S_hAct m1 _ tq tq50 a1 (B_X10_undo_35 m1 Q _ _ _ ?_)))))
  rw [e98, e99, e100]
  have neg : ∀ f : Nat, f < 20 → (-1 : Int32) = iI (f : Int) → False := fun f hf e => by
    have := (iI_eq (a := -1) (b := (f : Int)) (by omega) (by omega) (by omega) (by omega)).mp (show iI (-1) = iI (f : Int) from e)
    omega
  have c20 : ∀ f : Nat, cfo m (f : Int) = true → f < 20 := fun f h => by have := of_decide_eq_true h; omega
  rcases hd with ⟨d0, i, hi, d1, k⟩ | ⟨d0, i, hi, d1, e, d2, d3, k⟩ | ⟨d0, i, f, hi, d1, d2, d3, k⟩ | ⟨d0, i, E, hi, d1, d2, d3, k⟩ | ⟨d0, i, f, hi, d1, d2, d3, d4, k⟩ | ⟨d0, f, d1, d3, k⟩ | ⟨d0, C, d1, d2, k⟩ | ⟨d0, kk, d1, d2, k⟩
  all_goals
    rw [d0]
    refine ⟨fun z => ?_, fun z => ?_, fun z => ?_, fun z => ?_, fun z => ?_, fun z => ?_, fun z => ?_, fun z => ?_⟩
    all_goals try (exact absurd z (by decide))
  · rw [d1]
    refine S_bputN m1 _ hB1 i hi u hu1 (B_X10_undo_85 _ Q ?_)
    rw [f1.R]
    exact k m1 tl
  · rw [d1]
    refine S_hEntry m1 _ tq tq50 a1 e (by rw [f1.R]; exact d2) (f1.en d3) (B_X10_undo_100r m1 Q _ e (f1.en d3) (S_bputE m1 _ hB1 i hi e (f1.en d3) u hu1 (B_X10_undo_103 _ Q ?_)))
    rw [f1.R]
    exact k m1 tl
  · rw [d1, d2]
    refine S_putFire m1 _ i hi _ (B_X10_undo_115 _ Q _ ?_)
    exact S_joined m1 Q hB1 i hi f (by rw [cf1]; exact d3) _ (fun j hj _ => hJ1 f (c20 f d3) j hj) (fun e => absurd (neg f (c20 f d3) e) id) (fun m2 => Rn (am_pI m1 36 i (-1)) m2 f) (fun m2 r => r) _ (fun m2 r => B_X10_undo_123 m2 Q (k m1 m2 tl r))
  · rw [d1]
    refine S_putFire m1 _ i hi _ (B_X10_undo_135 _ Q (S_fForget _ _ E d2 ?_ (B_X10_undo_142 _ Q (k m1 tl))))
    show m1.1 38 8 = _
    rw [f1.I (by decide)]
    exact d3
  · rw [d1, d2]
    refine S_putFire m1 _ i hi _ (B_X10_undo_154 _ Q _ ?_)
    exact S_joined m1 Q hB1 i hi f (by rw [cf1]; exact d3) _ (fun j hj _ => hJ1 f (c20 f d3) j hj) (fun _ => by rw [csq_fr ar lt (by decide) hB]; exact d4) (fun m2 => Rn (am_pI m1 36 i (iI (f : Int))) m2 f) (fun m2 r => r) _ (fun m2 r => B_X10_undo_162 m2 Q (k m1 m2 tl r))
  · rw [d1]
    exact S_putOut m1 _ f (by rw [cf1]; exact d3) 0 (Or.inl rfl) (B_X10_undo_174 _ Q (k m1 tl))
  · exact S_cForget m1 _ C d1 (by rw [f1.I (by decide)]; exact d2) (B_X10_undo_184 _ Q (k m1 tl))
  · rw [d1]
    refine S_stand m1 _ kk ?_ _ (B_X10_undo_196 _ Q (k m1 tl))
    unfold cco
    rw [f1.I (by decide)]
    exact d2
theorem S_cundoNo (m : am_M) (Q : Option Value → am_M → Prop) (h5 : m.1 97 5 = 0) (h : Q (some (.int 0)) m) : am_WP YL 146 0 0 0 [some (.ref 3), none, none] [] m Q :=
  B_X10_undo_0 m Q (S_takeLastNo m _ h5 (B_X10_undo_7 m Q _ ⟨fun z => absurd rfl z, fun _ => h⟩))
/-- the lowest of the first 20 -/
theorem S_lowestBit (m : am_M) (Q : Option Value → am_M → Prop) (n : Nat) (hn : n < 2 ^ 20) (h : Q (some (.int (iI (kth (fun i => n.testBit i) 0 20)))) m) : am_WP YL 158 0 0 0 [some (.int (iI (n : Int))), none] [] m Q := by
  refine B_X10_lowestBit_0 m Q _ ?_
  have := lp (N := 20) (W := fun k (_ : Unit) => am_WP YL 158 0 0 2 [some (.int (iI (n : Int))), some (.int (iI (k : Int)))] [] m Q) (fun k _ => fb_ct (fun i => n.testBit i) k = 0) (s := ()) rfl ?_ ?_
  · exact this
  · intro k _ hk hI ih
    have ih := ih ()
    refine B_X10_lowestBit_2 m Q _ _ ⟨fun z => absurd ((iI_le (a := 20) (by omega) (by omega) (by omega) (by omega)).mp z) (by omega), fun _ => ?_⟩
    rw [iI_tb (by omega) (by omega), iI_i1]
    refine ⟨fun z => ih (by rw [fb_ct_succ, hI, z]; rfl), fun z => ?_⟩
    have z : n.testBit k = true := by
      cases c : n.testBit k
      · exact absurd c z
      · rfl
    rw [kth_at (p := fun i => n.testBit i) (k := 0) (q := k) z (by rw [hI]; rfl) hk] at h
    exact h
  · intro _ hI
    have : kth (fun i => n.testBit i) 0 20 = -1 := kth_no (fun q hq hp e => by
      have a := fb_ct_mono (fun i => n.testBit i) (show q + 1 ≤ 20 by omega)
      rw [fb_ct_succ, hI, hp] at a
      have : (if true = true then 1 else 0) = 1 := rfl
      omega)
    rw [this] at h
    exact B_X10_lowestBit_2 m Q _ _ ⟨fun _ => h, fun z => absurd (show (20 : Int32) ≤ iI ((20 : Nat) : Int) by decide) z⟩
def one1 (m : am_M) (E : Nat) (i : Nat) : Bool := decide (fb_ct (fun k => (fmk (cfp m (i : Int)) E).testBit k) 32 = 1)
theorem S_firstOne (m : am_M) (Q : Option Value → am_M → Prop) (hB : BK m) (hJB : JB m) (E : Nat) (hE : E ≤ 20) (h8 : m.1 38 8 = iI (E : Int)) (h : Q (some (.int (iI (kth (one1 m E) 0 60)))) m) : am_WP YL 157 0 0 0 [some (.ref 3), none] [] m Q := by
  refine B_X10_firstOfOneFit_0 m Q ?_
  have := lp (N := 60) (W := fun k (_ : Unit) => am_WP YL 157 0 0 2 [some (.ref 3), some (.int (iI (k : Int)))] [] m Q) (fun k _ => fb_ct (one1 m E) k = 0) (s := ()) rfl ?_ ?_
  · exact this
  · intro k _ hk hI ih
    have ih := ih ()
    have lt := fmk_lt (cfp m (k : Int)) E
    have p20 : 2 ^ E ≤ 2 ^ 20 := Nat.pow_le_pow_right (by decide) hE
    refine B_X10_firstOfOneFit_2 m Q _ ⟨fun z => absurd ((iI_le (a := 60) (by omega) (by omega) (by omega) (by omega)).mp z) (by omega), fun _ => S_fitting m _ hB hJB E hE h8 k (by omega) (B_X10_firstOfOneFit_16 m Q _ _ (S_pop32 m _ _ (by omega) (B_X10_firstOfOneFit_19 m Q _ _ ?_)))⟩
    have c32 := fb_ct_le (fun i => (fmk (cfp m (k : Int)) E).testBit i) 32
    rw [show (1 : Int32) = iI 1 from rfl, iI_eq (by omega) (by omega) (by omega) (by omega), iI_add]
    refine ⟨fun z => ih (by rw [fb_ct_succ, hI]; unfold one1; rw [decide_eq_false (by omega)]; rfl), fun z => ?_⟩
    rw [kth_at (p := one1 m E) (k := 0) (q := k) (decide_eq_true (by omega)) (by rw [hI]; rfl) hk] at h
    exact h
  · intro _ hI
    have : kth (one1 m E) 0 60 = -1 := kth_no (fun q hq hp e => by
      have a := fb_ct_mono (one1 m E) (show q + 1 ≤ 60 by omega)
      rw [fb_ct_succ, hI, hp] at a
      have : (if true = true then 1 else 0) = 1 := rfl
      omega)
    rw [this] at h
    exact B_X10_firstOfOneFit_2 m Q _ ⟨fun _ => h, fun z => absurd (show (60 : Int32) ≤ iI ((60 : Nat) : Int) by decide) z⟩
