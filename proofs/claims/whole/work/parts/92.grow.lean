/-! ===== new cells ===== -/
def Gr (A : List Nat) (m m1 : am_M) : Prop := am_n m ≤ am_n m1 ∧ (∀ a, a < am_n m + 3 → m1.2.2.2.1 a = m.2.2.2.1 a) ∧ ∀ a, a < am_n m + 3 → a ∉ A → m1.1 a = m.1 a ∧ m1.2.1 a = m.2.1 a ∧ m1.2.2.1 a = m.2.2.1 a
theorem Gr.rf (A : List Nat) (m : am_M) : Gr A m m := ⟨Nat.le_refl _, fun _ _ => rfl, fun _ _ _ => ⟨rfl, rfl, rfl⟩⟩
theorem Gr.tr {A : List Nat} {m m1 m2 : am_M} (h1 : Gr A m m1) (h2 : Gr A m1 m2) : Gr A m m2 := by
  have n1 := h1.1
  refine ⟨Nat.le_trans h1.1 h2.1, fun a ha => (h2.2.1 a (by omega)).trans (h1.2.1 a ha), fun a ha hA => ?_⟩
  have x := h1.2.2 a ha hA
  have y := h2.2.2 a (by omega) hA
  exact ⟨y.1.trans x.1, y.2.1.trans x.2.1, y.2.2.trans x.2.2⟩
theorem Gr.sub {A B : List Nat} {m m1 : am_M} (h : Gr A m m1) (hs : ∀ a, a ∈ A → a ∈ B) : Gr B m m1 := ⟨h.1, h.2.1, fun a ha hB => h.2.2 a ha (fun z => hB (hs a z))⟩
theorem Gr.ar {A : List Nat} {m m1 : am_M} (h : Ar A m m1) : Gr A m m1 := ⟨by unfold am_n; rw [h.2]; exact Nat.le_refl _, fun a _ => by rw [h.2], fun a _ hA => h.1 a hA⟩
/-- what is written behind the cells there were -/
theorem Gr.far {A B : List Nat} {m m1 m2 : am_M} (h : Gr A m m1) (h2 : Ar B m1 m2) (hB : ∀ a, a ∈ B → a ∈ A ∨ am_n m + 3 ≤ a) : Gr A m m2 := by
  have n1 := h.1
  have e : am_n m2 = am_n m1 := h2.n
  refine ⟨by omega, fun a ha => by rw [h2.2]; exact h.2.1 a ha, fun a ha hA => ?_⟩
  have hb : a ∉ B := fun z => by
    rcases hB a z with w | w
    · exact hA w
    · omega
  have x := h2.1 a hb
  have y := h.2.2 a ha hA
  exact ⟨x.1.trans y.1, x.2.1.trans y.2.1, x.2.2.trans y.2.2⟩
theorem Gr.al (A : List Nat) (m : am_M) (kd : Nat × Nat) : Gr A m (am_al m kd) := by
  refine ⟨Nat.le_succ _, fun a ha => if_neg (by omega), fun a ha _ => ⟨?_, ?_, ?_⟩⟩
  · funext y
    exact if_neg (by omega)
  · funext y
    exact if_neg (by omega)
  · funext y
    exact if_neg (by omega)
theorem Gr.I {A : List Nat} {m m1 : am_M} (h : Gr A m m1) {a : Nat} (ha : a < am_n m + 3) (hA : a ∉ A) : m1.1 a = m.1 a := (h.2.2 a ha hA).1
theorem Gr.J {A : List Nat} {m m1 : am_M} (h : Gr A m m1) {a : Nat} (ha : a < am_n m + 3) (hA : a ∉ A) : m1.2.1 a = m.2.1 a := (h.2.2 a ha hA).2.1
theorem Gr.R {A : List Nat} {m m1 : am_M} (h : Gr A m m1) {a : Nat} (ha : a < am_n m + 3) (hA : a ∉ A) (j : Nat) : am_gR YL m1 a j = am_gR YL m a j := by
  unfold am_gR
  rw [(h.2.2 a ha hA).2.2]
theorem Gr.k {A : List Nat} {m m1 : am_M} (h : Gr A m m1) {a : Nat} (ha : a < am_n m + 3) : am_k YL m1 a = am_k YL m a := by
  unfold am_k
  rw [h.2.1 a ha]
theorem Gr.sq {A : List Nat} {m m1 : am_M} (h : Gr A m m1) {a : Nat} (ha : a + 1 < am_n m + 3) (hA : a ∉ A) (hs : sw_sq m a) : sw_sq m1 a := by
  unfold sw_sq at *
  rw [h.k (by omega), h.k ha, h.R (by omega) hA]
  exact hs
theorem Gr.en {A : List Nat} {m m1 : am_M} (h : Gr A m m1) {a : Nat} (ha : a < am_n m + 3) (hs : sw_en m a) : sw_en m1 a := by
  unfold sw_en at *
  rw [h.k ha]
  exact hs
theorem EnOK.gr {A : List Nat} {m m1 : am_M} (h : Gr A m m1) (hA : ∀ a, a ∈ A → a < 133) {e : Nat} (he : EnOK m e) : EnOK m1 e := by
  obtain ⟨h1, h2, h3, h4⟩ := he
  have n1 := h.1
  refine ⟨h.en h3 h1, h2, by omega, fun s hs => ?_⟩
  rw [h.R h3 (fun z => by have := hA e z; omega)] at hs
  have := h4 s hs
  exact ⟨h.sq this.2.2 (fun z => by have := hA s z; omega) this.1, this.2.1, by omega⟩
theorem BK.gr {A : List Nat} {m m1 : am_M} (h : Gr A m m1) (hn : 130 ≤ am_n m) (hA : ∀ a, a ∈ A → a < 133) (h35 : 35 ∉ A) (hB : BK m) : BK m1 := by
  intro i hi e he
  rw [h.R (by omega) h35] at he
  exact (hB i hi e he).gr h hA
theorem am_n_al (m : am_M) (kd : Nat × Nat) : am_n (am_al m kd) = am_n m + 1 := rfl
theorem S_newSq (m : am_M) (Q : Option Value → am_M → Prop) (hn : 130 ≤ am_n m) (h : ∀ m2, Gr [] m m2 → am_n m2 = am_n m + 2 → sw_sq m2 (am_n m + 3) → Q none m2) : am_WP YL 64 1 4 0 [some (.ref (am_n m + 3))] [] (am_al m (6, 0)) Q := by
  have y1 : YL.1 (am_n m + 3) 0 = none := yl_r hn 0
  refine N_sqInit (am_al m (6, 0)) Q (am_n m + 3) (al_k hn) (al_b _) (by rw [am_n_al]; omega) (by rw [am_n_al]; omega) y1 (h _ ?_ rfl ⟨?_, ?_, ?_, al_b _⟩)
  · have g1 : Gr [] m (am_al (am_al m (6, 0)) (21, 4)) := (Gr.al [] m (6, 0)).tr (Gr.al [] _ (21, 4))
    refine g1.far ((Ar.rf [am_n m + 3] _).pR (a := am_n m + 3) (List.mem_singleton.mpr rfl) _ _) (fun a ha => ?_)
    rw [List.mem_singleton.mp ha]
    exact Or.inr (Nat.le_refl _)
  · show am_k YL (am_al (am_al m (6, 0)) (21, 4)) (am_n m + 3) = (6, 0)
    rw [al_k_ne (by rw [am_n_al]; omega)]
    exact al_k hn
  · unfold am_gR
    rw [y1]
    show (am_pR (am_al (am_al m (6, 0)) (21, 4)) (am_n m + 3) 0 (some (am_n (am_al m (6, 0)) + 3))).2.2.1 (am_n m + 3) 0 = _
    rw [am_pR_at, if_pos rfl]
    rfl
  · show am_k YL (am_al (am_al m (6, 0)) (21, 4)) (am_n (am_al m (6, 0)) + 3) = (21, 4)
    exact al_k (by rw [am_n_al]; omega)
def Ent (m2 : am_M) (e : Nat) (k n t r : Int32) (o : Option Nat) : Prop := m2.1 e 0 = k ∧ m2.1 e 1 = n ∧ m2.1 e 2 = t ∧ m2.1 e 3 = r ∧ am_gR YL m2 e 4 = o
theorem en_mem {m : am_M} (hn : 130 ≤ am_n m) (k n t r : Int32) (o : Option Nat) (ho : ∀ s, o = some s → sw_sq m s ∧ 133 ≤ s ∧ s + 1 < am_n m + 3) :
    Gr [] m (am_pR (am_pI (am_pI (am_pI (am_pI (am_al m (1, 0)) (am_n m + 3) 0 k) (am_n m + 3) 1 n) (am_n m + 3) 2 t) (am_n m + 3) 3 r) (am_n m + 3) 4 o) ∧ EnOK (am_pR (am_pI (am_pI (am_pI (am_pI (am_al m (1, 0)) (am_n m + 3) 0 k) (am_n m + 3) 1 n) (am_n m + 3) 2 t) (am_n m + 3) 3 r) (am_n m + 3) 4 o) (am_n m + 3) ∧ Ent (am_pR (am_pI (am_pI (am_pI (am_pI (am_al m (1, 0)) (am_n m + 3) 0 k) (am_n m + 3) 1 n) (am_n m + 3) 2 t) (am_n m + 3) 3 r) (am_n m + 3) 4 o) (am_n m + 3) k n t r o := by
  have y4 : YL.1 (am_n m + 3) 4 = none := yl_r hn 4
  have g : Gr [] m (am_pR (am_pI (am_pI (am_pI (am_pI (am_al m (1, 0)) (am_n m + 3) 0 k) (am_n m + 3) 1 n) (am_n m + 3) 2 t) (am_n m + 3) 3 r) (am_n m + 3) 4 o) := by
    refine (Gr.al [] m (1, 0)).far (B := [am_n m + 3]) ?_ (fun a ha => ?_)
    · have mem : am_n m + 3 ∈ [am_n m + 3] := List.mem_singleton.mpr rfl
      exact (((((Ar.rf [am_n m + 3] (am_al m (1, 0))).pI mem 0 k).pI mem 1 n).pI mem 2 t).pI mem 3 r).pR mem 4 o
    · rw [List.mem_singleton.mp ha]
      exact Or.inr (Nat.le_refl _)
  have r4 : am_gR YL (am_pR (am_pI (am_pI (am_pI (am_pI (am_al m (1, 0)) (am_n m + 3) 0 k) (am_n m + 3) 1 n) (am_n m + 3) 2 t) (am_n m + 3) 3 r) (am_n m + 3) 4 o) (am_n m + 3) 4 = o := by
    unfold am_gR
    rw [y4]
    dsimp only
    rw [am_pR_at, if_pos rfl]
  refine ⟨g, ⟨⟨al_k (kd := (1, 0)) hn, al_b _⟩, by omega, ?_, fun s hs => ?_⟩, ?_, ?_, ?_, ?_, r4⟩
  · show am_n m + 3 < am_n m + 1 + 3
    omega
  · rw [r4] at hs
    obtain ⟨a, b, c⟩ := ho s hs
    exact ⟨g.sq c (List.not_mem_nil) a, b, by show s + 1 < am_n m + 1 + 3; omega⟩
  · show (am_pI (am_pI (am_pI (am_pI (am_al m (1, 0)) (am_n m + 3) 0 k) (am_n m + 3) 1 n) (am_n m + 3) 2 t) (am_n m + 3) 3 r).1 (am_n m + 3) 0 = k
    rw [am_pI_at, if_neg (by decide), am_pI_at, if_neg (by decide), am_pI_at, if_neg (by decide), am_pI_at, if_pos rfl]
  · show (am_pI (am_pI (am_pI (am_pI (am_al m (1, 0)) (am_n m + 3) 0 k) (am_n m + 3) 1 n) (am_n m + 3) 2 t) (am_n m + 3) 3 r).1 (am_n m + 3) 1 = n
    rw [am_pI_at, if_neg (by decide), am_pI_at, if_neg (by decide), am_pI_at, if_pos rfl]
  · show (am_pI (am_pI (am_pI (am_pI (am_al m (1, 0)) (am_n m + 3) 0 k) (am_n m + 3) 1 n) (am_n m + 3) 2 t) (am_n m + 3) 3 r).1 (am_n m + 3) 2 = t
    rw [am_pI_at, if_neg (by decide), am_pI_at, if_pos rfl]
  · show (am_pI (am_pI (am_pI (am_pI (am_al m (1, 0)) (am_n m + 3) 0 k) (am_n m + 3) 1 n) (am_n m + 3) 2 t) (am_n m + 3) 3 r).1 (am_n m + 3) 3 = r
    rw [am_pI_at, if_pos rfl]
theorem S_newEn (m : am_M) (Q : Option Value → am_M → Prop) (hn : 130 ≤ am_n m) (k n t r : Int32) (s : Nat) (hs : sw_sq m s ∧ 133 ≤ s ∧ s + 1 < am_n m + 3) (h : ∀ m2, Gr [] m m2 → am_n m2 = am_n m + 1 → EnOK m2 (am_n m + 3) → Ent m2 (am_n m + 3) k n t r (some s) → Q none m2) : am_WP YL 16 0 0 0 [some (.ref (am_n m + 3)), some (.int k), some (.int n), some (.int t), some (.int r), some (.ref s)] [] (am_al m (1, 0)) Q := by
  obtain ⟨a, b, c⟩ := en_mem hn k n t r (some s) (fun s' e => by cases e; exact hs)
  exact N_enInitR (am_al m (1, 0)) Q (am_n m + 3) (al_k hn) (al_b _) (yl_r hn 4) k n t r s (h _ a rfl b c)
theorem S_newEnN (m : am_M) (Q : Option Value → am_M → Prop) (hn : 130 ≤ am_n m) (k n t r : Int32) (h : ∀ m2, Gr [] m m2 → am_n m2 = am_n m + 1 → EnOK m2 (am_n m + 3) → Ent m2 (am_n m + 3) k n t r none → Q none m2) : am_WP YL 16 0 0 0 [some (.ref (am_n m + 3)), some (.int k), some (.int n), some (.int t), some (.int r), some .null] [] (am_al m (1, 0)) Q := by
  obtain ⟨a, b, c⟩ := en_mem hn k n t r none (fun s' e => by cases e)
  exact N_enInitN (am_al m (1, 0)) Q (am_n m + 3) (al_k hn) (al_b _) (yl_r hn 4) k n t r (h _ a rfl b c)
