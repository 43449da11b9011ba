/-! ===== what is seen: one word for both ===== -/
theorem bz {b : Bool} {A B : Prop} (h0 : b = false → A) (h1 : b = true → B) : (bI b = 0 → A) ∧ (¬ bI b = 0 → B) := by
  cases b
  · exact ⟨fun _ => h0 rfl, fun z => absurd rfl z⟩
  · exact ⟨fun z => absurd z (by decide), fun _ => h1 rfl⟩
theorem bz' {b : Bool} {A B : Prop} (h0 : b = false → A) (h1 : b = true → B) : (¬ bI b = 0 → B) ∧ (bI b = 0 → A) := ⟨(bz h0 h1).2, (bz h0 h1).1⟩
noncomputable def fh (th : Nat → Bool) (hg : Nat → Int) (f : Nat) (up : Int) (t : Nat) : Int := hd_v f t (Classical.epsilon (fun res => hd_is (hd_R f t) (hd_C f t) (hd_h th hg f t (hg f + up) (hg t - (hg f + up))) res))
theorem fh_eq {th : Nat → Bool} {hg : Nat → Int} {f t : Nat} {up : Int} {res : Option (Nat × Nat)} (h : hd_is (hd_R f t) (hd_C f t) (hd_h th hg f t (hg f + up) (hg t - (hg f + up))) res) : fh th hg f up t = hd_v f t res := by
  unfold fh
  rw [hd_uniq (Classical.epsilon_spec (p := fun res => hd_is (hd_R f t) (hd_C f t) (hd_h th hg f t (hg f + up) (hg t - (hg f + up))) res) ⟨res, h⟩) h]
theorem hd_vb {f t R C : Nat} {hid : Nat → Nat → Bool} {res : Option (Nat × Nat)} (hf : f < 256) (ht : t < 256) (hR : R = hd_R f t) (hC : C = hd_C f t) (h : hd_is R C hid res) : -1 ≤ hd_v f t res ∧ hd_v f t res ≤ 255 := by
  subst hR hC
  match res, h with
  | none, _ => exact ⟨Int.le_refl _, by show (-1 : Int) ≤ 255; decide⟩
  | some (i, j), h =>
    have := hd_qb hf ht h.1.1 h.1.2.1
    show -1 ≤ hd_q f t i j ∧ hd_q f t i j ≤ 255
    omega
theorem hd_icong {R C : Nat} {h1 h2 : Nat → Nat → Bool} (h : ∀ i j, hd_ok R C i j → h1 i j = h2 i j) : ∀ {res : Option (Nat × Nat)}, hd_is R C h1 res → hd_is R C h2 res
  | none, z => fun i j hk => by rw [← h i j hk]; exact z i j hk
  | some (i, j), z => ⟨z.1, by rw [← h i j z.1]; exact z.2.1, fun i' j' hk hz => z.2.2 i' j' hk (by rw [h i' j' hk]; exact hz)⟩
theorem fh_cong {th th' : Nat → Bool} {hg hg' : Nat → Int} {f t : Nat} {up : Int} (hf : f < 256) (ht : t < 256) (h1 : ∀ k, k < 256 → th k = th' k) (h2 : ∀ k, k < 256 → hg k = hg' k) : fh th hg f up t = fh th' hg' f up t := by
  have e : ∀ i j, hd_ok (hd_R f t) (hd_C f t) i j → hd_h th hg f t (hg f + up) (hg t - (hg f + up)) i j = hd_h th' hg' f t (hg' f + up) (hg' t - (hg' f + up)) i j := by
    intro i j hk
    have q := hd_qb hf ht hk.1 hk.2.1
    unfold hd_h
    rw [h1 _ (show (hd_q f t i j).toNat < 256 by omega), h2 _ (show (hd_q f t i j).toNat < 256 by omega), h2 f hf, h2 t ht]
  unfold fh
  congr 2
  funext res
  exact propext ⟨hd_icong e, hd_icong (fun i j hk => (e i j hk).symm)⟩
noncomputable def cf (m : am_M) (f : Nat) (up : Int) (t : Nat) : Int := fh (wb (m.2.1 8)) (fun k => (m.1 5 k).toInt) f up t
noncomputable def mf (m : am_M) (f : Nat) (up : Int) (t : Nat) : Int := fh (fun k => mth m ((k / 16 : Nat) : Int) ((k % 16 : Nat) : Int)) (fun k => (m.1 111 k).toInt) f up t
theorem S_fh (m : am_M) (Q : Option Value → am_M → Prop) (f t : Nat) (hf : f < 256) (ht : t < 256) (up : Int) (hu : up.natAbs ≤ 100) (hh : ∀ k, k < 256 → ((m.1 5 k).toInt).natAbs ≤ 3000)
    (h : -1 ≤ cf m f up t → cf m f up t ≤ 255 → Q (some (.int (iI (cf m f up t)))) m) :
    am_WP YL 109 0 0 0 [some (.ref 4), some (.int (iI (f : Int))), some (.int (iI up)), some (.int (iI (t : Int))), none, none, none, none, none, none, none, none, none, none, none, none, none, none, none, none, none, none] [] m Q := by
  refine S_firstHider m Q f t hf ht up hu hh (fun res hres => ?_)
  have e : cf m f up t = hd_v f t res := fh_eq (hg := fun k => (m.1 5 k).toInt) hres
  have b := hd_vb hf ht rfl rfl hres
  rw [e] at h
  exact h b.1 b.2
theorem hb_jump {f t : Nat} {hid : Nat → Nat → Bool} {x y l4 l5 : Int} (h : hb_I f t hid x l4 l5) (hj : ∀ i j, i ≤ hd_R f t → j ≤ hd_C f t → hd_q f t i j < y → hd_q f t i j < x) : hb_I f t hid y l4 l5 := ⟨fun i j hk c hx => h.1 i j hk c (hj i j hk.1 hk.2.1 hx), h.2⟩
theorem hd_qbox {f t i j : Nat} (hi : i ≤ hd_R f t) (hj : j ≤ hd_C f t) : ∃ a b : Int, hd_q f t i j = 16 * a + b ∧ ((((f / 16 : Nat) : Int) ≤ a ∧ a ≤ ((t / 16 : Nat) : Int)) ∨ (((t / 16 : Nat) : Int) ≤ a ∧ a ≤ ((f / 16 : Nat) : Int))) ∧ ((((f % 16 : Nat) : Int) ≤ b ∧ b ≤ ((t % 16 : Nat) : Int)) ∨ (((t % 16 : Nat) : Int) ≤ b ∧ b ≤ ((f % 16 : Nat) : Int))) := by
  unfold hd_R at hi
  unfold hd_C at hj
  unfold hd_q
  have ef : (f : Int) / 16 = ((f / 16 : Nat) : Int) := rfl
  have et : (t : Int) / 16 = ((t / 16 : Nat) : Int) := rfl
  have gf : (f : Int) % 16 = ((f % 16 : Nat) : Int) := rfl
  have gt : (t : Int) % 16 = ((t % 16 : Nat) : Int) := rfl
  rw [ef, et] at hi
  rw [gf, gt] at hj
  rw [ef, et, gf, gt]
  generalize f / 16 = a at *
  generalize f % 16 = b at *
  generalize t / 16 = c at *
  generalize t % 16 = d at *
  clear ef et gf gt
  refine ⟨(a : Int) + (if (c : Int) - (a : Int) < 0 then - (i : Int) else (i : Int)), (b : Int) + (if (d : Int) - (b : Int) < 0 then - (j : Int) else (j : Int)), ?_, ?_, ?_⟩
  · omega
  · split <;> omega
  · split <;> omega
theorem S_bRow (m : am_M) (Q : Option Value → am_M → Prop) (f t : Nat) (hf : f < 256) (ht : t < 256) (eye rise : Int) (he : eye.natAbs ≤ 3200) (hr : rise.natAbs ≤ 6400) (hh : ∀ k, k < 256 → ((m.1 111 k).toInt).natAbs ≤ 3000)
    (T B Lf Rt : Nat) (hB : B ≤ 15) (hRt : Rt ≤ 15) (hby : ∀ r, T ≤ r → r ≤ B → (f / 16 ≤ r ∧ r ≤ t / 16) ∨ (t / 16 ≤ r ∧ r ≤ f / 16)) (hbx : ∀ c, Lf ≤ c → c ≤ Rt → (f % 16 ≤ c ∧ c ≤ t % 16) ∨ (t % 16 ≤ c ∧ c ≤ f % 16)) (hLR : Lf ≤ Rt)
    (hbox : ∀ i j, i ≤ hd_R f t → j ≤ hd_C f t → ∃ a b : Int, hd_q f t i j = 16 * a + b ∧ (T : Int) ≤ a ∧ a ≤ (B : Int) ∧ (Lf : Int) ≤ b ∧ b ≤ (Rt : Int))
    (k : ∀ m1 l4 l5, FrL m m1 → hb_I f t (hb_h m f t eye rise) 256 l4 l5 → Q (some (.int (iI l4))) m1) :
    ∀ (d r : Nat) (m1 : am_M) (l4 l5 : Int), r + d = B + 1 → T ≤ r → FrL m m1 → hb_I f t (hb_h m f t eye rise) (16 * (r : Int) + (Lf : Int)) l4 l5 →
      am_WP YL 170 0 0 91 (hb_L f t l4 l5 eye rise B Lf Rt r none none none) [] m1 Q := by
  intro d
  induction d with
  | zero =>
    intro r m1 l4 l5 hr0 hT fr hI
    have hb := hb_b hf ht hI
    refine B_X11_barred_91 m1 Q _ _ _ _ _ _ _ _ _ _ ?_
    rw [iI_lt (by omega) (by omega) (by omega) (by omega)]
    refine ⟨fun _ => k m1 l4 l5 fr (hb_jump hI (fun i j hi hj hx => ?_)), fun z => by omega⟩
    obtain ⟨a, b, e, h1, h2, h3, h4⟩ := hbox i j hi hj
    omega
  | succ d ih =>
    intro r m1 l4 l5 hr0 hT fr hI
    have hb := hb_b hf ht hI
    have hrr := hby r hT (by omega)
    refine B_X11_barred_91 m1 Q _ _ _ _ _ _ _ _ _ _ ?_
    rw [iI_lt (by omega) (by omega) (by omega) (by omega)]
    refine ⟨fun z => by omega, fun _ => ?_⟩
    refine S_bCol m Q f t hf ht eye rise he hr hh B Lf Rt r hB (by omega) hrr hRt hbx ?_ (Rt + 1 - Lf) Lf m1 l4 l5 (by omega) (Nat.le_refl _) fr hI
    intro m2 x4 x5 fr2 hI2
    have := ih (r + 1) m2 x4 x5 (by omega) (by omega) fr2 (hb_jump hI2 (fun i j hi hj hx => by
      obtain ⟨a, b, e, h1, h2, h3, h4⟩ := hbox i j hi hj
      clear hrr hr0
      have : a ≤ (r : Int) := by omega
      omega))
    exact this
theorem hd_rc0 (f : Nat) : hd_R f f = 0 ∧ hd_C f f = 0 := by
  unfold hd_R hd_C
  constructor <;> omega
theorem S_barred (m : am_M) (Q : Option Value → am_M → Prop) (f t : Nat) (hf : f < 256) (ht : t < 256) (up : Int) (hu : up.natAbs ≤ 100) (hh : ∀ k, k < 256 → ((m.1 111 k).toInt).natAbs ≤ 3000)
    (h : ∀ m1, FrL m m1 → -1 ≤ mf m f up t → mf m f up t ≤ 255 → Q (some (.int (iI (mf m f up t)))) m1) :
    am_WP YL 170 0 0 0 [some (.ref 109), some (.int (iI (f : Int))), some (.int (iI up)), some (.int (iI (t : Int))), none, none, none, none, none, none, none, none, none, none, none, none] [] m Q := by
  have h5 := hh f hf
  have h6 := hh t ht
  have fin : ∀ m1 res, FrL m m1 → hd_is (hd_R f t) (hd_C f t) (hb_h m f t ((m.1 111 f).toInt + up) ((m.1 111 t).toInt - ((m.1 111 f).toInt + up))) res → Q (some (.int (iI (hd_v f t res)))) m1 := by
    intro m1 res fr hres
    have e : mf m f up t = hd_v f t res := fh_eq (hg := fun k => (m.1 111 k).toInt) hres
    have b := hd_vb hf ht rfl rfl hres
    rw [← e] at b ⊢
    exact h m1 fr b.1 b.2
  refine B_X11_barred_0 m Q _ _ _ ?_
  rw [iI_eq (by omega) (by omega) (by omega) (by omega)]
  refine ⟨fun hne => ?_, fun z => ?_⟩
  · refine B_X11_barred_14 m Q _ _ _ _ _ ?_
    rw [iI_cl (by omega) (by omega), iI_cl (by omega) (by omega), Int.toNat_natCast, Int.toNat_natCast, iI_in (by omega) (by omega), iI_in (by omega) (by omega)]
    refine ⟨by omega, by omega, ?_⟩
    rw [← iI_self (m.1 111 f), ← iI_self (m.1 111 t), iI_add, iI_sub]
    obtain ⟨eye, hey⟩ : ∃ eye, eye = (m.1 111 f).toInt + up := ⟨_, rfl⟩
    rw [← hey] at fin ⊢
    obtain ⟨rise, hri⟩ : ∃ rise, rise = (m.1 111 t).toInt - eye := ⟨_, rfl⟩
    rw [← hri] at fin ⊢
    have he : eye.natAbs ≤ 3200 := by omega
    have hrs : rise.natAbs ≤ 6400 := by omega
    clear hey hri h5 h6
    refine B_X11_barred_35 m Q _ _ _ _ _ _ ?_
    simp (disch := omega) only [iI_lit, iI_div, iI_lt, iI_ite]
    obtain ⟨T, hT⟩ : ∃ T : Nat, (T : Int) = if (t : Int) / 16 < (f : Int) / 16 then (t : Int) / 16 else (f : Int) / 16 := ⟨(if (t : Int) / 16 < (f : Int) / 16 then (t : Int) / 16 else (f : Int) / 16).toNat, by split <;> omega⟩
    obtain ⟨B, hB⟩ : ∃ B : Nat, (B : Int) = if (f : Int) / 16 < (t : Int) / 16 then (t : Int) / 16 else (f : Int) / 16 := ⟨(if (f : Int) / 16 < (t : Int) / 16 then (t : Int) / 16 else (f : Int) / 16).toNat, by split <;> omega⟩
    rw [← hT, ← hB]
    refine B_X11_barred_61 m Q _ _ _ _ _ _ _ _ ?_
    simp (disch := omega) only [iI_lit, iI_div, iI_mul, iI_sub, iI_lt, iI_ite]
    rw [show (t : Int) - (t : Int) / 16 * 16 = (t : Int) % 16 by omega, show (f : Int) - (f : Int) / 16 * 16 = (f : Int) % 16 by omega]
    obtain ⟨Lf, hL⟩ : ∃ T : Nat, (T : Int) = if (t : Int) % 16 < (f : Int) % 16 then (t : Int) % 16 else (f : Int) % 16 := ⟨(if (t : Int) % 16 < (f : Int) % 16 then (t : Int) % 16 else (f : Int) % 16).toNat, by split <;> omega⟩
    obtain ⟨Rt, hRt⟩ : ∃ B : Nat, (B : Int) = if (f : Int) % 16 < (t : Int) % 16 then (t : Int) % 16 else (f : Int) % 16 := ⟨(if (f : Int) % 16 < (t : Int) % 16 then (t : Int) % 16 else (f : Int) % 16).toNat, by split <;> omega⟩
    rw [← hL, ← hRt]
    refine B_X11_barred_87 m Q _ _ _ _ _ _ _ _ _ _ ?_
    have c1 : B ≤ 15 := by split at hB <;> omega
    have c2 : Rt ≤ 15 := by split at hRt <;> omega
    have c3 : T ≤ B := by split at hT <;> split at hB <;> omega
    have c4 : Lf ≤ Rt := by split at hL <;> split at hRt <;> omega
    refine S_bRow m Q f t hf ht eye rise he hrs hh T B Lf Rt c1 c2 ?_ ?_ c4 ?_ ?_ (B + 1 - T) T m (-1) 1000000000 (by omega) (Nat.le_refl _) (FrL.rf m) ⟨?_, Or.inl ⟨rfl, rfl⟩⟩
    · intro r h1 h2
      split at hT <;> split at hB <;> omega
    · intro r h1 h2
      split at hL <;> split at hRt <;> omega
    · intro i j hi hj
      obtain ⟨a, b, e, e1, e2⟩ := hd_qbox hi hj
      refine ⟨a, b, e, ?_, ?_, ?_, ?_⟩
      · clear e2 e hL hRt; split at hT <;> omega
      · clear e2 e hL hRt; split at hB <;> omega
      · clear e1 e hT hB; split at hL <;> omega
      · clear e1 e hT hB; split at hRt <;> omega
    · intro m1 l4 l5 fr hI
      obtain ⟨res, h1, h2⟩ := hb_end hf ht hI
      rw [h2]
      exact fin m1 res fr h1
    · intro i j hk _ hx
      exfalso
      obtain ⟨a, b, e, e1, e2⟩ := hd_qbox hk.1 hk.2.1
      have : (T : Int) ≤ a := by clear e2 e hL hRt hx; split at hT <;> omega
      have : (Lf : Int) ≤ b := by clear e1 e hT hB hx; split at hL <;> omega
      clear e1 e2 hT hB hL hRt
      omega
  · obtain rfl : f = t := by omega
    have := fin m none (FrL.rf m) (fun i j hk => by
      have s := hd_rc0 f
      have := hk.2.2.2.2
      rw [s.1, s.2] at this
      omega)
    exact this
