/-! ===== the claim's start, out of one run of the abstract machine ===== -/
def am_LD (j : Nat) : Int32 := match j with
  | 0 => -1
  | 1 => -1
  | 2 => 0
  | 3 => 1
  | 4 => 1
  | 5 => 1
  | 6 => 0
  | _ => -1
def am_LR (j : Nat) : Int32 := match j with
  | 0 => 0
  | 1 => 1
  | 2 => 1
  | 3 => 1
  | 4 => 0
  | 5 => -1
  | 6 => -1
  | _ => -1
def am_m0 (L : Nat) (xs : Nat → Int32) : am_M :=
  (fun a j => match a with | 0 => am_LD j | 1 => am_LR j | 2 => xs j | _ => 0, fun _ _ => 0, fun _ _ => none, fun a => match a with | 0 => (20, 8) | 1 => (20, 8) | 2 => (20, L) | _ => (99, 0), 0)
def am_Y0 : am_Y := (fun _ _ => none, fun _ => none)
theorem am_inst_ok : (List.range 12).all (fun ci => lw_tbl.any (fun w0 => decide (w0 = .instantiable (am_cn ci) (am_nf ci)))) = true := by decide +kernel
theorem am_ao_ok : lw_tbl.any (fun w0 => decide (w0 = .arrayOver (.object RX1))) = true ∧ lw_tbl.any (fun w0 => decide (w0 = .arrayOver (.object RX6))) = true ∧ lw_tbl.any (fun w0 => decide (w0 = .laysStatic "SmokeWatch" "LOOK_DOWN" "[I")) = true ∧ lw_tbl.any (fun w0 => decide (w0 = .laysStatic "SmokeWatch" "LOOK_RIGHT" "[I")) = true ∧ lw_tbl.any (fun w0 => decide (w0 = .initialized "SmokeWatch")) = true := by decide +kernel
theorem am_onT : lw_tbl.all (fun w0 => cond (am_isN w0) w0.onTables true) = true := by decide +kernel
def am_cf (n : String) (j : Nat) (v : Int32) : Cond := .eq (.elem (.static "SmokeWatch" n "[I") (.int (Int32.ofNat j))) (.int v)
theorem am_cfs : (List.range 8).all (fun j => decide (am_cf "LOOK_DOWN" j (am_LD j) ∈ flatC (Jvm.Cond.and given_1 narrow_1)) && decide (am_cf "LOOK_RIGHT" j (am_LR j) ∈ flatC (Jvm.Cond.and given_1 narrow_1))) = true := by decide +kernel
theorem am_cfl : (Cond.eq (.length (.static "SmokeWatch" "LOOK_DOWN" "[I")) (.int 8) ∈ flatC (Jvm.Cond.and given_1 narrow_1)) ∧ (Cond.eq (.length (.static "SmokeWatch" "LOOK_RIGHT" "[I")) (.int 8) ∈ flatC (Jvm.Cond.and given_1 narrow_1)) ∧ (Cond.arrayOf (.static "SmokeWatch" "LOOK_DOWN" "[I") .int ∈ flatC (Jvm.Cond.and given_1 narrow_1)) ∧ (Cond.arrayOf (.static "SmokeWatch" "LOOK_RIGHT" "[I") .int ∈ flatC (Jvm.Cond.and given_1 narrow_1)) := by decide +kernel
theorem am_arr {args : Array Value} {s : State} {ty : FieldType} (h : (Cond.arrayClass ty).before args s = true) : ∃ cA, ArrOfT s cA ty ∧ s.vm.findClass ("[" ++ ty.toString) = some cA := by
  obtain ⟨cA, kA, comp, h1, h2, h3⟩ := Cond.arrayClass_spec h
  exact ⟨cA, fun n z => ⟨fun k h => (by cases h), kA, h2, comp, h3⟩, h1⟩
theorem am_arq {s : State} {C : String} (h : va_AO C s) : ∃ cA, ArrOfT s cA (.object C) ∧ va_RA s cA (.object C) := by
  obtain ⟨comp, cA, kA, h1, h2, h3, h4, h5⟩ := Cond.arrayOver_spec h
  exact ⟨cA, fun n z => ⟨fun k h => (by cases h), kA, h3, comp, h4⟩, kA, comp, h3, h4, h1, h5⟩
set_option maxHeartbeats 1000000 in
theorem am_top (hDEC : am_DEC) (hrun : ∀ (L : Nat) (xs : Nat → Int32), L ≤ 4608 → am_WP am_Y0 231 600000 7302250 0 [some (.ref 2), none, none, none] [] (am_m0 L xs) (fun r _ => r = some (.int 1)))
    {p : Program} {e : Env} {s : State} {m : MethodId} {below : List Frame} {meth : Method} {c : Code} (l : Launch) {b L : Nat} {xs : Nat → Int32} (hL : L ≤ 4608) (C0 : lw_At p s m meth c b L xs) : W p l e room_1 s m #[Value.ref b] below meth c s.heap [] 0 0 (lw_Z below #[Value.ref b] s) (entryFrame m ([Value.ref b] : List Value).toArray 4) := by
  obtain ⟨hx, hb, hr, hml, hown, hts, hX, hbl, hlocks, hgv⟩ := id C0
  have hts' : ∀ w0 ∈ am_TB, w0.before #[Value.ref b] s = true := fun w0 h => hts w0 (List.mem_filter.mp h).1
  have hfl := flat_of_before _ hgv
  have hA : ∀ a : Nat, a < s.heap.size → ¬ (fun q => s.heap.size ≤ q) a := fun a ha q => Nat.not_le.mpr ha q
  -- the two constants
  have tab : ∀ (n : String) (f : Nat → Int32), (∀ j, j < 8 → am_cf n j (f j) ∈ flatC (Jvm.Cond.and given_1 narrow_1)) → (Cond.eq (.length (.static "SmokeWatch" n "[I")) (.int 8) ∈ flatC (Jvm.Cond.and given_1 narrow_1)) → (Cond.arrayOf (.static "SmokeWatch" n "[I") .int ∈ flatC (Jvm.Cond.and given_1 narrow_1)) → (Cond.laysStatic "SmokeWatch" n "[I" ∈ lw_tbl) →
      ∃ t : Nat, va_T .int t 8 (fun j => .int (f j)) (fun q => s.heap.size ≤ q) s s.heap ∧ va_Z "SmokeWatch" n "[I" (.ref t) (fun q => s.heap.size ≤ q) s s.heap := by
    intro n f h1 h2 h3 h4
    obtain ⟨t, z1, z2⟩ := va_Tof (N := 8) (f := fun j => .int (f j)) (by decide) (hfl _ h3) (va_eqt (hfl _ h2)) (fun j hj => va_eqt (hfl _ (h1 j hj))) hA
    exact ⟨t, z2, va_Zof (hts _ h4) (hts _ (am_any_mem am_ao_ok.2.2.2.2)) z1 hA⟩
  obtain ⟨t0, hT0, hZ0⟩ := tab "LOOK_DOWN" am_LD (fun j hj => of_decide_eq_true (Bool.and_eq_true_iff.mp (List.all_eq_true.mp am_cfs j (List.mem_range.mpr hj))).1) am_cfl.1 am_cfl.2.2.1 (am_any_mem am_ao_ok.2.2.1)
  obtain ⟨t1, hT1, hZ1⟩ := tab "LOOK_RIGHT" am_LR (fun j hj => of_decide_eq_true (Bool.and_eq_true_iff.mp (List.all_eq_true.mp am_cfs j (List.mem_range.mpr hj))).2) am_cfl.2.1 am_cfl.2.2.2 (am_any_mem am_ao_ok.2.2.2.1)
  -- the classes
  have hcl : ∀ ci : Nat, ∃ (cC : ClassId) (iS : Nat → Nat), ci < 12 → u_Kn s (am_cn ci) (am_T ci) (am_nf ci) cC iS := by
    intro ci
    by_cases h : ci < 12
    · obtain ⟨c1, c2, c3⟩ := am_CL_e h
      obtain ⟨cC, iS, hk⟩ := u_known (C := am_cn ci) (T := am_T ci) (N := am_nf ci) hts' c2 (hts _ (am_any_mem (List.all_eq_true.mp am_inst_ok ci (List.mem_range.mpr h))))
      exact ⟨cC, iS, fun _ => hk⟩
    · exact ⟨0, fun _ => 0, fun q => absurd q h⟩
  have hAO1 : va_AO RX1 s := va_AO.of (hts _ (am_any_mem am_ao_ok.1))
  have hAO6 : va_AO RX6 s := va_AO.of (hts _ (am_any_mem am_ao_ok.2.1))
  obtain ⟨a0, a1, a2⟩ := am_arr (hts' _ (am_arc (t := .int) (Or.inl rfl)))
  obtain ⟨b0, b1, b2⟩ := am_arr (hts' _ (am_arc (t := .long) (Or.inr (Or.inl rfl))))
  obtain ⟨c0, c1, c2⟩ := am_arr (hts' _ (am_arc (t := .boolean) (Or.inr (Or.inr rfl))))
  obtain ⟨e0, e1, e2⟩ := am_arq hAO1
  obtain ⟨f0, f1, f2⟩ := am_arq hAO6
  let E : am_E := (s.heap.size, fun a => match a with | 0 => t0 | 1 => t1 | _ => b, fun ci => Classical.choose (hcl ci), fun ci => Classical.choose (Classical.choose_spec (hcl ci)), fun k => match k with | 20 => a0 | 21 => b0 | 22 => c0 | 23 => e0 | _ => f0)
  have hK : va_K (am_D E) vwCl (am_tys E) s := by
    refine ⟨fun ci q hq => ?_, fun k q hq => ?_⟩
    · have hlt : ci < 12 := (List.getElem?_eq_some_iff.mp hq).1
      rw [(am_CL_e hlt).1] at hq
      cases hq
      exact Classical.choose_spec (Classical.choose_spec (hcl ci)) hlt
    · match k, hq with
      | 0, hq => cases hq; exact ⟨a1, a2⟩
      | 1, hq => cases hq; exact ⟨b1, b2⟩
      | 2, hq => cases hq; exact ⟨c1, c2⟩
      | 3, hq => cases hq; exact ⟨e1, e2⟩
      | 4, hq => cases hq; exact ⟨f1, f2⟩
      | k + 5, hq => simp [am_tys] at hq
  have hG : am_G E s := by
    refine ⟨hDEC, hK, fun w0 hw => ?_, hAO1, hAO6⟩
    obtain ⟨g1, g2⟩ := List.mem_filter.mp hw
    have g3 := List.all_eq_true.mp am_onT w0 g1
    rw [g2] at g3
    exact va_Nw.of g3 (hts w0 g1)
  have hC : am_C E 231 p room_1 s m #[Value.ref b] meth c := by
    refine ⟨hx, hb, hml, hown, hts', (fun h => absurd h (by decide)), by decide, by decide, hG, Nat.le_refl _⟩
  have hR : am_Rel E am_Y0 (am_m0 L xs) s s.heap := by
    refine ⟨rfl, fun a h3 hlt => ?_, ⟨fun a ha => ?_, hZ0, hZ1⟩, fun a ha => ?_⟩
    · have : am_n (am_m0 L xs) = 0 := rfl
      omega
    · match a, ha with
      | 0, _ =>
        obtain ⟨cell, g1, g2, g3, g4, g5, g6, g7⟩ := hT0
        exact ⟨cell, 8, rfl, g1, g2, g3, g4, g5, g6, Nat.not_le.mp g7⟩
      | 1, _ =>
        obtain ⟨cell, g1, g2, g3, g4, g5, g6, g7⟩ := hT1
        exact ⟨cell, 8, rfl, g1, g2, g3, g4, g5, g6, Nat.not_le.mp g7⟩
      | 2, _ =>
        obtain ⟨cell, g1, g2, g3, g4, g5⟩ := hX
        exact ⟨cell, L, rfl, g1, g2, g3, by omega, by rw [g4], g5, hbl⟩
    · have h3 : 3 ≤ a := by
        have : am_n (am_m0 L xs) = 0 := rfl
        omega
      obtain ⟨k, rfl⟩ : ∃ k, a = k + 3 := ⟨a - 3, by omega⟩
      rfl
  have hl := lv_entry ([.ref b]) (n := 4) (Nat.le_of_ble_eq_true rfl)
  rw [lg_entry_eq]
  refine W.base ?_
  refine hrun L xs hL E p l e room_1 s m #[Value.ref b] below meth c _ s.drawn s.heap [] 0 0 _ hC ?_ (Drawn.sameBut.refl _ _) hR va_S.rf ⟨hl.1, hl.2.1, fun i v hg => ?_⟩ (Nat.le_of_ble_eq_true rfl) (Nat.le_of_ble_eq_true rfl)
  · intro d0 H locs cells slots r m1 i pc ls hd hR1 hS hcl hsl hdg hrt hq
    subst hq
    obtain ⟨rfl, -⟩ := hrt
    refine va_forget (fun q hq => hS.2.2 q hq) ?_
    refine W.widen (k := 600000) (n := 7302250) hcl hsl ?_
    exact lw_ret hd hx hb hr hlocks hdg
  · match i, hg with
    | 0, hg =>
      cases hg
      exact hl.2.2 (0, .ref b) List.mem_cons_self
    | 1, hg => cases hg
    | 2, hg => cases hg
    | 3, hg => cases hg
    | i + 4, hg => cases i <;> cases hg
