/-! ===== the tables, checked against the words of the claim ===== -/
def am_TB : List Cond := lw_tbl.filter goodWord
def am_isN : Cond → Bool
  | .methodLinkNest .. => true
  | _ => false
def am_NW : List Cond := lw_tbl.filter am_isN
theorem am_lk_mem {α : Type} : ∀ {l : List (Nat × α)} {i : Nat} {v : α}, am_lk l i = some v → (i, v) ∈ l
  | [], i, v, h => by cases h
  | (k, w0) :: r, i, v, h => by
    unfold am_lk at h
    cases hb : Nat.beq k i
    · rw [hb] at h
      exact List.mem_cons_of_mem _ (am_lk_mem h)
    · rw [hb] at h
      have e := Nat.eq_of_beq_eq_true hb
      subst e
      cases h
      exact List.mem_cons_self
theorem am_mi {mi pc : Nat} {q : Instr × Nat} (h : am_code mi pc = some q) : mi < 232 := by
  rcases Nat.lt_or_ge mi 232 with g | g
  · exact g
  · have z : am_len mi = 0 := by unfold am_len; rw [Nat.ble_eq_true_of_le g]; rfl
    unfold am_code at h
    rw [z] at h
    cases h
theorem am_cls_ok : (List.range 232).all (fun mi => Nat.ble (am_cls mi + 1) 16) = true := by decide +kernel
theorem am_cls_lt {mi : Nat} (h : mi < 232) : am_cls mi < 16 := Nat.le_of_ble_eq_true (List.all_eq_true.mp am_cls_ok mi (List.mem_range.mpr h))
def am_wd (p : Nat) (w : Cond) : Bool := decide (lw_tbl[p]? = some w) && goodWord w
theorem am_wd_e {p : Nat} {w : Cond} (h : am_wd p w = true) : w ∈ am_TB := by
  unfold am_wd at h
  obtain ⟨h1, h2⟩ := Bool.and_eq_true_iff.mp h
  exact List.mem_filter.mpr ⟨List.mem_of_getElem? (of_decide_eq_true h1), h2⟩
def am_wn (p : Nat) (w : Cond) : Bool := decide (lw_tbl[p]? = some w) && am_isN w
theorem am_wn_e {p : Nat} {w : Cond} (h : am_wn p w = true) : w ∈ am_NW := by
  unfold am_wn at h
  obtain ⟨h1, h2⟩ := Bool.and_eq_true_iff.mp h
  exact List.mem_filter.mpr ⟨List.mem_of_getElem? (of_decide_eq_true h1), h2⟩
def am_vw (ci : Nat) : vw_C := vwCl.getD ci ("", TX0, 0)
def am_T (ci : Nat) : u_T := (am_vw ci).2.1
/-- fields -/
def am_ckF (oc : Nat) (e : Nat × Nat × Nat × Nat) : Bool := Nat.ble (e.2.1 + 1) 12 && (Nat.ble (e.2.2.1 + 1) (am_nf e.2.1) && am_wd e.2.2.2 (.fieldLink (am_cn oc) e.1 (am_T e.2.1 e.2.2.1).1 (am_T e.2.1 e.2.2.1).2.1 (am_T e.2.1 e.2.2.1).2.2.1))
theorem am_FT_ok : (List.range 16).all (fun oc => (am_FT oc).all (am_ckF oc)) = true := by decide +kernel
theorem am_FT_e {oc idx ci k p : Nat} (ho : oc < 16) (h : am_lk (am_FT oc) idx = some (ci, k, p)) : ci < 12 ∧ k < am_nf ci ∧ Cond.fieldLink (am_cn oc) idx (am_T ci k).1 (am_T ci k).2.1 (am_T ci k).2.2.1 ∈ am_TB := by
  have h1 := List.all_eq_true.mp (List.all_eq_true.mp am_FT_ok oc (List.mem_range.mpr ho)) _ (am_lk_mem h)
  unfold am_ckF at h1
  obtain ⟨h1, h2⟩ := Bool.and_eq_true_iff.mp h1
  obtain ⟨h2, h3⟩ := Bool.and_eq_true_iff.mp h2
  exact ⟨Nat.le_of_ble_eq_true h1, Nat.le_of_ble_eq_true h2, am_wd_e h3⟩
/-- classes -/
def am_isR (d : String) : Bool := d.startsWith "L" || d.startsWith "["
def am_ckC (ci : Nat) : Bool := decide ((am_vw ci).2.2 = am_nf ci) && ((List.range (am_nf ci)).all (fun k => decide (am_fin ci k = (am_T ci k).2.2.2) && (am_wd ((am_lp ci).getD k 0) (u_lay (am_vw ci).1 (am_T ci) k) &&
  (match parseFieldDescriptor (am_T ci k).2.2.1 with
   | some .int => !am_isr ci k && !am_isb ci k
   | some .boolean => !am_isr ci k && am_isb ci k
   | some (.object _) => am_isr ci k
   | some (.array _) => am_isr ci k
   | _ => false))) && decide (am_cn ci = (am_vw ci).1))
theorem am_CL_ok : (List.range 12).all am_ckC = true := by decide +kernel
