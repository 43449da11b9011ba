/-! ===== each instruction of the abstract machine is one of the machine's ===== -/
abbrev am_kW (Y : am_Y) (mi : Nat) (Q : Option Value → am_M → Prop) : am_KK := fun mc ms pc L S m => am_WP Y mi mc ms pc L S m Q
abbrev am_cW (Y : am_Y) : am_CC := fun mj c1 s1 L1 m1 Q1 => am_WP Y mj c1 s1 0 L1 [] m1 Q1
theorem am_dc {E : am_E} {mi : Nat} {p : Program} {R : Room} {s : State} {mth : MethodId} {args : Array Value} {meth : Method} {c : Code} (hC : am_C E mi p R s mth args meth c) {pc l : Nat} {i : Instr} (h : am_code mi pc = some (i, l)) : decode (am_bytes mi) pc = .ok (i, l) := hC.2.2.2.2.2.2.2.2.1.1 mi pc l i h
theorem am_ht {E : am_E} {mi : Nat} {p : Program} {R : Room} {s : State} {mth : MethodId} {args : Array Value} {meth : Method} {c : Code} (hC : am_C E mi p R s mth args meth c) (d0 : Drawn) {w0 : Cond} (h : w0 ∈ am_TB) : w0.before args (s.setDrawn d0) = true := dr_words hC.2.2.2.2.1 d0 w0 h
theorem am_sw_e {x : Int32} {pc : Nat} {k : Nat → Prop} : ∀ {offs : List Int} {lo : Int}, am_sw x pc k lo offs → ¬ x.toInt < lo → x.toInt < lo + offs.length → ∃ off, offs[(x.toInt - lo).toNat]? = some off ∧ am_tok pc off = true ∧ k (am_to pc off)
  | [], lo, _, h1, h2 => by simp at h2; omega
  | o :: r, lo, h, h1, h2 => by
    by_cases e0 : x.toInt = lo
    · obtain ⟨g1, g2⟩ := am_g_e (h.1 e0)
      refine ⟨o, ?_, g1, g2⟩
      rw [e0, Int.sub_self]
      rfl
    · obtain ⟨off, g1, g2⟩ := am_sw_e (offs := r) (lo := lo + 1) h.2 (by omega) (by simp at h2; omega)
      refine ⟨off, ?_, g2⟩
      rw [show (x.toInt - lo).toNat = (x.toInt - (lo + 1)).toNat + 1 by omega, List.getElem?_cons_succ]
      exact g1
/-- a float of the pool, by the long form -/
theorem am_ldcwF {p : Program} {l : Launch} {e : Env} {R : Room} {s : State} {m : MethodId} {args : Array Value} {below : List Frame} {meth : Method} {c : Code} {H : Heap} {locs : List Loc} {cells slots : Nat} {Q : State → Prop} {cc : ByteArray} {pc : Nat} {ls : Array Slot} {rest : List Value} (hexec : p.tables.exec = Jvm.exec) (hb : c.code = cc) {own : String} {index : Nat} {v : UInt32} (hown : s.vm.findClass own = some m.cls) (hconst : (Jvm.Cond.constantFloat own index v).before args s = true) (hdg : decode cc pc = .ok (.ldc_w index, 3)) (k : W p l e R s m args below meth c H locs cells slots Q (F0 m (pc + 3) ls (.float v :: rest))) : W p l e R s m args below meth c H locs cells slots Q (F0 m pc ls rest) := by
  intro T hT X
  obtain ⟨t, a, b⟩ := k T hT X
  obtain ⟨k1, cf, hk, hcf, hcp⟩ := Cond.constantFloat_spec hown hconst
  obtain ⟨k', hk', he⟩ := X.warmed.alike.2.2 _ _ hk
  refine ⟨t, ?_, b⟩
  jvm_step X.here [hexec, hb, hdg, ldc_w.wp_float (s := T) (f := F0 m pc ls rest) X.here.top hk' (by rw [he]; exact hcf) hcp]
  exact a
section SND
variable {Y : am_Y} {mi mc ms pc l : Nat} {L : am_L} {S : List Value} {m : am_M} {Q : Option Value → am_M → Prop}
theorem am_q_iadd (hc : am_code mi pc = some (.iadd, l)) (h : am_st Y mi mc ms pc L S m (am_kW Y mi Q) (am_cW Y) Q (.iadd) l) : am_WP Y mi mc ms pc L S m Q := by
  have hg := am_g_e h
  clear h
  obtain ⟨hb, h⟩ := hg
  obtain rfl := am_beq hb
  obtain ⟨x, y, r, rfl, h⟩ := am_i2_e h
  intro E p la e R s mth args below meth c Z d0 H locs cells slots ls hC hZ hd hR hS hl h1 h2
  exact lv_iadd hC.1 hC.2.1 (am_dc hC hc) (h E p la e R s mth args below meth c Z d0 H locs cells slots ls hC hZ hd hR hS hl h1 h2)
theorem am_q_isub (hc : am_code mi pc = some (.isub, l)) (h : am_st Y mi mc ms pc L S m (am_kW Y mi Q) (am_cW Y) Q (.isub) l) : am_WP Y mi mc ms pc L S m Q := by
  have hg := am_g_e h
  clear h
  obtain ⟨hb, h⟩ := hg
  obtain rfl := am_beq hb
  obtain ⟨x, y, r, rfl, h⟩ := am_i2_e h
  intro E p la e R s mth args below meth c Z d0 H locs cells slots ls hC hZ hd hR hS hl h1 h2
  exact lv_isub hC.1 hC.2.1 (am_dc hC hc) (h E p la e R s mth args below meth c Z d0 H locs cells slots ls hC hZ hd hR hS hl h1 h2)
theorem am_q_imul (hc : am_code mi pc = some (.imul, l)) (h : am_st Y mi mc ms pc L S m (am_kW Y mi Q) (am_cW Y) Q (.imul) l) : am_WP Y mi mc ms pc L S m Q := by
  have hg := am_g_e h
  clear h
  obtain ⟨hb, h⟩ := hg
  obtain rfl := am_beq hb
  obtain ⟨x, y, r, rfl, h⟩ := am_i2_e h
  intro E p la e R s mth args below meth c Z d0 H locs cells slots ls hC hZ hd hR hS hl h1 h2
  exact lv_imul hC.1 hC.2.1 (am_dc hC hc) (h E p la e R s mth args below meth c Z d0 H locs cells slots ls hC hZ hd hR hS hl h1 h2)
theorem am_q_iand (hc : am_code mi pc = some (.iand, l)) (h : am_st Y mi mc ms pc L S m (am_kW Y mi Q) (am_cW Y) Q (.iand) l) : am_WP Y mi mc ms pc L S m Q := by
  have hg := am_g_e h
  clear h
  obtain ⟨hb, h⟩ := hg
  obtain rfl := am_beq hb
  obtain ⟨x, y, r, rfl, h⟩ := am_i2_e h
  intro E p la e R s mth args below meth c Z d0 H locs cells slots ls hC hZ hd hR hS hl h1 h2
  exact lv_iand hC.1 hC.2.1 (am_dc hC hc) (h E p la e R s mth args below meth c Z d0 H locs cells slots ls hC hZ hd hR hS hl h1 h2)
theorem am_q_ior (hc : am_code mi pc = some (.ior, l)) (h : am_st Y mi mc ms pc L S m (am_kW Y mi Q) (am_cW Y) Q (.ior) l) : am_WP Y mi mc ms pc L S m Q := by
  have hg := am_g_e h
  clear h
  obtain ⟨hb, h⟩ := hg
  obtain rfl := am_beq hb
  obtain ⟨x, y, r, rfl, h⟩ := am_i2_e h
  intro E p la e R s mth args below meth c Z d0 H locs cells slots ls hC hZ hd hR hS hl h1 h2
  exact lv_ior hC.1 hC.2.1 (am_dc hC hc) (h E p la e R s mth args below meth c Z d0 H locs cells slots ls hC hZ hd hR hS hl h1 h2)
theorem am_q_ixor (hc : am_code mi pc = some (.ixor, l)) (h : am_st Y mi mc ms pc L S m (am_kW Y mi Q) (am_cW Y) Q (.ixor) l) : am_WP Y mi mc ms pc L S m Q := by
  have hg := am_g_e h
  clear h
  obtain ⟨hb, h⟩ := hg
  obtain rfl := am_beq hb
  obtain ⟨x, y, r, rfl, h⟩ := am_i2_e h
  intro E p la e R s mth args below meth c Z d0 H locs cells slots ls hC hZ hd hR hS hl h1 h2
  exact lv_ixor hC.1 hC.2.1 (am_dc hC hc) (h E p la e R s mth args below meth c Z d0 H locs cells slots ls hC hZ hd hR hS hl h1 h2)
theorem am_q_ishl (hc : am_code mi pc = some (.ishl, l)) (h : am_st Y mi mc ms pc L S m (am_kW Y mi Q) (am_cW Y) Q (.ishl) l) : am_WP Y mi mc ms pc L S m Q := by
  have hg := am_g_e h
  clear h
  obtain ⟨hb, h⟩ := hg
  obtain rfl := am_beq hb
  obtain ⟨x, y, r, rfl, h⟩ := am_i2_e h
  intro E p la e R s mth args below meth c Z d0 H locs cells slots ls hC hZ hd hR hS hl h1 h2
  exact lv_ishl hC.1 hC.2.1 (am_dc hC hc) (h E p la e R s mth args below meth c Z d0 H locs cells slots ls hC hZ hd hR hS hl h1 h2)
theorem am_q_ishr (hc : am_code mi pc = some (.ishr, l)) (h : am_st Y mi mc ms pc L S m (am_kW Y mi Q) (am_cW Y) Q (.ishr) l) : am_WP Y mi mc ms pc L S m Q := by
  have hg := am_g_e h
  clear h
  obtain ⟨hb, h⟩ := hg
  obtain rfl := am_beq hb
  obtain ⟨x, y, r, rfl, h⟩ := am_i2_e h
  intro E p la e R s mth args below meth c Z d0 H locs cells slots ls hC hZ hd hR hS hl h1 h2
  exact lv_ishr hC.1 hC.2.1 (am_dc hC hc) (h E p la e R s mth args below meth c Z d0 H locs cells slots ls hC hZ hd hR hS hl h1 h2)
theorem am_q_idiv (hc : am_code mi pc = some (.idiv, l)) (h : am_st Y mi mc ms pc L S m (am_kW Y mi Q) (am_cW Y) Q (.idiv) l) : am_WP Y mi mc ms pc L S m Q := by
  have hg := am_g_e h
  clear h
  obtain ⟨hb, h⟩ := hg
  obtain rfl := am_beq hb
  obtain ⟨x, y, r, rfl, hne, h⟩ := am_i2_e h
  intro E p la e R s mth args below meth c Z d0 H locs cells slots ls hC hZ hd hR hS hl h1 h2
  exact lv_idiv hC.1 hC.2.1 (am_dc hC hc) hne (h E p la e R s mth args below meth c Z d0 H locs cells slots ls hC hZ hd hR hS hl h1 h2)
theorem am_q_irem (hc : am_code mi pc = some (.irem, l)) (h : am_st Y mi mc ms pc L S m (am_kW Y mi Q) (am_cW Y) Q (.irem) l) : am_WP Y mi mc ms pc L S m Q := by
  have hg := am_g_e h
  clear h
  obtain ⟨hb, h⟩ := hg
  obtain rfl := am_beq hb
  obtain ⟨x, y, r, rfl, hne, h⟩ := am_i2_e h
  intro E p la e R s mth args below meth c Z d0 H locs cells slots ls hC hZ hd hR hS hl h1 h2
  exact lv_irem hC.1 hC.2.1 (am_dc hC hc) hne (h E p la e R s mth args below meth c Z d0 H locs cells slots ls hC hZ hd hR hS hl h1 h2)
theorem am_q_iushr (hc : am_code mi pc = some (.iushr, l)) (h : am_st Y mi mc ms pc L S m (am_kW Y mi Q) (am_cW Y) Q (.iushr) l) : am_WP Y mi mc ms pc L S m Q := by
  have hg := am_g_e h
  clear h
  obtain ⟨hb, h⟩ := hg
  obtain rfl := am_beq hb
  obtain ⟨x, y, r, rfl, h⟩ := am_i2_e h
  intro E p la e R s mth args below meth c Z d0 H locs cells slots ls hC hZ hd hR hS hl h1 h2
  exact lv_iushr hC.1 hC.2.1 (am_dc hC hc) rfl (h E p la e R s mth args below meth c Z d0 H locs cells slots ls hC hZ hd hR hS hl h1 h2)
theorem am_q_ineg (hc : am_code mi pc = some (.ineg, l)) (h : am_st Y mi mc ms pc L S m (am_kW Y mi Q) (am_cW Y) Q (.ineg) l) : am_WP Y mi mc ms pc L S m Q := by
  have hg := am_g_e h
  clear h
  obtain ⟨hb, h⟩ := hg
  obtain rfl := am_beq hb
  obtain ⟨x, r, rfl, h⟩ := am_i1_e h
  intro E p la e R s mth args below meth c Z d0 H locs cells slots ls hC hZ hd hR hS hl h1 h2
  exact lv_ineg hC.1 hC.2.1 (am_dc hC hc) (h E p la e R s mth args below meth c Z d0 H locs cells slots ls hC hZ hd hR hS hl h1 h2)
theorem am_q_ladd (hc : am_code mi pc = some (.ladd, l)) (h : am_st Y mi mc ms pc L S m (am_kW Y mi Q) (am_cW Y) Q (.ladd) l) : am_WP Y mi mc ms pc L S m Q := by
  have hg := am_g_e h
  clear h
  obtain ⟨hb, h⟩ := hg
  obtain rfl := am_beq hb
  obtain ⟨x, y, r, rfl, h⟩ := am_l2_e h
  intro E p la e R s mth args below meth c Z d0 H locs cells slots ls hC hZ hd hR hS hl h1 h2
  exact lv_ladd hC.1 hC.2.1 (am_dc hC hc) (h E p la e R s mth args below meth c Z d0 H locs cells slots ls hC hZ hd hR hS hl h1 h2)
theorem am_q_lsub (hc : am_code mi pc = some (.lsub, l)) (h : am_st Y mi mc ms pc L S m (am_kW Y mi Q) (am_cW Y) Q (.lsub) l) : am_WP Y mi mc ms pc L S m Q := by
  have hg := am_g_e h
  clear h
  obtain ⟨hb, h⟩ := hg
  obtain rfl := am_beq hb
  obtain ⟨x, y, r, rfl, h⟩ := am_l2_e h
  intro E p la e R s mth args below meth c Z d0 H locs cells slots ls hC hZ hd hR hS hl h1 h2
  exact lv_lsub hC.1 hC.2.1 (am_dc hC hc) (h E p la e R s mth args below meth c Z d0 H locs cells slots ls hC hZ hd hR hS hl h1 h2)
theorem am_q_land (hc : am_code mi pc = some (.land, l)) (h : am_st Y mi mc ms pc L S m (am_kW Y mi Q) (am_cW Y) Q (.land) l) : am_WP Y mi mc ms pc L S m Q := by
  have hg := am_g_e h
  clear h
  obtain ⟨hb, h⟩ := hg
  obtain rfl := am_beq hb
  obtain ⟨x, y, r, rfl, h⟩ := am_l2_e h
  intro E p la e R s mth args below meth c Z d0 H locs cells slots ls hC hZ hd hR hS hl h1 h2
  exact lv_land hC.1 hC.2.1 (am_dc hC hc) (h E p la e R s mth args below meth c Z d0 H locs cells slots ls hC hZ hd hR hS hl h1 h2)
theorem am_q_lor (hc : am_code mi pc = some (.lor, l)) (h : am_st Y mi mc ms pc L S m (am_kW Y mi Q) (am_cW Y) Q (.lor) l) : am_WP Y mi mc ms pc L S m Q := by
  have hg := am_g_e h
  clear h
  obtain ⟨hb, h⟩ := hg
  obtain rfl := am_beq hb
  obtain ⟨x, y, r, rfl, h⟩ := am_l2_e h
  intro E p la e R s mth args below meth c Z d0 H locs cells slots ls hC hZ hd hR hS hl h1 h2
  exact lv_lor hC.1 hC.2.1 (am_dc hC hc) (h E p la e R s mth args below meth c Z d0 H locs cells slots ls hC hZ hd hR hS hl h1 h2)
theorem am_q_lxor (hc : am_code mi pc = some (.lxor, l)) (h : am_st Y mi mc ms pc L S m (am_kW Y mi Q) (am_cW Y) Q (.lxor) l) : am_WP Y mi mc ms pc L S m Q := by
  have hg := am_g_e h
  clear h
  obtain ⟨hb, h⟩ := hg
  obtain rfl := am_beq hb
  obtain ⟨x, y, r, rfl, h⟩ := am_l2_e h
  intro E p la e R s mth args below meth c Z d0 H locs cells slots ls hC hZ hd hR hS hl h1 h2
  exact lv_lxor hC.1 hC.2.1 (am_dc hC hc) (h E p la e R s mth args below meth c Z d0 H locs cells slots ls hC hZ hd hR hS hl h1 h2)
theorem am_q_lshl (hc : am_code mi pc = some (.lshl, l)) (h : am_st Y mi mc ms pc L S m (am_kW Y mi Q) (am_cW Y) Q (.lshl) l) : am_WP Y mi mc ms pc L S m Q := by
  have hg := am_g_e h
  clear h
  obtain ⟨hb, h⟩ := hg
  obtain rfl := am_beq hb
  obtain ⟨x, y, r, rfl, h⟩ := am_li_e h
  intro E p la e R s mth args below meth c Z d0 H locs cells slots ls hC hZ hd hR hS hl h1 h2
  exact lv_lshl hC.1 hC.2.1 (am_dc hC hc) rfl (h E p la e R s mth args below meth c Z d0 H locs cells slots ls hC hZ hd hR hS hl h1 h2)
theorem am_q_lshr (hc : am_code mi pc = some (.lshr, l)) (h : am_st Y mi mc ms pc L S m (am_kW Y mi Q) (am_cW Y) Q (.lshr) l) : am_WP Y mi mc ms pc L S m Q := by
  have hg := am_g_e h
  clear h
  obtain ⟨hb, h⟩ := hg
  obtain rfl := am_beq hb
  obtain ⟨x, y, r, rfl, h⟩ := am_li_e h
  intro E p la e R s mth args below meth c Z d0 H locs cells slots ls hC hZ hd hR hS hl h1 h2
  exact lv_lshr hC.1 hC.2.1 (am_dc hC hc) rfl (h E p la e R s mth args below meth c Z d0 H locs cells slots ls hC hZ hd hR hS hl h1 h2)
theorem am_q_lushr (hc : am_code mi pc = some (.lushr, l)) (h : am_st Y mi mc ms pc L S m (am_kW Y mi Q) (am_cW Y) Q (.lushr) l) : am_WP Y mi mc ms pc L S m Q := by
  have hg := am_g_e h
  clear h
  obtain ⟨hb, h⟩ := hg
  obtain rfl := am_beq hb
  obtain ⟨x, y, r, rfl, h⟩ := am_li_e h
  intro E p la e R s mth args below meth c Z d0 H locs cells slots ls hC hZ hd hR hS hl h1 h2
  exact lv_lushr hC.1 hC.2.1 (am_dc hC hc) rfl (h E p la e R s mth args below meth c Z d0 H locs cells slots ls hC hZ hd hR hS hl h1 h2)
theorem am_q_lcmp (hc : am_code mi pc = some (.lcmp, l)) (h : am_st Y mi mc ms pc L S m (am_kW Y mi Q) (am_cW Y) Q (.lcmp) l) : am_WP Y mi mc ms pc L S m Q := by
  have hg := am_g_e h
  clear h
  obtain ⟨hb, h⟩ := hg
  obtain rfl := am_beq hb
  obtain ⟨x, y, r, rfl, h⟩ := am_l2_e h
  intro E p la e R s mth args below meth c Z d0 H locs cells slots ls hC hZ hd hR hS hl h1 h2
  exact W.lcmp hC.1 hC.2.1 (am_dc hC hc) (h E p la e R s mth args below meth c Z d0 H locs cells slots ls hC hZ hd hR hS hl h1 h2)
theorem am_q_l2i (hc : am_code mi pc = some (.l2i, l)) (h : am_st Y mi mc ms pc L S m (am_kW Y mi Q) (am_cW Y) Q (.l2i) l) : am_WP Y mi mc ms pc L S m Q := by
  have hg := am_g_e h
  clear h
  obtain ⟨hb, h⟩ := hg
  obtain rfl := am_beq hb
  obtain ⟨x, r, rfl, h⟩ := am_l1_e h
  intro E p la e R s mth args below meth c Z d0 H locs cells slots ls hC hZ hd hR hS hl h1 h2
  exact lv_l2i hC.1 hC.2.1 (am_dc hC hc) rfl (h E p la e R s mth args below meth c Z d0 H locs cells slots ls hC hZ hd hR hS hl h1 h2)
theorem am_q_i2f (hc : am_code mi pc = some (.i2f, l)) (h : am_st Y mi mc ms pc L S m (am_kW Y mi Q) (am_cW Y) Q (.i2f) l) : am_WP Y mi mc ms pc L S m Q := by
  have hg := am_g_e h
  clear h
  obtain ⟨hb, h⟩ := hg
  obtain rfl := am_beq hb
  obtain ⟨x, r, rfl, h⟩ := am_i1_e h
  intro E p la e R s mth args below meth c Z d0 H locs cells slots ls hC hZ hd hR hS hl h1 h2
  exact lv_i2f hC.1 hC.2.1 (am_dc hC hc) (h E p la e R s mth args below meth c Z d0 H locs cells slots ls hC hZ hd hR hS hl h1 h2)
theorem am_q_f2i (hc : am_code mi pc = some (.f2i, l)) (h : am_st Y mi mc ms pc L S m (am_kW Y mi Q) (am_cW Y) Q (.f2i) l) : am_WP Y mi mc ms pc L S m Q := by
  have hg := am_g_e h
  clear h
  obtain ⟨hb, h⟩ := hg
  obtain rfl := am_beq hb
  obtain ⟨x, r, rfl, h⟩ := am_f1_e h
  intro E p la e R s mth args below meth c Z d0 H locs cells slots ls hC hZ hd hR hS hl h1 h2
  exact lv_f2i hC.1 hC.2.1 (am_dc hC hc) (h E p la e R s mth args below meth c Z d0 H locs cells slots ls hC hZ hd hR hS hl h1 h2)
theorem am_q_fmul (hc : am_code mi pc = some (.fmul, l)) (h : am_st Y mi mc ms pc L S m (am_kW Y mi Q) (am_cW Y) Q (.fmul) l) : am_WP Y mi mc ms pc L S m Q := by
  have hg := am_g_e h
  clear h
  obtain ⟨hb, h⟩ := hg
  obtain rfl := am_beq hb
  obtain ⟨x, y, r, rfl, hne, h⟩ := am_f2_e h
  intro E p la e R s mth args below meth c Z d0 H locs cells slots ls hC hZ hd hR hS hl h1 h2
  exact lv_fmul hC.1 hC.2.1 (am_dc hC hc) hne (h E p la e R s mth args below meth c Z d0 H locs cells slots ls hC hZ hd hR hS hl h1 h2)
theorem am_q_fcmp {op : CmpOp} (hc : am_code mi pc = some (.fcmp op, l)) (h : am_st Y mi mc ms pc L S m (am_kW Y mi Q) (am_cW Y) Q (.fcmp op) l) : am_WP Y mi mc ms pc L S m Q := by
  have hg := am_g_e h
  clear h
  obtain ⟨hb, h⟩ := hg
  obtain rfl := am_beq hb
  obtain ⟨x, y, r, rfl, h⟩ := am_f2_e h
  intro E p la e R s mth args below meth c Z d0 H locs cells slots ls hC hZ hd hR hS hl h1 h2
  exact lv_fcmp hC.1 hC.2.1 (am_dc hC hc) (h E p la e R s mth args below meth c Z d0 H locs cells slots ls hC hZ hd hR hS hl h1 h2)
theorem am_q_iconst {n : Int} (hc : am_code mi pc = some (.iconst n, l)) (h : am_st Y mi mc ms pc L S m (am_kW Y mi Q) (am_cW Y) Q (.iconst n) l) : am_WP Y mi mc ms pc L S m Q := by
  have hg := am_g_e h
  clear h
  obtain ⟨hb, h⟩ := hg
  obtain rfl := am_beq hb
  obtain ⟨vv, hvv, h⟩ := h
  intro E p la e R s mth args below meth c Z d0 H locs cells slots ls hC hZ hd hR hS hl h1 h2
  exact lv_iconst hC.1 hC.2.1 (am_dc hC hc) hvv (h E p la e R s mth args below meth c Z d0 H locs cells slots ls hC hZ hd hR hS hl h1 h2)
theorem am_q_bipush {n : Int} (hc : am_code mi pc = some (.bipush n, l)) (h : am_st Y mi mc ms pc L S m (am_kW Y mi Q) (am_cW Y) Q (.bipush n) l) : am_WP Y mi mc ms pc L S m Q := by
  have hg := am_g_e h
  clear h
  obtain ⟨hb, h⟩ := hg
  obtain rfl := am_beq hb
  obtain ⟨vv, hvv, h⟩ := h
  intro E p la e R s mth args below meth c Z d0 H locs cells slots ls hC hZ hd hR hS hl h1 h2
  exact lv_bipush hC.1 hC.2.1 (am_dc hC hc) hvv (h E p la e R s mth args below meth c Z d0 H locs cells slots ls hC hZ hd hR hS hl h1 h2)
theorem am_q_sipush {n : Int} (hc : am_code mi pc = some (.sipush n, l)) (h : am_st Y mi mc ms pc L S m (am_kW Y mi Q) (am_cW Y) Q (.sipush n) l) : am_WP Y mi mc ms pc L S m Q := by
  have hg := am_g_e h
  clear h
  obtain ⟨hb, h⟩ := hg
  obtain rfl := am_beq hb
  obtain ⟨vv, hvv, h⟩ := h
  intro E p la e R s mth args below meth c Z d0 H locs cells slots ls hC hZ hd hR hS hl h1 h2
  exact lv_sipush hC.1 hC.2.1 (am_dc hC hc) hvv (h E p la e R s mth args below meth c Z d0 H locs cells slots ls hC hZ hd hR hS hl h1 h2)
theorem am_q_lconst {n : Fin 2} (hc : am_code mi pc = some (.lconst n, l)) (h : am_st Y mi mc ms pc L S m (am_kW Y mi Q) (am_cW Y) Q (.lconst n) l) : am_WP Y mi mc ms pc L S m Q := by
  have hg := am_g_e h
  clear h
  obtain ⟨hb, h⟩ := hg
  obtain rfl := am_beq hb
  obtain ⟨vv, hvv, h⟩ := h
  intro E p la e R s mth args below meth c Z d0 H locs cells slots ls hC hZ hd hR hS hl h1 h2
  exact lv_lconst hC.1 hC.2.1 (am_dc hC hc) hvv (h E p la e R s mth args below meth c Z d0 H locs cells slots ls hC hZ hd hR hS hl h1 h2)
theorem am_q_fconst {n : Fin 3} (hc : am_code mi pc = some (.fconst n, l)) (h : am_st Y mi mc ms pc L S m (am_kW Y mi Q) (am_cW Y) Q (.fconst n) l) : am_WP Y mi mc ms pc L S m Q := by
  have hg := am_g_e h
  clear h
  obtain ⟨hb, h⟩ := hg
  obtain rfl := am_beq hb
  intro E p la e R s mth args below meth c Z d0 H locs cells slots ls hC hZ hd hR hS hl h1 h2
  match n, hc, h with
  | 0, hc, h => exact lv_fconst0 hC.1 hC.2.1 (am_dc hC hc) (h E p la e R s mth args below meth c Z d0 H locs cells slots ls hC hZ hd hR hS hl h1 h2)
  | 1, hc, h => exact lv_fconst1 hC.1 hC.2.1 (am_dc hC hc) (h E p la e R s mth args below meth c Z d0 H locs cells slots ls hC hZ hd hR hS hl h1 h2)
  | 2, hc, h => exact lv_fconst2 hC.1 hC.2.1 (am_dc hC hc) (h E p la e R s mth args below meth c Z d0 H locs cells slots ls hC hZ hd hR hS hl h1 h2)
theorem am_q_aconst_null (hc : am_code mi pc = some (.aconst_null, l)) (h : am_st Y mi mc ms pc L S m (am_kW Y mi Q) (am_cW Y) Q (.aconst_null) l) : am_WP Y mi mc ms pc L S m Q := by
  have hg := am_g_e h
  clear h
  obtain ⟨hb, h⟩ := hg
  obtain rfl := am_beq hb
  intro E p la e R s mth args below meth c Z d0 H locs cells slots ls hC hZ hd hR hS hl h1 h2
  exact lv_null hC.1 hC.2.1 (am_dc hC hc) (h E p la e R s mth args below meth c Z d0 H locs cells slots ls hC hZ hd hR hS hl h1 h2)
theorem am_q_iload {n : Nat} (hc : am_code mi pc = some (.iload n, l)) (h : am_st Y mi mc ms pc L S m (am_kW Y mi Q) (am_cW Y) Q (.iload n) l) : am_WP Y mi mc ms pc L S m Q := by
  have hg := am_g_e h
  clear h
  obtain ⟨hb, h⟩ := hg
  obtain rfl := am_beq hb
  obtain ⟨x, hv, h⟩ := am_iV_e h
  intro E p la e R s mth args below meth c Z d0 H locs cells slots ls hC hZ hd hR hS hl h1 h2
  exact lv_iload hC.1 hC.2.1 (am_dc hC hc) (hl.2.2 _ _ hv) (h E p la e R s mth args below meth c Z d0 H locs cells slots ls hC hZ hd hR hS hl h1 h2)
theorem am_q_iload_n {n : Fin 4} (hc : am_code mi pc = some (.iload_n n, l)) (h : am_st Y mi mc ms pc L S m (am_kW Y mi Q) (am_cW Y) Q (.iload_n n) l) : am_WP Y mi mc ms pc L S m Q := by
  have hg := am_g_e h
  clear h
  obtain ⟨hb, h⟩ := hg
  obtain rfl := am_beq hb
  obtain ⟨x, hv, h⟩ := am_iV_e h
  intro E p la e R s mth args below meth c Z d0 H locs cells slots ls hC hZ hd hR hS hl h1 h2
  exact lv_iload_n hC.1 hC.2.1 (am_dc hC hc) rfl (hl.2.2 _ _ hv) (h E p la e R s mth args below meth c Z d0 H locs cells slots ls hC hZ hd hR hS hl h1 h2)
theorem am_q_lload {n : Nat} (hc : am_code mi pc = some (.lload n, l)) (h : am_st Y mi mc ms pc L S m (am_kW Y mi Q) (am_cW Y) Q (.lload n) l) : am_WP Y mi mc ms pc L S m Q := by
  have hg := am_g_e h
  clear h
  obtain ⟨hb, h⟩ := hg
  obtain rfl := am_beq hb
  obtain ⟨x, hv, h⟩ := am_lV_e h
  intro E p la e R s mth args below meth c Z d0 H locs cells slots ls hC hZ hd hR hS hl h1 h2
  exact lv_lload hC.1 hC.2.1 (am_dc hC hc) (hl.2.2 _ _ hv) (h E p la e R s mth args below meth c Z d0 H locs cells slots ls hC hZ hd hR hS hl h1 h2)
theorem am_q_lload_n {n : Fin 4} (hc : am_code mi pc = some (.lload_n n, l)) (h : am_st Y mi mc ms pc L S m (am_kW Y mi Q) (am_cW Y) Q (.lload_n n) l) : am_WP Y mi mc ms pc L S m Q := by
  have hg := am_g_e h
  clear h
  obtain ⟨hb, h⟩ := hg
  obtain rfl := am_beq hb
  obtain ⟨x, hv, h⟩ := am_lV_e h
  intro E p la e R s mth args below meth c Z d0 H locs cells slots ls hC hZ hd hR hS hl h1 h2
  exact lv_lload_n hC.1 hC.2.1 (am_dc hC hc) rfl (hl.2.2 _ _ hv) (h E p la e R s mth args below meth c Z d0 H locs cells slots ls hC hZ hd hR hS hl h1 h2)
theorem am_q_fload {n : Nat} (hc : am_code mi pc = some (.fload n, l)) (h : am_st Y mi mc ms pc L S m (am_kW Y mi Q) (am_cW Y) Q (.fload n) l) : am_WP Y mi mc ms pc L S m Q := by
  have hg := am_g_e h
  clear h
  obtain ⟨hb, h⟩ := hg
  obtain rfl := am_beq hb
  obtain ⟨x, hv, h⟩ := am_fV_e h
  intro E p la e R s mth args below meth c Z d0 H locs cells slots ls hC hZ hd hR hS hl h1 h2
  exact lv_fload hC.1 hC.2.1 (am_dc hC hc) (hl.2.2 _ _ hv) (h E p la e R s mth args below meth c Z d0 H locs cells slots ls hC hZ hd hR hS hl h1 h2)
theorem am_q_fload_n {n : Fin 4} (hc : am_code mi pc = some (.fload_n n, l)) (h : am_st Y mi mc ms pc L S m (am_kW Y mi Q) (am_cW Y) Q (.fload_n n) l) : am_WP Y mi mc ms pc L S m Q := by
  have hg := am_g_e h
  clear h
  obtain ⟨hb, h⟩ := hg
  obtain rfl := am_beq hb
  obtain ⟨x, hv, h⟩ := am_fV_e h
  intro E p la e R s mth args below meth c Z d0 H locs cells slots ls hC hZ hd hR hS hl h1 h2
  exact lv_fload_n hC.1 hC.2.1 (am_dc hC hc) rfl (hl.2.2 _ _ hv) (h E p la e R s mth args below meth c Z d0 H locs cells slots ls hC hZ hd hR hS hl h1 h2)
theorem am_q_aload {n : Nat} (hc : am_code mi pc = some (.aload n, l)) (h : am_st Y mi mc ms pc L S m (am_kW Y mi Q) (am_cW Y) Q (.aload n) l) : am_WP Y mi mc ms pc L S m Q := by
  have hg := am_g_e h
  clear h
  obtain ⟨hb, h⟩ := hg
  obtain rfl := am_beq hb
  obtain ⟨o, hv, h⟩ := am_oV_e h
  intro E p la e R s mth args below meth c Z d0 H locs cells slots ls hC hZ hd hR hS hl h1 h2
  cases o with
  | none => exact lv_aloadN hC.1 hC.2.1 (am_dc hC hc) (hl.2.2 _ _ hv) (h E p la e R s mth args below meth c Z d0 H locs cells slots ls hC hZ hd hR hS hl h1 h2)
  | some a => exact lv_aload hC.1 hC.2.1 (am_dc hC hc) (hl.2.2 _ _ hv) (h E p la e R s mth args below meth c Z d0 H locs cells slots ls hC hZ hd hR hS hl h1 h2)
theorem am_q_aload_n {n : Fin 4} (hc : am_code mi pc = some (.aload_n n, l)) (h : am_st Y mi mc ms pc L S m (am_kW Y mi Q) (am_cW Y) Q (.aload_n n) l) : am_WP Y mi mc ms pc L S m Q := by
  have hg := am_g_e h
  clear h
  obtain ⟨hb, h⟩ := hg
  obtain rfl := am_beq hb
  obtain ⟨o, hv, h⟩ := am_oV_e h
  intro E p la e R s mth args below meth c Z d0 H locs cells slots ls hC hZ hd hR hS hl h1 h2
  cases o with
  | none => exact lv_aload_nN hC.1 hC.2.1 (am_dc hC hc) rfl (hl.2.2 _ _ hv) (h E p la e R s mth args below meth c Z d0 H locs cells slots ls hC hZ hd hR hS hl h1 h2)
  | some a => exact lv_aload_n hC.1 hC.2.1 (am_dc hC hc) rfl (hl.2.2 _ _ hv) (h E p la e R s mth args below meth c Z d0 H locs cells slots ls hC hZ hd hR hS hl h1 h2)
theorem am_q_istore {n : Nat} (hc : am_code mi pc = some (.istore n, l)) (h : am_st Y mi mc ms pc L S m (am_kW Y mi Q) (am_cW Y) Q (.istore n) l) : am_WP Y mi mc ms pc L S m Q := by
  have hg := am_g_e h
  clear h
  obtain ⟨hb, h⟩ := hg
  obtain ⟨hb, hn⟩ := Bool.and_eq_true_iff.mp hb
  obtain rfl := am_beq hb
  obtain ⟨x, r, rfl, h⟩ := am_i1_e h
  intro E p la e R s mth args below meth c Z d0 H locs cells slots ls hC hZ hd hR hS hl h1 h2
  exact lv_istore hC.1 hC.2.1 (am_dc hC hc) hl.has (am_ble hn) rfl (fun ls1 hl1 => (h E p la e R s mth args below meth c Z d0 H locs cells slots ls1 hC hZ hd hR hS (am_lr.s1 hl1) h1 h2))
theorem am_q_istore_n {n : Fin 4} (hc : am_code mi pc = some (.istore_n n, l)) (h : am_st Y mi mc ms pc L S m (am_kW Y mi Q) (am_cW Y) Q (.istore_n n) l) : am_WP Y mi mc ms pc L S m Q := by
  have hg := am_g_e h
  clear h
  obtain ⟨hb, h⟩ := hg
  obtain ⟨hb, hn⟩ := Bool.and_eq_true_iff.mp hb
  obtain rfl := am_beq hb
  obtain ⟨x, r, rfl, h⟩ := am_i1_e h
  intro E p la e R s mth args below meth c Z d0 H locs cells slots ls hC hZ hd hR hS hl h1 h2
  exact lv_istore_n hC.1 hC.2.1 (am_dc hC hc) rfl hl.has (am_ble hn) rfl (fun ls1 hl1 => (h E p la e R s mth args below meth c Z d0 H locs cells slots ls1 hC hZ hd hR hS (am_lr.s1 hl1) h1 h2))
theorem am_q_fstore {n : Nat} (hc : am_code mi pc = some (.fstore n, l)) (h : am_st Y mi mc ms pc L S m (am_kW Y mi Q) (am_cW Y) Q (.fstore n) l) : am_WP Y mi mc ms pc L S m Q := by
  have hg := am_g_e h
  clear h
  obtain ⟨hb, h⟩ := hg
  obtain ⟨hb, hn⟩ := Bool.and_eq_true_iff.mp hb
  obtain rfl := am_beq hb
  obtain ⟨x, r, rfl, h⟩ := am_f1_e h
  intro E p la e R s mth args below meth c Z d0 H locs cells slots ls hC hZ hd hR hS hl h1 h2
  exact lv_fstore hC.1 hC.2.1 (am_dc hC hc) hl.has (am_ble hn) rfl (fun ls1 hl1 => (h E p la e R s mth args below meth c Z d0 H locs cells slots ls1 hC hZ hd hR hS (am_lr.s1 hl1) h1 h2))
theorem am_q_fstore_n {n : Fin 4} (hc : am_code mi pc = some (.fstore_n n, l)) (h : am_st Y mi mc ms pc L S m (am_kW Y mi Q) (am_cW Y) Q (.fstore_n n) l) : am_WP Y mi mc ms pc L S m Q := by
  have hg := am_g_e h
  clear h
  obtain ⟨hb, h⟩ := hg
  obtain ⟨hb, hn⟩ := Bool.and_eq_true_iff.mp hb
  obtain rfl := am_beq hb
  obtain ⟨x, r, rfl, h⟩ := am_f1_e h
  intro E p la e R s mth args below meth c Z d0 H locs cells slots ls hC hZ hd hR hS hl h1 h2
  exact lv_fstore_n hC.1 hC.2.1 (am_dc hC hc) rfl hl.has (am_ble hn) rfl (fun ls1 hl1 => (h E p la e R s mth args below meth c Z d0 H locs cells slots ls1 hC hZ hd hR hS (am_lr.s1 hl1) h1 h2))
theorem am_q_lstore_n {n : Fin 4} (hc : am_code mi pc = some (.lstore_n n, l)) (h : am_st Y mi mc ms pc L S m (am_kW Y mi Q) (am_cW Y) Q (.lstore_n n) l) : am_WP Y mi mc ms pc L S m Q := by
  have hg := am_g_e h
  clear h
  obtain ⟨hb, h⟩ := hg
  obtain ⟨hb, hn⟩ := Bool.and_eq_true_iff.mp hb
  obtain rfl := am_beq hb
  obtain ⟨x, r, rfl, h⟩ := am_l1_e h
  intro E p la e R s mth args below meth c Z d0 H locs cells slots ls hC hZ hd hR hS hl h1 h2
  exact lv_lstore_n hC.1 hC.2.1 (am_dc hC hc) rfl hl.has (am_ble hn) rfl (fun ls1 hl1 => (h E p la e R s mth args below meth c Z d0 H locs cells slots ls1 hC hZ hd hR hS (am_lr.s2 hl1) h1 h2))
theorem am_q_astore {n : Nat} (hc : am_code mi pc = some (.astore n, l)) (h : am_st Y mi mc ms pc L S m (am_kW Y mi Q) (am_cW Y) Q (.astore n) l) : am_WP Y mi mc ms pc L S m Q := by
  have hg := am_g_e h
  clear h
  obtain ⟨hb, h⟩ := hg
  obtain ⟨hb, hn⟩ := Bool.and_eq_true_iff.mp hb
  obtain rfl := am_beq hb
  obtain ⟨x, r, rfl, h⟩ := am_o1_e h
  intro E p la e R s mth args below meth c Z d0 H locs cells slots ls hC hZ hd hR hS hl h1 h2
  cases x with
  | none => exact lv_astoreN hC.1 hC.2.1 (am_dc hC hc) hl.has (am_ble hn) rfl (fun ls1 hl1 => (h E p la e R s mth args below meth c Z d0 H locs cells slots ls1 hC hZ hd hR hS (am_lr.s1 (v := .null) hl1) h1 h2))
  | some a => exact lv_astore hC.1 hC.2.1 (am_dc hC hc) hl.has (am_ble hn) rfl (fun ls1 hl1 => (h E p la e R s mth args below meth c Z d0 H locs cells slots ls1 hC hZ hd hR hS (am_lr.s1 (v := .ref a) hl1) h1 h2))
theorem am_q_astore_n {n : Fin 4} (hc : am_code mi pc = some (.astore_n n, l)) (h : am_st Y mi mc ms pc L S m (am_kW Y mi Q) (am_cW Y) Q (.astore_n n) l) : am_WP Y mi mc ms pc L S m Q := by
  have hg := am_g_e h
  clear h
  obtain ⟨hb, h⟩ := hg
  obtain ⟨hb, hn⟩ := Bool.and_eq_true_iff.mp hb
  obtain rfl := am_beq hb
  obtain ⟨x, r, rfl, h⟩ := am_o1_e h
  intro E p la e R s mth args below meth c Z d0 H locs cells slots ls hC hZ hd hR hS hl h1 h2
  cases x with
  | none => exact lv_astore_nN hC.1 hC.2.1 (am_dc hC hc) rfl hl.has (am_ble hn) rfl (fun ls1 hl1 => (h E p la e R s mth args below meth c Z d0 H locs cells slots ls1 hC hZ hd hR hS (am_lr.s1 (v := .null) hl1) h1 h2))
  | some a => exact lv_astore_n hC.1 hC.2.1 (am_dc hC hc) rfl hl.has (am_ble hn) rfl (fun ls1 hl1 => (h E p la e R s mth args below meth c Z d0 H locs cells slots ls1 hC hZ hd hR hS (am_lr.s1 (v := .ref a) hl1) h1 h2))
theorem am_q_iinc {n : Nat} {dd : Int} (hc : am_code mi pc = some (.iinc n dd, l)) (h : am_st Y mi mc ms pc L S m (am_kW Y mi Q) (am_cW Y) Q (.iinc n dd) l) : am_WP Y mi mc ms pc L S m Q := by
  have hg := am_g_e h
  clear h
  obtain ⟨hb, h⟩ := hg
  obtain ⟨hb, hn⟩ := Bool.and_eq_true_iff.mp hb
  obtain rfl := am_beq hb
  obtain ⟨x, hv, vv, rfl, h⟩ := am_iV_e h
  intro E p la e R s mth args below meth c Z d0 H locs cells slots ls hC hZ hd hR hS hl h1 h2
  have hm := am_as_mem E L 0 n _ hv
  rw [Nat.zero_add] at hm
  obtain ⟨kq, hkq⟩ := List.getElem?_of_mem hm
  exact lv_iinc hC.1 hC.2.1 (am_dc hC hc) hl.has hkq rfl (am_ble hn) rfl (fun ls1 hl1 => (h E p la e R s mth args below meth c Z d0 H locs cells slots ls1 hC hZ hd hR hS (am_lr.s1 (v := .int (x + Int32.ofInt dd)) hl1) h1 h2))
theorem am_q_dup (hc : am_code mi pc = some (.dup, l)) (h : am_st Y mi mc ms pc L S m (am_kW Y mi Q) (am_cW Y) Q (.dup) l) : am_WP Y mi mc ms pc L S m Q := by
  have hg := am_g_e h
  clear h
  obtain ⟨hb, h⟩ := hg
  obtain rfl := am_beq hb
  obtain ⟨v, r, rfl, hv, h⟩ := am_v1_e h
  intro E p la e R s mth args below meth c Z d0 H locs cells slots ls hC hZ hd hR hS hl h1 h2
  exact lv_dup hC.1 hC.2.1 (am_dc hC hc) ((am_cat E v).trans hv) (h E p la e R s mth args below meth c Z d0 H locs cells slots ls hC hZ hd hR hS hl h1 h2)
theorem am_q_dup2 (hc : am_code mi pc = some (.dup2, l)) (h : am_st Y mi mc ms pc L S m (am_kW Y mi Q) (am_cW Y) Q (.dup2) l) : am_WP Y mi mc ms pc L S m Q := by
  have hg := am_g_e h
  clear h
  obtain ⟨hb, h⟩ := hg
  obtain rfl := am_beq hb
  obtain ⟨v, r1, e1, g1⟩ := am_v1_e h
  obtain ⟨v2, r, e2, hv, hv2, g2⟩ := am_v1_e g1
  clear h g1
  subst e2
  subst e1
  intro E p la e R s mth args below meth c Z d0 H locs cells slots ls hC hZ hd hR hS hl h1 h2
  exact lv_dup2_11 hC.1 hC.2.1 (am_dc hC hc) ((am_cat E v).trans hv) ((am_cat E v2).trans hv2) (g2 E p la e R s mth args below meth c Z d0 H locs cells slots ls hC hZ hd hR hS hl h1 h2)
theorem am_q_goto {off : Int} (hc : am_code mi pc = some (.goto off, l)) (h : am_st Y mi mc ms pc L S m (am_kW Y mi Q) (am_cW Y) Q (.goto off) l) : am_WP Y mi mc ms pc L S m Q := by
  have hg := am_g_e h
  clear h
  obtain ⟨hb, h⟩ := hg
  obtain ⟨hb, ht⟩ := Bool.and_eq_true_iff.mp hb
  obtain rfl := am_beq hb
  intro E p la e R s mth args below meth c Z d0 H locs cells slots ls hC hZ hd hR hS hl h1 h2
  exact lv_goto hC.1 hC.2.1 (am_dc hC hc) (am_tgt ht) (h E p la e R s mth args below meth c Z d0 H locs cells slots ls hC hZ hd hR hS hl h1 h2)
theorem am_q_if_icmp {cd : ClassFile.Cond} {off : Int} (hc : am_code mi pc = some (.if_icmp cd off, l)) (h : am_st Y mi mc ms pc L S m (am_kW Y mi Q) (am_cW Y) Q (.if_icmp cd off) l) : am_WP Y mi mc ms pc L S m Q := by
  have hg := am_g_e h
  clear h
  obtain ⟨hb, h⟩ := hg
  obtain ⟨hb, ht⟩ := Bool.and_eq_true_iff.mp hb
  obtain rfl := am_beq hb
  obtain ⟨x, y, r, rfl, h⟩ := am_i2_e h
  intro E p la e R s mth args below meth c Z d0 H locs cells slots ls hC hZ hd hR hS hl h1 h2
  cases cd
  · exact lv_icmp_eq hC.1 hC.2.1 (am_dc hC hc) (am_tgt ht) (fun q => (h.1 q E p la e R s mth args below meth c Z d0 H locs cells slots ls hC hZ hd hR hS hl h1 h2)) (fun q => (h.2 q E p la e R s mth args below meth c Z d0 H locs cells slots ls hC hZ hd hR hS hl h1 h2))
  · exact lv_icmp_ne hC.1 hC.2.1 (am_dc hC hc) (am_tgt ht) (fun q => (h.1 q E p la e R s mth args below meth c Z d0 H locs cells slots ls hC hZ hd hR hS hl h1 h2)) (fun q => (h.2 q E p la e R s mth args below meth c Z d0 H locs cells slots ls hC hZ hd hR hS hl h1 h2))
  · exact lv_icmp_lt hC.1 hC.2.1 (am_dc hC hc) (am_tgt ht) (fun q => (h.1 q E p la e R s mth args below meth c Z d0 H locs cells slots ls hC hZ hd hR hS hl h1 h2)) (fun q => (h.2 q E p la e R s mth args below meth c Z d0 H locs cells slots ls hC hZ hd hR hS hl h1 h2))
  · exact lv_icmp_ge hC.1 hC.2.1 (am_dc hC hc) (am_tgt ht) (fun q => (h.1 q E p la e R s mth args below meth c Z d0 H locs cells slots ls hC hZ hd hR hS hl h1 h2)) (fun q => (h.2 q E p la e R s mth args below meth c Z d0 H locs cells slots ls hC hZ hd hR hS hl h1 h2))
  · exact lv_icmp_gt hC.1 hC.2.1 (am_dc hC hc) (am_tgt ht) (fun q => (h.1 q E p la e R s mth args below meth c Z d0 H locs cells slots ls hC hZ hd hR hS hl h1 h2)) (fun q => (h.2 q E p la e R s mth args below meth c Z d0 H locs cells slots ls hC hZ hd hR hS hl h1 h2))
  · exact lv_icmp_le hC.1 hC.2.1 (am_dc hC hc) (am_tgt ht) (fun q => (h.1 q E p la e R s mth args below meth c Z d0 H locs cells slots ls hC hZ hd hR hS hl h1 h2)) (fun q => (h.2 q E p la e R s mth args below meth c Z d0 H locs cells slots ls hC hZ hd hR hS hl h1 h2))
theorem am_q_ifCond {cd : ClassFile.Cond} {off : Int} (hc : am_code mi pc = some (.ifCond cd off, l)) (h : am_st Y mi mc ms pc L S m (am_kW Y mi Q) (am_cW Y) Q (.ifCond cd off) l) : am_WP Y mi mc ms pc L S m Q := by
  have hg := am_g_e h
  clear h
  obtain ⟨hb, h⟩ := hg
  obtain ⟨hb, ht⟩ := Bool.and_eq_true_iff.mp hb
  obtain rfl := am_beq hb
  obtain ⟨x, r, rfl, h⟩ := am_i1_e h
  intro E p la e R s mth args below meth c Z d0 H locs cells slots ls hC hZ hd hR hS hl h1 h2
  cases cd
  · exact lv_if_eq hC.1 hC.2.1 (am_dc hC hc) (am_tgt ht) (fun q => (h.1 q E p la e R s mth args below meth c Z d0 H locs cells slots ls hC hZ hd hR hS hl h1 h2)) (fun q => (h.2 q E p la e R s mth args below meth c Z d0 H locs cells slots ls hC hZ hd hR hS hl h1 h2))
  · exact lv_if_ne hC.1 hC.2.1 (am_dc hC hc) (am_tgt ht) (fun q => (h.1 q E p la e R s mth args below meth c Z d0 H locs cells slots ls hC hZ hd hR hS hl h1 h2)) (fun q => (h.2 q E p la e R s mth args below meth c Z d0 H locs cells slots ls hC hZ hd hR hS hl h1 h2))
  · exact lv_if_lt hC.1 hC.2.1 (am_dc hC hc) (am_tgt ht) (fun q => (h.1 q E p la e R s mth args below meth c Z d0 H locs cells slots ls hC hZ hd hR hS hl h1 h2)) (fun q => (h.2 q E p la e R s mth args below meth c Z d0 H locs cells slots ls hC hZ hd hR hS hl h1 h2))
  · exact lv_if_ge hC.1 hC.2.1 (am_dc hC hc) (am_tgt ht) (fun q => (h.1 q E p la e R s mth args below meth c Z d0 H locs cells slots ls hC hZ hd hR hS hl h1 h2)) (fun q => (h.2 q E p la e R s mth args below meth c Z d0 H locs cells slots ls hC hZ hd hR hS hl h1 h2))
  · exact lv_if_gt hC.1 hC.2.1 (am_dc hC hc) (am_tgt ht) (fun q => (h.1 q E p la e R s mth args below meth c Z d0 H locs cells slots ls hC hZ hd hR hS hl h1 h2)) (fun q => (h.2 q E p la e R s mth args below meth c Z d0 H locs cells slots ls hC hZ hd hR hS hl h1 h2))
  · exact lv_if_le hC.1 hC.2.1 (am_dc hC hc) (am_tgt ht) (fun q => (h.1 q E p la e R s mth args below meth c Z d0 H locs cells slots ls hC hZ hd hR hS hl h1 h2)) (fun q => (h.2 q E p la e R s mth args below meth c Z d0 H locs cells slots ls hC hZ hd hR hS hl h1 h2))
theorem am_q_ifnull {off : Int} (hc : am_code mi pc = some (.ifnull off, l)) (h : am_st Y mi mc ms pc L S m (am_kW Y mi Q) (am_cW Y) Q (.ifnull off) l) : am_WP Y mi mc ms pc L S m Q := by
  have hg := am_g_e h
  clear h
  obtain ⟨hb, h⟩ := hg
  obtain ⟨hb, ht⟩ := Bool.and_eq_true_iff.mp hb
  obtain rfl := am_beq hb
  obtain ⟨o, r, rfl, h⟩ := am_o1_e h
  intro E p la e R s mth args below meth c Z d0 H locs cells slots ls hC hZ hd hR hS hl h1 h2
  cases o with
  | none => exact lv_ifnullN hC.1 hC.2.1 (am_dc hC hc) (am_tgt ht) (h E p la e R s mth args below meth c Z d0 H locs cells slots ls hC hZ hd hR hS hl h1 h2)
  | some a => exact lv_ifnull hC.1 hC.2.1 (am_dc hC hc) (h E p la e R s mth args below meth c Z d0 H locs cells slots ls hC hZ hd hR hS hl h1 h2)
theorem am_q_ifnonnull {off : Int} (hc : am_code mi pc = some (.ifnonnull off, l)) (h : am_st Y mi mc ms pc L S m (am_kW Y mi Q) (am_cW Y) Q (.ifnonnull off) l) : am_WP Y mi mc ms pc L S m Q := by
  have hg := am_g_e h
  clear h
  obtain ⟨hb, h⟩ := hg
  obtain ⟨hb, ht⟩ := Bool.and_eq_true_iff.mp hb
  obtain rfl := am_beq hb
  obtain ⟨o, r, rfl, h⟩ := am_o1_e h
  intro E p la e R s mth args below meth c Z d0 H locs cells slots ls hC hZ hd hR hS hl h1 h2
  cases o with
  | none => exact lv_ifnonnullN hC.1 hC.2.1 (am_dc hC hc) (h E p la e R s mth args below meth c Z d0 H locs cells slots ls hC hZ hd hR hS hl h1 h2)
  | some a => exact lv_ifnonnull hC.1 hC.2.1 (am_dc hC hc) (am_tgt ht) (h E p la e R s mth args below meth c Z d0 H locs cells slots ls hC hZ hd hR hS hl h1 h2)
theorem am_q_tableswitch {dt lo hi : Int} {offs : Array Int} (hc : am_code mi pc = some (.tableswitch dt lo hi offs, l)) (h : am_st Y mi mc ms pc L S m (am_kW Y mi Q) (am_cW Y) Q (.tableswitch dt lo hi offs) l) : am_WP Y mi mc ms pc L S m Q := by
  have hg := am_g_e h
  clear h
  obtain ⟨hb, h⟩ := hg
  obtain ⟨ht, hh⟩ := Bool.and_eq_true_iff.mp hb
  have hh := of_decide_eq_true hh
  obtain ⟨x, r, rfl, h⟩ := am_i1_e h
  intro E p la e R s mth args below meth c Z d0 H locs cells slots ls hC hZ hd hR hS hl h1 h2
  by_cases hout : x.toInt < lo ∨ hi < x.toInt
  · exact lv_tableOut hC.1 hC.2.1 (am_dc hC hc) hout (am_tgt ht) (h.1 hout E p la e R s mth args below meth c Z d0 H locs cells slots ls hC hZ hd hR hS hl h1 h2)
  · obtain ⟨off, g1, g2, g3⟩ := am_sw_e h.2 (fun q => hout (Or.inl q)) (by have : ¬ hi < x.toInt := fun q => hout (Or.inr q); omega)
    exact lv_tableIn hC.1 hC.2.1 (am_dc hC hc) (fun q => hout (Or.inl q)) (fun q => hout (Or.inr q)) (by rw [← Array.getElem?_toList]; exact g1) (am_tgt g2) (g3 E p la e R s mth args below meth c Z d0 H locs cells slots ls hC hZ hd hR hS hl h1 h2)
theorem am_q_ldc {n : Nat} (hc : am_code mi pc = some (.ldc n, l)) (h : am_st Y mi mc ms pc L S m (am_kW Y mi Q) (am_cW Y) Q (.ldc n) l) : am_WP Y mi mc ms pc L S m Q := by
  have hg := am_g_e h
  clear h
  obtain ⟨hb, h⟩ := hg
  obtain rfl := am_beq hb
  intro E p la e R s mth args below meth c Z d0 H locs cells slots ls hC hZ hd hR hS hl h1 h2
  have ho := am_cls_lt (am_mi hc)
  cases hk : am_lk (am_KT (am_cls mi)) n with
  | none => rw [hk] at h; exact h.elim
  | some q =>
    have hw := am_KT_e ho hk
    rw [hk] at h
    obtain ⟨v, pq⟩ := q
    cases v
    · exact lv_ldc hC.1 hC.2.1 hC.2.2.2.1 (am_ht hC d0 (am_wd_e hw)) (am_dc hC hc) (h E p la e R s mth args below meth c Z d0 H locs cells slots ls hC hZ hd hR hS hl h1 h2)
    · exact h.elim
    · exact lv_ldcf hC.1 hC.2.1 hC.2.2.2.1 (am_ht hC d0 (am_wd_e hw)) (am_dc hC hc) (h E p la e R s mth args below meth c Z d0 H locs cells slots ls hC hZ hd hR hS hl h1 h2)
    · exact h.elim
    · exact h.elim
    · exact h.elim
    · exact h.elim
theorem am_q_ldc_w {n : Nat} (hc : am_code mi pc = some (.ldc_w n, l)) (h : am_st Y mi mc ms pc L S m (am_kW Y mi Q) (am_cW Y) Q (.ldc_w n) l) : am_WP Y mi mc ms pc L S m Q := by
  have hg := am_g_e h
  clear h
  obtain ⟨hb, h⟩ := hg
  obtain rfl := am_beq hb
  intro E p la e R s mth args below meth c Z d0 H locs cells slots ls hC hZ hd hR hS hl h1 h2
  have ho := am_cls_lt (am_mi hc)
  cases hk : am_lk (am_KT (am_cls mi)) n with
  | none => rw [hk] at h; exact h.elim
  | some q =>
    have hw := am_KT_e ho hk
    rw [hk] at h
    obtain ⟨v, pq⟩ := q
    cases v
    · exact lv_ldcw hC.1 hC.2.1 hC.2.2.2.1 (am_ht hC d0 (am_wd_e hw)) (am_dc hC hc) (h E p la e R s mth args below meth c Z d0 H locs cells slots ls hC hZ hd hR hS hl h1 h2)
    · exact h.elim
    · exact am_ldcwF hC.1 hC.2.1 hC.2.2.2.1 (am_ht hC d0 (am_wd_e hw)) (am_dc hC hc) (h E p la e R s mth args below meth c Z d0 H locs cells slots ls hC hZ hd hR hS hl h1 h2)
    · exact h.elim
    · exact h.elim
    · exact h.elim
    · exact h.elim
theorem am_q_ldc2_w {n : Nat} (hc : am_code mi pc = some (.ldc2_w n, l)) (h : am_st Y mi mc ms pc L S m (am_kW Y mi Q) (am_cW Y) Q (.ldc2_w n) l) : am_WP Y mi mc ms pc L S m Q := by
  have hg := am_g_e h
  clear h
  obtain ⟨hb, h⟩ := hg
  obtain rfl := am_beq hb
  intro E p la e R s mth args below meth c Z d0 H locs cells slots ls hC hZ hd hR hS hl h1 h2
  have ho := am_cls_lt (am_mi hc)
  cases hk : am_lk (am_KT (am_cls mi)) n with
  | none => rw [hk] at h; exact h.elim
  | some q =>
    have hw := am_KT_e ho hk
    rw [hk] at h
    obtain ⟨v, pq⟩ := q
    cases v
    · exact h.elim
    · exact lv_ldc2 hC.1 hC.2.1 hC.2.2.2.1 (am_ht hC d0 (am_wd_e hw)) (am_dc hC hc) (h E p la e R s mth args below meth c Z d0 H locs cells slots ls hC hZ hd hR hS hl h1 h2)
    · exact h.elim
    · exact h.elim
    · exact h.elim
    · exact h.elim
    · exact h.elim
end SND
