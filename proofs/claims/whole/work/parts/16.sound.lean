/-! ===== the abstract machine is sound ===== -/
section SND2
variable {Y : am_Y} {mi mc ms pc l : Nat} {L : am_L} {S : List Value} {m : am_M} {Q : Option Value → am_M → Prop}
theorem am_end {i : Instr} (hc : am_code mi pc = some (i, 1)) {r : Option Value} (hS : S = r.toList) (hrt : am_rt mi i r) (hq : Q r m) : am_WP Y mi mc ms pc L S m Q := by
  intro E p la e R s mth args below meth c Z d0 H locs cells slots ls hC hZ hd hR hS1 hl h1 h2
  rw [hS]
  exact hZ d0 H locs cells slots r m i pc ls hd hR hS1 (by omega) (by omega) (am_dc hC hc) hrt hq
theorem am_q_ireturn (hc : am_code mi pc = some (.ireturn, l)) (h : am_st Y mi mc ms pc L S m (am_kW Y mi Q) (am_cW Y) Q (.ireturn) l) : am_WP Y mi mc ms pc L S m Q := by
  have hg := am_g_e h
  clear h
  obtain ⟨hb, h⟩ := hg
  obtain rfl := am_beq hb
  obtain ⟨x, r, e1, e2, g2⟩ := am_i1_e h
  clear h
  subst e2
  have j6 := (am_m_e (am_mi hc)).2.2.2.2.2.1
  rcases j6 with ⟨q, _⟩ | ⟨q, z⟩ | ⟨q, z⟩ | ⟨q, _⟩ | ⟨q, _⟩
  · rw [q] at g2; exact g2.elim
  · rw [q] at g2
    exact am_end hc (r := some (.int x)) e1 ⟨rfl, .int, z, rfl⟩ g2
  · rw [q] at g2
    exact am_end hc (r := some (.int x)) e1 ⟨rfl, .boolean, z, (am_nar01 g2.1).1⟩ g2.2
  · rw [q] at g2; exact g2.elim
  · rw [q] at g2; exact g2.elim
theorem am_q_freturn (hc : am_code mi pc = some (.freturn, l)) (h : am_st Y mi mc ms pc L S m (am_kW Y mi Q) (am_cW Y) Q (.freturn) l) : am_WP Y mi mc ms pc L S m Q := by
  have hg := am_g_e h
  clear h
  obtain ⟨hb, h⟩ := hg
  obtain rfl := am_beq hb
  obtain ⟨x, r, e1, e2, g2⟩ := am_f1_e h
  clear h
  subst e2
  obtain ⟨g3, g4⟩ := am_g_e g2
  have g3 := am_beq g3
  have j6 := (am_m_e (am_mi hc)).2.2.2.2.2.1
  rcases j6 with ⟨q, _⟩ | ⟨q, z⟩ | ⟨q, z⟩ | ⟨q, _⟩ | ⟨q, z⟩
  · omega
  · omega
  · omega
  · omega
  · exact am_end hc (r := some (.float x)) e1 ⟨rfl, z⟩ g4
theorem am_q_areturn (hc : am_code mi pc = some (.areturn, l)) (h : am_st Y mi mc ms pc L S m (am_kW Y mi Q) (am_cW Y) Q (.areturn) l) : am_WP Y mi mc ms pc L S m Q := by
  have hg := am_g_e h
  clear h
  obtain ⟨hb, h⟩ := hg
  obtain rfl := am_beq hb
  obtain ⟨o, r, e1, e2, g2⟩ := am_o1_e h
  clear h
  subst e2
  obtain ⟨g3, g4⟩ := am_g_e g2
  have g3 := am_beq g3
  have j6 := (am_m_e (am_mi hc)).2.2.2.2.2.1
  rcases j6 with ⟨q, _⟩ | ⟨q, z⟩ | ⟨q, z⟩ | ⟨q, z⟩ | ⟨q, z⟩
  · omega
  · omega
  · omega
  · cases o with
    | none => exact am_end hc (r := some .null) e1 ⟨rfl, z⟩ g4
    | some a => exact am_end hc (r := some (.ref a)) e1 ⟨rfl, z⟩ g4
  · omega
theorem am_q_return (hc : am_code mi pc = some (.return_, l)) (h : am_st Y mi mc ms pc L S m (am_kW Y mi Q) (am_cW Y) Q (.return_) l) : am_WP Y mi mc ms pc L S m Q := by
  have hg := am_g_e h
  clear h
  obtain ⟨hb, h⟩ := hg
  obtain rfl := am_beq hb
  obtain ⟨e1, g2⟩ := h
  obtain ⟨g3, g4⟩ := am_g_e g2
  have g3 := am_beq g3
  have j6 := (am_m_e (am_mi hc)).2.2.2.2.2.1
  rcases j6 with ⟨q, z⟩ | ⟨q, z⟩ | ⟨q, z⟩ | ⟨q, z⟩ | ⟨q, z⟩
  · exact am_end hc (r := none) e1 ⟨rfl, z⟩ g4
  · omega
  · omega
  · omega
  · omega
set_option maxHeartbeats 1000000 in
theorem am_sound (hi2f : am_I2F) (h : am_step Y mi mc ms pc L S m (am_kW Y mi Q) (am_cW Y) Q) : am_WP Y mi mc ms pc L S m Q := by
  unfold am_step at h
  cases hc : am_code mi pc with
  | none => rw [hc] at h; exact h.elim
  | some q =>
    rw [hc] at h
    obtain ⟨i, l⟩ := q
    have h : am_st Y mi mc ms pc L S m (am_kW Y mi Q) (am_cW Y) Q i l := h
    cases i
    case aload n => exact am_q_aload hc h
    case aload_n n => exact am_q_aload_n hc h
    case iload n => exact am_q_iload hc h
    case iload_n n => exact am_q_iload_n hc h
    case lload n => exact am_q_lload hc h
    case lload_n n => exact am_q_lload_n hc h
    case fload n => exact am_q_fload hc h
    case fload_n n => exact am_q_fload_n hc h
    case astore n => exact am_q_astore hc h
    case astore_n n => exact am_q_astore_n hc h
    case istore n => exact am_q_istore hc h
    case istore_n n => exact am_q_istore_n hc h
    case lstore_n n => exact am_q_lstore_n hc h
    case fstore n => exact am_q_fstore hc h
    case fstore_n n => exact am_q_fstore_n hc h
    case iinc n d => exact am_q_iinc hc h
    case iconst n => exact am_q_iconst hc h
    case bipush n => exact am_q_bipush hc h
    case sipush n => exact am_q_sipush hc h
    case lconst n => exact am_q_lconst hc h
    case fconst n => exact am_q_fconst hc h
    case aconst_null => exact am_q_aconst_null hc h
    case ldc n => exact am_q_ldc hc h
    case ldc_w n => exact am_q_ldc_w hc h
    case ldc2_w n => exact am_q_ldc2_w hc h
    case iadd => exact am_q_iadd hc h
    case isub => exact am_q_isub hc h
    case imul => exact am_q_imul hc h
    case idiv => exact am_q_idiv hc h
    case irem => exact am_q_irem hc h
    case ineg => exact am_q_ineg hc h
    case iand => exact am_q_iand hc h
    case ior => exact am_q_ior hc h
    case ixor => exact am_q_ixor hc h
    case ishl => exact am_q_ishl hc h
    case ishr => exact am_q_ishr hc h
    case iushr => exact am_q_iushr hc h
    case ladd => exact am_q_ladd hc h
    case lsub => exact am_q_lsub hc h
    case land => exact am_q_land hc h
    case lor => exact am_q_lor hc h
    case lxor => exact am_q_lxor hc h
    case lshl => exact am_q_lshl hc h
    case lshr => exact am_q_lshr hc h
    case lushr => exact am_q_lushr hc h
    case lcmp => exact am_q_lcmp hc h
    case l2i => exact am_q_l2i hc h
    case i2f => exact am_q_i2f hc h
    case f2i => exact am_q_f2i hc h
    case fmul => exact am_q_fmul hc h
    case fcmp => exact am_q_fcmp hc h
    case dup => exact am_q_dup hc h
    case dup2 => exact am_q_dup2 hc h
    case goto => exact am_q_goto hc h
    case if_icmp => exact am_q_if_icmp hc h
    case ifCond => exact am_q_ifCond hc h
    case ifnull => exact am_q_ifnull hc h
    case ifnonnull => exact am_q_ifnonnull hc h
    case tableswitch => exact am_q_tableswitch hc h
    case getfield => exact am_q_getfield hc h
    case putfield => exact am_q_putfield hc h
    case getstatic => exact am_q_getstatic hc h
    case iaload => exact am_q_iaload hc h
    case baload => exact am_q_baload hc h
    case laload => exact am_q_laload hc h
    case aaload => exact am_q_aaload hc h
    case iastore => exact am_q_iastore hc h
    case bastore => exact am_q_bastore hc h
    case lastore => exact am_q_lastore hc h
    case aastore => exact am_q_aastore hc h
    case arraylength => exact am_q_arraylength hc h
    case new => exact am_q_new hc h
    case newarray => exact am_q_newarray hc h
    case anewarray => exact am_q_anewarray hc h
    case invokevirtual => exact am_q_invokevirtual hc h
    case invokestatic => exact am_q_invokestatic hi2f hc h
    case invokespecial => exact am_q_invokespecial hc h
    case ireturn => exact am_q_ireturn hc h
    case freturn => exact am_q_freturn hc h
    case areturn => exact am_q_areturn hc h
    case return_ => exact am_q_return hc h
    all_goals exact h.elim
end SND2
