/-! ===== the abstract machine: memory as functions, a step as a predicate transformer ===== -/
abbrev am_L : Type := List (Option Value)
abbrev am_M : Type := (Nat → Nat → Int32) × (Nat → Nat → Int64) × (Nat → Nat → Option Nat) × (Nat → Nat × Nat) × Nat
abbrev am_Y : Type := (Nat → Nat → Option Nat) × (Nat → Option (Nat × Nat))
def am_gR (Y : am_Y) (m : am_M) (a j : Nat) : Option Nat := match Y.1 a j with
  | some b => some b
  | none => m.2.2.1 a j
def am_k (Y : am_Y) (m : am_M) (a : Nat) : Nat × Nat := match Y.2 a with
  | some k => k
  | none => m.2.2.2.1 a
def am_u {α : Type} (f : Nat → Nat → α) (a j : Nat) (v : α) : Nat → Nat → α := fun x y => if x = a ∧ y = j then v else f x y
def am_pI (m : am_M) (a j : Nat) (v : Int32) : am_M := (am_u m.1 a j v, m.2)
def am_pJ (m : am_M) (a j : Nat) (v : Int64) : am_M := (m.1, am_u m.2.1 a j v, m.2.2)
def am_pR (m : am_M) (a j : Nat) (v : Option Nat) : am_M := (m.1, m.2.1, am_u m.2.2.1 a j v, m.2.2.2)
def am_n (m : am_M) : Nat := m.2.2.2.2
/-- a new cell, of kind kd, at the address n + 3 -/
def am_al (m : am_M) (kd : Nat × Nat) : am_M :=
  (fun x y => if x = am_n m + 3 then 0 else m.1 x y, fun x y => if x = am_n m + 3 then 0 else m.2.1 x y, fun x y => if x = am_n m + 3 then none else m.2.2.1 x y, fun x => if x = am_n m + 3 then kd else m.2.2.2.1 x, am_n m + 1)
/-- the locals -/
def am_ge : am_L → Nat → Option Value
  | [], _ => none
  | v :: _, 0 => v
  | _ :: r, i + 1 => am_ge r i
def am_se : am_L → Nat → Option Value → am_L
  | [], _, _ => []
  | _ :: r, 0, v => v :: r
  | x :: r, i + 1, v => x :: am_se r i v
def am_cl (L : am_L) (i : Nat) : am_L := match i with
  | 0 => L
  | i + 1 => match am_ge L i with
    | some v => cond (Nat.beq v.category 2) (am_se L i none) L
    | none => L
def am_s1 (L : am_L) (i : Nat) (v : Value) : am_L := am_se (am_cl L i) i (some v)
def am_s2 (L : am_L) (i : Nat) (v : Value) : am_L := am_se (am_se (am_cl L i) i (some v)) (i + 1) none
def am_en0 : List Value → am_L
  | [] => []
  | v :: r => cond (Nat.beq v.category 2) (some v :: none :: am_en0 r) (some v :: am_en0 r)
def am_en (ml : Nat) (vs : List Value) : am_L := am_en0 vs ++ List.replicate (ml - (am_en0 vs).length) none
def am_pu (r : Option Value) (S : List Value) : List Value := match r with
  | some v => v :: S
  | none => S
/-- the operand stack's tops -/
def am_g (b : Bool) (P : Prop) : Prop := cond b P False
def am_v1 (S : List Value) (f : Value → List Value → Prop) : Prop := match S with
  | v :: r => f v r
  | [] => False
def am_i1 (S : List Value) (f : Int32 → List Value → Prop) : Prop := match S with
  | .int x :: r => f x r
  | _ => False
def am_i2 (S : List Value) (f : Int32 → Int32 → List Value → Prop) : Prop := match S with
  | .int y :: .int x :: r => f x y r
  | _ => False
def am_l1 (S : List Value) (f : Int64 → List Value → Prop) : Prop := match S with
  | .long x :: r => f x r
  | _ => False
def am_l2 (S : List Value) (f : Int64 → Int64 → List Value → Prop) : Prop := match S with
  | .long y :: .long x :: r => f x y r
  | _ => False
def am_li (S : List Value) (f : Int64 → Int32 → List Value → Prop) : Prop := match S with
  | .int y :: .long x :: r => f x y r
  | _ => False
def am_f1 (S : List Value) (f : UInt32 → List Value → Prop) : Prop := match S with
  | .float x :: r => f x r
  | _ => False
def am_f2 (S : List Value) (f : UInt32 → UInt32 → List Value → Prop) : Prop := match S with
  | .float y :: .float x :: r => f x y r
  | _ => False
def am_r1 (S : List Value) (f : Nat → List Value → Prop) : Prop := match S with
  | .ref a :: r => f a r
  | _ => False
/-- a reference or null on top -/
def am_o1 (S : List Value) (f : Option Nat → List Value → Prop) : Prop := match S with
  | .ref a :: r => f (some a) r
  | .null :: r => f none r
  | _ => False
def am_oV (v : Option Value) (f : Option Nat → Prop) : Prop := match v with
  | some (.ref a) => f (some a)
  | some .null => f none
  | _ => False
def am_iV (v : Option Value) (f : Int32 → Prop) : Prop := match v with
  | some (.int a) => f a
  | _ => False
def am_lV (v : Option Value) (f : Int64 → Prop) : Prop := match v with
  | some (.long a) => f a
  | _ => False
def am_fV (v : Option Value) (f : UInt32 → Prop) : Prop := match v with
  | some (.float a) => f a
  | _ => False
def am_cc2 (c : ClassFile.Cond) (x y : Int32) (A B : Prop) : Prop := match c with
  | .eq => (x = y → A) ∧ (¬ x = y → B)
  | .ne => (¬ x = y → A) ∧ (x = y → B)
  | .lt => (x < y → A) ∧ (¬ x < y → B)
  | .ge => (y ≤ x → A) ∧ (¬ y ≤ x → B)
  | .gt => (y < x → A) ∧ (¬ y < x → B)
  | .le => (x ≤ y → A) ∧ (¬ x ≤ y → B)
def am_cc1 (c : ClassFile.Cond) (x : Int32) (A B : Prop) : Prop := match c with
  | .eq => (x = 0 → A) ∧ (¬ x = 0 → B)
  | .ne => (¬ x = 0 → A) ∧ (x = 0 → B)
  | .lt => (x < 0 → A) ∧ (¬ x < 0 → B)
  | .ge => (0 ≤ x → A) ∧ (¬ 0 ≤ x → B)
  | .gt => (0 < x → A) ∧ (¬ 0 < x → B)
  | .le => (x ≤ 0 → A) ∧ (¬ x ≤ 0 → B)
def am_to (pc : Nat) (off : Int) : Nat := match off with
  | .ofNat k => pc + k
  | .negSucc k => pc - (k + 1)
def am_tok (pc : Nat) (off : Int) : Bool := match off with
  | .ofNat _ => true
  | .negSucc k => Nat.ble (k + 1) pc
/-- a table switch: row by row -/
def am_sw (x : Int32) (pc : Nat) (k : Nat → Prop) : Int → List Int → Prop
  | _, [] => True
  | lo, o :: r => (x.toInt = lo → am_g (am_tok pc o) (k (am_to pc o))) ∧ am_sw x pc k (lo + 1) r
/-- does the call fit: arguments, frames, words, the rest of the stack -/
def am_ok (mi mj np : Nat) (S : List Value) : Bool :=
  Nat.ble np S.length && (Nat.ble (am_rk mj + 1) (am_rk mi) && (Nat.ble (8 + (am_ml mj + 11) + am_lo mj) (am_lo mi) && (Nat.ble ((S.drop np).map Value.category).sum 8 && Nat.ble (am_en0 (S.take np).reverse).length (am_ml mj))))
/-- the same for what the library itself answers -/
def am_okL (mi : Nat) (r : List Value) : Bool := Nat.ble 1 (am_rk mi) && Nat.ble ((r.map Value.category).sum + 15) (am_lo mi)
abbrev am_KK : Type := Nat → Nat → Nat → am_L → List Value → am_M → Prop
abbrev am_CC : Type := Nat → Nat → Nat → am_L → am_M → (Option Value → am_M → Prop) → Prop
def am_cll (mi mc ms pc : Nat) (L : am_L) (S : List Value) (m : am_M) (kk : am_KK) (call : am_CC) (mj np : Nat) : Prop :=
  ∃ c1 s1 c2 s2 : Nat, mc = c1 + c2 ∧ ms = s1 + s2 ∧ am_ok mi mj np S = true ∧ call mj c1 s1 (am_en (am_ml mj) (S.take np).reverse) m (fun r m1 => kk c2 s2 (pc + 3) L (am_pu r (S.drop np)) m1)
/-- an object's class at the receiver's place -/
def am_rv (Y : am_Y) (m : am_M) (ci : Nat) (S : List Value) (P : Prop) : Prop := match S with
  | .ref a :: _ => am_k Y m a = (ci, 0) ∧ Nat.ble 3 a = true ∧ P
  | _ => False
def am_inv (Y : am_Y) (mi mc ms pc : Nat) (L : am_L) (S : List Value) (m : am_M) (kk : am_KK) (call : am_CC) (q : Nat × Nat × Nat × Nat × List Nat) : Prop := match q with
  | (0, mj, np, _) => am_rv Y m (am_cls mj) (S.drop (np - 1)) (am_cll mi mc ms pc L S m kk call mj np)
  | _ => False
def am_ins (mi mc ms pc : Nat) (L : am_L) (S : List Value) (m : am_M) (kk : am_KK) (call : am_CC) (q : Nat × Nat × Nat × Nat × List Nat) : Prop := match q with
  | (1, mj, np, _) => am_cll mi mc ms pc L S m kk call mj np
  | (5, _) => am_i2 S fun x y r => am_okL mi r = true ∧ kk mc ms (pc + 3) L (.int (if x < y then y else x) :: r) m
  | (6, _) => am_i2 S fun x y r => am_okL mi r = true ∧ kk mc ms (pc + 3) L (.int (if y < x then y else x) :: r) m
  | (7, _) => am_i1 S fun x r => am_okL mi r = true ∧ kk mc ms (pc + 3) L (.int (if 0 ≤ x then x else 0 - x) :: r) m
  | (8, _) => am_i1 S fun x r => am_okL mi r = true ∧ ∀ q : UInt32, ((vn_sni2f x = false ∧ q = x.toUInt32) ∨ (vn_sni2f x = true ∧ (q = x.toUInt32 ∨ q = x.toUInt32 ||| 0x00400000))) → kk mc ms (pc + 3) L (.float q :: r) m
  | _ => False
def am_inp (mi mc ms pc : Nat) (L : am_L) (S : List Value) (m : am_M) (kk : am_KK) (call : am_CC) (q : Nat × Nat × Nat × Nat × List Nat) : Prop := match q with
  | (2, mj, np, _) => am_v1 (S.drop (np - 1)) fun v _ => (∃ a, v = .ref a) ∧ am_cll mi mc ms pc L S m kk call mj np
  | (3, mj, np, _) => am_v1 (S.drop (np - 1)) fun v _ => (∃ a, v = .ref a) ∧ am_cll mi mc ms pc L S m kk call mj np
  | (4, _) => am_r1 S fun _ r => am_okL mi r = true ∧ kk mc ms (pc + 3) L r m
  | _ => False
/-- what the law of a field wants at a write -/
def am_wf (mi ci k : Nat) : Bool := cond (am_fin ci k) (am_ini mi && Nat.beq (am_cls mi) ci) true
def am_bz (b : Bool) (x : Int32) (P : Prop) : Prop := cond b ((x = 0 ∨ x = 1) ∧ P) P
def am_pf (Y : am_Y) (mi mc ms pc : Nat) (L : am_L) (S : List Value) (m : am_M) (kk : am_KK) (ci k : Nat) : Prop :=
  cond (am_isr ci k)
    (am_o1 S fun o r => am_r1 r fun a r => am_k Y m a = (ci, 0) ∧ Nat.ble 3 a = true ∧ am_wf mi ci k = true ∧ Y.1 a k = none ∧ kk mc ms (pc + 3) L r (am_pR m a k o))
    (am_i1 S fun x r => am_r1 r fun a r => am_k Y m a = (ci, 0) ∧ Nat.ble 3 a = true ∧ am_wf mi ci k = true ∧ am_bz (am_isb ci k) x (kk mc ms (pc + 3) L r (am_pI m a k x)))
def am_gf (Y : am_Y) (mc ms pc : Nat) (L : am_L) (S : List Value) (m : am_M) (kk : am_KK) (ci k : Nat) : Prop :=
  am_r1 S fun a r => am_k Y m a = (ci, 0) ∧ Nat.ble 3 a = true ∧ cond (am_isr ci k) (∃ o, am_gR Y m a k = o ∧ kk mc ms (pc + 3) L (va_rf o :: r) m) (kk mc ms (pc + 3) L (.int (m.1 a k) :: r) m)
def am_rt (mi : Nat) (i : Instr) (r : Option Value) : Prop := match r with
  | none => i = .return_ ∧ am_ret mi = none
  | some (.int v) => i = .ireturn ∧ ∃ ty, am_ret mi = some ty ∧ narrow ty (.int v) = .int v
  | some (.float _) => i = .freturn ∧ am_ret mi = some .float
  | some .null => i = .areturn ∧ ∃ n, am_ret mi = some (.object n)
  | some (.ref _) => i = .areturn ∧ ∃ n, am_ret mi = some (.object n)
  | _ => False
/-- one instruction -/
def am_st (Y : am_Y) (mi mc ms pc : Nat) (L : am_L) (S : List Value) (m : am_M) (kk : am_KK) (call : am_CC) (Q : Option Value → am_M → Prop) (i : Instr) (l : Nat) : Prop := match i with
  | .aload n => am_g (Nat.beq l 2) (am_oV (am_ge L n) fun o => kk mc ms (pc + 2) L (va_rf o :: S) m)
  | .aload_n n => am_g (Nat.beq l 1) (am_oV (am_ge L n.val) fun o => kk mc ms (pc + 1) L (va_rf o :: S) m)
  | .iload n => am_g (Nat.beq l 2) (am_iV (am_ge L n) fun x => kk mc ms (pc + 2) L (.int x :: S) m)
  | .iload_n n => am_g (Nat.beq l 1) (am_iV (am_ge L n.val) fun x => kk mc ms (pc + 1) L (.int x :: S) m)
  | .lload n => am_g (Nat.beq l 2) (am_lV (am_ge L n) fun x => kk mc ms (pc + 2) L (.long x :: S) m)
  | .lload_n n => am_g (Nat.beq l 1) (am_lV (am_ge L n.val) fun x => kk mc ms (pc + 1) L (.long x :: S) m)
  | .fload n => am_g (Nat.beq l 2) (am_fV (am_ge L n) fun x => kk mc ms (pc + 2) L (.float x :: S) m)
  | .fload_n n => am_g (Nat.beq l 1) (am_fV (am_ge L n.val) fun x => kk mc ms (pc + 1) L (.float x :: S) m)
  | .astore n => am_g (Nat.beq l 2 && Nat.ble (n + 1) (am_ml mi)) (am_o1 S fun o r => kk mc ms (pc + 2) (am_s1 L n (va_rf o)) r m)
  | .astore_n n => am_g (Nat.beq l 1 && Nat.ble (n.val + 1) (am_ml mi)) (am_o1 S fun o r => kk mc ms (pc + 1) (am_s1 L n.val (va_rf o)) r m)
  | .istore n => am_g (Nat.beq l 2 && Nat.ble (n + 1) (am_ml mi)) (am_i1 S fun x r => kk mc ms (pc + 2) (am_s1 L n (.int x)) r m)
  | .istore_n n => am_g (Nat.beq l 1 && Nat.ble (n.val + 1) (am_ml mi)) (am_i1 S fun x r => kk mc ms (pc + 1) (am_s1 L n.val (.int x)) r m)
  | .lstore_n n => am_g (Nat.beq l 1 && Nat.ble (n.val + 2) (am_ml mi)) (am_l1 S fun x r => kk mc ms (pc + 1) (am_s2 L n.val (.long x)) r m)
  | .fstore n => am_g (Nat.beq l 2 && Nat.ble (n + 1) (am_ml mi)) (am_f1 S fun x r => kk mc ms (pc + 2) (am_s1 L n (.float x)) r m)
  | .fstore_n n => am_g (Nat.beq l 1 && Nat.ble (n.val + 1) (am_ml mi)) (am_f1 S fun x r => kk mc ms (pc + 1) (am_s1 L n.val (.float x)) r m)
  | .iinc n d => am_g (Nat.beq l 3 && Nat.ble (n + 1) (am_ml mi)) (am_iV (am_ge L n) fun x => ∃ v, Int32.ofInt d = v ∧ kk mc ms (pc + 3) (am_s1 L n (.int (x + v))) S m)
  | .iconst n => am_g (Nat.beq l 1) (∃ v, Int32.ofInt n = v ∧ kk mc ms (pc + 1) L (.int v :: S) m)
  | .bipush n => am_g (Nat.beq l 2) (∃ v, (Int8.ofInt n).toInt32 = v ∧ kk mc ms (pc + 2) L (.int v :: S) m)
  | .sipush n => am_g (Nat.beq l 3) (∃ v, (Int16.ofInt n).toInt32 = v ∧ kk mc ms (pc + 3) L (.int v :: S) m)
  | .lconst n => am_g (Nat.beq l 1) (∃ v, Int64.ofNat n.val = v ∧ kk mc ms (pc + 1) L (.long v :: S) m)
  | .fconst n => am_g (Nat.beq l 1) (kk mc ms (pc + 1) L (.float (match n.val with | 0 => FP.fconst0 | 1 => FP.fconst1 | _ => FP.fconst2) :: S) m)
  | .aconst_null => am_g (Nat.beq l 1) (kk mc ms (pc + 1) L (.null :: S) m)
  | .ldc n => am_g (Nat.beq l 2) (match am_lk (am_KT (am_cls mi)) n with | some (.int v, _) => kk mc ms (pc + 2) L (.int v :: S) m | some (.float v, _) => kk mc ms (pc + 2) L (.float v :: S) m | _ => False)
  | .ldc_w n => am_g (Nat.beq l 3) (match am_lk (am_KT (am_cls mi)) n with | some (.int v, _) => kk mc ms (pc + 3) L (.int v :: S) m | some (.float v, _) => kk mc ms (pc + 3) L (.float v :: S) m | _ => False)
  | .ldc2_w n => am_g (Nat.beq l 3) (match am_lk (am_KT (am_cls mi)) n with | some (.long v, _) => kk mc ms (pc + 3) L (.long v :: S) m | _ => False)
  | .iadd => am_g (Nat.beq l 1) (am_i2 S fun x y r => kk mc ms (pc + 1) L (.int (x + y) :: r) m)
  | .isub => am_g (Nat.beq l 1) (am_i2 S fun x y r => kk mc ms (pc + 1) L (.int (x - y) :: r) m)
  | .imul => am_g (Nat.beq l 1) (am_i2 S fun x y r => kk mc ms (pc + 1) L (.int (x * y) :: r) m)
  | .idiv => am_g (Nat.beq l 1) (am_i2 S fun x y r => ¬ y = 0 ∧ kk mc ms (pc + 1) L (.int (x / y) :: r) m)
  | .irem => am_g (Nat.beq l 1) (am_i2 S fun x y r => ¬ y = 0 ∧ kk mc ms (pc + 1) L (.int (x - x / y * y) :: r) m)
  | .ineg => am_g (Nat.beq l 1) (am_i1 S fun x r => kk mc ms (pc + 1) L (.int (-x) :: r) m)
  | .iand => am_g (Nat.beq l 1) (am_i2 S fun x y r => kk mc ms (pc + 1) L (.int (x &&& y) :: r) m)
  | .ior => am_g (Nat.beq l 1) (am_i2 S fun x y r => kk mc ms (pc + 1) L (.int (x ||| y) :: r) m)
  | .ixor => am_g (Nat.beq l 1) (am_i2 S fun x y r => kk mc ms (pc + 1) L (.int (x ^^^ y) :: r) m)
  | .ishl => am_g (Nat.beq l 1) (am_i2 S fun x y r => kk mc ms (pc + 1) L (.int (x <<< (y &&& 31)) :: r) m)
  | .ishr => am_g (Nat.beq l 1) (am_i2 S fun x y r => kk mc ms (pc + 1) L (.int (x >>> (y &&& 31)) :: r) m)
  | .iushr => am_g (Nat.beq l 1) (am_i2 S fun x y r => kk mc ms (pc + 1) L (.int (x.toUInt32 >>> (y.toUInt32 &&& Int32.toUInt32 31)).toInt32 :: r) m)
  | .ladd => am_g (Nat.beq l 1) (am_l2 S fun x y r => kk mc ms (pc + 1) L (.long (x + y) :: r) m)
  | .lsub => am_g (Nat.beq l 1) (am_l2 S fun x y r => kk mc ms (pc + 1) L (.long (x - y) :: r) m)
  | .land => am_g (Nat.beq l 1) (am_l2 S fun x y r => kk mc ms (pc + 1) L (.long (x &&& y) :: r) m)
  | .lor => am_g (Nat.beq l 1) (am_l2 S fun x y r => kk mc ms (pc + 1) L (.long (x ||| y) :: r) m)
  | .lxor => am_g (Nat.beq l 1) (am_l2 S fun x y r => kk mc ms (pc + 1) L (.long (x ^^^ y) :: r) m)
  | .lshl => am_g (Nat.beq l 1) (am_li S fun x y r => kk mc ms (pc + 1) L (.long (x <<< (y.toInt64 &&& 63)) :: r) m)
  | .lshr => am_g (Nat.beq l 1) (am_li S fun x y r => kk mc ms (pc + 1) L (.long (x >>> (y.toInt64 &&& 63)) :: r) m)
  | .lushr => am_g (Nat.beq l 1) (am_li S fun x y r => kk mc ms (pc + 1) L (.long (x.toUInt64 >>> (y.toInt64.toUInt64 &&& Int64.toUInt64 63)).toInt64 :: r) m)
  | .lcmp => am_g (Nat.beq l 1) (am_l2 S fun x y r => kk mc ms (pc + 1) L (.int (lg_cmp x y) :: r) m)
  | .l2i => am_g (Nat.beq l 1) (am_l1 S fun x r => kk mc ms (pc + 1) L (.int x.toInt32 :: r) m)
  | .i2f => am_g (Nat.beq l 1) (am_i1 S fun x r => kk mc ms (pc + 1) L (.float (FP.i2f x) :: r) m)
  | .f2i => am_g (Nat.beq l 1) (am_f1 S fun x r => kk mc ms (pc + 1) L (.int (FP.f2i x) :: r) m)
  | .fmul => am_g (Nat.beq l 1) (am_f2 S fun x y r => vf_n32 (FP.fmul x y) ∧ kk mc ms (pc + 1) L (.float (FP.fmul x y) :: r) m)
  | .fcmp op => am_g (Nat.beq l 1) (am_f2 S fun x y r => kk mc ms (pc + 1) L (.int (Op.cmpValue (FP.fcmp x y) op) :: r) m)
  | .dup => am_g (Nat.beq l 1) (am_v1 S fun v r => v.category = 1 ∧ kk mc ms (pc + 1) L (v :: v :: r) m)
  | .dup2 => am_g (Nat.beq l 1) (am_v1 S fun v r => am_v1 r fun w r => v.category = 1 ∧ w.category = 1 ∧ kk mc ms (pc + 1) L (v :: w :: v :: w :: r) m)
  | .goto off => am_g (Nat.beq l 3 && am_tok pc off) (kk mc ms (am_to pc off) L S m)
  | .if_icmp c off => am_g (Nat.beq l 3 && am_tok pc off) (am_i2 S fun x y r => am_cc2 c x y (kk mc ms (am_to pc off) L r m) (kk mc ms (pc + 3) L r m))
  | .ifCond c off => am_g (Nat.beq l 3 && am_tok pc off) (am_i1 S fun x r => am_cc1 c x (kk mc ms (am_to pc off) L r m) (kk mc ms (pc + 3) L r m))
  | .ifnull off => am_g (Nat.beq l 3 && am_tok pc off) (am_o1 S fun o r => match o with | none => kk mc ms (am_to pc off) L r m | some _ => kk mc ms (pc + 3) L r m)
  | .ifnonnull off => am_g (Nat.beq l 3 && am_tok pc off) (am_o1 S fun o r => match o with | none => kk mc ms (pc + 3) L r m | some _ => kk mc ms (am_to pc off) L r m)
  | .tableswitch d lo hi offs => am_g (am_tok pc d && decide (hi = lo + offs.toList.length - 1)) (am_i1 S fun x r => (x.toInt < lo ∨ hi < x.toInt → kk mc ms (am_to pc d) L r m) ∧ am_sw x pc (fun t => kk mc ms t L r m) lo offs.toList)
  | .getfield idx => am_g (Nat.beq l 3) (match am_lk (am_FT (am_cls mi)) idx with | some (ci, k, _) => am_gf Y mc ms pc L S m kk ci k | none => False)
  | .putfield idx => am_g (Nat.beq l 3) (match am_lk (am_FT (am_cls mi)) idx with | some (ci, k, _) => am_pf Y mi mc ms pc L S m kk ci k | none => False)
  | .getstatic idx => am_g (Nat.beq l 3) (match am_lk (am_ST (am_cls mi)) idx with | some (a, _) => kk mc ms (pc + 3) L (.ref a :: S) m | none => False)
  | .iaload => am_g (Nat.beq l 1) (am_i1 S fun i r => am_r1 r fun a r => ∃ n, am_k Y m a = (20, n) ∧ vp_in i n ∧ kk mc ms (pc + 1) L (.int (m.1 a i.toNatClampNeg) :: r) m)
  | .baload => am_g (Nat.beq l 1) (am_i1 S fun i r => am_r1 r fun a r => ∃ n, am_k Y m a = (22, n) ∧ Nat.ble 3 a = true ∧ vp_in i n ∧ kk mc ms (pc + 1) L (.int (m.1 a i.toNatClampNeg) :: r) m)
  | .laload => am_g (Nat.beq l 1) (am_i1 S fun i r => am_r1 r fun a r => ∃ n, am_k Y m a = (21, n) ∧ Nat.ble 3 a = true ∧ vp_in i n ∧ kk mc ms (pc + 1) L (.long (m.2.1 a i.toNatClampNeg) :: r) m)
  | .aaload => am_g (Nat.beq l 1) (am_i1 S fun i r => am_r1 r fun a r => ∃ c n o, am_k Y m a = (c, n) ∧ (c = 23 ∨ c = 24) ∧ Nat.ble 3 a = true ∧ vp_in i n ∧ am_gR Y m a i.toNatClampNeg = o ∧ kk mc ms (pc + 1) L (va_rf o :: r) m)
  | .iastore => am_g (Nat.beq l 1) (am_i1 S fun x r => am_i1 r fun i r => am_r1 r fun a r => ∃ n, am_k Y m a = (20, n) ∧ Nat.ble 3 a = true ∧ vp_in i n ∧ kk mc ms (pc + 1) L r (am_pI m a i.toNatClampNeg x))
  | .bastore => am_g (Nat.beq l 1) (am_i1 S fun x r => am_i1 r fun i r => am_r1 r fun a r => ∃ n, am_k Y m a = (22, n) ∧ Nat.ble 3 a = true ∧ vp_in i n ∧ (x = 0 ∨ x = 1) ∧ kk mc ms (pc + 1) L r (am_pI m a i.toNatClampNeg x))
  | .lastore => am_g (Nat.beq l 1) (am_l1 S fun x r => am_i1 r fun i r => am_r1 r fun a r => ∃ n, am_k Y m a = (21, n) ∧ Nat.ble 3 a = true ∧ vp_in i n ∧ kk mc ms (pc + 1) L r (am_pJ m a i.toNatClampNeg x))
  | .aastore => am_g (Nat.beq l 1) (am_o1 S fun o r => am_i1 r fun i r => am_r1 r fun a r => ∃ c n, am_k Y m a = (c, n) ∧ ((c = 23 ∧ ∀ b, o = some b → am_k Y m b = (1, 0) ∧ Nat.ble 3 b = true) ∨ (c = 24 ∧ ∀ b, o = some b → am_k Y m b = (6, 0) ∧ Nat.ble 3 b = true)) ∧ Nat.ble 3 a = true ∧ vp_in i n ∧ Y.1 a i.toNatClampNeg = none ∧ kk mc ms (pc + 1) L r (am_pR m a i.toNatClampNeg o))
  | .arraylength => am_g (Nat.beq l 1) (am_r1 S fun a r => ∃ c n, am_k Y m a = (c, n) ∧ (c = 20 ∨ ((c = 21 ∨ c = 22 ∨ c = 23 ∨ c = 24) ∧ Nat.ble 3 a = true)) ∧ kk mc ms (pc + 1) L (.int (Int32.ofNat n) :: r) m)
  | .new idx => am_g (Nat.beq l 3) (match am_lk (am_NT (am_cls mi)) idx with | some (ci, nf, _) => ∃ mc' ms', mc = mc' + 1 ∧ ms = ms' + nf ∧ (∀ j, Y.1 (am_n m + 3) j = none) ∧ Y.2 (am_n m + 3) = none ∧ kk mc' ms' (pc + 3) L (.ref (am_n m + 3) :: S) (am_al m (ci, 0)) | none => False)
  | .newarray t => am_g (Nat.beq l 2) (am_i1 S fun n r => ∃ mc' ms', mc = mc' + 1 ∧ ms = ms' + n.toNatClampNeg ∧ (∀ j, Y.1 (am_n m + 3) j = none) ∧ Y.2 (am_n m + 3) = none ∧ ¬ n < 0 ∧ n.toNatClampNeg ≤ 20000 ∧ (match t with | .int => kk mc' ms' (pc + 2) L (.ref (am_n m + 3) :: r) (am_al m (20, n.toNatClampNeg)) | .long => kk mc' ms' (pc + 2) L (.ref (am_n m + 3) :: r) (am_al m (21, n.toNatClampNeg)) | .boolean => kk mc' ms' (pc + 2) L (.ref (am_n m + 3) :: r) (am_al m (22, n.toNatClampNeg)) | _ => False))
  | .anewarray idx => am_g (Nat.beq l 3) (match am_lk (am_AT (am_cls mi)) idx with | some (c, _) => am_i1 S fun n r => ∃ mc' ms', mc = mc' + 1 ∧ ms = ms' + n.toNatClampNeg ∧ (∀ j, Y.1 (am_n m + 3) j = none) ∧ Y.2 (am_n m + 3) = none ∧ ¬ n < 0 ∧ n.toNatClampNeg ≤ 20000 ∧ kk mc' ms' (pc + 3) L (.ref (am_n m + 3) :: r) (am_al m (c, n.toNatClampNeg)) | none => False)
  | .invokevirtual idx => am_g (Nat.beq l 3) (match am_lk (am_CT (am_cls mi)) idx with | some q => am_inv Y mi mc ms pc L S m kk call q | none => False)
  | .invokestatic idx => am_g (Nat.beq l 3) (match am_lk (am_CT (am_cls mi)) idx with | some q => am_ins mi mc ms pc L S m kk call q | none => False)
  | .invokespecial idx => am_g (Nat.beq l 3) (match am_lk (am_CT (am_cls mi)) idx with | some q => am_inp mi mc ms pc L S m kk call q | none => False)
  | .ireturn => am_g (Nat.beq l 1) (am_i1 S fun x r => r = [] ∧ (match am_rtc mi with | 1 => Q (some (.int x)) m | 2 => (x = 0 ∨ x = 1) ∧ Q (some (.int x)) m | _ => False))
  | .freturn => am_g (Nat.beq l 1) (am_f1 S fun x r => r = [] ∧ am_g (Nat.beq (am_rtc mi) 4) (Q (some (.float x)) m))
  | .areturn => am_g (Nat.beq l 1) (am_o1 S fun o r => r = [] ∧ am_g (Nat.beq (am_rtc mi) 3) (Q (some (va_rf o)) m))
  | .return_ => am_g (Nat.beq l 1) (S = [] ∧ am_g (Nat.beq (am_rtc mi) 0) (Q none m))
  | _ => False
def am_step (Y : am_Y) (mi mc ms pc : Nat) (L : am_L) (S : List Value) (m : am_M) (kk : am_KK) (call : am_CC) (Q : Option Value → am_M → Prop) : Prop := match am_code mi pc with
  | some (i, l) => am_st Y mi mc ms pc L S m kk call Q i l
  | none => False
