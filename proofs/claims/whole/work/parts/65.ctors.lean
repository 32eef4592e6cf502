/-! The constructors of the nested classes. -/
def fX0_init (cI : ClassId) (b : Nat) (qs : List Nat) : va_W := (b, .inr (0, [.ref (qs.getD 0 0), .ref (qs.getD 1 0), .ref (qs.getD 2 0), .int 0])) :: [((qs.getD 0 0), .inl (cI, 16, .inl (fun _ => 0))), ((qs.getD 1 0), .inl (cI, 3, .inl (fun _ => 0))), ((qs.getD 2 0), .inl (cI, 10, .inl (fun _ => 0)))]
def Rm_X0_init : Room := { frames := 1, cells := 3, slots := 29, locals := 12 }
set_option maxRecDepth 20000 in
theorem c_X0_init (l : Launch) (D : va_G) (cI cS cII : ClassId) (b sz : Nat) : Met l yX0_init [Cond.code yX0_init cX0_init 1 none] Rm_X0_init (nPre D (tysU cI cS cII) [.ref b] [(b, .inr (0, [.null, .null, .null, .int 0]))] sz (fun _ => True)) (nPost D (va_A [(b, .inr (0, [.null, .null, .null, .int 0]))] sz) none (fX0_init cI b) 3) 3 29 (va_A [(b, .inr (0, [.null, .null, .null, .int 0]))] sz) := by
  refine nc_of (own := RX0) (by decide) rfl (Nat.le_of_ble_eq_true rfl) (fun J hJ => ?_)
  have hZn : ∀ s meth args below Q, zM yX0_init.name none (fun _ => True) (nPost D (va_A [(b, .inr (0, [.null, .null, .null, .int 0]))] sz) none (fX0_init cI b) 3) 3 29 (va_A [(b, .inr (0, [.null, .null, .null, .int 0]))] sz) s meth args below Q → meth.name = "<init>" := fun _ _ _ _ _ h => h.1
  refine nn_aload_n hJ dX0_init_0 0 rfl rfl ?_
  refine nn_objInit hJ dX0_init_1 (tb1 (i := 108) rfl) (tb1 (i := 22) rfl) (tb1 (i := 23) rfl) (by decide) (by decide) ?_
  refine nn_aload_n hJ dX0_init_4 0 rfl rfl ?_
  refine nn_bipush hJ (v := 16) dX0_init_5 (by decide) ?_
  refine nn_newa hJ (N := 16) dX0_init_7 (tb1 (i := 42) rfl) (by decide) (by decide) (Nat.le_of_ble_eq_true rfl) (Nat.le_of_ble_eq_true rfl) (fun q0 => ?_)
  refine nn_putr hJ hZn lay_X0 tyX0 tyX0_ok nmX0 dX0_init_9 0 0 rfl rfl (by decide) (tb1 (i := 109) rfl) rfl rfl (ty := .array .int) (by decide +kernel) rfl rfl (Nat.le_of_ble_eq_true rfl) rfl ?_
  refine nn_aload_n hJ dX0_init_12 0 rfl rfl ?_
  refine nn_iconst hJ (v := 3) dX0_init_13 (by decide) ?_
  refine nn_newa hJ (N := 3) dX0_init_14 (tb1 (i := 42) rfl) (by decide) (by decide) (Nat.le_of_ble_eq_true rfl) (Nat.le_of_ble_eq_true rfl) (fun q1 => ?_)
  refine nn_putr hJ hZn lay_X0 tyX0 tyX0_ok nmX0 dX0_init_16 0 1 rfl rfl (by decide) (tb1 (i := 110) rfl) rfl rfl (ty := .array .int) (by decide +kernel) rfl rfl (Nat.le_of_ble_eq_true rfl) rfl ?_
  refine nn_aload_n hJ dX0_init_19 0 rfl rfl ?_
  refine nn_bipush hJ (v := 10) dX0_init_20 (by decide) ?_
  refine nn_newa hJ (N := 10) dX0_init_22 (tb1 (i := 42) rfl) (by decide) (by decide) (Nat.le_of_ble_eq_true rfl) (Nat.le_of_ble_eq_true rfl) (fun q2 => ?_)
  refine nn_putr hJ hZn lay_X0 tyX0 tyX0_ok nmX0 dX0_init_24 0 2 rfl rfl (by decide) (tb1 (i := 111) rfl) rfl rfl (ty := .array .int) (by decide +kernel) rfl rfl (Nat.le_of_ble_eq_true rfl) rfl ?_
  exact nn_vret hJ dX0_init_27 [q0, q1, q2] rfl rfl
def fX2_init (cI : ClassId) (b : Nat) (qs : List Nat) : va_W := (b, .inr (2, [.ref (qs.getD 0 0), .ref (qs.getD 1 0), .int 0, .int 0])) :: [((qs.getD 0 0), .inl (cI, 10, .inl (fun _ => 0))), ((qs.getD 1 0), .inl (cI, 10, .inl (fun _ => 0)))]
def Rm_X2_init : Room := { frames := 1, cells := 2, slots := 20, locals := 12 }
set_option maxRecDepth 20000 in
theorem c_X2_init (l : Launch) (D : va_G) (cI cS cII : ClassId) (b sz : Nat) : Met l yX2_init [Cond.code yX2_init cX2_init 1 none] Rm_X2_init (nPre D (tysU cI cS cII) [.ref b] [(b, .inr (2, [.null, .null, .int 0, .int 0]))] sz (fun _ => True)) (nPost D (va_A [(b, .inr (2, [.null, .null, .int 0, .int 0]))] sz) none (fX2_init cI b) 2) 2 20 (va_A [(b, .inr (2, [.null, .null, .int 0, .int 0]))] sz) := by
  refine nc_of (own := RX2) (by decide) rfl (Nat.le_of_ble_eq_true rfl) (fun J hJ => ?_)
  have hZn : ∀ s meth args below Q, zM yX2_init.name none (fun _ => True) (nPost D (va_A [(b, .inr (2, [.null, .null, .int 0, .int 0]))] sz) none (fX2_init cI b) 2) 2 20 (va_A [(b, .inr (2, [.null, .null, .int 0, .int 0]))] sz) s meth args below Q → meth.name = "<init>" := fun _ _ _ _ _ h => h.1
  refine nn_aload_n hJ dX2_init_0 0 rfl rfl ?_
  refine nn_objInit hJ dX2_init_1 (tb1 (i := 146) rfl) (tb1 (i := 22) rfl) (tb1 (i := 23) rfl) (by decide) (by decide) ?_
  refine nn_aload_n hJ dX2_init_4 0 rfl rfl ?_
  refine nn_bipush hJ (v := 10) dX2_init_5 (by decide) ?_
  refine nn_newa hJ (N := 10) dX2_init_7 (tb1 (i := 42) rfl) (by decide) (by decide) (Nat.le_of_ble_eq_true rfl) (Nat.le_of_ble_eq_true rfl) (fun q0 => ?_)
  refine nn_putr hJ hZn lay_X2 tyX2 tyX2_ok nmX2 dX2_init_9 0 0 rfl rfl (by decide) (tb1 (i := 147) rfl) rfl rfl (ty := .array .int) (by decide +kernel) rfl rfl (Nat.le_of_ble_eq_true rfl) rfl ?_
  refine nn_aload_n hJ dX2_init_12 0 rfl rfl ?_
  refine nn_bipush hJ (v := 10) dX2_init_13 (by decide) ?_
  refine nn_newa hJ (N := 10) dX2_init_15 (tb1 (i := 42) rfl) (by decide) (by decide) (Nat.le_of_ble_eq_true rfl) (Nat.le_of_ble_eq_true rfl) (fun q1 => ?_)
  refine nn_putr hJ hZn lay_X2 tyX2 tyX2_ok nmX2 dX2_init_17 0 1 rfl rfl (by decide) (tb1 (i := 149) rfl) rfl rfl (ty := .array .int) (by decide +kernel) rfl rfl (Nat.le_of_ble_eq_true rfl) rfl ?_
  exact nn_vret hJ dX2_init_20 [q0, q1] rfl rfl
def fX3_init (cI : ClassId) (b : Nat) (qs : List Nat) : va_W := (b, .inr (3, [.ref (qs.getD 0 0), .ref (qs.getD 1 0), .int 0])) :: [((qs.getD 0 0), .inl (cI, 10, .inl (fun _ => 0))), ((qs.getD 1 0), .inl (cI, 10, .inl (fun _ => 0)))]
def Rm_X3_init : Room := { frames := 1, cells := 2, slots := 20, locals := 12 }
set_option maxRecDepth 20000 in
theorem c_X3_init (l : Launch) (D : va_G) (cI cS cII : ClassId) (b sz : Nat) : Met l yX3_init [Cond.code yX3_init cX3_init 1 none] Rm_X3_init (nPre D (tysU cI cS cII) [.ref b] [(b, .inr (3, [.null, .null, .int 0]))] sz (fun _ => True)) (nPost D (va_A [(b, .inr (3, [.null, .null, .int 0]))] sz) none (fX3_init cI b) 2) 2 20 (va_A [(b, .inr (3, [.null, .null, .int 0]))] sz) := by
  refine nc_of (own := RX3) (by decide) rfl (Nat.le_of_ble_eq_true rfl) (fun J hJ => ?_)
  have hZn : ∀ s meth args below Q, zM yX3_init.name none (fun _ => True) (nPost D (va_A [(b, .inr (3, [.null, .null, .int 0]))] sz) none (fX3_init cI b) 2) 2 20 (va_A [(b, .inr (3, [.null, .null, .int 0]))] sz) s meth args below Q → meth.name = "<init>" := fun _ _ _ _ _ h => h.1
  refine nn_aload_n hJ dX3_init_0 0 rfl rfl ?_
  refine nn_objInit hJ dX3_init_1 (tb1 (i := 127) rfl) (tb1 (i := 22) rfl) (tb1 (i := 23) rfl) (by decide) (by decide) ?_
  refine nn_aload_n hJ dX3_init_4 0 rfl rfl ?_
  refine nn_bipush hJ (v := 10) dX3_init_5 (by decide) ?_
  refine nn_newa hJ (N := 10) dX3_init_7 (tb1 (i := 42) rfl) (by decide) (by decide) (Nat.le_of_ble_eq_true rfl) (Nat.le_of_ble_eq_true rfl) (fun q0 => ?_)
  refine nn_putr hJ hZn lay_X3 tyX3 tyX3_ok nmX3 dX3_init_9 0 0 rfl rfl (by decide) (tb1 (i := 128) rfl) rfl rfl (ty := .array .int) (by decide +kernel) rfl rfl (Nat.le_of_ble_eq_true rfl) rfl ?_
  refine nn_aload_n hJ dX3_init_12 0 rfl rfl ?_
  refine nn_bipush hJ (v := 10) dX3_init_13 (by decide) ?_
  refine nn_newa hJ (N := 10) dX3_init_15 (tb1 (i := 42) rfl) (by decide) (by decide) (Nat.le_of_ble_eq_true rfl) (Nat.le_of_ble_eq_true rfl) (fun q1 => ?_)
  refine nn_putr hJ hZn lay_X3 tyX3 tyX3_ok nmX3 dX3_init_17 0 1 rfl rfl (by decide) (tb1 (i := 130) rfl) rfl rfl (ty := .array .int) (by decide +kernel) rfl rfl (Nat.le_of_ble_eq_true rfl) rfl ?_
  exact nn_vret hJ dX3_init_20 [q0, q1] rfl rfl
def fX4_init (cI : ClassId) (b : Nat) (qs : List Nat) : va_W := (b, .inr (4, [.ref (qs.getD 0 0), .ref (qs.getD 1 0), .ref (qs.getD 2 0), .ref (qs.getD 3 0), .int 0, .int 0])) :: [((qs.getD 0 0), .inl (cI, 10, .inl (fun _ => 0))), ((qs.getD 1 0), .inl (cI, 16, .inl (fun _ => 0))), ((qs.getD 2 0), .inl (cI, 16, .inl (fun _ => 0))), ((qs.getD 3 0), .inl (cI, 16, .inl (fun _ => 0)))]
def Rm_X4_init : Room := { frames := 1, cells := 4, slots := 58, locals := 12 }
set_option maxRecDepth 20000 in
theorem c_X4_init (l : Launch) (D : va_G) (cI cS cII : ClassId) (b sz : Nat) : Met l yX4_init [Cond.code yX4_init cX4_init 1 none] Rm_X4_init (nPre D (tysU cI cS cII) [.ref b] [(b, .inr (4, [.null, .null, .null, .null, .int 0, .int 0]))] sz (fun _ => True)) (nPost D (va_A [(b, .inr (4, [.null, .null, .null, .null, .int 0, .int 0]))] sz) none (fX4_init cI b) 4) 4 58 (va_A [(b, .inr (4, [.null, .null, .null, .null, .int 0, .int 0]))] sz) := by
  refine nc_of (own := RX4) (by decide) rfl (Nat.le_of_ble_eq_true rfl) (fun J hJ => ?_)
  have hZn : ∀ s meth args below Q, zM yX4_init.name none (fun _ => True) (nPost D (va_A [(b, .inr (4, [.null, .null, .null, .null, .int 0, .int 0]))] sz) none (fX4_init cI b) 4) 4 58 (va_A [(b, .inr (4, [.null, .null, .null, .null, .int 0, .int 0]))] sz) s meth args below Q → meth.name = "<init>" := fun _ _ _ _ _ h => h.1
  refine nn_aload_n hJ dX4_init_0 0 rfl rfl ?_
  refine nn_objInit hJ dX4_init_1 (tb1 (i := 48) rfl) (tb1 (i := 22) rfl) (tb1 (i := 23) rfl) (by decide) (by decide) ?_
  refine nn_aload_n hJ dX4_init_4 0 rfl rfl ?_
  refine nn_bipush hJ (v := 10) dX4_init_5 (by decide) ?_
  refine nn_newa hJ (N := 10) dX4_init_7 (tb1 (i := 42) rfl) (by decide) (by decide) (Nat.le_of_ble_eq_true rfl) (Nat.le_of_ble_eq_true rfl) (fun q0 => ?_)
  refine nn_putr hJ hZn lay_X4 tyX4 tyX4_ok nmX4 dX4_init_9 0 0 rfl rfl (by decide) (tb1 (i := 49) rfl) rfl rfl (ty := .array .int) (by decide +kernel) rfl rfl (Nat.le_of_ble_eq_true rfl) rfl ?_
  refine nn_aload_n hJ dX4_init_12 0 rfl rfl ?_
  refine nn_bipush hJ (v := 16) dX4_init_13 (by decide) ?_
  refine nn_newa hJ (N := 16) dX4_init_15 (tb1 (i := 42) rfl) (by decide) (by decide) (Nat.le_of_ble_eq_true rfl) (Nat.le_of_ble_eq_true rfl) (fun q1 => ?_)
  refine nn_putr hJ hZn lay_X4 tyX4 tyX4_ok nmX4 dX4_init_17 0 1 rfl rfl (by decide) (tb1 (i := 51) rfl) rfl rfl (ty := .array .int) (by decide +kernel) rfl rfl (Nat.le_of_ble_eq_true rfl) rfl ?_
  refine nn_aload_n hJ dX4_init_20 0 rfl rfl ?_
  refine nn_bipush hJ (v := 16) dX4_init_21 (by decide) ?_
  refine nn_newa hJ (N := 16) dX4_init_23 (tb1 (i := 42) rfl) (by decide) (by decide) (Nat.le_of_ble_eq_true rfl) (Nat.le_of_ble_eq_true rfl) (fun q2 => ?_)
  refine nn_putr hJ hZn lay_X4 tyX4 tyX4_ok nmX4 dX4_init_25 0 2 rfl rfl (by decide) (tb1 (i := 55) rfl) rfl rfl (ty := .array .int) (by decide +kernel) rfl rfl (Nat.le_of_ble_eq_true rfl) rfl ?_
  refine nn_aload_n hJ dX4_init_28 0 rfl rfl ?_
  refine nn_bipush hJ (v := 16) dX4_init_29 (by decide) ?_
  refine nn_newa hJ (N := 16) dX4_init_31 (tb1 (i := 42) rfl) (by decide) (by decide) (Nat.le_of_ble_eq_true rfl) (Nat.le_of_ble_eq_true rfl) (fun q3 => ?_)
  refine nn_putr hJ hZn lay_X4 tyX4 tyX4_ok nmX4 dX4_init_33 0 3 rfl rfl (by decide) (tb1 (i := 59) rfl) rfl rfl (ty := .array .int) (by decide +kernel) rfl rfl (Nat.le_of_ble_eq_true rfl) rfl ?_
  exact nn_vret hJ dX4_init_36 [q0, q1, q2, q3] rfl rfl
def fX5_init (cI : ClassId) (b : Nat) (qs : List Nat) : va_W := (b, .inr (5, [.ref (qs.getD 0 0), .ref (qs.getD 1 0), .int 0])) :: [((qs.getD 0 0), .inl (cI, 200, .inl (fun _ => 0))), ((qs.getD 1 0), .inl (cI, 3, .inl (fun _ => 0)))]
def Rm_X5_init : Room := { frames := 1, cells := 2, slots := 203, locals := 12 }
set_option maxRecDepth 20000 in
theorem c_X5_init (l : Launch) (D : va_G) (cI cS cII : ClassId) (b sz : Nat) : Met l yX5_init [Cond.code yX5_init cX5_init 1 none] Rm_X5_init (nPre D (tysU cI cS cII) [.ref b] [(b, .inr (5, [.null, .null, .int 0]))] sz (fun _ => True)) (nPost D (va_A [(b, .inr (5, [.null, .null, .int 0]))] sz) none (fX5_init cI b) 2) 2 203 (va_A [(b, .inr (5, [.null, .null, .int 0]))] sz) := by
  refine nc_of (own := RX5) (by decide) rfl (Nat.le_of_ble_eq_true rfl) (fun J hJ => ?_)
  have hZn : ∀ s meth args below Q, zM yX5_init.name none (fun _ => True) (nPost D (va_A [(b, .inr (5, [.null, .null, .int 0]))] sz) none (fX5_init cI b) 2) 2 203 (va_A [(b, .inr (5, [.null, .null, .int 0]))] sz) s meth args below Q → meth.name = "<init>" := fun _ _ _ _ _ h => h.1
  refine nn_aload_n hJ dX5_init_0 0 rfl rfl ?_
  refine nn_objInit hJ dX5_init_1 (tb1 (i := 29) rfl) (tb1 (i := 22) rfl) (tb1 (i := 23) rfl) (by decide) (by decide) ?_
  refine nn_aload_n hJ dX5_init_4 0 rfl rfl ?_
  refine nn_sipush hJ (v := 200) dX5_init_5 (by decide) ?_
  refine nn_newa hJ (N := 200) dX5_init_8 (tb1 (i := 42) rfl) (by decide) (by decide) (Nat.le_of_ble_eq_true rfl) (Nat.le_of_ble_eq_true rfl) (fun q0 => ?_)
  refine nn_putr hJ hZn lay_X5 tyX5 tyX5_ok nmX5 dX5_init_10 0 0 rfl rfl (by decide) (tb1 (i := 30) rfl) rfl rfl (ty := .array .int) (by decide +kernel) rfl rfl (Nat.le_of_ble_eq_true rfl) rfl ?_
  refine nn_aload_n hJ dX5_init_13 0 rfl rfl ?_
  refine nn_iconst hJ (v := 3) dX5_init_14 (by decide) ?_
  refine nn_newa hJ (N := 3) dX5_init_15 (tb1 (i := 42) rfl) (by decide) (by decide) (Nat.le_of_ble_eq_true rfl) (Nat.le_of_ble_eq_true rfl) (fun q1 => ?_)
  refine nn_putr hJ hZn lay_X5 tyX5 tyX5_ok nmX5 dX5_init_17 0 1 rfl rfl (by decide) (tb1 (i := 31) rfl) rfl rfl (ty := .array .int) (by decide +kernel) rfl rfl (Nat.le_of_ble_eq_true rfl) rfl ?_
  exact nn_vret hJ dX5_init_20 [q0, q1] rfl rfl
def fX1_init (cI cII : ClassId) (b : Nat) (qs : List Nat) : va_W := (b, .inr (1, [.ref (qs.getD 0 0), .int 0])) :: grW cI cII (qs.getD 0 0)
def Rm_X1_init : Room := { frames := 1, cells := 11, slots := 110, locals := 12 }
def xAO (U : State) : Prop := ∀ a : Array Value, (Cond.arrayOver (.array .int)).before a U = true
set_option maxRecDepth 20000 in
theorem c_X1_init (l : Launch) (D : va_G) (cI cS cII : ClassId) (b sz : Nat) : Met l yX1_init [Cond.code yX1_init cX1_init 1 none] Rm_X1_init (nPre D (tysU cI cS cII) [.ref b] [(b, .inr (1, [.null, .int 0]))] sz xAO) (nPost D (va_A [(b, .inr (1, [.null, .int 0]))] sz) none (fX1_init cI cII b) 1) 11 110 (va_A [(b, .inr (1, [.null, .int 0]))] sz) := by
  refine nc_of (own := RX1) (by decide) rfl (Nat.le_of_ble_eq_true rfl) (fun J hJ => ?_)
  have hZn : ∀ s meth args below Q, zM yX1_init.name none xAO (nPost D (va_A [(b, .inr (1, [.null, .int 0]))] sz) none (fX1_init cI cII b) 1) 11 110 (va_A [(b, .inr (1, [.null, .int 0]))] sz) s meth args below Q → meth.name = "<init>" := fun _ _ _ _ _ h => h.1
  refine nn_aload_n hJ dX1_init_0 0 rfl rfl ?_
  refine nn_objInit hJ dX1_init_1 (tb1 (i := 90) rfl) (tb1 (i := 22) rfl) (tb1 (i := 23) rfl) (by decide) (by decide) ?_
  refine nn_aload_n hJ dX1_init_4 0 rfl rfl ?_
  refine nn_bipush hJ (v := 10) dX1_init_5 (by decide) ?_
  refine nn_bipush hJ (v := 10) dX1_init_7 (by decide) ?_
  refine nn_grid hJ dX1_init_9 (tb1 (i := 91) rfl) (fun _ _ _ _ _ h => h.2.2.2.1) (tb1 (i := 42) rfl) (Nat.le_of_ble_eq_true rfl) (Nat.le_of_ble_eq_true rfl) (fun q0 => ?_)
  refine nn_putr hJ hZn lay_X1 tyX1 tyX1_ok nmX1 dX1_init_13 0 0 rfl rfl (by decide) (tb1 (i := 93) rfl) rfl rfl (ty := .array (.array .int)) (by decide +kernel) rfl rfl (Nat.le_of_ble_eq_true rfl) rfl ?_
  exact nn_vret hJ dX1_init_16 [q0] rfl rfl
