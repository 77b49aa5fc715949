theorem yx_a11 : Cond.arrayClass .int ∈ zTB := zi_t (List.mem_of_getElem? (i := 109) (by decide +kernel)) (by decide +kernel)
theorem yx_a10 : Cond.arrayClass .char ∈ zTB := zi_t (List.mem_of_getElem? (i := 108) (by decide +kernel)) (by decide +kernel)
theorem yx_a9 : Cond.arrayClass .byte ∈ zTB := zi_t (List.mem_of_getElem? (i := 946) (by decide +kernel)) (by decide +kernel)
theorem yx_a12 : Cond.arrayClass .boolean ∈ zTB := zi_t (List.mem_of_getElem? (i := 148) (by decide +kernel)) (by decide +kernel)
theorem zd_City_init_0 : decode zm_City_init.2.1 0 = .ok (.aload_n 0, 1) := by decide +kernel
theorem zd_City_init_1 : decode zm_City_init.2.1 1 = .ok (.invokespecial 3, 3) := by decide +kernel
theorem zd_City_init_4 : decode zm_City_init.2.1 4 = .ok (.aload_n 0, 1) := by decide +kernel
theorem zd_City_init_5 : decode zm_City_init.2.1 5 = .ok (.bipush 12, 2) := by decide +kernel
theorem zd_City_init_7 : decode zm_City_init.2.1 7 = .ok (.newarray .int, 2) := by decide +kernel
theorem zd_City_init_9 : decode zm_City_init.2.1 9 = .ok (.putfield 9, 3) := by decide +kernel
theorem zd_City_init_12 : decode zm_City_init.2.1 12 = .ok (.aload_n 0, 1) := by decide +kernel
theorem zd_City_init_13 : decode zm_City_init.2.1 13 = .ok (.bipush 12, 2) := by decide +kernel
theorem zd_City_init_15 : decode zm_City_init.2.1 15 = .ok (.newarray .int, 2) := by decide +kernel
theorem zd_City_init_17 : decode zm_City_init.2.1 17 = .ok (.putfield 15, 3) := by decide +kernel
theorem zd_City_init_20 : decode zm_City_init.2.1 20 = .ok (.aload_n 0, 1) := by decide +kernel
theorem zd_City_init_21 : decode zm_City_init.2.1 21 = .ok (.bipush 12, 2) := by decide +kernel
theorem zd_City_init_23 : decode zm_City_init.2.1 23 = .ok (.newarray .int, 2) := by decide +kernel
theorem zd_City_init_25 : decode zm_City_init.2.1 25 = .ok (.putfield 18, 3) := by decide +kernel
theorem zd_City_init_28 : decode zm_City_init.2.1 28 = .ok (.aload_n 0, 1) := by decide +kernel
theorem zd_City_init_29 : decode zm_City_init.2.1 29 = .ok (.bipush 12, 2) := by decide +kernel
theorem zd_City_init_31 : decode zm_City_init.2.1 31 = .ok (.newarray .int, 2) := by decide +kernel
theorem zd_City_init_33 : decode zm_City_init.2.1 33 = .ok (.putfield 21, 3) := by decide +kernel
theorem zd_City_init_36 : decode zm_City_init.2.1 36 = .ok (.aload_n 0, 1) := by decide +kernel
theorem zd_City_init_37 : decode zm_City_init.2.1 37 = .ok (.bipush 12, 2) := by decide +kernel
theorem zd_City_init_39 : decode zm_City_init.2.1 39 = .ok (.newarray .int, 2) := by decide +kernel
theorem zd_City_init_41 : decode zm_City_init.2.1 41 = .ok (.putfield 24, 3) := by decide +kernel
theorem zd_City_init_44 : decode zm_City_init.2.1 44 = .ok (.aload_n 0, 1) := by decide +kernel
theorem zd_City_init_45 : decode zm_City_init.2.1 45 = .ok (.iconst 1, 1) := by decide +kernel
theorem zd_City_init_46 : decode zm_City_init.2.1 46 = .ok (.putfield 27, 3) := by decide +kernel
theorem zd_City_init_49 : decode zm_City_init.2.1 49 = .ok (.aload_n 0, 1) := by decide +kernel
theorem zd_City_init_50 : decode zm_City_init.2.1 50 = .ok (.bipush 6, 2) := by decide +kernel
theorem zd_City_init_52 : decode zm_City_init.2.1 52 = .ok (.newarray .int, 2) := by decide +kernel
theorem zd_City_init_54 : decode zm_City_init.2.1 54 = .ok (.putfield 31, 3) := by decide +kernel
theorem zd_City_init_57 : decode zm_City_init.2.1 57 = .ok (.aload_n 0, 1) := by decide +kernel
theorem zd_City_init_58 : decode zm_City_init.2.1 58 = .ok (.bipush 24, 2) := by decide +kernel
theorem zd_City_init_60 : decode zm_City_init.2.1 60 = .ok (.newarray .int, 2) := by decide +kernel
theorem zd_City_init_62 : decode zm_City_init.2.1 62 = .ok (.putfield 34, 3) := by decide +kernel
theorem zd_City_init_65 : decode zm_City_init.2.1 65 = .ok (.aload_n 0, 1) := by decide +kernel
theorem zd_City_init_66 : decode zm_City_init.2.1 66 = .ok (.iconst 4, 1) := by decide +kernel
theorem zd_City_init_67 : decode zm_City_init.2.1 67 = .ok (.newarray .int, 2) := by decide +kernel
theorem zd_City_init_69 : decode zm_City_init.2.1 69 = .ok (.putfield 37, 3) := by decide +kernel
theorem zd_City_init_72 : decode zm_City_init.2.1 72 = .ok (.aload_n 0, 1) := by decide +kernel
theorem zd_City_init_73 : decode zm_City_init.2.1 73 = .ok (.iconst 4, 1) := by decide +kernel
theorem zd_City_init_74 : decode zm_City_init.2.1 74 = .ok (.newarray .int, 2) := by decide +kernel
theorem zd_City_init_76 : decode zm_City_init.2.1 76 = .ok (.putfield 40, 3) := by decide +kernel
theorem zd_City_init_79 : decode zm_City_init.2.1 79 = .ok (.return_, 1) := by decide +kernel
def yb_City : List Value := [.int 0, .null, .null, .null, .null, .null, .int 0, .null, .null, .int 0, .null, .null, .int 0, .int 0, .int 0, .int 0]
theorem yb_City_ok : ∀ j, j < 16 → defaultValue (zy_City j) = vp_V yb_City j := by decide +kernel
theorem yq_City : z_mb zm_City_init 0 := ⟨zx_City, zi_t (List.mem_of_getElem? (i := 31) (by decide +kernel)) (by decide +kernel), ⟨by decide +kernel, by decide +kernel, by decide +kernel⟩, by decide⟩
theorem yi_City : Cond.instanceMethod zm_City_init.1 ∈ zTB := zi_t (List.mem_of_getElem? (i := 30) (by decide +kernel)) (by decide +kernel)
theorem yn_City : Cond.instantiable zr_City 16 ∈ zTB := zi_t (List.mem_of_getElem? (i := 28) (by decide +kernel)) (by decide +kernel)
theorem yl_City_3 : Cond.methodLink zr_City 3 Lib.objectInit ∈ zTB := zi_t (List.mem_of_getElem? (i := 32) (by decide +kernel)) (by decide +kernel)
def yf_City (z : Nat) : List Value := [.int 0, .ref z, .ref (z + 1), .ref (z + 2), .ref (z + 3), .ref (z + 4), .int (nI 1), .ref (z + 5), .ref (z + 6), .int 0, .ref (z + 7), .ref (z + 8), .int 0, .int 0, .int 0, .int 0]
def yw_City (cy : Nat → ClassId) (z : Nat) : va_W := (((((((([(z, .inl (cy 11, 12, .inl (fun _ => 0)))] ++ [(z + 1, .inl (cy 11, 12, .inl (fun _ => 0)))]) ++ [(z + 2, .inl (cy 11, 12, .inl (fun _ => 0)))]) ++ [(z + 3, .inl (cy 11, 12, .inl (fun _ => 0)))]) ++ [(z + 4, .inl (cy 11, 12, .inl (fun _ => 0)))]) ++ [(z + 5, .inl (cy 11, 6, .inl (fun _ => 0)))]) ++ [(z + 6, .inl (cy 11, 24, .inl (fun _ => 0)))]) ++ [(z + 7, .inl (cy 11, 4, .inl (fun _ => 0)))]) ++ [(z + 8, .inl (cy 11, 4, .inl (fun _ => 0)))])
set_option maxRecDepth 20000 in
theorem yc_City : yCt 2 zm_City_init 1 yb_City yf_City yw_City 9 98 := by
  refine yCt_of (by decide) rfl rfl rfl (by decide) (fun p l e s m args below meth c Qf D cy h0 C => ?_)
  refine yj_aload0 C zd_City_init_0 ?_
  refine yj_obj C yl_City_3 (by decide) zd_City_init_1 ?_
  refine yj_aload0 C zd_City_init_4 ?_
  refine yj_bipush (v := nI 12) C zd_City_init_5 (by decide) ?_
  refine yj_newarr (ty := .int) (j := 2) (t := 11) (n := 12) C rfl yx_a11 rfl rfl rfl (by decide) (by decide) (Nat.le_of_ble_eq_true rfl) (Nat.le_of_ble_eq_true rfl) zd_City_init_7 ?_
  refine yj_put (k0 := 1) C rfl zu_City zy_City_ok zn_City (by decide) rfl rfl zl_City_9 rfl rfl zd_City_init_9 ?_
  refine yj_aload0 C zd_City_init_12 ?_
  refine yj_bipush (v := nI 12) C zd_City_init_13 (by decide) ?_
  refine yj_newarr (ty := .int) (j := 2) (t := 11) (n := 12) C rfl yx_a11 rfl rfl rfl (by decide) (by decide) (Nat.le_of_ble_eq_true rfl) (Nat.le_of_ble_eq_true rfl) zd_City_init_15 ?_
  refine yj_put (k0 := 2) C rfl zu_City zy_City_ok zn_City (by decide) rfl rfl zl_City_15 rfl rfl zd_City_init_17 ?_
  refine yj_aload0 C zd_City_init_20 ?_
  refine yj_bipush (v := nI 12) C zd_City_init_21 (by decide) ?_
  refine yj_newarr (ty := .int) (j := 2) (t := 11) (n := 12) C rfl yx_a11 rfl rfl rfl (by decide) (by decide) (Nat.le_of_ble_eq_true rfl) (Nat.le_of_ble_eq_true rfl) zd_City_init_23 ?_
  refine yj_put (k0 := 3) C rfl zu_City zy_City_ok zn_City (by decide) rfl rfl zl_City_18 rfl rfl zd_City_init_25 ?_
  refine yj_aload0 C zd_City_init_28 ?_
  refine yj_bipush (v := nI 12) C zd_City_init_29 (by decide) ?_
  refine yj_newarr (ty := .int) (j := 2) (t := 11) (n := 12) C rfl yx_a11 rfl rfl rfl (by decide) (by decide) (Nat.le_of_ble_eq_true rfl) (Nat.le_of_ble_eq_true rfl) zd_City_init_31 ?_
  refine yj_put (k0 := 4) C rfl zu_City zy_City_ok zn_City (by decide) rfl rfl zl_City_21 rfl rfl zd_City_init_33 ?_
  refine yj_aload0 C zd_City_init_36 ?_
  refine yj_bipush (v := nI 12) C zd_City_init_37 (by decide) ?_
  refine yj_newarr (ty := .int) (j := 2) (t := 11) (n := 12) C rfl yx_a11 rfl rfl rfl (by decide) (by decide) (Nat.le_of_ble_eq_true rfl) (Nat.le_of_ble_eq_true rfl) zd_City_init_39 ?_
  refine yj_put (k0 := 5) C rfl zu_City zy_City_ok zn_City (by decide) rfl rfl zl_City_24 rfl rfl zd_City_init_41 ?_
  refine yj_aload0 C zd_City_init_44 ?_
  refine yj_iconst (v := nI 1) C zd_City_init_45 (by decide) ?_
  refine yj_put (k0 := 6) C rfl zu_City zy_City_ok zn_City (by decide) rfl rfl zl_City_27 rfl rfl zd_City_init_46 ?_
  refine yj_aload0 C zd_City_init_49 ?_
  refine yj_bipush (v := nI 6) C zd_City_init_50 (by decide) ?_
  refine yj_newarr (ty := .int) (j := 2) (t := 11) (n := 6) C rfl yx_a11 rfl rfl rfl (by decide) (by decide) (Nat.le_of_ble_eq_true rfl) (Nat.le_of_ble_eq_true rfl) zd_City_init_52 ?_
  refine yj_put (k0 := 7) C rfl zu_City zy_City_ok zn_City (by decide) rfl rfl zl_City_31 rfl rfl zd_City_init_54 ?_
  refine yj_aload0 C zd_City_init_57 ?_
  refine yj_bipush (v := nI 24) C zd_City_init_58 (by decide) ?_
  refine yj_newarr (ty := .int) (j := 2) (t := 11) (n := 24) C rfl yx_a11 rfl rfl rfl (by decide) (by decide) (Nat.le_of_ble_eq_true rfl) (Nat.le_of_ble_eq_true rfl) zd_City_init_60 ?_
  refine yj_put (k0 := 8) C rfl zu_City zy_City_ok zn_City (by decide) rfl rfl zl_City_34 rfl rfl zd_City_init_62 ?_
  refine yj_aload0 C zd_City_init_65 ?_
  refine yj_iconst (v := nI 4) C zd_City_init_66 (by decide) ?_
  refine yj_newarr (ty := .int) (j := 2) (t := 11) (n := 4) C rfl yx_a11 rfl rfl rfl (by decide) (by decide) (Nat.le_of_ble_eq_true rfl) (Nat.le_of_ble_eq_true rfl) zd_City_init_67 ?_
  refine yj_put (k0 := 10) C rfl zu_City zy_City_ok zn_City (by decide) rfl rfl zl_City_37 rfl rfl zd_City_init_69 ?_
  refine yj_aload0 C zd_City_init_72 ?_
  refine yj_iconst (v := nI 4) C zd_City_init_73 (by decide) ?_
  refine yj_newarr (ty := .int) (j := 2) (t := 11) (n := 4) C rfl yx_a11 rfl rfl rfl (by decide) (by decide) (Nat.le_of_ble_eq_true rfl) (Nat.le_of_ble_eq_true rfl) zd_City_init_74 ?_
  refine yj_put (k0 := 11) C rfl zu_City zy_City_ok zn_City (by decide) rfl rfl zl_City_40 rfl rfl zd_City_init_76 ?_
  exact yj_ret C zd_City_init_79
theorem zd_Acts_init_0 : decode zm_Acts_init.2.1 0 = .ok (.aload_n 0, 1) := by decide +kernel
theorem zd_Acts_init_1 : decode zm_Acts_init.2.1 1 = .ok (.invokespecial 3, 3) := by decide +kernel
theorem zd_Acts_init_4 : decode zm_Acts_init.2.1 4 = .ok (.aload_n 0, 1) := by decide +kernel
theorem zd_Acts_init_5 : decode zm_Acts_init.2.1 5 = .ok (.bipush 20, 2) := by decide +kernel
theorem zd_Acts_init_7 : decode zm_Acts_init.2.1 7 = .ok (.newarray .int, 2) := by decide +kernel
theorem zd_Acts_init_9 : decode zm_Acts_init.2.1 9 = .ok (.putfield 11, 3) := by decide +kernel
theorem zd_Acts_init_12 : decode zm_Acts_init.2.1 12 = .ok (.aload_n 0, 1) := by decide +kernel
theorem zd_Acts_init_13 : decode zm_Acts_init.2.1 13 = .ok (.bipush 60, 2) := by decide +kernel
theorem zd_Acts_init_15 : decode zm_Acts_init.2.1 15 = .ok (.newarray .int, 2) := by decide +kernel
theorem zd_Acts_init_17 : decode zm_Acts_init.2.1 17 = .ok (.putfield 15, 3) := by decide +kernel
theorem zd_Acts_init_20 : decode zm_Acts_init.2.1 20 = .ok (.return_, 1) := by decide +kernel
def yb_Acts : List Value := [.null, .null, .int 0, .int 0, .int 0]
theorem yb_Acts_ok : ∀ j, j < 5 → defaultValue (zy_Acts j) = vp_V yb_Acts j := by decide +kernel
theorem yq_Acts : z_mb zm_Acts_init 0 := ⟨zx_Acts, zi_t (List.mem_of_getElem? (i := 153) (by decide +kernel)) (by decide +kernel), ⟨by decide +kernel, by decide +kernel, by decide +kernel⟩, by decide⟩
theorem yi_Acts : Cond.instanceMethod zm_Acts_init.1 ∈ zTB := zi_t (List.mem_of_getElem? (i := 152) (by decide +kernel)) (by decide +kernel)
theorem yn_Acts : Cond.instantiable zr_Acts 5 ∈ zTB := zi_t (List.mem_of_getElem? (i := 150) (by decide +kernel)) (by decide +kernel)
theorem yl_Acts_3 : Cond.methodLink zr_Acts 3 Lib.objectInit ∈ zTB := zi_t (List.mem_of_getElem? (i := 154) (by decide +kernel)) (by decide +kernel)
def yf_Acts (z : Nat) : List Value := [.ref z, .ref (z + 1), .int 0, .int 0, .int 0]
def yw_Acts (cy : Nat → ClassId) (z : Nat) : va_W := ([(z, .inl (cy 11, 20, .inl (fun _ => 0)))] ++ [(z + 1, .inl (cy 11, 60, .inl (fun _ => 0)))])
set_option maxRecDepth 20000 in
theorem yc_Acts : yCt 2 zm_Acts_init 0 yb_Acts yf_Acts yw_Acts 2 80 := by
  refine yCt_of (by decide) rfl rfl rfl (by decide) (fun p l e s m args below meth c Qf D cy h0 C => ?_)
  refine yj_aload0 C zd_Acts_init_0 ?_
  refine yj_obj C yl_Acts_3 (by decide) zd_Acts_init_1 ?_
  refine yj_aload0 C zd_Acts_init_4 ?_
  refine yj_bipush (v := nI 20) C zd_Acts_init_5 (by decide) ?_
  refine yj_newarr (ty := .int) (j := 2) (t := 11) (n := 20) C rfl yx_a11 rfl rfl rfl (by decide) (by decide) (Nat.le_of_ble_eq_true rfl) (Nat.le_of_ble_eq_true rfl) zd_Acts_init_7 ?_
  refine yj_put (k0 := 0) C rfl zu_Acts zy_Acts_ok zn_Acts (by decide) rfl rfl zl_Acts_11 rfl rfl zd_Acts_init_9 ?_
  refine yj_aload0 C zd_Acts_init_12 ?_
  refine yj_bipush (v := nI 60) C zd_Acts_init_13 (by decide) ?_
  refine yj_newarr (ty := .int) (j := 2) (t := 11) (n := 60) C rfl yx_a11 rfl rfl rfl (by decide) (by decide) (Nat.le_of_ble_eq_true rfl) (Nat.le_of_ble_eq_true rfl) zd_Acts_init_15 ?_
  refine yj_put (k0 := 1) C rfl zu_Acts zy_Acts_ok zn_Acts (by decide) rfl rfl zl_Acts_15 rfl rfl zd_Acts_init_17 ?_
  exact yj_ret C zd_Acts_init_20
theorem zd_Mason_init_0 : decode zm_Mason_init.2.1 0 = .ok (.aload_n 0, 1) := by decide +kernel
theorem zd_Mason_init_1 : decode zm_Mason_init.2.1 1 = .ok (.invokespecial 3, 3) := by decide +kernel
theorem zd_Mason_init_4 : decode zm_Mason_init.2.1 4 = .ok (.aload_n 0, 1) := by decide +kernel
theorem zd_Mason_init_5 : decode zm_Mason_init.2.1 5 = .ok (.bipush 12, 2) := by decide +kernel
theorem zd_Mason_init_7 : decode zm_Mason_init.2.1 7 = .ok (.newarray .int, 2) := by decide +kernel
theorem zd_Mason_init_9 : decode zm_Mason_init.2.1 9 = .ok (.putfield 9, 3) := by decide +kernel
theorem zd_Mason_init_12 : decode zm_Mason_init.2.1 12 = .ok (.aload_n 0, 1) := by decide +kernel
theorem zd_Mason_init_13 : decode zm_Mason_init.2.1 13 = .ok (.bipush 6, 2) := by decide +kernel
theorem zd_Mason_init_15 : decode zm_Mason_init.2.1 15 = .ok (.newarray .int, 2) := by decide +kernel
theorem zd_Mason_init_17 : decode zm_Mason_init.2.1 17 = .ok (.putfield 15, 3) := by decide +kernel
theorem zd_Mason_init_20 : decode zm_Mason_init.2.1 20 = .ok (.aload_n 0, 1) := by decide +kernel
theorem zd_Mason_init_21 : decode zm_Mason_init.2.1 21 = .ok (.iconst 1, 1) := by decide +kernel
theorem zd_Mason_init_22 : decode zm_Mason_init.2.1 22 = .ok (.putfield 18, 3) := by decide +kernel
theorem zd_Mason_init_25 : decode zm_Mason_init.2.1 25 = .ok (.aload_n 0, 1) := by decide +kernel
theorem zd_Mason_init_26 : decode zm_Mason_init.2.1 26 = .ok (.bipush 49, 2) := by decide +kernel
theorem zd_Mason_init_28 : decode zm_Mason_init.2.1 28 = .ok (.newarray .int, 2) := by decide +kernel
theorem zd_Mason_init_30 : decode zm_Mason_init.2.1 30 = .ok (.putfield 22, 3) := by decide +kernel
theorem zd_Mason_init_33 : decode zm_Mason_init.2.1 33 = .ok (.return_, 1) := by decide +kernel
def yb_Mason : List Value := [.null, .null, .int 0, .int 0, .int 0, .null]
theorem yb_Mason_ok : ∀ j, j < 6 → defaultValue (zy_Mason j) = vp_V yb_Mason j := by decide +kernel
theorem yq_Mason : z_mb zm_Mason_init 0 := ⟨zx_Mason, zi_t (List.mem_of_getElem? (i := 198) (by decide +kernel)) (by decide +kernel), ⟨by decide +kernel, by decide +kernel, by decide +kernel⟩, by decide⟩
theorem yi_Mason : Cond.instanceMethod zm_Mason_init.1 ∈ zTB := zi_t (List.mem_of_getElem? (i := 197) (by decide +kernel)) (by decide +kernel)
theorem yn_Mason : Cond.instantiable zr_Mason 6 ∈ zTB := zi_t (List.mem_of_getElem? (i := 195) (by decide +kernel)) (by decide +kernel)
theorem yl_Mason_3 : Cond.methodLink zr_Mason 3 Lib.objectInit ∈ zTB := zi_t (List.mem_of_getElem? (i := 199) (by decide +kernel)) (by decide +kernel)
def yf_Mason (z : Nat) : List Value := [.ref z, .ref (z + 1), .int 0, .int 0, .int (nI 1), .ref (z + 2)]
def yw_Mason (cy : Nat → ClassId) (z : Nat) : va_W := (([(z, .inl (cy 11, 12, .inl (fun _ => 0)))] ++ [(z + 1, .inl (cy 11, 6, .inl (fun _ => 0)))]) ++ [(z + 2, .inl (cy 11, 49, .inl (fun _ => 0)))])
set_option maxRecDepth 20000 in
theorem yc_Mason : yCt 2 zm_Mason_init 4 yb_Mason yf_Mason yw_Mason 3 67 := by
  refine yCt_of (by decide) rfl rfl rfl (by decide) (fun p l e s m args below meth c Qf D cy h0 C => ?_)
  refine yj_aload0 C zd_Mason_init_0 ?_
  refine yj_obj C yl_Mason_3 (by decide) zd_Mason_init_1 ?_
  refine yj_aload0 C zd_Mason_init_4 ?_
  refine yj_bipush (v := nI 12) C zd_Mason_init_5 (by decide) ?_
  refine yj_newarr (ty := .int) (j := 2) (t := 11) (n := 12) C rfl yx_a11 rfl rfl rfl (by decide) (by decide) (Nat.le_of_ble_eq_true rfl) (Nat.le_of_ble_eq_true rfl) zd_Mason_init_7 ?_
  refine yj_put (k0 := 0) C rfl zu_Mason zy_Mason_ok zn_Mason (by decide) rfl rfl zl_Mason_9 rfl rfl zd_Mason_init_9 ?_
  refine yj_aload0 C zd_Mason_init_12 ?_
  refine yj_bipush (v := nI 6) C zd_Mason_init_13 (by decide) ?_
  refine yj_newarr (ty := .int) (j := 2) (t := 11) (n := 6) C rfl yx_a11 rfl rfl rfl (by decide) (by decide) (Nat.le_of_ble_eq_true rfl) (Nat.le_of_ble_eq_true rfl) zd_Mason_init_15 ?_
  refine yj_put (k0 := 1) C rfl zu_Mason zy_Mason_ok zn_Mason (by decide) rfl rfl zl_Mason_15 rfl rfl zd_Mason_init_17 ?_
  refine yj_aload0 C zd_Mason_init_20 ?_
  refine yj_iconst (v := nI 1) C zd_Mason_init_21 (by decide) ?_
  refine yj_put (k0 := 4) C rfl zu_Mason zy_Mason_ok zn_Mason (by decide) rfl rfl zl_Mason_18 rfl rfl zd_Mason_init_22 ?_
  refine yj_aload0 C zd_Mason_init_25 ?_
  refine yj_bipush (v := nI 49) C zd_Mason_init_26 (by decide) ?_
  refine yj_newarr (ty := .int) (j := 2) (t := 11) (n := 49) C rfl yx_a11 rfl rfl rfl (by decide) (by decide) (Nat.le_of_ble_eq_true rfl) (Nat.le_of_ble_eq_true rfl) zd_Mason_init_28 ?_
  refine yj_put (k0 := 5) C rfl zu_Mason zy_Mason_ok zn_Mason (by decide) rfl rfl zl_Mason_22 rfl rfl zd_Mason_init_30 ?_
  exact yj_ret C zd_Mason_init_33
theorem zd_Duel_init_0 : decode zm_Duel_init.2.1 0 = .ok (.aload_n 0, 1) := by decide +kernel
theorem zd_Duel_init_1 : decode zm_Duel_init.2.1 1 = .ok (.invokespecial 3, 3) := by decide +kernel
theorem zd_Duel_init_4 : decode zm_Duel_init.2.1 4 = .ok (.return_, 1) := by decide +kernel
def yb_Duel : List Value := [.int 0]
theorem yb_Duel_ok : ∀ j, j < 1 → defaultValue (zy_Duel j) = vp_V yb_Duel j := by decide +kernel
theorem yq_Duel : z_mb zm_Duel_init 0 := ⟨zx_Duel, zi_t (List.mem_of_getElem? (i := 224) (by decide +kernel)) (by decide +kernel), ⟨by decide +kernel, by decide +kernel, by decide +kernel⟩, by decide⟩
theorem yi_Duel : Cond.instanceMethod zm_Duel_init.1 ∈ zTB := zi_t (List.mem_of_getElem? (i := 223) (by decide +kernel)) (by decide +kernel)
theorem yn_Duel : Cond.instantiable zr_Duel 1 ∈ zTB := zi_t (List.mem_of_getElem? (i := 221) (by decide +kernel)) (by decide +kernel)
theorem yl_Duel_3 : Cond.methodLink zr_Duel 3 Lib.objectInit ∈ zTB := zi_t (List.mem_of_getElem? (i := 225) (by decide +kernel)) (by decide +kernel)
def yf_Duel (z : Nat) : List Value := [.int 0]
def yw_Duel (cy : Nat → ClassId) (z : Nat) : va_W := []
set_option maxRecDepth 20000 in
theorem yc_Duel : yCt 2 zm_Duel_init 2 yb_Duel yf_Duel yw_Duel 0 0 := by
  refine yCt_of (by decide) rfl rfl rfl (by decide) (fun p l e s m args below meth c Qf D cy h0 C => ?_)
  refine yj_aload0 C zd_Duel_init_0 ?_
  refine yj_obj C yl_Duel_3 (by decide) zd_Duel_init_1 ?_
  exact yj_ret C zd_Duel_init_4
theorem zd_Orders_init_0 : decode zm_Orders_init.2.1 0 = .ok (.aload_n 0, 1) := by decide +kernel
theorem zd_Orders_init_1 : decode zm_Orders_init.2.1 1 = .ok (.invokespecial 3, 3) := by decide +kernel
theorem zd_Orders_init_4 : decode zm_Orders_init.2.1 4 = .ok (.aload_n 0, 1) := by decide +kernel
theorem zd_Orders_init_5 : decode zm_Orders_init.2.1 5 = .ok (.iconst 4, 1) := by decide +kernel
theorem zd_Orders_init_6 : decode zm_Orders_init.2.1 6 = .ok (.newarray .int, 2) := by decide +kernel
theorem zd_Orders_init_8 : decode zm_Orders_init.2.1 8 = .ok (.putfield 9, 3) := by decide +kernel
theorem zd_Orders_init_11 : decode zm_Orders_init.2.1 11 = .ok (.return_, 1) := by decide +kernel
def yb_Orders : List Value := [.null, .int 0]
theorem yb_Orders_ok : ∀ j, j < 2 → defaultValue (zy_Orders j) = vp_V yb_Orders j := by decide +kernel
theorem yq_Orders : z_mb zm_Orders_init 0 := ⟨zx_Orders, zi_t (List.mem_of_getElem? (i := 235) (by decide +kernel)) (by decide +kernel), ⟨by decide +kernel, by decide +kernel, by decide +kernel⟩, by decide⟩
theorem yi_Orders : Cond.instanceMethod zm_Orders_init.1 ∈ zTB := zi_t (List.mem_of_getElem? (i := 234) (by decide +kernel)) (by decide +kernel)
theorem yn_Orders : Cond.instantiable zr_Orders 2 ∈ zTB := zi_t (List.mem_of_getElem? (i := 232) (by decide +kernel)) (by decide +kernel)
theorem yl_Orders_3 : Cond.methodLink zr_Orders 3 Lib.objectInit ∈ zTB := zi_t (List.mem_of_getElem? (i := 236) (by decide +kernel)) (by decide +kernel)
def yf_Orders (z : Nat) : List Value := [.ref z, .int 0]
def yw_Orders (cy : Nat → ClassId) (z : Nat) : va_W := [(z, .inl (cy 11, 4, .inl (fun _ => 0)))]
set_option maxRecDepth 20000 in
theorem yc_Orders : yCt 2 zm_Orders_init 5 yb_Orders yf_Orders yw_Orders 1 4 := by
  refine yCt_of (by decide) rfl rfl rfl (by decide) (fun p l e s m args below meth c Qf D cy h0 C => ?_)
  refine yj_aload0 C zd_Orders_init_0 ?_
  refine yj_obj C yl_Orders_3 (by decide) zd_Orders_init_1 ?_
  refine yj_aload0 C zd_Orders_init_4 ?_
  refine yj_iconst (v := nI 4) C zd_Orders_init_5 (by decide) ?_
  refine yj_newarr (ty := .int) (j := 2) (t := 11) (n := 4) C rfl yx_a11 rfl rfl rfl (by decide) (by decide) (Nat.le_of_ble_eq_true rfl) (Nat.le_of_ble_eq_true rfl) zd_Orders_init_6 ?_
  refine yj_put (k0 := 0) C rfl zu_Orders zy_Orders_ok zn_Orders (by decide) rfl rfl zl_Orders_9 rfl rfl zd_Orders_init_8 ?_
  exact yj_ret C zd_Orders_init_11
theorem zd_History_init_0 : decode zm_History_init.2.1 0 = .ok (.aload_n 0, 1) := by decide +kernel
theorem zd_History_init_1 : decode zm_History_init.2.1 1 = .ok (.invokespecial 3, 3) := by decide +kernel
theorem zd_History_init_4 : decode zm_History_init.2.1 4 = .ok (.aload_n 0, 1) := by decide +kernel
theorem zd_History_init_5 : decode zm_History_init.2.1 5 = .ok (.bipush 13, 2) := by decide +kernel
theorem zd_History_init_7 : decode zm_History_init.2.1 7 = .ok (.bipush 71, 2) := by decide +kernel
theorem zd_History_init_9 : decode zm_History_init.2.1 9 = .ok (.multianewarray 13 2, 4) := by decide +kernel
theorem zd_History_init_13 : decode zm_History_init.2.1 13 = .ok (.putfield 15, 3) := by decide +kernel
theorem zd_History_init_16 : decode zm_History_init.2.1 16 = .ok (.return_, 1) := by decide +kernel
def yb_History : List Value := [.null, .int 0, .int 0]
theorem yb_History_ok : ∀ j, j < 3 → defaultValue (zy_History j) = vp_V yb_History j := by decide +kernel
theorem yq_History : z_mb zm_History_init 0 := ⟨zx_History, zi_t (List.mem_of_getElem? (i := 178) (by decide +kernel)) (by decide +kernel), ⟨by decide +kernel, by decide +kernel, by decide +kernel⟩, by decide⟩
theorem yi_History : Cond.instanceMethod zm_History_init.1 ∈ zTB := zi_t (List.mem_of_getElem? (i := 177) (by decide +kernel)) (by decide +kernel)
theorem yn_History : Cond.instantiable zr_History 3 ∈ zTB := zi_t (List.mem_of_getElem? (i := 175) (by decide +kernel)) (by decide +kernel)
theorem yl_History_3 : Cond.methodLink zr_History 3 Lib.objectInit ∈ zTB := zi_t (List.mem_of_getElem? (i := 179) (by decide +kernel)) (by decide +kernel)
theorem yl_History_13 : Cond.classLink zr_History 13 "[[I" ∈ zTB := zi_t (List.mem_of_getElem? (i := 180) (by decide +kernel)) (by decide +kernel)
def yf_History (z : Nat) : List Value := [.ref z, .int 0, .int 0]
def yw_History (cy : Nat → ClassId) (z : Nat) : va_W := ((z, .inl (cy 13, 13, .inr (.inr (.inr (.inr (fun j => some (z + 1 + j))))))) :: (List.range 13).map (fun j => (z + 1 + j, .inl (cy 11, 71, .inl (fun _ => 0)))))
set_option maxRecDepth 20000 in
theorem yc_History : yCt 2 zm_History_init 3 yb_History yf_History yw_History 14 936 := by
  refine yCt_of (by decide) rfl rfl rfl (by decide) (fun p l e s m args below meth c Qf D cy h0 C => ?_)
  refine yj_aload0 C zd_History_init_0 ?_
  refine yj_obj C yl_History_3 (by decide) zd_History_init_1 ?_
  refine yj_aload0 C zd_History_init_4 ?_
  refine yj_bipush (v := nI 13) C zd_History_init_5 (by decide) ?_
  refine yj_bipush (v := nI 71) C zd_History_init_7 (by decide) ?_
  refine yj_multi C yl_History_13 (by decide) (by decide) (Nat.le_of_ble_eq_true rfl) (Nat.le_of_ble_eq_true rfl) zd_History_init_9 ?_
  refine yj_put (k0 := 0) C rfl zu_History zy_History_ok zn_History (by decide) rfl rfl zl_History_15 rfl rfl zd_History_init_13 ?_
  exact yj_ret C zd_History_init_16
