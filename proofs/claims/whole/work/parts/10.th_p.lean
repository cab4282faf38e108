set_option maxHeartbeats 4000000 in
set_option maxRecDepth 100000 in
theorem th_X8_within {σ : dc_HP} {x0 : Int32} {x1 : Int32} {x2 : Int32} {r : Int32} (h : fn_X8_within x0 x1 x2 = some r) : dc_G mX8_within [.int x0, .int x1, .int x2] σ (dc_qi (fun x τ => x = r ∧ τ = σ)) := by
  intro κ hO
  have hx : dc_Cx κ RX8 cX8_within 3 0 0 := hO.1
  show dc_X κ 0 [some (.int x0), some (.int x1), some (.int x2)] [] σ
  unfold fn_X8_within at h
  refine dx_iload_n (pc := 0) hx dX8_within_0 rfl ?_
  refine dx_iload_n (pc := 1) hx dX8_within_1 rfl ?_
  refine dx_icmp_lt (pc := 2) hx dX8_within_2 (tgt := 14) (by decide) (fun c2 => ?_) (fun c2 => ?_)
  · replace h := (if_pos c2).symm.trans h
    refine dx_iconst (pc := 14) hx dX8_within_14 kc_0 ?_
    obtain rfl := Option.some.inj h
    exact dx_zret hO (pc := 15) dX8_within_15 rfl rfl ⟨_, rfl, rfl, rfl⟩
  · replace h := (if_neg c2).symm.trans h
    refine dx_iload_n (pc := 5) hx dX8_within_5 rfl ?_
    refine dx_iload_n (pc := 6) hx dX8_within_6 rfl ?_
    refine dx_icmp_gt (pc := 7) hx dX8_within_7 (tgt := 14) (by decide) (fun c7 => ?_) (fun c7 => ?_)
    · replace h := (if_pos c7).symm.trans h
      refine dx_iconst (pc := 14) hx dX8_within_14 kc_0 ?_
      obtain rfl := Option.some.inj h
      exact dx_zret hO (pc := 15) dX8_within_15 rfl rfl ⟨_, rfl, rfl, rfl⟩
    · replace h := (if_neg c7).symm.trans h
      refine dx_iconst (pc := 10) hx dX8_within_10 kc_1 ?_
      refine dx_goto (pc := 11) hx dX8_within_11 (tgt := 15) (by decide) ?_
      obtain rfl := Option.some.inj h
      exact dx_zret hO (pc := 15) dX8_within_15 rfl rfl ⟨_, rfl, rfl, rfl⟩
set_option maxHeartbeats 4000000 in
set_option maxRecDepth 100000 in
theorem th_X0_come_1 {σ : dc_HP} {x1 : Int32} {x2 : Int32} {x3 : Int32} {r : dc_HP} (h : fn_X0_come σ 1 x1 x2 x3 = some r) : dc_G mX0_come [.ref 1, .int x1, .int x2, .int x3] σ (dc_qv (fun τ => τ = r)) := by
  intro κ hO
  have hx : dc_Cx κ RX0 cX0_come 4 1 22 := hO.1
  show dc_X κ 0 [some (.ref 1), some (.int x1), some (.int x2), some (.int x3)] [] σ
  unfold fn_X0_come at h
  refine dx_iload_n (pc := 0) hx dX0_come_0 rfl ?_
  refine dx_iconst (pc := 1) hx dX0_come_1 kc_0 ?_
  refine dx_bipush (pc := 2) hx dX0_come_2 kb_7 ?_
  obtain ⟨r4, h4, h⟩ := Option.bind_eq_some_iff.mp h
  refine dx_callNir (pc := 4) (As := [.int x1, .int (nI 0), .int (nI 7)]) (rest := []) hx dX0_come_4 k_X0_49 rfl (dc_le rfl) (dc_le rfl) (dc_le rfl) (dc_le rfl) rfl (th_X8_within h4) ?_
  refine dx_if_eq (pc := 7) hx dX0_come_7 (tgt := 64) (by decide) (fun c7 => ?_) (fun c7 => ?_)
  · replace h := (if_pos c7).symm.trans h
    obtain rfl := Option.some.inj h
    exact dx_vret hO (pc := 64) dX0_come_64 rfl ⟨rfl, rfl⟩
  · replace h := (if_neg c7).symm.trans h
    refine dx_aload_n (pc := 10) hx dX0_come_10 rfl ?_
    refine dx_dup (pc := 11) hx dX0_come_11 rfl ?_
    refine dx_getI (pc := 12) hx dX0_come_12 f_X0_27 rfl rfl ?_
    refine dx_iconst (pc := 15) hx dX0_come_15 kc_1 ?_
    refine dx_iload_n (pc := 16) hx dX0_come_16 rfl ?_
    refine dx_ishl (pc := 17) hx dX0_come_17 ?_
    refine dx_ior (pc := 18) hx dX0_come_18 ?_
    refine dx_putI (pc := 19) hx dX0_come_19 f_X0_27 rfl rfl tyX0_ok rfl (Or.inl ⟨rfl, rfl⟩) ?_
    refine dx_nm (fun s19 e19 => ?_)
    replace h := dc_lt e19 h
    refine dx_aload_n (pc := 22) hx dX0_come_22 rfl ?_
    refine dx_dup (pc := 23) hx dX0_come_23 rfl ?_
    refine dx_getI (pc := 24) hx dX0_come_24 f_X0_31 rfl rfl ?_
    refine dx_iconst (pc := 27) hx dX0_come_27 kc_1 ?_
    refine dx_iload_n (pc := 28) hx dX0_come_28 rfl ?_
    refine dx_ishl (pc := 29) hx dX0_come_29 ?_
    refine dx_iconst (pc := 30) hx dX0_come_30 kc_m1 ?_
    refine dx_ixor (pc := 31) hx dX0_come_31 ?_
    refine dx_iand (pc := 32) hx dX0_come_32 ?_
    refine dx_putI (pc := 33) hx dX0_come_33 f_X0_31 rfl rfl tyX0_ok rfl (Or.inl ⟨rfl, rfl⟩) ?_
    refine dx_nm (fun s33 e33 => ?_)
    replace h := dc_lt e33 h
    refine dx_aload_n (pc := 36) hx dX0_come_36 rfl ?_
    refine dx_dup (pc := 37) hx dX0_come_37 rfl ?_
    refine dx_getI (pc := 38) hx dX0_come_38 f_X0_34 rfl rfl ?_
    refine dx_iconst (pc := 41) hx dX0_come_41 kc_1 ?_
    refine dx_iload_n (pc := 42) hx dX0_come_42 rfl ?_
    refine dx_ishl (pc := 43) hx dX0_come_43 ?_
    refine dx_iconst (pc := 44) hx dX0_come_44 kc_m1 ?_
    refine dx_ixor (pc := 45) hx dX0_come_45 ?_
    refine dx_iand (pc := 46) hx dX0_come_46 ?_
    refine dx_putI (pc := 47) hx dX0_come_47 f_X0_34 rfl rfl tyX0_ok rfl (Or.inl ⟨rfl, rfl⟩) ?_
    refine dx_nm (fun s47 e47 => ?_)
    replace h := dc_lt e47 h
    refine dx_aload_n (pc := 50) hx dX0_come_50 rfl ?_
    refine dx_getR (r := 2) (pc := 51) hx dX0_come_51 f_X0_9 rfl rfl ?_
    refine dx_iload_n (pc := 54) hx dX0_come_54 rfl ?_
    refine dx_iload_n (pc := 55) hx dX0_come_55 rfl ?_
    by_cases g56 : x1 < 0 ∨ 8 ≤ x1.toNatClampNeg
    · cases (if_pos g56).symm.trans h
    replace h := (if_neg g56).symm.trans h
    refine dx_iast (pc := 56) hx dX0_come_56 rfl g56 ?_
    refine dx_nm (fun s56 e56 => ?_)
    replace h := dc_lt e56 h
    refine dx_aload_n (pc := 57) hx dX0_come_57 rfl ?_
    refine dx_getR (r := 3) (pc := 58) hx dX0_come_58 f_X0_15 rfl rfl ?_
    refine dx_iload_n (pc := 61) hx dX0_come_61 rfl ?_
    refine dx_iload_n (pc := 62) hx dX0_come_62 rfl ?_
    by_cases g63 : x1 < 0 ∨ 8 ≤ x1.toNatClampNeg
    · cases (if_pos g63).symm.trans h
    replace h := (if_neg g63).symm.trans h
    refine dx_iast (pc := 63) hx dX0_come_63 rfl g63 ?_
    obtain rfl := Option.some.inj h
    exact dx_vret hO (pc := 64) dX0_come_64 rfl ⟨rfl, rfl⟩
set_option maxHeartbeats 4000000 in
set_option maxRecDepth 100000 in
theorem th_J6_bitCount_0f7a4 {σ : dc_HP} {x0 : Int32} {r : Int32} (h : fn_J6_bitCount_0f7a4 x0 = some r) : dc_G mJ6_bitCount_0f7a4 [.int x0] σ (dc_qi (fun x τ => x = r ∧ τ = σ)) := by
  intro κ hO
  have hx : dc_Cx κ RJ6 cJ6_bitCount_0f7a4 1 0 0 := hO.1
  show dc_X κ 0 [some (.int x0)] [] σ
  unfold fn_J6_bitCount_0f7a4 at h
  refine dx_iload_n (pc := 0) hx dJ6_bitCount_0f7a4_0 rfl ?_
  refine dx_iload_n (pc := 1) hx dJ6_bitCount_0f7a4_1 rfl ?_
  refine dx_iconst (pc := 2) hx dJ6_bitCount_0f7a4_2 kc_1 ?_
  refine dx_iushr (pc := 3) hx dJ6_bitCount_0f7a4_3 ?_
  refine dx_ldcw (pc := 4) hx dJ6_bitCount_0f7a4_4 f_J6_265 ?_
  refine dx_iand (pc := 7) hx dJ6_bitCount_0f7a4_7 ?_
  refine dx_isub (pc := 8) hx dJ6_bitCount_0f7a4_8 ?_
  refine dx_istore_n (pc := 9) hx dJ6_bitCount_0f7a4_9 (dc_le rfl) (ls' := [some (.int (x0 - (((x0.toUInt32 >>> ((nI 1).toUInt32 &&& Int32.toUInt32 31)).toInt32) &&& ((1431655765 : Int32)))))]) rfl ?_
  refine dx_iload_n (pc := 10) hx dJ6_bitCount_0f7a4_10 rfl ?_
  refine dx_ldcw (pc := 11) hx dJ6_bitCount_0f7a4_11 f_J6_266 ?_
  refine dx_iand (pc := 14) hx dJ6_bitCount_0f7a4_14 ?_
  refine dx_iload_n (pc := 15) hx dJ6_bitCount_0f7a4_15 rfl ?_
  refine dx_iconst (pc := 16) hx dJ6_bitCount_0f7a4_16 kc_2 ?_
  refine dx_iushr (pc := 17) hx dJ6_bitCount_0f7a4_17 ?_
  refine dx_ldcw (pc := 18) hx dJ6_bitCount_0f7a4_18 f_J6_266 ?_
  refine dx_iand (pc := 21) hx dJ6_bitCount_0f7a4_21 ?_
  refine dx_iadd (pc := 22) hx dJ6_bitCount_0f7a4_22 ?_
  refine dx_istore_n (pc := 23) hx dJ6_bitCount_0f7a4_23 (dc_le rfl) (ls' := [some (.int (((x0 - (((x0.toUInt32 >>> ((nI 1).toUInt32 &&& Int32.toUInt32 31)).toInt32) &&& ((1431655765 : Int32)))) &&& ((858993459 : Int32))) + ((((x0 - (((x0.toUInt32 >>> ((nI 1).toUInt32 &&& Int32.toUInt32 31)).toInt32) &&& ((1431655765 : Int32)))).toUInt32 >>> ((nI 2).toUInt32 &&& Int32.toUInt32 31)).toInt32) &&& ((858993459 : Int32)))))]) rfl ?_
  refine dx_iload_n (pc := 24) hx dJ6_bitCount_0f7a4_24 rfl ?_
  refine dx_iload_n (pc := 25) hx dJ6_bitCount_0f7a4_25 rfl ?_
  refine dx_iconst (pc := 26) hx dJ6_bitCount_0f7a4_26 kc_4 ?_
  refine dx_iushr (pc := 27) hx dJ6_bitCount_0f7a4_27 ?_
  refine dx_iadd (pc := 28) hx dJ6_bitCount_0f7a4_28 ?_
  refine dx_ldcw (pc := 29) hx dJ6_bitCount_0f7a4_29 f_J6_267 ?_
  refine dx_iand (pc := 32) hx dJ6_bitCount_0f7a4_32 ?_
  refine dx_istore_n (pc := 33) hx dJ6_bitCount_0f7a4_33 (dc_le rfl) (ls' := [some (.int (((((x0 - (((x0.toUInt32 >>> ((nI 1).toUInt32 &&& Int32.toUInt32 31)).toInt32) &&& ((1431655765 : Int32)))) &&& ((858993459 : Int32))) + ((((x0 - (((x0.toUInt32 >>> ((nI 1).toUInt32 &&& Int32.toUInt32 31)).toInt32) &&& ((1431655765 : Int32)))).toUInt32 >>> ((nI 2).toUInt32 &&& Int32.toUInt32 31)).toInt32) &&& ((858993459 : Int32)))) + (((((x0 - (((x0.toUInt32 >>> ((nI 1).toUInt32 &&& Int32.toUInt32 31)).toInt32) &&& ((1431655765 : Int32)))) &&& ((858993459 : Int32))) + ((((x0 - (((x0.toUInt32 >>> ((nI 1).toUInt32 &&& Int32.toUInt32 31)).toInt32) &&& ((1431655765 : Int32)))).toUInt32 >>> ((nI 2).toUInt32 &&& Int32.toUInt32 31)).toInt32) &&& ((858993459 : Int32)))).toUInt32 >>> ((nI 4).toUInt32 &&& Int32.toUInt32 31)).toInt32)) &&& ((252645135 : Int32))))]) rfl ?_
  refine dx_iload_n (pc := 34) hx dJ6_bitCount_0f7a4_34 rfl ?_
  refine dx_iload_n (pc := 35) hx dJ6_bitCount_0f7a4_35 rfl ?_
  refine dx_bipush (pc := 36) hx dJ6_bitCount_0f7a4_36 kb_8 ?_
  refine dx_iushr (pc := 38) hx dJ6_bitCount_0f7a4_38 ?_
  refine dx_iadd (pc := 39) hx dJ6_bitCount_0f7a4_39 ?_
  refine dx_istore_n (pc := 40) hx dJ6_bitCount_0f7a4_40 (dc_le rfl) (ls' := [some (.int ((((((x0 - (((x0.toUInt32 >>> ((nI 1).toUInt32 &&& Int32.toUInt32 31)).toInt32) &&& ((1431655765 : Int32)))) &&& ((858993459 : Int32))) + ((((x0 - (((x0.toUInt32 >>> ((nI 1).toUInt32 &&& Int32.toUInt32 31)).toInt32) &&& ((1431655765 : Int32)))).toUInt32 >>> ((nI 2).toUInt32 &&& Int32.toUInt32 31)).toInt32) &&& ((858993459 : Int32)))) + (((((x0 - (((x0.toUInt32 >>> ((nI 1).toUInt32 &&& Int32.toUInt32 31)).toInt32) &&& ((1431655765 : Int32)))) &&& ((858993459 : Int32))) + ((((x0 - (((x0.toUInt32 >>> ((nI 1).toUInt32 &&& Int32.toUInt32 31)).toInt32) &&& ((1431655765 : Int32)))).toUInt32 >>> ((nI 2).toUInt32 &&& Int32.toUInt32 31)).toInt32) &&& ((858993459 : Int32)))).toUInt32 >>> ((nI 4).toUInt32 &&& Int32.toUInt32 31)).toInt32)) &&& ((252645135 : Int32))) + (((((((x0 - (((x0.toUInt32 >>> ((nI 1).toUInt32 &&& Int32.toUInt32 31)).toInt32) &&& ((1431655765 : Int32)))) &&& ((858993459 : Int32))) + ((((x0 - (((x0.toUInt32 >>> ((nI 1).toUInt32 &&& Int32.toUInt32 31)).toInt32) &&& ((1431655765 : Int32)))).toUInt32 >>> ((nI 2).toUInt32 &&& Int32.toUInt32 31)).toInt32) &&& ((858993459 : Int32)))) + (((((x0 - (((x0.toUInt32 >>> ((nI 1).toUInt32 &&& Int32.toUInt32 31)).toInt32) &&& ((1431655765 : Int32)))) &&& ((858993459 : Int32))) + ((((x0 - (((x0.toUInt32 >>> ((nI 1).toUInt32 &&& Int32.toUInt32 31)).toInt32) &&& ((1431655765 : Int32)))).toUInt32 >>> ((nI 2).toUInt32 &&& Int32.toUInt32 31)).toInt32) &&& ((858993459 : Int32)))).toUInt32 >>> ((nI 4).toUInt32 &&& Int32.toUInt32 31)).toInt32)) &&& ((252645135 : Int32))).toUInt32 >>> ((nI 8).toUInt32 &&& Int32.toUInt32 31)).toInt32)))]) rfl ?_
  refine dx_iload_n (pc := 41) hx dJ6_bitCount_0f7a4_41 rfl ?_
  refine dx_iload_n (pc := 42) hx dJ6_bitCount_0f7a4_42 rfl ?_
  refine dx_bipush (pc := 43) hx dJ6_bitCount_0f7a4_43 kb_16 ?_
  refine dx_iushr (pc := 45) hx dJ6_bitCount_0f7a4_45 ?_
  refine dx_iadd (pc := 46) hx dJ6_bitCount_0f7a4_46 ?_
  refine dx_istore_n (pc := 47) hx dJ6_bitCount_0f7a4_47 (dc_le rfl) (ls' := [some (.int (((((((x0 - (((x0.toUInt32 >>> ((nI 1).toUInt32 &&& Int32.toUInt32 31)).toInt32) &&& ((1431655765 : Int32)))) &&& ((858993459 : Int32))) + ((((x0 - (((x0.toUInt32 >>> ((nI 1).toUInt32 &&& Int32.toUInt32 31)).toInt32) &&& ((1431655765 : Int32)))).toUInt32 >>> ((nI 2).toUInt32 &&& Int32.toUInt32 31)).toInt32) &&& ((858993459 : Int32)))) + (((((x0 - (((x0.toUInt32 >>> ((nI 1).toUInt32 &&& Int32.toUInt32 31)).toInt32) &&& ((1431655765 : Int32)))) &&& ((858993459 : Int32))) + ((((x0 - (((x0.toUInt32 >>> ((nI 1).toUInt32 &&& Int32.toUInt32 31)).toInt32) &&& ((1431655765 : Int32)))).toUInt32 >>> ((nI 2).toUInt32 &&& Int32.toUInt32 31)).toInt32) &&& ((858993459 : Int32)))).toUInt32 >>> ((nI 4).toUInt32 &&& Int32.toUInt32 31)).toInt32)) &&& ((252645135 : Int32))) + (((((((x0 - (((x0.toUInt32 >>> ((nI 1).toUInt32 &&& Int32.toUInt32 31)).toInt32) &&& ((1431655765 : Int32)))) &&& ((858993459 : Int32))) + ((((x0 - (((x0.toUInt32 >>> ((nI 1).toUInt32 &&& Int32.toUInt32 31)).toInt32) &&& ((1431655765 : Int32)))).toUInt32 >>> ((nI 2).toUInt32 &&& Int32.toUInt32 31)).toInt32) &&& ((858993459 : Int32)))) + (((((x0 - (((x0.toUInt32 >>> ((nI 1).toUInt32 &&& Int32.toUInt32 31)).toInt32) &&& ((1431655765 : Int32)))) &&& ((858993459 : Int32))) + ((((x0 - (((x0.toUInt32 >>> ((nI 1).toUInt32 &&& Int32.toUInt32 31)).toInt32) &&& ((1431655765 : Int32)))).toUInt32 >>> ((nI 2).toUInt32 &&& Int32.toUInt32 31)).toInt32) &&& ((858993459 : Int32)))).toUInt32 >>> ((nI 4).toUInt32 &&& Int32.toUInt32 31)).toInt32)) &&& ((252645135 : Int32))).toUInt32 >>> ((nI 8).toUInt32 &&& Int32.toUInt32 31)).toInt32)) + ((((((((x0 - (((x0.toUInt32 >>> ((nI 1).toUInt32 &&& Int32.toUInt32 31)).toInt32) &&& ((1431655765 : Int32)))) &&& ((858993459 : Int32))) + ((((x0 - (((x0.toUInt32 >>> ((nI 1).toUInt32 &&& Int32.toUInt32 31)).toInt32) &&& ((1431655765 : Int32)))).toUInt32 >>> ((nI 2).toUInt32 &&& Int32.toUInt32 31)).toInt32) &&& ((858993459 : Int32)))) + (((((x0 - (((x0.toUInt32 >>> ((nI 1).toUInt32 &&& Int32.toUInt32 31)).toInt32) &&& ((1431655765 : Int32)))) &&& ((858993459 : Int32))) + ((((x0 - (((x0.toUInt32 >>> ((nI 1).toUInt32 &&& Int32.toUInt32 31)).toInt32) &&& ((1431655765 : Int32)))).toUInt32 >>> ((nI 2).toUInt32 &&& Int32.toUInt32 31)).toInt32) &&& ((858993459 : Int32)))).toUInt32 >>> ((nI 4).toUInt32 &&& Int32.toUInt32 31)).toInt32)) &&& ((252645135 : Int32))) + (((((((x0 - (((x0.toUInt32 >>> ((nI 1).toUInt32 &&& Int32.toUInt32 31)).toInt32) &&& ((1431655765 : Int32)))) &&& ((858993459 : Int32))) + ((((x0 - (((x0.toUInt32 >>> ((nI 1).toUInt32 &&& Int32.toUInt32 31)).toInt32) &&& ((1431655765 : Int32)))).toUInt32 >>> ((nI 2).toUInt32 &&& Int32.toUInt32 31)).toInt32) &&& ((858993459 : Int32)))) + (((((x0 - (((x0.toUInt32 >>> ((nI 1).toUInt32 &&& Int32.toUInt32 31)).toInt32) &&& ((1431655765 : Int32)))) &&& ((858993459 : Int32))) + ((((x0 - (((x0.toUInt32 >>> ((nI 1).toUInt32 &&& Int32.toUInt32 31)).toInt32) &&& ((1431655765 : Int32)))).toUInt32 >>> ((nI 2).toUInt32 &&& Int32.toUInt32 31)).toInt32) &&& ((858993459 : Int32)))).toUInt32 >>> ((nI 4).toUInt32 &&& Int32.toUInt32 31)).toInt32)) &&& ((252645135 : Int32))).toUInt32 >>> ((nI 8).toUInt32 &&& Int32.toUInt32 31)).toInt32)).toUInt32 >>> ((nI 16).toUInt32 &&& Int32.toUInt32 31)).toInt32)))]) rfl ?_
  refine dx_iload_n (pc := 48) hx dJ6_bitCount_0f7a4_48 rfl ?_
  refine dx_bipush (pc := 49) hx dJ6_bitCount_0f7a4_49 kb_63 ?_
  refine dx_iand (pc := 51) hx dJ6_bitCount_0f7a4_51 ?_
  obtain rfl := Option.some.inj h
  exact dx_iret hO (pc := 52) dJ6_bitCount_0f7a4_52 rfl ⟨_, rfl, rfl, rfl⟩
set_option maxHeartbeats 4000000 in
set_option maxRecDepth 100000 in
theorem th_X0_has_1 {σ : dc_HP} {x1 : Int32} {r : Int32} (h : fn_X0_has σ 1 x1 = some r) : dc_G mX0_has [.ref 1, .int x1] σ (dc_qi (fun x τ => x = r ∧ τ = σ)) := by
  intro κ hO
  have hx : dc_Cx κ RX0 cX0_has 2 0 0 := hO.1
  show dc_X κ 0 [some (.ref 1), some (.int x1)] [] σ
  unfold fn_X0_has at h
  refine dx_iload_n (pc := 0) hx dX0_has_0 rfl ?_
  refine dx_if_lt (pc := 1) hx dX0_has_1 (tgt := 26) (by decide) (fun c1 => ?_) (fun c1 => ?_)
  · replace h := (if_pos c1).symm.trans h
    refine dx_iconst (pc := 26) hx dX0_has_26 kc_0 ?_
    obtain rfl := Option.some.inj h
    exact dx_zret hO (pc := 27) dX0_has_27 rfl rfl ⟨_, rfl, rfl, rfl⟩
  · replace h := (if_neg c1).symm.trans h
    refine dx_iload_n (pc := 4) hx dX0_has_4 rfl ?_
    refine dx_bipush (pc := 5) hx dX0_has_5 kb_8 ?_
    refine dx_icmp_ge (pc := 7) hx dX0_has_7 (tgt := 26) (by decide) (fun c7 => ?_) (fun c7 => ?_)
    · replace h := (if_pos c7).symm.trans h
      refine dx_iconst (pc := 26) hx dX0_has_26 kc_0 ?_
      obtain rfl := Option.some.inj h
      exact dx_zret hO (pc := 27) dX0_has_27 rfl rfl ⟨_, rfl, rfl, rfl⟩
    · replace h := (if_neg c7).symm.trans h
      refine dx_aload_n (pc := 10) hx dX0_has_10 rfl ?_
      refine dx_getI (pc := 11) hx dX0_has_11 f_X0_27 rfl rfl ?_
      refine dx_iload_n (pc := 14) hx dX0_has_14 rfl ?_
      refine dx_ishr (pc := 15) hx dX0_has_15 ?_
      refine dx_iconst (pc := 16) hx dX0_has_16 kc_1 ?_
      refine dx_iand (pc := 17) hx dX0_has_17 ?_
      refine dx_iconst (pc := 18) hx dX0_has_18 kc_1 ?_
      refine dx_icmp_ne (pc := 19) hx dX0_has_19 (tgt := 26) (by decide) (fun c19 => ?_) (fun c19 => ?_)
      · replace h := (if_neg c19).symm.trans h
        refine dx_iconst (pc := 26) hx dX0_has_26 kc_0 ?_
        obtain rfl := Option.some.inj h
        exact dx_zret hO (pc := 27) dX0_has_27 rfl rfl ⟨_, rfl, rfl, rfl⟩
      · replace h := (if_pos c19).symm.trans h
        refine dx_iconst (pc := 22) hx dX0_has_22 kc_1 ?_
        refine dx_goto (pc := 23) hx dX0_has_23 (tgt := 27) (by decide) ?_
        obtain rfl := Option.some.inj h
        exact dx_zret hO (pc := 27) dX0_has_27 rfl rfl ⟨_, rfl, rfl, rfl⟩
set_option maxHeartbeats 4000000 in
set_option maxRecDepth 100000 in
theorem th_X0_go_1 {σ : dc_HP} {x1 : Int32} {r : dc_HP} (h : fn_X0_go σ 1 x1 = some r) : dc_G mX0_go [.ref 1, .int x1] σ (dc_qv (fun τ => τ = r)) := by
  intro κ hO
  have hx : dc_Cx κ RX0 cX0_go 2 2 45 := hO.1
  show dc_X κ 0 [some (.ref 1), some (.int x1)] [] σ
  unfold fn_X0_go at h
  refine dx_aload_n (pc := 0) hx dX0_go_0 rfl ?_
  refine dx_iload_n (pc := 1) hx dX0_go_1 rfl ?_
  obtain ⟨r2, h2, h⟩ := Option.bind_eq_some_iff.mp h
  refine dx_callVir (pc := 2) (As := [.int x1]) (rest := []) hx dX0_go_2 k_X0_53 rfl rfl rfl rfl (dc_le rfl) (dc_le rfl) (dc_le rfl) (dc_le rfl) rfl (th_X0_has_1 h2) ?_
  refine dx_if_eq (pc := 5) hx dX0_go_5 (tgt := 29) (by decide) (fun c5 => ?_) (fun c5 => ?_)
  · replace h := (if_pos c5).symm.trans h
    obtain rfl := Option.some.inj h
    exact dx_vret hO (pc := 29) dX0_go_29 rfl ⟨rfl, rfl⟩
  · replace h := (if_neg c5).symm.trans h
    refine dx_aload_n (pc := 8) hx dX0_go_8 rfl ?_
    refine dx_iload_n (pc := 9) hx dX0_go_9 rfl ?_
    refine dx_iconst (pc := 10) hx dX0_go_10 kc_0 ?_
    refine dx_iconst (pc := 11) hx dX0_go_11 kc_0 ?_
    obtain ⟨r12, h12, h⟩ := Option.bind_eq_some_iff.mp h
    refine dx_callVvw (pc := 12) (As := [.int x1, .int (nI 0), .int (nI 0)]) (rest := []) hx dX0_go_12 k_X0_57 rfl rfl rfl rfl (dc_le rfl) (dc_le rfl) (dc_le rfl) (dc_le rfl) rfl (th_X0_come_1 h12) ?_
    refine dx_aload_n (pc := 15) hx dX0_go_15 rfl ?_
    refine dx_dup (pc := 16) hx dX0_go_16 rfl ?_
    refine dx_getI (pc := 17) hx dX0_go_17 f_X0_27 rfl rfl ?_
    refine dx_iconst (pc := 20) hx dX0_go_20 kc_1 ?_
    refine dx_iload_n (pc := 21) hx dX0_go_21 rfl ?_
    refine dx_ishl (pc := 22) hx dX0_go_22 ?_
    refine dx_iconst (pc := 23) hx dX0_go_23 kc_m1 ?_
    refine dx_ixor (pc := 24) hx dX0_go_24 ?_
    refine dx_iand (pc := 25) hx dX0_go_25 ?_
    refine dx_putI (pc := 26) hx dX0_go_26 f_X0_27 rfl rfl tyX0_ok rfl (Or.inl ⟨rfl, rfl⟩) ?_
    obtain rfl := Option.some.inj h
    exact dx_vret hO (pc := 29) dX0_go_29 rfl ⟨rfl, rfl⟩
set_option maxHeartbeats 4000000 in
set_option maxRecDepth 100000 in
theorem tl_X8_digitOf_L4 {κ : dc_KX} {Q : Option Value → dc_HP → Prop} (hO : dc_Ok κ mX8_digitOf Q) (σ : dc_HP) (x1 : Int32) : ∀ (n : Nat) (x2 : Int32) (x3 : Int32) (q : Int32), fn_X8_digitOf_L4 x1 n x2 x3 = some q → ∀ (hk : dc_X κ 20 [none, some (.int x1), some (.int q), none] [] σ), dc_X κ 4 [none, some (.int x1), some (.int x2), some (.int x3)] [] σ := by
  have hx : dc_Cx κ RX8 cX8_digitOf 4 0 0 := hO.1
  intro n
  induction n with
  | zero =>
    intro x2 x3 q h
    cases h
  | succ n ih =>
    intro x2 x3 q h hk
    unfold fn_X8_digitOf_L4 at h
    refine dx_iload_n (pc := 4) hx dX8_digitOf_4 rfl ?_
    refine dx_iload_n (pc := 5) hx dX8_digitOf_5 rfl ?_
    refine dx_icmp_ge (pc := 6) hx dX8_digitOf_6 (tgt := 20) (by decide) (fun c6 => ?_) (fun c6 => ?_)
    · replace h := (if_pos c6).symm.trans h
      obtain rfl := Option.some.inj h
      exact dx_wk [true, true, true, false] <| hk
    · replace h := (if_neg c6).symm.trans h
      refine dx_iload_n (pc := 9) hx dX8_digitOf_9 rfl ?_
      refine dx_bipush (pc := 10) hx dX8_digitOf_10 kb_10 ?_
      refine dx_idiv (pc := 12) hx dX8_digitOf_12 (by decide) ?_
      refine dx_istore_n (pc := 13) hx dX8_digitOf_13 (dc_le rfl) (ls' := [none, some (.int x1), some (.int (x2 / (nI 10))), some (.int x3)]) rfl ?_
      refine dx_iinc (pc := 14) hx dX8_digitOf_14 rfl (v := x3 + nI 1) (congrArg (fun z => x3 + z) kc_1) (dc_le rfl) (ls' := [none, some (.int x1), some (.int (x2 / (nI 10))), some (.int (x3 + nI 1))]) rfl ?_
      refine dx_goto (pc := 17) hx dX8_digitOf_17 (tgt := 4) (by decide) ?_
      exact (ih (x2 / (nI 10)) (x3 + nI 1) q h hk)
set_option maxHeartbeats 4000000 in
set_option maxRecDepth 100000 in
theorem th_X8_digitOf {σ : dc_HP} {x0 : Int32} {x1 : Int32} {r : Int32} (h : fn_X8_digitOf x0 x1 = some r) : dc_G mX8_digitOf [.int x0, .int x1] σ (dc_qi (fun x τ => x = r ∧ τ = σ)) := by
  intro κ hO
  have hx : dc_Cx κ RX8 cX8_digitOf 4 0 0 := hO.1
  show dc_X κ 0 [some (.int x0), some (.int x1), none, none] [] σ
  unfold fn_X8_digitOf at h
  refine dx_iload_n (pc := 0) hx dX8_digitOf_0 rfl ?_
  refine dx_istore_n (pc := 1) hx dX8_digitOf_1 (dc_le rfl) (ls' := [some (.int x0), some (.int x1), some (.int x0), none]) rfl ?_
  refine dx_iconst (pc := 2) hx dX8_digitOf_2 kc_0 ?_
  refine dx_istore_n (pc := 3) hx dX8_digitOf_3 (dc_le rfl) (ls' := [some (.int x0), some (.int x1), some (.int x0), some (.int (nI 0))]) rfl ?_
  obtain ⟨q4, h4, h⟩ := Option.bind_eq_some_iff.mp h
  refine dx_wk [false, true, true, true] <| (tl_X8_digitOf_L4 hO σ x1 200 x0 (nI 0) q4 h4 ?_)
  refine dx_iload_n (pc := 20) hx dX8_digitOf_20 rfl ?_
  refine dx_bipush (pc := 21) hx dX8_digitOf_21 kb_10 ?_
  refine dx_irem (pc := 23) hx dX8_digitOf_23 (by decide) ?_
  obtain rfl := Option.some.inj h
  exact dx_iret hO (pc := 24) dX8_digitOf_24 rfl ⟨_, rfl, rfl, rfl⟩
set_option maxHeartbeats 4000000 in
set_option maxRecDepth 100000 in
theorem tl_X8_areNeeds_L15 {κ : dc_KX} {Q : Option Value → dc_HP → Prop} (hO : dc_Ok κ mX8_areNeeds Q) (σ : dc_HP) (x0 : Int32) : ∀ (n : Nat) (x1 : Int32) (q : (Int32) ⊕ (Unit)), fn_X8_areNeeds_L15 x0 n x1 = some q → ∀ (hk : ∀ m : Unit, q = .inr m → dc_X κ 37 [some (.int x0), none] [] σ) (hr : ∀ r : Int32, q = .inl r → Q (some (.int r)) σ), dc_X κ 15 [some (.int x0), some (.int x1)] [] σ := by
  have hx : dc_Cx κ RX8 cX8_areNeeds 2 1 23 := hO.1
  intro n
  induction n with
  | zero =>
    intro x1 q h
    cases h
  | succ n ih =>
    intro x1 q h hk hr
    unfold fn_X8_areNeeds_L15 at h
    refine dx_iload_n (pc := 15) hx dX8_areNeeds_15 rfl ?_
    refine dx_iconst (pc := 16) hx dX8_areNeeds_16 kc_4 ?_
    refine dx_icmp_ge (pc := 17) hx dX8_areNeeds_17 (tgt := 37) (by decide) (fun c17 => ?_) (fun c17 => ?_)
    · replace h := (if_pos c17).symm.trans h
      obtain rfl := Option.some.inj h
      exact dx_wk [true, false] <| (hk () rfl)
    · replace h := (if_neg c17).symm.trans h
      refine dx_iload_n (pc := 20) hx dX8_areNeeds_20 rfl ?_
      refine dx_iload_n (pc := 21) hx dX8_areNeeds_21 rfl ?_
      obtain ⟨r22, h22, h⟩ := Option.bind_eq_some_iff.mp h
      refine dx_callSir (pc := 22) (As := [.int x0, .int x1]) (rest := []) hx dX8_areNeeds_22 k_X8_192 rfl (dc_le rfl) (dc_le rfl) (dc_le rfl) (dc_le rfl) rfl (th_X8_digitOf h22) ?_
      refine dx_iconst (pc := 25) hx dX8_areNeeds_25 kc_3 ?_
      refine dx_icmp_le (pc := 26) hx dX8_areNeeds_26 (tgt := 31) (by decide) (fun c26 => ?_) (fun c26 => ?_)
      · replace h := (if_pos c26).symm.trans h
        refine dx_iinc (pc := 31) hx dX8_areNeeds_31 rfl (v := x1 + nI 1) (congrArg (fun z => x1 + z) kc_1) (dc_le rfl) (ls' := [some (.int x0), some (.int (x1 + nI 1))]) rfl ?_
        refine dx_goto (pc := 34) hx dX8_areNeeds_34 (tgt := 15) (by decide) ?_
        exact (ih (x1 + nI 1) q h hk hr)
      · replace h := (if_neg c26).symm.trans h
        refine dx_iconst (pc := 29) hx dX8_areNeeds_29 kc_0 ?_
        obtain rfl := Option.some.inj h
        exact dx_zret hO (pc := 30) dX8_areNeeds_30 rfl rfl (hr (nI 0) rfl)
set_option maxHeartbeats 4000000 in
set_option maxRecDepth 100000 in
theorem th_X8_areNeeds {σ : dc_HP} {x0 : Int32} {r : Int32} (h : fn_X8_areNeeds x0 = some r) : dc_G mX8_areNeeds [.int x0] σ (dc_qi (fun x τ => x = r ∧ τ = σ)) := by
  intro κ hO
  have hx : dc_Cx κ RX8 cX8_areNeeds 2 1 23 := hO.1
  show dc_X κ 0 [some (.int x0), none] [] σ
  unfold fn_X8_areNeeds at h
  refine dx_iload_n (pc := 0) hx dX8_areNeeds_0 rfl ?_
  refine dx_iconst (pc := 1) hx dX8_areNeeds_1 kc_0 ?_
  refine dx_sipush (pc := 2) hx dX8_areNeeds_2 ks_9999 ?_
  obtain ⟨r5, h5, h⟩ := Option.bind_eq_some_iff.mp h
  refine dx_callSir (pc := 5) (As := [.int x0, .int (nI 0), .int (nI 9999)]) (rest := []) hx dX8_areNeeds_5 k_X8_68 rfl (dc_le rfl) (dc_le rfl) (dc_le rfl) (dc_le rfl) rfl (th_X8_within h5) ?_
  refine dx_if_ne (pc := 8) hx dX8_areNeeds_8 (tgt := 13) (by decide) (fun c8 => ?_) (fun c8 => ?_)
  · replace h := (if_neg c8).symm.trans h
    refine dx_iconst (pc := 13) hx dX8_areNeeds_13 kc_0 ?_
    refine dx_istore_n (pc := 14) hx dX8_areNeeds_14 (dc_le rfl) (ls' := [some (.int x0), some (.int (nI 0))]) rfl ?_
    obtain ⟨q9, h15, h⟩ := Option.bind_eq_some_iff.mp h
    refine (tl_X8_areNeeds_L15 hO σ x0 200 (nI 0) q9 h15 (fun q15 e9 => ?_) (fun r9 e9 => ?_))
    rotate_left
    · subst e9
      obtain rfl := Option.some.inj h
      exact ⟨_, rfl, rfl, rfl⟩
    subst e9
    replace h := dc_inr h
    refine dx_iconst (pc := 37) hx dX8_areNeeds_37 kc_1 ?_
    obtain rfl := Option.some.inj h
    exact dx_zret hO (pc := 38) dX8_areNeeds_38 rfl rfl ⟨_, rfl, rfl, rfl⟩
  · replace h := (if_pos c8).symm.trans h
    refine dx_iconst (pc := 11) hx dX8_areNeeds_11 kc_0 ?_
    obtain rfl := Option.some.inj h
    exact dx_zret hO (pc := 12) dX8_areNeeds_12 rfl rfl ⟨_, rfl, rfl, rfl⟩
set_option maxHeartbeats 4000000 in
set_option maxRecDepth 100000 in
theorem th_X0_barsOf_1 {σ : dc_HP} {x1 : Int32} {r : Int32} (h : fn_X0_barsOf σ 1 x1 = some r) : dc_G mX0_barsOf [.ref 1, .int x1] σ (dc_qi (fun x τ => x = r ∧ τ = σ)) := by
  intro κ hO
  have hx : dc_Cx κ RX0 cX0_barsOf 2 1 22 := hO.1
  show dc_X κ 0 [some (.ref 1), some (.int x1)] [] σ
  unfold fn_X0_barsOf at h
  refine dx_iload_n (pc := 0) hx dX0_barsOf_0 rfl ?_
  refine dx_iconst (pc := 1) hx dX0_barsOf_1 kc_0 ?_
  refine dx_iconst (pc := 2) hx dX0_barsOf_2 kc_5 ?_
  obtain ⟨r3, h3, h⟩ := Option.bind_eq_some_iff.mp h
  refine dx_callNir (pc := 3) (As := [.int x1, .int (nI 0), .int (nI 5)]) (rest := []) hx dX0_barsOf_3 k_X0_49 rfl (dc_le rfl) (dc_le rfl) (dc_le rfl) (dc_le rfl) rfl (th_X8_within h3) ?_
  refine dx_if_eq (pc := 6) hx dX0_barsOf_6 (tgt := 18) (by decide) (fun c6 => ?_) (fun c6 => ?_)
  · replace h := (if_pos c6).symm.trans h
    refine dx_iconst (pc := 18) hx dX0_barsOf_18 kc_0 ?_
    obtain rfl := Option.some.inj h
    exact dx_iret hO (pc := 19) dX0_barsOf_19 rfl ⟨_, rfl, rfl, rfl⟩
  · replace h := (if_neg c6).symm.trans h
    refine dx_aload_n (pc := 9) hx dX0_barsOf_9 rfl ?_
    refine dx_getR (r := 5) (pc := 10) hx dX0_barsOf_10 f_X0_21 rfl rfl ?_
    refine dx_iload_n (pc := 13) hx dX0_barsOf_13 rfl ?_
    by_cases g14 : x1 < 0 ∨ 6 ≤ x1.toNatClampNeg
    · cases (if_pos g14).symm.trans h
    replace h := (if_neg g14).symm.trans h
    refine dx_iald (pc := 14) hx dX0_barsOf_14 rfl g14 ?_
    refine dx_goto (pc := 15) hx dX0_barsOf_15 (tgt := 19) (by decide) ?_
    obtain rfl := Option.some.inj h
    exact dx_iret hO (pc := 19) dX0_barsOf_19 rfl ⟨_, rfl, rfl, rfl⟩
set_option maxHeartbeats 4000000 in
set_option maxRecDepth 100000 in
theorem tl_X0_write_1_L12 {κ : dc_KX} {Q : Option Value → dc_HP → Prop} (hO : dc_Ok κ mX0_write Q) (x1 : Int32) (x2 : Int32) (x3 : Int32) (x4 : Int32) : ∀ (n : Nat) (x5 : Int32) (σ : dc_HP) (q : dc_HP), fn_X0_write_L12 1 x1 x2 x3 x4 n x5 σ = some q → ∀ (hk : dc_X κ 43 [some (.ref 1), some (.int x1), some (.int x2), some (.int x3), some (.int x4), none] [] q), dc_X κ 12 [some (.ref 1), some (.int x1), some (.int x2), some (.int x3), some (.int x4), some (.int x5)] [] σ := by
  have hx : dc_Cx κ RX0 cX0_write 6 1 23 := hO.1
  intro n
  induction n with
  | zero =>
    intro x5 σ q h
    cases h
  | succ n ih =>
    intro x5 σ q h hk
    unfold fn_X0_write_L12 at h
    refine dx_iload (pc := 12) hx dX0_write_12 rfl ?_
    refine dx_iconst (pc := 14) hx dX0_write_14 kc_4 ?_
    refine dx_icmp_ge (pc := 15) hx dX0_write_15 (tgt := 43) (by decide) (fun c15 => ?_) (fun c15 => ?_)
    · replace h := (if_pos c15).symm.trans h
      obtain rfl := Option.some.inj h
      exact dx_wk [true, true, true, true, true, false] <| hk
    · replace h := (if_neg c15).symm.trans h
      refine dx_aload_n (pc := 18) hx dX0_write_18 rfl ?_
      refine dx_getR (r := 4) (pc := 19) hx dX0_write_19 f_X0_18 rfl rfl ?_
      refine dx_iload_n (pc := 22) hx dX0_write_22 rfl ?_
      refine dx_iconst (pc := 23) hx dX0_write_23 kc_4 ?_
      refine dx_imul (pc := 24) hx dX0_write_24 ?_
      refine dx_iload (pc := 25) hx dX0_write_25 rfl ?_
      refine dx_iadd (pc := 27) hx dX0_write_27 ?_
      refine dx_iload_n (pc := 28) hx dX0_write_28 rfl ?_
      refine dx_iconst (pc := 29) hx dX0_write_29 kc_3 ?_
      refine dx_iload (pc := 30) hx dX0_write_30 rfl ?_
      refine dx_isub (pc := 32) hx dX0_write_32 ?_
      obtain ⟨r33, h33, h⟩ := Option.bind_eq_some_iff.mp h
      refine dx_callNir (pc := 33) (As := [.int x2, .int ((nI 3) - x5)]) (rest := [.int ((x1 * (nI 4)) + x5), .ref 4]) hx dX0_write_33 k_X0_65 rfl (dc_le rfl) (dc_le rfl) (dc_le rfl) (dc_le rfl) rfl (th_X8_digitOf h33) ?_
      by_cases g36 : ((x1 * (nI 4)) + x5) < 0 ∨ 24 ≤ ((x1 * (nI 4)) + x5).toNatClampNeg
      · cases (if_pos g36).symm.trans h
      replace h := (if_neg g36).symm.trans h
      refine dx_iast (pc := 36) hx dX0_write_36 rfl g36 ?_
      refine dx_nm (fun s36 e36 => ?_)
      replace h := dc_lt e36 h
      refine dx_iinc (pc := 37) hx dX0_write_37 rfl (v := x5 + nI 1) (congrArg (fun z => x5 + z) kc_1) (dc_le rfl) (ls' := [some (.ref 1), some (.int x1), some (.int x2), some (.int x3), some (.int x4), some (.int (x5 + nI 1))]) rfl ?_
      refine dx_goto (pc := 40) hx dX0_write_40 (tgt := 12) (by decide) ?_
      exact (ih (x5 + nI 1) s36 q h hk)
set_option maxHeartbeats 4000000 in
set_option maxRecDepth 100000 in
theorem th_X0_write_1 {σ : dc_HP} {x1 : Int32} {x2 : Int32} {x3 : Int32} {x4 : Int32} {r : dc_HP} (h : fn_X0_write σ 1 x1 x2 x3 x4 = some r) : dc_G mX0_write [.ref 1, .int x1, .int x2, .int x3, .int x4] σ (dc_qv (fun τ => τ = r)) := by
  intro κ hO
  have hx : dc_Cx κ RX0 cX0_write 6 1 23 := hO.1
  show dc_X κ 0 [some (.ref 1), some (.int x1), some (.int x2), some (.int x3), some (.int x4), none] [] σ
  unfold fn_X0_write at h
  refine dx_iload_n (pc := 0) hx dX0_write_0 rfl ?_
  refine dx_iconst (pc := 1) hx dX0_write_1 kc_0 ?_
  refine dx_iconst (pc := 2) hx dX0_write_2 kc_5 ?_
  obtain ⟨r3, h3, h⟩ := Option.bind_eq_some_iff.mp h
  refine dx_callNir (pc := 3) (As := [.int x1, .int (nI 0), .int (nI 5)]) (rest := []) hx dX0_write_3 k_X0_49 rfl (dc_le rfl) (dc_le rfl) (dc_le rfl) (dc_le rfl) rfl (th_X8_within h3) ?_
  refine dx_if_eq (pc := 6) hx dX0_write_6 (tgt := 58) (by decide) (fun c6 => ?_) (fun c6 => ?_)
  · replace h := (if_pos c6).symm.trans h
    obtain rfl := Option.some.inj h
    exact dx_vret hO (pc := 58) dX0_write_58 rfl ⟨rfl, rfl⟩
  · replace h := (if_neg c6).symm.trans h
    refine dx_iconst (pc := 9) hx dX0_write_9 kc_0 ?_
    refine dx_istore (pc := 10) hx dX0_write_10 (dc_le rfl) (ls' := [some (.ref 1), some (.int x1), some (.int x2), some (.int x3), some (.int x4), some (.int (nI 0))]) rfl ?_
    obtain ⟨q12, h12, h⟩ := Option.bind_eq_some_iff.mp h
    refine (tl_X0_write_1_L12 hO x1 x2 x3 x4 200 (nI 0) σ q12 h12 ?_)
    refine dx_aload_n (pc := 43) hx dX0_write_43 rfl ?_
    refine dx_getR (r := 5) (pc := 44) hx dX0_write_44 f_X0_21 rfl rfl ?_
    refine dx_iload_n (pc := 47) hx dX0_write_47 rfl ?_
    refine dx_iload_n (pc := 48) hx dX0_write_48 rfl ?_
    by_cases g49 : x1 < 0 ∨ 6 ≤ x1.toNatClampNeg
    · cases (if_pos g49).symm.trans h
    replace h := (if_neg g49).symm.trans h
    refine dx_iast (pc := 49) hx dX0_write_49 rfl g49 ?_
    refine dx_nm (fun s49 e49 => ?_)
    replace h := dc_lt e49 h
    refine dx_aload_n (pc := 50) hx dX0_write_50 rfl ?_
    refine dx_getR (r := 6) (pc := 51) hx dX0_write_51 f_X0_24 rfl rfl ?_
    refine dx_iload_n (pc := 54) hx dX0_write_54 rfl ?_
    refine dx_iload (pc := 55) hx dX0_write_55 rfl ?_
    by_cases g57 : x1 < 0 ∨ 6 ≤ x1.toNatClampNeg
    · cases (if_pos g57).symm.trans h
    replace h := (if_neg g57).symm.trans h
    refine dx_iast (pc := 57) hx dX0_write_57 rfl g57 ?_
    obtain rfl := Option.some.inj h
    exact dx_vret hO (pc := 58) dX0_write_58 rfl ⟨rfl, rfl⟩
set_option maxHeartbeats 4000000 in
set_option maxRecDepth 100000 in
theorem th_X4_add {σ : dc_HP} {x1 : Int32} {r : Int32 × dc_HP} (h : fn_X4_add σ x1 = some r) : dc_G mX4_add [.ref 12, .int x1] σ (dc_qi (fun x τ => x = r.1 ∧ τ = r.2)) := by
  intro κ hO
  have hx : dc_Cx κ RX4 cX4_add 2 1 22 := hO.1
  show dc_X κ 0 [some (.ref 12), some (.int x1)] [] σ
  unfold fn_X4_add at h
  refine dx_aload_n (pc := 0) hx dX4_add_0 rfl ?_
  refine dx_getI (pc := 1) hx dX4_add_1 f_X4_15 rfl rfl ?_
  refine dx_iconst (pc := 4) hx dX4_add_4 kc_0 ?_
  refine dx_bipush (pc := 5) hx dX4_add_5 kb_59 ?_
  obtain ⟨r7, h7, h⟩ := Option.bind_eq_some_iff.mp h
  refine dx_callNir (pc := 7) (As := [.int (σ.1 12 0), .int (nI 0), .int (nI 59)]) (rest := []) hx dX4_add_7 k_X4_19 rfl (dc_le rfl) (dc_le rfl) (dc_le rfl) (dc_le rfl) rfl (th_X8_within h7) ?_
  refine dx_if_ne (pc := 10) hx dX4_add_10 (tgt := 15) (by decide) (fun c10 => ?_) (fun c10 => ?_)
  · replace h := (if_neg c10).symm.trans h
    refine dx_aload_n (pc := 15) hx dX4_add_15 rfl ?_
    refine dx_getR (r := 13) (pc := 16) hx dX4_add_16 f_X4_11 rfl rfl ?_
    refine dx_aload_n (pc := 19) hx dX4_add_19 rfl ?_
    refine dx_getI (pc := 20) hx dX4_add_20 f_X4_15 rfl rfl ?_
    refine dx_iload_n (pc := 23) hx dX4_add_23 rfl ?_
    by_cases g24 : (σ.1 12 0) < 0 ∨ 60 ≤ (σ.1 12 0).toNatClampNeg
    · cases (if_pos g24).symm.trans h
    replace h := (if_neg g24).symm.trans h
    refine dx_iast (pc := 24) hx dX4_add_24 rfl g24 ?_
    refine dx_nm (fun s24 e24 => ?_)
    replace h := dc_lt e24 h
    refine dx_aload_n (pc := 25) hx dX4_add_25 rfl ?_
    refine dx_dup (pc := 26) hx dX4_add_26 rfl ?_
    refine dx_getI (pc := 27) hx dX4_add_27 f_X4_15 rfl rfl ?_
    refine dx_iconst (pc := 30) hx dX4_add_30 kc_1 ?_
    refine dx_iadd (pc := 31) hx dX4_add_31 ?_
    refine dx_putI (pc := 32) hx dX4_add_32 f_X4_15 rfl rfl tyX4_ok rfl (Or.inl ⟨rfl, rfl⟩) ?_
    refine dx_nm (fun s32 e32 => ?_)
    replace h := dc_lt e32 h
    refine dx_iconst (pc := 35) hx dX4_add_35 kc_1 ?_
    obtain rfl := Option.some.inj h
    exact dx_zret hO (pc := 36) dX4_add_36 rfl rfl ⟨_, rfl, rfl, rfl⟩
  · replace h := (if_pos c10).symm.trans h
    refine dx_iconst (pc := 13) hx dX4_add_13 kc_0 ?_
    obtain rfl := Option.some.inj h
    exact dx_zret hO (pc := 14) dX4_add_14 rfl rfl ⟨_, rfl, rfl, rfl⟩
set_option maxHeartbeats 4000000 in
set_option maxRecDepth 100000 in
theorem th_X4_signAt {σ : dc_HP} {x1 : Int32} {r : Int32} (h : fn_X4_signAt σ x1 = some r) : dc_G mX4_signAt [.ref 12, .int x1] σ (dc_qi (fun x τ => x = r ∧ τ = σ)) := by
  intro κ hO
  have hx : dc_Cx κ RX4 cX4_signAt 2 1 22 := hO.1
  show dc_X κ 0 [some (.ref 12), some (.int x1)] [] σ
  unfold fn_X4_signAt at h
  refine dx_iload_n (pc := 0) hx dX4_signAt_0 rfl ?_
  refine dx_iconst (pc := 1) hx dX4_signAt_1 kc_0 ?_
  refine dx_bipush (pc := 2) hx dX4_signAt_2 kb_59 ?_
  obtain ⟨r4, h4, h⟩ := Option.bind_eq_some_iff.mp h
  refine dx_callNir (pc := 4) (As := [.int x1, .int (nI 0), .int (nI 59)]) (rest := []) hx dX4_signAt_4 k_X4_19 rfl (dc_le rfl) (dc_le rfl) (dc_le rfl) (dc_le rfl) rfl (th_X8_within h4) ?_
  refine dx_if_eq (pc := 7) hx dX4_signAt_7 (tgt := 27) (by decide) (fun c7 => ?_) (fun c7 => ?_)
  · replace h := (if_pos c7).symm.trans h
    refine dx_iconst (pc := 27) hx dX4_signAt_27 kc_0 ?_
    obtain rfl := Option.some.inj h
    exact dx_iret hO (pc := 28) dX4_signAt_28 rfl ⟨_, rfl, rfl, rfl⟩
  · replace h := (if_neg c7).symm.trans h
    refine dx_iload_n (pc := 10) hx dX4_signAt_10 rfl ?_
    refine dx_aload_n (pc := 11) hx dX4_signAt_11 rfl ?_
    refine dx_getI (pc := 12) hx dX4_signAt_12 f_X4_15 rfl rfl ?_
    refine dx_icmp_ge (pc := 15) hx dX4_signAt_15 (tgt := 27) (by decide) (fun c15 => ?_) (fun c15 => ?_)
    · replace h := (if_pos c15).symm.trans h
      refine dx_iconst (pc := 27) hx dX4_signAt_27 kc_0 ?_
      obtain rfl := Option.some.inj h
      exact dx_iret hO (pc := 28) dX4_signAt_28 rfl ⟨_, rfl, rfl, rfl⟩
    · replace h := (if_neg c15).symm.trans h
      refine dx_aload_n (pc := 18) hx dX4_signAt_18 rfl ?_
      refine dx_getR (r := 13) (pc := 19) hx dX4_signAt_19 f_X4_11 rfl rfl ?_
      refine dx_iload_n (pc := 22) hx dX4_signAt_22 rfl ?_
      by_cases g23 : x1 < 0 ∨ 60 ≤ x1.toNatClampNeg
      · cases (if_pos g23).symm.trans h
      replace h := (if_neg g23).symm.trans h
      refine dx_iald (pc := 23) hx dX4_signAt_23 rfl g23 ?_
      refine dx_goto (pc := 24) hx dX4_signAt_24 (tgt := 28) (by decide) ?_
      obtain rfl := Option.some.inj h
      exact dx_iret hO (pc := 28) dX4_signAt_28 rfl ⟨_, rfl, rfl, rfl⟩
set_option maxHeartbeats 4000000 in
set_option maxRecDepth 100000 in
theorem th_X4_isPiece {σ : dc_HP} {x0 : Int32} {r : Int32} (h : fn_X4_isPiece x0 = some r) : dc_G mX4_isPiece [.int x0] σ (dc_qi (fun x τ => x = r ∧ τ = σ)) := by
  intro κ hO
  have hx : dc_Cx κ RX4 cX4_isPiece 1 1 22 := hO.1
  show dc_X κ 0 [some (.int x0)] [] σ
  unfold fn_X4_isPiece at h
  refine dx_iload_n (pc := 0) hx dX4_isPiece_0 rfl ?_
  refine dx_bipush (pc := 1) hx dX4_isPiece_1 kb_48 ?_
  refine dx_bipush (pc := 3) hx dX4_isPiece_3 kb_53 ?_
  obtain ⟨r5, h5, h⟩ := Option.bind_eq_some_iff.mp h
  refine dx_callNir (pc := 5) (As := [.int x0, .int (nI 48), .int (nI 53)]) (rest := []) hx dX4_isPiece_5 k_X4_19 rfl (dc_le rfl) (dc_le rfl) (dc_le rfl) (dc_le rfl) rfl (th_X8_within h5) ?_
  by_cases g8 : r5 = 0 ∨ r5 = 1
  rotate_left
  · cases (if_neg g8).symm.trans h
  replace h := (if_pos g8).symm.trans h
  obtain rfl := Option.some.inj h
  exact dx_zret hO (pc := 8) dX4_isPiece_8 rfl (dc_bn g8) ⟨_, rfl, rfl, rfl⟩
set_option maxHeartbeats 4000000 in
set_option maxRecDepth 100000 in
theorem th_X4_isLetter {σ : dc_HP} {x0 : Int32} {r : Int32} (h : fn_X4_isLetter x0 = some r) : dc_G mX4_isLetter [.int x0] σ (dc_qi (fun x τ => x = r ∧ τ = σ)) := by
  intro κ hO
  have hx : dc_Cx κ RX4 cX4_isLetter 1 1 22 := hO.1
  show dc_X κ 0 [some (.int x0)] [] σ
  unfold fn_X4_isLetter at h
  refine dx_iload_n (pc := 0) hx dX4_isLetter_0 rfl ?_
  refine dx_bipush (pc := 1) hx dX4_isLetter_1 kb_65 ?_
  refine dx_bipush (pc := 3) hx dX4_isLetter_3 kb_72 ?_
  obtain ⟨r5, h5, h⟩ := Option.bind_eq_some_iff.mp h
  refine dx_callNir (pc := 5) (As := [.int x0, .int (nI 65), .int (nI 72)]) (rest := []) hx dX4_isLetter_5 k_X4_19 rfl (dc_le rfl) (dc_le rfl) (dc_le rfl) (dc_le rfl) rfl (th_X8_within h5) ?_
  by_cases g8 : r5 = 0 ∨ r5 = 1
  rotate_left
  · cases (if_neg g8).symm.trans h
  replace h := (if_pos g8).symm.trans h
  obtain rfl := Option.some.inj h
  exact dx_zret hO (pc := 8) dX4_isLetter_8 rfl (dc_bn g8) ⟨_, rfl, rfl, rfl⟩
set_option maxHeartbeats 4000000 in
set_option maxRecDepth 100000 in
theorem th_X4_isMark {σ : dc_HP} {x0 : Int32} {r : Int32} (h : fn_X4_isMark x0 = some r) : dc_G mX4_isMark [.int x0] σ (dc_qi (fun x τ => x = r ∧ τ = σ)) := by
  intro κ hO
  have hx : dc_Cx κ RX4 cX4_isMark 1 0 0 := hO.1
  show dc_X κ 0 [some (.int x0)] [] σ
  unfold fn_X4_isMark at h
  refine dx_iload_n (pc := 0) hx dX4_isMark_0 rfl ?_
  refine dx_bipush (pc := 1) hx dX4_isMark_1 kb_43 ?_
  refine dx_icmp_eq (pc := 3) hx dX4_isMark_3 (tgt := 24) (by decide) (fun c3 => ?_) (fun c3 => ?_)
  · replace h := (if_pos c3).symm.trans h
    refine dx_iconst (pc := 24) hx dX4_isMark_24 kc_1 ?_
    refine dx_goto (pc := 25) hx dX4_isMark_25 (tgt := 29) (by decide) ?_
    obtain rfl := Option.some.inj h
    exact dx_zret hO (pc := 29) dX4_isMark_29 rfl rfl ⟨_, rfl, rfl, rfl⟩
  · replace h := (if_neg c3).symm.trans h
    refine dx_iload_n (pc := 6) hx dX4_isMark_6 rfl ?_
    refine dx_bipush (pc := 7) hx dX4_isMark_7 kb_42 ?_
    refine dx_icmp_eq (pc := 9) hx dX4_isMark_9 (tgt := 24) (by decide) (fun c9 => ?_) (fun c9 => ?_)
    · replace h := (if_pos c9).symm.trans h
      refine dx_iconst (pc := 24) hx dX4_isMark_24 kc_1 ?_
      refine dx_goto (pc := 25) hx dX4_isMark_25 (tgt := 29) (by decide) ?_
      obtain rfl := Option.some.inj h
      exact dx_zret hO (pc := 29) dX4_isMark_29 rfl rfl ⟨_, rfl, rfl, rfl⟩
    · replace h := (if_neg c9).symm.trans h
      refine dx_iload_n (pc := 12) hx dX4_isMark_12 rfl ?_
      refine dx_bipush (pc := 13) hx dX4_isMark_13 kb_61 ?_
      refine dx_icmp_eq (pc := 15) hx dX4_isMark_15 (tgt := 24) (by decide) (fun c15 => ?_) (fun c15 => ?_)
      · replace h := (if_pos c15).symm.trans h
        refine dx_iconst (pc := 24) hx dX4_isMark_24 kc_1 ?_
        refine dx_goto (pc := 25) hx dX4_isMark_25 (tgt := 29) (by decide) ?_
        obtain rfl := Option.some.inj h
        exact dx_zret hO (pc := 29) dX4_isMark_29 rfl rfl ⟨_, rfl, rfl, rfl⟩
      · replace h := (if_neg c15).symm.trans h
        refine dx_iload_n (pc := 18) hx dX4_isMark_18 rfl ?_
        refine dx_bipush (pc := 19) hx dX4_isMark_19 kb_120 ?_
        refine dx_icmp_ne (pc := 21) hx dX4_isMark_21 (tgt := 28) (by decide) (fun c21 => ?_) (fun c21 => ?_)
        · replace h := (if_neg c21).symm.trans h
          refine dx_iconst (pc := 28) hx dX4_isMark_28 kc_0 ?_
          obtain rfl := Option.some.inj h
          exact dx_zret hO (pc := 29) dX4_isMark_29 rfl rfl ⟨_, rfl, rfl, rfl⟩
        · replace h := (if_pos c21).symm.trans h
          refine dx_iconst (pc := 24) hx dX4_isMark_24 kc_1 ?_
          refine dx_goto (pc := 25) hx dX4_isMark_25 (tgt := 29) (by decide) ?_
          obtain rfl := Option.some.inj h
          exact dx_zret hO (pc := 29) dX4_isMark_29 rfl rfl ⟨_, rfl, rfl, rfl⟩
set_option maxHeartbeats 4000000 in
set_option maxRecDepth 100000 in
theorem th_X4_faultIn {σ : dc_HP} {x1 : Int32} {r : Int32} (h : fn_X4_faultIn σ x1 = some r) : dc_G mX4_faultIn [.ref 12, .int x1] σ (dc_qi (fun x τ => x = r ∧ τ = σ)) := by
  intro κ hO
  have hx : dc_Cx κ RX4 cX4_faultIn 5 2 43 := hO.1
  show dc_X κ 0 [some (.ref 12), some (.int x1), none, none, none] [] σ
  unfold fn_X4_faultIn at h
  refine dx_aload_n (pc := 0) hx dX4_faultIn_0 rfl ?_
  refine dx_iload_n (pc := 1) hx dX4_faultIn_1 rfl ?_
  obtain ⟨r2, h2, h⟩ := Option.bind_eq_some_iff.mp h
  refine dx_callVir (pc := 2) (As := [.int x1]) (rest := []) hx dX4_faultIn_2 k_X4_27 rfl rfl rfl rfl (dc_le rfl) (dc_le rfl) (dc_le rfl) (dc_le rfl) rfl (th_X4_signAt h2) ?_
  refine dx_istore_n (pc := 5) hx dX4_faultIn_5 (dc_le rfl) (ls' := [some (.ref 12), some (.int x1), some (.int r2), none, none]) rfl ?_
  refine dx_iload_n (pc := 6) hx dX4_faultIn_6 rfl ?_
  obtain ⟨r7, h7, h⟩ := Option.bind_eq_some_iff.mp h
  refine dx_callSir (pc := 7) (As := [.int r2]) (rest := []) hx dX4_faultIn_7 k_X4_31 rfl (dc_le rfl) (dc_le rfl) (dc_le rfl) (dc_le rfl) rfl (th_X4_isPiece h7) ?_
  refine dx_if_ne (pc := 10) hx dX4_faultIn_10 (tgt := 19) (by decide) (fun c10 => ?_) (fun c10 => ?_)
  · replace h := (if_neg c10).symm.trans h
    refine dx_bipush (pc := 19) hx dX4_faultIn_19 kb_m6 ?_
    obtain rfl := Option.some.inj h
    exact dx_iret hO (pc := 21) dX4_faultIn_21 rfl ⟨_, rfl, rfl, rfl⟩
  · replace h := (if_pos c10).symm.trans h
    refine dx_iload_n (pc := 13) hx dX4_faultIn_13 rfl ?_
    refine dx_bipush (pc := 14) hx dX4_faultIn_14 kb_46 ?_
    refine dx_icmp_ne (pc := 16) hx dX4_faultIn_16 (tgt := 22) (by decide) (fun c16 => ?_) (fun c16 => ?_)
    · replace h := (if_neg c16).symm.trans h
      refine dx_iload_n (pc := 22) hx dX4_faultIn_22 rfl ?_
      obtain ⟨r23, h23, h⟩ := Option.bind_eq_some_iff.mp h
      refine dx_callSir (pc := 23) (As := [.int r2]) (rest := []) hx dX4_faultIn_23 k_X4_23 rfl (dc_le rfl) (dc_le rfl) (dc_le rfl) (dc_le rfl) rfl (th_X4_isLetter h23) ?_
      refine dx_if_ne (pc := 26) hx dX4_faultIn_26 (tgt := 31) (by decide) (fun c26 => ?_) (fun c26 => ?_)
      · replace h := (if_neg c26).symm.trans h
        refine dx_aload_n (pc := 31) hx dX4_faultIn_31 rfl ?_
        refine dx_iload_n (pc := 32) hx dX4_faultIn_32 rfl ?_
        refine dx_iconst (pc := 33) hx dX4_faultIn_33 kc_1 ?_
        refine dx_iadd (pc := 34) hx dX4_faultIn_34 ?_
        obtain ⟨r35, h35, h⟩ := Option.bind_eq_some_iff.mp h
        refine dx_callVir (pc := 35) (As := [.int (x1 + (nI 1))]) (rest := []) hx dX4_faultIn_35 k_X4_27 rfl rfl rfl rfl (dc_le rfl) (dc_le rfl) (dc_le rfl) (dc_le rfl) rfl (th_X4_signAt h35) ?_
        refine dx_istore_n (pc := 38) hx dX4_faultIn_38 (dc_le rfl) (ls' := [some (.ref 12), some (.int x1), some (.int r2), some (.int r35), none]) rfl ?_
        refine dx_iload_n (pc := 39) hx dX4_faultIn_39 rfl ?_
        obtain ⟨r40, h40, h⟩ := Option.bind_eq_some_iff.mp h
        refine dx_callSir (pc := 40) (As := [.int r35]) (rest := []) hx dX4_faultIn_40 k_X4_34 rfl (dc_le rfl) (dc_le rfl) (dc_le rfl) (dc_le rfl) rfl (th_X4_isMark h40) ?_
        refine dx_if_ne (pc := 43) hx dX4_faultIn_43 (tgt := 50) (by decide) (fun c43 => ?_) (fun c43 => ?_)
        · replace h := (if_neg c43).symm.trans h
          refine dx_aload_n (pc := 50) hx dX4_faultIn_50 rfl ?_
          refine dx_iload_n (pc := 51) hx dX4_faultIn_51 rfl ?_
          refine dx_iconst (pc := 52) hx dX4_faultIn_52 kc_2 ?_
          refine dx_iadd (pc := 53) hx dX4_faultIn_53 ?_
          obtain ⟨r54, h54, h⟩ := Option.bind_eq_some_iff.mp h
          refine dx_callVir (pc := 54) (As := [.int (x1 + (nI 2))]) (rest := []) hx dX4_faultIn_54 k_X4_27 rfl rfl rfl rfl (dc_le rfl) (dc_le rfl) (dc_le rfl) (dc_le rfl) rfl (th_X4_signAt h54) ?_
          refine dx_istore (pc := 57) hx dX4_faultIn_57 (dc_le rfl) (ls' := [some (.ref 12), some (.int x1), some (.int r2), some (.int r35), some (.int r54)]) rfl ?_
          refine dx_iload_n (pc := 59) hx dX4_faultIn_59 rfl ?_
          refine dx_bipush (pc := 60) hx dX4_faultIn_60 kb_43 ?_
          refine dx_icmp_ne (pc := 62) hx dX4_faultIn_62 (tgt := 77) (by decide) (fun c62 => ?_) (fun c62 => ?_)
          · replace h := (if_neg c62).symm.trans h
            refine dx_iload_n (pc := 77) hx dX4_faultIn_77 rfl ?_
            refine dx_bipush (pc := 78) hx dX4_faultIn_78 kb_61 ?_
            refine dx_icmp_ne (pc := 80) hx dX4_faultIn_80 (tgt := 95) (by decide) (fun c80 => ?_) (fun c80 => ?_)
            · replace h := (if_neg c80).symm.trans h
              refine dx_bipush (pc := 95) hx dX4_faultIn_95 kb_m6 ?_
              obtain rfl := Option.some.inj h
              exact dx_iret hO (pc := 97) dX4_faultIn_97 rfl ⟨_, rfl, rfl, rfl⟩
            · replace h := (if_pos c80).symm.trans h
              refine dx_iload (pc := 83) hx dX4_faultIn_83 rfl ?_
              obtain ⟨r85, h85, h⟩ := Option.bind_eq_some_iff.mp h
              refine dx_callSir (pc := 85) (As := [.int r54]) (rest := []) hx dX4_faultIn_85 k_X4_23 rfl (dc_le rfl) (dc_le rfl) (dc_le rfl) (dc_le rfl) rfl (th_X4_isLetter h85) ?_
              refine dx_if_ne (pc := 88) hx dX4_faultIn_88 (tgt := 95) (by decide) (fun c88 => ?_) (fun c88 => ?_)
              · replace h := (if_neg c88).symm.trans h
                refine dx_bipush (pc := 95) hx dX4_faultIn_95 kb_m6 ?_
                obtain rfl := Option.some.inj h
                exact dx_iret hO (pc := 97) dX4_faultIn_97 rfl ⟨_, rfl, rfl, rfl⟩
              · replace h := (if_pos c88).symm.trans h
                refine dx_iload_n (pc := 91) hx dX4_faultIn_91 rfl ?_
                refine dx_iconst (pc := 92) hx dX4_faultIn_92 kc_2 ?_
                refine dx_iadd (pc := 93) hx dX4_faultIn_93 ?_
                obtain rfl := Option.some.inj h
                exact dx_iret hO (pc := 94) dX4_faultIn_94 rfl ⟨_, rfl, rfl, rfl⟩
          · replace h := (if_pos c62).symm.trans h
            refine dx_iload (pc := 65) hx dX4_faultIn_65 rfl ?_
            refine dx_bipush (pc := 67) hx dX4_faultIn_67 kb_49 ?_
            refine dx_bipush (pc := 69) hx dX4_faultIn_69 kb_57 ?_
            obtain ⟨r71, h71, h⟩ := Option.bind_eq_some_iff.mp h
            refine dx_callNir (pc := 71) (As := [.int r54, .int (nI 49), .int (nI 57)]) (rest := []) hx dX4_faultIn_71 k_X4_19 rfl (dc_le rfl) (dc_le rfl) (dc_le rfl) (dc_le rfl) rfl (th_X8_within h71) ?_
            refine dx_if_eq (pc := 74) hx dX4_faultIn_74 (tgt := 91) (by decide) (fun c74 => ?_) (fun c74 => ?_)
            · replace h := (if_pos c74).symm.trans h
              refine dx_iload_n (pc := 91) hx dX4_faultIn_91 rfl ?_
              refine dx_iconst (pc := 92) hx dX4_faultIn_92 kc_2 ?_
              refine dx_iadd (pc := 93) hx dX4_faultIn_93 ?_
              obtain rfl := Option.some.inj h
              exact dx_iret hO (pc := 94) dX4_faultIn_94 rfl ⟨_, rfl, rfl, rfl⟩
            · replace h := (if_neg c74).symm.trans h
              refine dx_iload_n (pc := 77) hx dX4_faultIn_77 rfl ?_
              refine dx_bipush (pc := 78) hx dX4_faultIn_78 kb_61 ?_
              refine dx_icmp_ne (pc := 80) hx dX4_faultIn_80 (tgt := 95) (by decide) (fun c80 => ?_) (fun c80 => ?_)
              · replace h := (if_neg c80).symm.trans h
                refine dx_bipush (pc := 95) hx dX4_faultIn_95 kb_m6 ?_
                obtain rfl := Option.some.inj h
                exact dx_iret hO (pc := 97) dX4_faultIn_97 rfl ⟨_, rfl, rfl, rfl⟩
              · replace h := (if_pos c80).symm.trans h
                refine dx_iload (pc := 83) hx dX4_faultIn_83 rfl ?_
                obtain ⟨r85, h85, h⟩ := Option.bind_eq_some_iff.mp h
                refine dx_callSir (pc := 85) (As := [.int r54]) (rest := []) hx dX4_faultIn_85 k_X4_23 rfl (dc_le rfl) (dc_le rfl) (dc_le rfl) (dc_le rfl) rfl (th_X4_isLetter h85) ?_
                refine dx_if_ne (pc := 88) hx dX4_faultIn_88 (tgt := 95) (by decide) (fun c88 => ?_) (fun c88 => ?_)
                · replace h := (if_neg c88).symm.trans h
                  refine dx_bipush (pc := 95) hx dX4_faultIn_95 kb_m6 ?_
                  obtain rfl := Option.some.inj h
                  exact dx_iret hO (pc := 97) dX4_faultIn_97 rfl ⟨_, rfl, rfl, rfl⟩
                · replace h := (if_pos c88).symm.trans h
                  refine dx_iload_n (pc := 91) hx dX4_faultIn_91 rfl ?_
                  refine dx_iconst (pc := 92) hx dX4_faultIn_92 kc_2 ?_
                  refine dx_iadd (pc := 93) hx dX4_faultIn_93 ?_
                  obtain rfl := Option.some.inj h
                  exact dx_iret hO (pc := 94) dX4_faultIn_94 rfl ⟨_, rfl, rfl, rfl⟩
        · replace h := (if_pos c43).symm.trans h
          refine dx_iload_n (pc := 46) hx dX4_faultIn_46 rfl ?_
          refine dx_iconst (pc := 47) hx dX4_faultIn_47 kc_1 ?_
          refine dx_iadd (pc := 48) hx dX4_faultIn_48 ?_
          obtain rfl := Option.some.inj h
          exact dx_iret hO (pc := 49) dX4_faultIn_49 rfl ⟨_, rfl, rfl, rfl⟩
      · replace h := (if_pos c26).symm.trans h
        refine dx_iload_n (pc := 29) hx dX4_faultIn_29 rfl ?_
        obtain rfl := Option.some.inj h
        exact dx_iret hO (pc := 30) dX4_faultIn_30 rfl ⟨_, rfl, rfl, rfl⟩
    · replace h := (if_pos c16).symm.trans h
      refine dx_bipush (pc := 19) hx dX4_faultIn_19 kb_m6 ?_
      obtain rfl := Option.some.inj h
      exact dx_iret hO (pc := 21) dX4_faultIn_21 rfl ⟨_, rfl, rfl, rfl⟩
set_option maxHeartbeats 4000000 in
set_option maxRecDepth 100000 in
theorem th_X4_lengthOf {σ : dc_HP} {x0 : Int32} {x1 : Int32} {r : Int32} (h : fn_X4_lengthOf x0 x1 = some r) : dc_G mX4_lengthOf [.int x0, .int x1] σ (dc_qi (fun x τ => x = r ∧ τ = σ)) := by
  intro κ hO
  have hx : dc_Cx κ RX4 cX4_lengthOf 2 2 42 := hO.1
  show dc_X κ 0 [some (.int x0), some (.int x1)] [] σ
  unfold fn_X4_lengthOf at h
  refine dx_iload_n (pc := 0) hx dX4_lengthOf_0 rfl ?_
  obtain ⟨r1, h1, h⟩ := Option.bind_eq_some_iff.mp h
  refine dx_callSir (pc := 1) (As := [.int x0]) (rest := []) hx dX4_lengthOf_1 k_X4_23 rfl (dc_le rfl) (dc_le rfl) (dc_le rfl) (dc_le rfl) rfl (th_X4_isLetter h1) ?_
  refine dx_if_ne (pc := 4) hx dX4_lengthOf_4 (tgt := 9) (by decide) (fun c4 => ?_) (fun c4 => ?_)
  · replace h := (if_neg c4).symm.trans h
    refine dx_iload_n (pc := 9) hx dX4_lengthOf_9 rfl ?_
    refine dx_bipush (pc := 10) hx dX4_lengthOf_10 kb_43 ?_
    refine dx_icmp_eq (pc := 12) hx dX4_lengthOf_12 (tgt := 21) (by decide) (fun c12 => ?_) (fun c12 => ?_)
    · replace h := (if_pos c12).symm.trans h
      refine dx_iconst (pc := 21) hx dX4_lengthOf_21 kc_3 ?_
      refine dx_goto (pc := 22) hx dX4_lengthOf_22 (tgt := 26) (by decide) ?_
      obtain rfl := Option.some.inj h
      exact dx_iret hO (pc := 26) dX4_lengthOf_26 rfl ⟨_, rfl, rfl, rfl⟩
    · replace h := (if_neg c12).symm.trans h
      refine dx_iload_n (pc := 15) hx dX4_lengthOf_15 rfl ?_
      refine dx_bipush (pc := 16) hx dX4_lengthOf_16 kb_61 ?_
      refine dx_icmp_ne (pc := 18) hx dX4_lengthOf_18 (tgt := 25) (by decide) (fun c18 => ?_) (fun c18 => ?_)
      · replace h := (if_neg c18).symm.trans h
        refine dx_iconst (pc := 25) hx dX4_lengthOf_25 kc_2 ?_
        obtain rfl := Option.some.inj h
        exact dx_iret hO (pc := 26) dX4_lengthOf_26 rfl ⟨_, rfl, rfl, rfl⟩
      · replace h := (if_pos c18).symm.trans h
        refine dx_iconst (pc := 21) hx dX4_lengthOf_21 kc_3 ?_
        refine dx_goto (pc := 22) hx dX4_lengthOf_22 (tgt := 26) (by decide) ?_
        obtain rfl := Option.some.inj h
        exact dx_iret hO (pc := 26) dX4_lengthOf_26 rfl ⟨_, rfl, rfl, rfl⟩
  · replace h := (if_pos c4).symm.trans h
    refine dx_iconst (pc := 7) hx dX4_lengthOf_7 kc_1 ?_
    obtain rfl := Option.some.inj h
    exact dx_iret hO (pc := 8) dX4_lengthOf_8 rfl ⟨_, rfl, rfl, rfl⟩
set_option maxHeartbeats 4000000 in
set_option maxRecDepth 100000 in
theorem tl_X4_faultPlace_L4 {κ : dc_KX} {Q : Option Value → dc_HP → Prop} (hO : dc_Ok κ mX4_faultPlace Q) (σ : dc_HP) : ∀ (n : Nat) (x1 : Int32) (x2 : Int32) (q : (Int32) ⊕ (Unit)), fn_X4_faultPlace_L4 σ n x1 x2 = some q → ∀ (hk : ∀ m : Unit, q = .inr m → dc_X κ 56 [some (.ref 12), none, none, none] [] σ) (hr : ∀ r : Int32, q = .inl r → Q (some (.int r)) σ), dc_X κ 4 [some (.ref 12), some (.int x1), some (.int x2), none] [] σ := by
  have hx : dc_Cx κ RX4 cX4_faultPlace 4 3 67 := hO.1
  intro n
  induction n with
  | zero =>
    intro x1 x2 q h
    cases h
  | succ n ih =>
    intro x1 x2 q h hk hr
    unfold fn_X4_faultPlace_L4 at h
    refine dx_iload_n (pc := 4) hx dX4_faultPlace_4 rfl ?_
    refine dx_bipush (pc := 5) hx dX4_faultPlace_5 kb_60 ?_
    refine dx_icmp_ge (pc := 7) hx dX4_faultPlace_7 (tgt := 56) (by decide) (fun c7 => ?_) (fun c7 => ?_)
    · replace h := (if_pos c7).symm.trans h
      obtain rfl := Option.some.inj h
      exact dx_wk [true, false, false, true] <| (hk () rfl)
    · replace h := (if_neg c7).symm.trans h
      refine dx_iload_n (pc := 10) hx dX4_faultPlace_10 rfl ?_
      refine dx_aload_n (pc := 11) hx dX4_faultPlace_11 rfl ?_
      refine dx_getI (pc := 12) hx dX4_faultPlace_12 f_X4_15 rfl rfl ?_
      refine dx_icmp_ge (pc := 15) hx dX4_faultPlace_15 (tgt := 56) (by decide) (fun c15 => ?_) (fun c15 => ?_)
      · replace h := (if_pos c15).symm.trans h
        obtain rfl := Option.some.inj h
        exact dx_wk [true, false, false, true] <| (hk () rfl)
      · replace h := (if_neg c15).symm.trans h
        refine dx_aload_n (pc := 18) hx dX4_faultPlace_18 rfl ?_
        refine dx_iload_n (pc := 19) hx dX4_faultPlace_19 rfl ?_
        obtain ⟨r20, h20, h⟩ := Option.bind_eq_some_iff.mp h
        refine dx_callVir (pc := 20) (As := [.int x1]) (rest := []) hx dX4_faultPlace_20 k_X4_37 rfl rfl rfl rfl (dc_le rfl) (dc_le rfl) (dc_le rfl) (dc_le rfl) rfl (th_X4_faultIn h20) ?_
        refine dx_istore_n (pc := 23) hx dX4_faultPlace_23 (dc_le rfl) (ls' := [some (.ref 12), some (.int x1), some (.int x2), some (.int r20)]) rfl ?_
        refine dx_iload_n (pc := 24) hx dX4_faultPlace_24 rfl ?_
        refine dx_bipush (pc := 25) hx dX4_faultPlace_25 kb_m6 ?_
        refine dx_icmp_eq (pc := 27) hx dX4_faultPlace_27 (tgt := 32) (by decide) (fun c27 => ?_) (fun c27 => ?_)
        · replace h := (if_pos c27).symm.trans h
          refine dx_iload_n (pc := 32) hx dX4_faultPlace_32 rfl ?_
          refine dx_aload_n (pc := 33) hx dX4_faultPlace_33 rfl ?_
          refine dx_iload_n (pc := 34) hx dX4_faultPlace_34 rfl ?_
          obtain ⟨r35, h35, h⟩ := Option.bind_eq_some_iff.mp h
          refine dx_callVir (pc := 35) (As := [.int x1]) (rest := [.int x1]) hx dX4_faultPlace_35 k_X4_27 rfl rfl rfl rfl (dc_le rfl) (dc_le rfl) (dc_le rfl) (dc_le rfl) rfl (th_X4_signAt h35) ?_
          refine dx_aload_n (pc := 38) hx dX4_faultPlace_38 rfl ?_
          refine dx_iload_n (pc := 39) hx dX4_faultPlace_39 rfl ?_
          refine dx_iconst (pc := 40) hx dX4_faultPlace_40 kc_1 ?_
          refine dx_iadd (pc := 41) hx dX4_faultPlace_41 ?_
          obtain ⟨r42, h42, h⟩ := Option.bind_eq_some_iff.mp h
          refine dx_callVir (pc := 42) (As := [.int (x1 + (nI 1))]) (rest := [.int r35, .int x1]) hx dX4_faultPlace_42 k_X4_27 rfl rfl rfl rfl (dc_le rfl) (dc_le rfl) (dc_le rfl) (dc_le rfl) rfl (th_X4_signAt h42) ?_
          obtain ⟨r45, h45, h⟩ := Option.bind_eq_some_iff.mp h
          refine dx_callSir (pc := 45) (As := [.int r35, .int r42]) (rest := [.int x1]) hx dX4_faultPlace_45 k_X4_40 rfl (dc_le rfl) (dc_le rfl) (dc_le rfl) (dc_le rfl) rfl (th_X4_lengthOf h45) ?_
          refine dx_iadd (pc := 48) hx dX4_faultPlace_48 ?_
          refine dx_istore_n (pc := 49) hx dX4_faultPlace_49 (dc_le rfl) (ls' := [some (.ref 12), some (.int (x1 + r45)), some (.int x2), some (.int r20)]) rfl ?_
          refine dx_iinc (pc := 50) hx dX4_faultPlace_50 rfl (v := x2 + nI 1) (congrArg (fun z => x2 + z) kc_1) (dc_le rfl) (ls' := [some (.ref 12), some (.int (x1 + r45)), some (.int (x2 + nI 1)), some (.int r20)]) rfl ?_
          refine dx_goto (pc := 53) hx dX4_faultPlace_53 (tgt := 4) (by decide) ?_
          exact dx_wk [true, true, true, false] <| (ih (x1 + r45) (x2 + nI 1) q h hk hr)
        · replace h := (if_neg c27).symm.trans h
          refine dx_iload_n (pc := 30) hx dX4_faultPlace_30 rfl ?_
          obtain rfl := Option.some.inj h
          exact dx_iret hO (pc := 31) dX4_faultPlace_31 rfl (hr r20 rfl)
set_option maxHeartbeats 4000000 in
set_option maxRecDepth 100000 in
theorem th_X4_faultPlace {σ : dc_HP} {r : Int32} (h : fn_X4_faultPlace σ = some r) : dc_G mX4_faultPlace [.ref 12] σ (dc_qi (fun x τ => x = r ∧ τ = σ)) := by
  intro κ hO
  have hx : dc_Cx κ RX4 cX4_faultPlace 4 3 67 := hO.1
  show dc_X κ 0 [some (.ref 12), none, none, none] [] σ
  unfold fn_X4_faultPlace at h
  refine dx_iconst (pc := 0) hx dX4_faultPlace_0 kc_0 ?_
  refine dx_istore_n (pc := 1) hx dX4_faultPlace_1 (dc_le rfl) (ls' := [some (.ref 12), some (.int (nI 0)), none, none]) rfl ?_
  refine dx_iconst (pc := 2) hx dX4_faultPlace_2 kc_0 ?_
  refine dx_istore_n (pc := 3) hx dX4_faultPlace_3 (dc_le rfl) (ls' := [some (.ref 12), some (.int (nI 0)), some (.int (nI 0)), none]) rfl ?_
  obtain ⟨q9, h4, h⟩ := Option.bind_eq_some_iff.mp h
  refine (tl_X4_faultPlace_L4 hO σ  200 (nI 0) (nI 0) q9 h4 (fun q4 e9 => ?_) (fun r9 e9 => ?_))
  rotate_left
  · subst e9
    obtain rfl := Option.some.inj h
    exact ⟨_, rfl, rfl, rfl⟩
  subst e9
  replace h := dc_inr h
  refine dx_bipush (pc := 56) hx dX4_faultPlace_56 kb_m6 ?_
  obtain rfl := Option.some.inj h
  exact dx_iret hO (pc := 58) dX4_faultPlace_58 rfl ⟨_, rfl, rfl, rfl⟩
set_option maxHeartbeats 4000000 in
set_option maxRecDepth 100000 in
theorem th_X0_copyFrom_1_15 {σ : dc_HP} {r : dc_HP} (h : fn_X0_copyFrom σ 15 1 = some r) : dc_G mX0_copyFrom [.ref 15, .ref 1] σ (dc_qv (fun τ => τ = r)) := by
  intro κ hO
  have hx : dc_Cx κ RX0 cX0_copyFrom 2 1 48 := hO.1
  show dc_X κ 0 [some (.ref 15), some (.ref 1)] [] σ
  unfold fn_X0_copyFrom at h
  refine dx_aload_n (pc := 0) hx dX0_copyFrom_0 rfl ?_
  refine dx_aload_n (pc := 1) hx dX0_copyFrom_1 rfl ?_
  refine dx_getI (pc := 2) hx dX0_copyFrom_2 f_X0_27 rfl rfl ?_
  refine dx_putI (pc := 5) hx dX0_copyFrom_5 f_X0_27 rfl rfl tyX0_ok rfl (Or.inl ⟨rfl, rfl⟩) ?_
  refine dx_nm (fun s5 e5 => ?_)
  replace h := dc_lt e5 h
  refine dx_aload_n (pc := 8) hx dX0_copyFrom_8 rfl ?_
  refine dx_aload_n (pc := 9) hx dX0_copyFrom_9 rfl ?_
  refine dx_getI (pc := 10) hx dX0_copyFrom_10 f_X0_31 rfl rfl ?_
  refine dx_putI (pc := 13) hx dX0_copyFrom_13 f_X0_31 rfl rfl tyX0_ok rfl (Or.inl ⟨rfl, rfl⟩) ?_
  refine dx_nm (fun s13 e13 => ?_)
  replace h := dc_lt e13 h
  refine dx_aload_n (pc := 16) hx dX0_copyFrom_16 rfl ?_
  refine dx_aload_n (pc := 17) hx dX0_copyFrom_17 rfl ?_
  refine dx_getI (pc := 18) hx dX0_copyFrom_18 f_X0_34 rfl rfl ?_
  refine dx_putI (pc := 21) hx dX0_copyFrom_21 f_X0_34 rfl rfl tyX0_ok rfl (Or.inl ⟨rfl, rfl⟩) ?_
  refine dx_nm (fun s21 e21 => ?_)
  replace h := dc_lt e21 h
  refine dx_aload_n (pc := 24) hx dX0_copyFrom_24 rfl ?_
  refine dx_aload_n (pc := 25) hx dX0_copyFrom_25 rfl ?_
  refine dx_getI (pc := 26) hx dX0_copyFrom_26 f_X0_37 rfl rfl ?_
  refine dx_putI (pc := 29) hx dX0_copyFrom_29 f_X0_37 rfl rfl tyX0_ok rfl (Or.inl ⟨rfl, rfl⟩) ?_
  refine dx_nm (fun s29 e29 => ?_)
  replace h := dc_lt e29 h
  refine dx_aload_n (pc := 32) hx dX0_copyFrom_32 rfl ?_
  refine dx_iconst (pc := 33) hx dX0_copyFrom_33 kc_0 ?_
  refine dx_putI (pc := 34) hx dX0_copyFrom_34 f_X0_40 rfl rfl tyX0_ok rfl (Or.inl ⟨rfl, rfl⟩) ?_
  refine dx_nm (fun s34 e34 => ?_)
  replace h := dc_lt e34 h
  refine dx_aload_n (pc := 37) hx dX0_copyFrom_37 rfl ?_
  refine dx_getR (r := 2) (pc := 38) hx dX0_copyFrom_38 f_X0_9 rfl rfl ?_
  refine dx_iconst (pc := 41) hx dX0_copyFrom_41 kc_0 ?_
  refine dx_aload_n (pc := 42) hx dX0_copyFrom_42 rfl ?_
  refine dx_getR (r := 16) (pc := 43) hx dX0_copyFrom_43 f_X0_9 rfl rfl ?_
  refine dx_iconst (pc := 46) hx dX0_copyFrom_46 kc_0 ?_
  refine dx_bipush (pc := 47) hx dX0_copyFrom_47 kb_8 ?_
  refine dx_copy (pc := 49) hx dX0_copyFrom_49 k_X0_43 rfl rfl (v := nI 8) (n := 8) (by decide) (by decide) (dc_le rfl) (dc_le rfl) (dc_le rfl) (dc_le rfl) ?_
  refine dx_nm (fun s49 e49 => ?_)
  replace h := dc_lt e49 h
  refine dx_aload_n (pc := 52) hx dX0_copyFrom_52 rfl ?_
  refine dx_getR (r := 3) (pc := 53) hx dX0_copyFrom_53 f_X0_15 rfl rfl ?_
  refine dx_iconst (pc := 56) hx dX0_copyFrom_56 kc_0 ?_
  refine dx_aload_n (pc := 57) hx dX0_copyFrom_57 rfl ?_
  refine dx_getR (r := 17) (pc := 58) hx dX0_copyFrom_58 f_X0_15 rfl rfl ?_
  refine dx_iconst (pc := 61) hx dX0_copyFrom_61 kc_0 ?_
  refine dx_bipush (pc := 62) hx dX0_copyFrom_62 kb_8 ?_
  refine dx_copy (pc := 64) hx dX0_copyFrom_64 k_X0_43 rfl rfl (v := nI 8) (n := 8) (by decide) (by decide) (dc_le rfl) (dc_le rfl) (dc_le rfl) (dc_le rfl) ?_
  refine dx_nm (fun s64 e64 => ?_)
  replace h := dc_lt e64 h
  refine dx_aload_n (pc := 67) hx dX0_copyFrom_67 rfl ?_
  refine dx_getR (r := 4) (pc := 68) hx dX0_copyFrom_68 f_X0_18 rfl rfl ?_
  refine dx_iconst (pc := 71) hx dX0_copyFrom_71 kc_0 ?_
  refine dx_aload_n (pc := 72) hx dX0_copyFrom_72 rfl ?_
  refine dx_getR (r := 18) (pc := 73) hx dX0_copyFrom_73 f_X0_18 rfl rfl ?_
  refine dx_iconst (pc := 76) hx dX0_copyFrom_76 kc_0 ?_
  refine dx_bipush (pc := 77) hx dX0_copyFrom_77 kb_24 ?_
  refine dx_copy (pc := 79) hx dX0_copyFrom_79 k_X0_43 rfl rfl (v := nI 24) (n := 24) (by decide) (by decide) (dc_le rfl) (dc_le rfl) (dc_le rfl) (dc_le rfl) ?_
  refine dx_nm (fun s79 e79 => ?_)
  replace h := dc_lt e79 h
  refine dx_aload_n (pc := 82) hx dX0_copyFrom_82 rfl ?_
  refine dx_getR (r := 5) (pc := 83) hx dX0_copyFrom_83 f_X0_21 rfl rfl ?_
  refine dx_iconst (pc := 86) hx dX0_copyFrom_86 kc_0 ?_
  refine dx_aload_n (pc := 87) hx dX0_copyFrom_87 rfl ?_
  refine dx_getR (r := 19) (pc := 88) hx dX0_copyFrom_88 f_X0_21 rfl rfl ?_
  refine dx_iconst (pc := 91) hx dX0_copyFrom_91 kc_0 ?_
  refine dx_bipush (pc := 92) hx dX0_copyFrom_92 kb_6 ?_
  refine dx_copy (pc := 94) hx dX0_copyFrom_94 k_X0_43 rfl rfl (v := nI 6) (n := 6) (by decide) (by decide) (dc_le rfl) (dc_le rfl) (dc_le rfl) (dc_le rfl) ?_
  refine dx_nm (fun s94 e94 => ?_)
  replace h := dc_lt e94 h
  refine dx_aload_n (pc := 97) hx dX0_copyFrom_97 rfl ?_
  refine dx_getR (r := 6) (pc := 98) hx dX0_copyFrom_98 f_X0_24 rfl rfl ?_
  refine dx_iconst (pc := 101) hx dX0_copyFrom_101 kc_0 ?_
  refine dx_aload_n (pc := 102) hx dX0_copyFrom_102 rfl ?_
  refine dx_getR (r := 20) (pc := 103) hx dX0_copyFrom_103 f_X0_24 rfl rfl ?_
  refine dx_iconst (pc := 106) hx dX0_copyFrom_106 kc_0 ?_
  refine dx_bipush (pc := 107) hx dX0_copyFrom_107 kb_6 ?_
  refine dx_copy (pc := 109) hx dX0_copyFrom_109 k_X0_43 rfl rfl (v := nI 6) (n := 6) (by decide) (by decide) (dc_le rfl) (dc_le rfl) (dc_le rfl) (dc_le rfl) ?_
  obtain rfl := Option.some.inj h
  exact dx_vret hO (pc := 112) dX0_copyFrom_112 rfl ⟨rfl, rfl⟩
set_option maxHeartbeats 4000000 in
set_option maxRecDepth 100000 in
theorem th_X7_start_1 {σ : dc_HP} {r : dc_HP} (h : fn_X7_start σ 1 = some r) : dc_G mX7_start [.ref 14, .ref 1] σ (dc_qv (fun τ => τ = r)) := by
  intro κ hO
  have hx : dc_Cx κ RX7 cX7_start 2 2 69 := hO.1
  show dc_X κ 0 [some (.ref 14), some (.ref 1)] [] σ
  unfold fn_X7_start at h
  refine dx_aload_n (pc := 0) hx dX7_start_0 rfl ?_
  refine dx_getR (r := 15) (pc := 1) hx dX7_start_1 f_X7_12 rfl rfl ?_
  refine dx_aload_n (pc := 4) hx dX7_start_4 rfl ?_
  obtain ⟨r5, h5, h⟩ := Option.bind_eq_some_iff.mp h
  refine dx_callVvw (pc := 5) (As := [.ref 1]) (rest := []) hx dX7_start_5 k_X7_18 rfl rfl rfl rfl (dc_le rfl) (dc_le rfl) (dc_le rfl) (dc_le rfl) rfl (th_X0_copyFrom_1_15 h5) ?_
  refine dx_aload_n (pc := 8) hx dX7_start_8 rfl ?_
  refine dx_iconst (pc := 9) hx dX7_start_9 kc_0 ?_
  refine dx_putI (pc := 10) hx dX7_start_10 f_X7_22 rfl rfl tyX7_ok rfl (Or.inl ⟨rfl, rfl⟩) ?_
  refine dx_nm (fun s10 e10 => ?_)
  replace h := dc_lt e10 h
  refine dx_aload_n (pc := 13) hx dX7_start_13 rfl ?_
  refine dx_bipush (pc := 14) hx dX7_start_14 kb_m6 ?_
  refine dx_putI (pc := 16) hx dX7_start_16 f_X7_26 rfl rfl tyX7_ok rfl (Or.inl ⟨rfl, rfl⟩) ?_
  refine dx_nm (fun s16 e16 => ?_)
  replace h := dc_lt e16 h
  refine dx_aload_n (pc := 19) hx dX7_start_19 rfl ?_
  refine dx_bipush (pc := 20) hx dX7_start_20 kb_m6 ?_
  refine dx_putI (pc := 22) hx dX7_start_22 f_X7_29 rfl rfl tyX7_ok rfl (Or.inl ⟨rfl, rfl⟩) ?_
  refine dx_nm (fun s22 e22 => ?_)
  replace h := dc_lt e22 h
  refine dx_aload_n (pc := 25) hx dX7_start_25 rfl ?_
  refine dx_iconst (pc := 26) hx dX7_start_26 kc_0 ?_
  refine dx_putI (pc := 27) hx dX7_start_27 f_X7_32 rfl rfl tyX7_ok rfl (Or.inl ⟨rfl, rfl⟩) ?_
  refine dx_nm (fun s27 e27 => ?_)
  replace h := dc_lt e27 h
  refine dx_aload_n (pc := 30) hx dX7_start_30 rfl ?_
  refine dx_bipush (pc := 31) hx dX7_start_31 kb_m6 ?_
  refine dx_putI (pc := 33) hx dX7_start_33 f_X7_35 rfl rfl tyX7_ok rfl (Or.inl ⟨rfl, rfl⟩) ?_
  refine dx_nm (fun s33 e33 => ?_)
  replace h := dc_lt e33 h
  refine dx_aload_n (pc := 36) hx dX7_start_36 rfl ?_
  refine dx_bipush (pc := 37) hx dX7_start_37 kb_m6 ?_
  refine dx_putI (pc := 39) hx dX7_start_39 f_X7_38 rfl rfl tyX7_ok rfl (Or.inl ⟨rfl, rfl⟩) ?_
  obtain rfl := Option.some.inj h
  exact dx_vret hO (pc := 42) dX7_start_42 rfl ⟨rfl, rfl⟩
set_option maxHeartbeats 4000000 in
set_option maxRecDepth 100000 in
theorem tl_X0_freeSingers_15_L4 {κ : dc_KX} {Q : Option Value → dc_HP → Prop} (hO : dc_Ok κ mX0_freeSingers Q) (σ : dc_HP) : ∀ (n : Nat) (x1 : Int32) (x2 : Int32) (q : Int32), fn_X0_freeSingers_L4 σ 15 n x1 x2 = some q → ∀ (hk : dc_X κ 31 [some (.ref 15), some (.int q), none] [] σ), dc_X κ 4 [some (.ref 15), some (.int x1), some (.int x2)] [] σ := by
  have hx : dc_Cx κ RX0 cX0_freeSingers 3 0 0 := hO.1
  intro n
  induction n with
  | zero =>
    intro x1 x2 q h
    cases h
  | succ n ih =>
    intro x1 x2 q h hk
    unfold fn_X0_freeSingers_L4 at h
    refine dx_iload_n (pc := 4) hx dX0_freeSingers_4 rfl ?_
    refine dx_bipush (pc := 5) hx dX0_freeSingers_5 kb_8 ?_
    refine dx_icmp_ge (pc := 7) hx dX0_freeSingers_7 (tgt := 31) (by decide) (fun c7 => ?_) (fun c7 => ?_)
    · replace h := (if_pos c7).symm.trans h
      obtain rfl := Option.some.inj h
      exact dx_wk [true, true, false] <| hk
    · replace h := (if_neg c7).symm.trans h
      refine dx_aload_n (pc := 10) hx dX0_freeSingers_10 rfl ?_
      refine dx_getR (r := 17) (pc := 11) hx dX0_freeSingers_11 f_X0_15 rfl rfl ?_
      refine dx_iload_n (pc := 14) hx dX0_freeSingers_14 rfl ?_
      by_cases g15 : x2 < 0 ∨ 8 ≤ x2.toNatClampNeg
      · cases (if_pos g15).symm.trans h
      replace h := (if_neg g15).symm.trans h
      refine dx_iald (pc := 15) hx dX0_freeSingers_15 rfl g15 ?_
      refine dx_if_ne (pc := 16) hx dX0_freeSingers_16 (tgt := 25) (by decide) (fun c16 => ?_) (fun c16 => ?_)
      · replace h := (if_neg c16).symm.trans h
        refine dx_iinc (pc := 25) hx dX0_freeSingers_25 rfl (v := x2 + nI 1) (congrArg (fun z => x2 + z) kc_1) (dc_le rfl) (ls' := [some (.ref 15), some (.int x1), some (.int (x2 + nI 1))]) rfl ?_
        refine dx_goto (pc := 28) hx dX0_freeSingers_28 (tgt := 4) (by decide) ?_
        exact (ih x1 (x2 + nI 1) q h hk)
      · replace h := (if_pos c16).symm.trans h
        refine dx_iload_n (pc := 19) hx dX0_freeSingers_19 rfl ?_
        refine dx_iconst (pc := 20) hx dX0_freeSingers_20 kc_1 ?_
        refine dx_iload_n (pc := 21) hx dX0_freeSingers_21 rfl ?_
        refine dx_ishl (pc := 22) hx dX0_freeSingers_22 ?_
        refine dx_ior (pc := 23) hx dX0_freeSingers_23 ?_
        refine dx_istore_n (pc := 24) hx dX0_freeSingers_24 (dc_le rfl) (ls' := [some (.ref 15), some (.int (x1 ||| ((nI 1) <<< (x2 &&& 31)))), some (.int x2)]) rfl ?_
        refine dx_iinc (pc := 25) hx dX0_freeSingers_25 rfl (v := x2 + nI 1) (congrArg (fun z => x2 + z) kc_1) (dc_le rfl) (ls' := [some (.ref 15), some (.int (x1 ||| ((nI 1) <<< (x2 &&& 31)))), some (.int (x2 + nI 1))]) rfl ?_
        refine dx_goto (pc := 28) hx dX0_freeSingers_28 (tgt := 4) (by decide) ?_
        exact (ih (x1 ||| ((nI 1) <<< (x2 &&& 31))) (x2 + nI 1) q h hk)
set_option maxHeartbeats 4000000 in
set_option maxRecDepth 100000 in
theorem th_X0_freeSingers_15 {σ : dc_HP} {r : Int32} (h : fn_X0_freeSingers σ 15 = some r) : dc_G mX0_freeSingers [.ref 15] σ (dc_qi (fun x τ => x = r ∧ τ = σ)) := by
  intro κ hO
  have hx : dc_Cx κ RX0 cX0_freeSingers 3 0 0 := hO.1
  show dc_X κ 0 [some (.ref 15), none, none] [] σ
  unfold fn_X0_freeSingers at h
  refine dx_iconst (pc := 0) hx dX0_freeSingers_0 kc_0 ?_
  refine dx_istore_n (pc := 1) hx dX0_freeSingers_1 (dc_le rfl) (ls' := [some (.ref 15), some (.int (nI 0)), none]) rfl ?_
  refine dx_iconst (pc := 2) hx dX0_freeSingers_2 kc_0 ?_
  refine dx_istore_n (pc := 3) hx dX0_freeSingers_3 (dc_le rfl) (ls' := [some (.ref 15), some (.int (nI 0)), some (.int (nI 0))]) rfl ?_
  obtain ⟨q4, h4, h⟩ := Option.bind_eq_some_iff.mp h
  refine (tl_X0_freeSingers_15_L4 hO σ  200 (nI 0) (nI 0) q4 h4 ?_)
  refine dx_iload_n (pc := 31) hx dX0_freeSingers_31 rfl ?_
  refine dx_aload_n (pc := 32) hx dX0_freeSingers_32 rfl ?_
  refine dx_getI (pc := 33) hx dX0_freeSingers_33 f_X0_27 rfl rfl ?_
  refine dx_iand (pc := 36) hx dX0_freeSingers_36 ?_
  obtain rfl := Option.some.inj h
  exact dx_iret hO (pc := 37) dX0_freeSingers_37 rfl ⟨_, rfl, rfl, rfl⟩
set_option maxHeartbeats 4000000 in
set_option maxRecDepth 100000 in
theorem th_X0_has_15 {σ : dc_HP} {x1 : Int32} {r : Int32} (h : fn_X0_has σ 15 x1 = some r) : dc_G mX0_has [.ref 15, .int x1] σ (dc_qi (fun x τ => x = r ∧ τ = σ)) := by
  intro κ hO
  have hx : dc_Cx κ RX0 cX0_has 2 0 0 := hO.1
  show dc_X κ 0 [some (.ref 15), some (.int x1)] [] σ
  unfold fn_X0_has at h
  refine dx_iload_n (pc := 0) hx dX0_has_0 rfl ?_
  refine dx_if_lt (pc := 1) hx dX0_has_1 (tgt := 26) (by decide) (fun c1 => ?_) (fun c1 => ?_)
  · replace h := (if_pos c1).symm.trans h
    refine dx_iconst (pc := 26) hx dX0_has_26 kc_0 ?_
    obtain rfl := Option.some.inj h
    exact dx_zret hO (pc := 27) dX0_has_27 rfl rfl ⟨_, rfl, rfl, rfl⟩
  · replace h := (if_neg c1).symm.trans h
    refine dx_iload_n (pc := 4) hx dX0_has_4 rfl ?_
    refine dx_bipush (pc := 5) hx dX0_has_5 kb_8 ?_
    refine dx_icmp_ge (pc := 7) hx dX0_has_7 (tgt := 26) (by decide) (fun c7 => ?_) (fun c7 => ?_)
    · replace h := (if_pos c7).symm.trans h
      refine dx_iconst (pc := 26) hx dX0_has_26 kc_0 ?_
      obtain rfl := Option.some.inj h
      exact dx_zret hO (pc := 27) dX0_has_27 rfl rfl ⟨_, rfl, rfl, rfl⟩
    · replace h := (if_neg c7).symm.trans h
      refine dx_aload_n (pc := 10) hx dX0_has_10 rfl ?_
      refine dx_getI (pc := 11) hx dX0_has_11 f_X0_27 rfl rfl ?_
      refine dx_iload_n (pc := 14) hx dX0_has_14 rfl ?_
      refine dx_ishr (pc := 15) hx dX0_has_15 ?_
      refine dx_iconst (pc := 16) hx dX0_has_16 kc_1 ?_
      refine dx_iand (pc := 17) hx dX0_has_17 ?_
      refine dx_iconst (pc := 18) hx dX0_has_18 kc_1 ?_
      refine dx_icmp_ne (pc := 19) hx dX0_has_19 (tgt := 26) (by decide) (fun c19 => ?_) (fun c19 => ?_)
      · replace h := (if_neg c19).symm.trans h
        refine dx_iconst (pc := 26) hx dX0_has_26 kc_0 ?_
        obtain rfl := Option.some.inj h
        exact dx_zret hO (pc := 27) dX0_has_27 rfl rfl ⟨_, rfl, rfl, rfl⟩
      · replace h := (if_pos c19).symm.trans h
        refine dx_iconst (pc := 22) hx dX0_has_22 kc_1 ?_
        refine dx_goto (pc := 23) hx dX0_has_23 (tgt := 27) (by decide) ?_
        obtain rfl := Option.some.inj h
        exact dx_zret hO (pc := 27) dX0_has_27 rfl rfl ⟨_, rfl, rfl, rfl⟩
set_option maxHeartbeats 4000000 in
set_option maxRecDepth 100000 in
theorem th_X0_turnHoarse_15 {σ : dc_HP} {x1 : Int32} {r : Int32 × dc_HP} (h : fn_X0_turnHoarse σ 15 x1 = some r) : dc_G mX0_turnHoarse [.ref 15, .int x1] σ (dc_qi (fun x τ => x = r.1 ∧ τ = r.2)) := by
  intro κ hO
  have hx : dc_Cx κ RX0 cX0_turnHoarse 2 1 21 := hO.1
  show dc_X κ 0 [some (.ref 15), some (.int x1)] [] σ
  unfold fn_X0_turnHoarse at h
  refine dx_aload_n (pc := 0) hx dX0_turnHoarse_0 rfl ?_
  refine dx_iload_n (pc := 1) hx dX0_turnHoarse_1 rfl ?_
  obtain ⟨r2, h2, h⟩ := Option.bind_eq_some_iff.mp h
  refine dx_callVir (pc := 2) (As := [.int x1]) (rest := []) hx dX0_turnHoarse_2 k_X0_53 rfl rfl rfl rfl (dc_le rfl) (dc_le rfl) (dc_le rfl) (dc_le rfl) rfl (th_X0_has_15 h2) ?_
  refine dx_if_ne (pc := 5) hx dX0_turnHoarse_5 (tgt := 10) (by decide) (fun c5 => ?_) (fun c5 => ?_)
  · replace h := (if_neg c5).symm.trans h
    refine dx_aload_n (pc := 10) hx dX0_turnHoarse_10 rfl ?_
    refine dx_dup (pc := 11) hx dX0_turnHoarse_11 rfl ?_
    refine dx_getI (pc := 12) hx dX0_turnHoarse_12 f_X0_31 rfl rfl ?_
    refine dx_iconst (pc := 15) hx dX0_turnHoarse_15 kc_1 ?_
    refine dx_iload_n (pc := 16) hx dX0_turnHoarse_16 rfl ?_
    refine dx_ishl (pc := 17) hx dX0_turnHoarse_17 ?_
    refine dx_ixor (pc := 18) hx dX0_turnHoarse_18 ?_
    refine dx_putI (pc := 19) hx dX0_turnHoarse_19 f_X0_31 rfl rfl tyX0_ok rfl (Or.inl ⟨rfl, rfl⟩) ?_
    refine dx_nm (fun s19 e19 => ?_)
    replace h := dc_lt e19 h
    refine dx_iconst (pc := 22) hx dX0_turnHoarse_22 kc_0 ?_
    obtain rfl := Option.some.inj h
    exact dx_iret hO (pc := 23) dX0_turnHoarse_23 rfl ⟨_, rfl, rfl, rfl⟩
  · replace h := (if_pos c5).symm.trans h
    refine dx_iconst (pc := 8) hx dX0_turnHoarse_8 kc_1 ?_
    obtain rfl := Option.some.inj h
    exact dx_iret hO (pc := 9) dX0_turnHoarse_9 rfl ⟨_, rfl, rfl, rfl⟩
set_option maxHeartbeats 4000000 in
set_option maxRecDepth 100000 in
theorem th_X0_debtOf_15 {σ : dc_HP} {x1 : Int32} {r : Int32} (h : fn_X0_debtOf σ 15 x1 = some r) : dc_G mX0_debtOf [.ref 15, .int x1] σ (dc_qi (fun x τ => x = r ∧ τ = σ)) := by
  intro κ hO
  have hx : dc_Cx κ RX0 cX0_debtOf 2 1 21 := hO.1
  show dc_X κ 0 [some (.ref 15), some (.int x1)] [] σ
  unfold fn_X0_debtOf at h
  refine dx_aload_n (pc := 0) hx dX0_debtOf_0 rfl ?_
  refine dx_iload_n (pc := 1) hx dX0_debtOf_1 rfl ?_
  obtain ⟨r2, h2, h⟩ := Option.bind_eq_some_iff.mp h
  refine dx_callVir (pc := 2) (As := [.int x1]) (rest := []) hx dX0_debtOf_2 k_X0_53 rfl rfl rfl rfl (dc_le rfl) (dc_le rfl) (dc_le rfl) (dc_le rfl) rfl (th_X0_has_15 h2) ?_
  refine dx_if_eq (pc := 5) hx dX0_debtOf_5 (tgt := 17) (by decide) (fun c5 => ?_) (fun c5 => ?_)
  · replace h := (if_pos c5).symm.trans h
    refine dx_iconst (pc := 17) hx dX0_debtOf_17 kc_0 ?_
    obtain rfl := Option.some.inj h
    exact dx_iret hO (pc := 18) dX0_debtOf_18 rfl ⟨_, rfl, rfl, rfl⟩
  · replace h := (if_neg c5).symm.trans h
    refine dx_aload_n (pc := 8) hx dX0_debtOf_8 rfl ?_
    refine dx_getR (r := 17) (pc := 9) hx dX0_debtOf_9 f_X0_15 rfl rfl ?_
    refine dx_iload_n (pc := 12) hx dX0_debtOf_12 rfl ?_
    by_cases g13 : x1 < 0 ∨ 8 ≤ x1.toNatClampNeg
    · cases (if_pos g13).symm.trans h
    replace h := (if_neg g13).symm.trans h
    refine dx_iald (pc := 13) hx dX0_debtOf_13 rfl g13 ?_
    refine dx_goto (pc := 14) hx dX0_debtOf_14 (tgt := 18) (by decide) ?_
    obtain rfl := Option.some.inj h
    exact dx_iret hO (pc := 18) dX0_debtOf_18 rfl ⟨_, rfl, rfl, rfl⟩
set_option maxHeartbeats 4000000 in
set_option maxRecDepth 100000 in
theorem th_X0_owe_15 {σ : dc_HP} {x1 : Int32} {x2 : Int32} {r : dc_HP} (h : fn_X0_owe σ 15 x1 x2 = some r) : dc_G mX0_owe [.ref 15, .int x1, .int x2] σ (dc_qv (fun τ => τ = r)) := by
  intro κ hO
  have hx : dc_Cx κ RX0 cX0_owe 3 1 21 := hO.1
  show dc_X κ 0 [some (.ref 15), some (.int x1), some (.int x2)] [] σ
  unfold fn_X0_owe at h
  refine dx_aload_n (pc := 0) hx dX0_owe_0 rfl ?_
  refine dx_iload_n (pc := 1) hx dX0_owe_1 rfl ?_
  obtain ⟨r2, h2, h⟩ := Option.bind_eq_some_iff.mp h
  refine dx_callVir (pc := 2) (As := [.int x1]) (rest := []) hx dX0_owe_2 k_X0_53 rfl rfl rfl rfl (dc_le rfl) (dc_le rfl) (dc_le rfl) (dc_le rfl) rfl (th_X0_has_15 h2) ?_
  refine dx_if_eq (pc := 5) hx dX0_owe_5 (tgt := 15) (by decide) (fun c5 => ?_) (fun c5 => ?_)
  · replace h := (if_pos c5).symm.trans h
    obtain rfl := Option.some.inj h
    exact dx_vret hO (pc := 15) dX0_owe_15 rfl ⟨rfl, rfl⟩
  · replace h := (if_neg c5).symm.trans h
    refine dx_aload_n (pc := 8) hx dX0_owe_8 rfl ?_
    refine dx_getR (r := 17) (pc := 9) hx dX0_owe_9 f_X0_15 rfl rfl ?_
    refine dx_iload_n (pc := 12) hx dX0_owe_12 rfl ?_
    refine dx_iload_n (pc := 13) hx dX0_owe_13 rfl ?_
    by_cases g14 : x1 < 0 ∨ 8 ≤ x1.toNatClampNeg
    · cases (if_pos g14).symm.trans h
    replace h := (if_neg g14).symm.trans h
    refine dx_iast (pc := 14) hx dX0_owe_14 rfl g14 ?_
    obtain rfl := Option.some.inj h
    exact dx_vret hO (pc := 15) dX0_owe_15 rfl ⟨rfl, rfl⟩
set_option maxHeartbeats 4000000 in
set_option maxRecDepth 100000 in
theorem th_X0_borrow_15 {σ : dc_HP} {x1 : Int32} {x2 : Int32} {r : Int32 × dc_HP} (h : fn_X0_borrow σ 15 x1 x2 = some r) : dc_G mX0_borrow [.ref 15, .int x1, .int x2] σ (dc_qi (fun x τ => x = r.1 ∧ τ = r.2)) := by
  intro κ hO
  have hx : dc_Cx κ RX0 cX0_borrow 3 2 43 := hO.1
  show dc_X κ 0 [some (.ref 15), some (.int x1), some (.int x2)] [] σ
  unfold fn_X0_borrow at h
  refine dx_aload_n (pc := 0) hx dX0_borrow_0 rfl ?_
  refine dx_iload_n (pc := 1) hx dX0_borrow_1 rfl ?_
  obtain ⟨r2, h2, h⟩ := Option.bind_eq_some_iff.mp h
  refine dx_callVir (pc := 2) (As := [.int x1]) (rest := []) hx dX0_borrow_2 k_X0_53 rfl rfl rfl rfl (dc_le rfl) (dc_le rfl) (dc_le rfl) (dc_le rfl) rfl (th_X0_has_15 h2) ?_
  refine dx_if_ne (pc := 5) hx dX0_borrow_5 (tgt := 10) (by decide) (fun c5 => ?_) (fun c5 => ?_)
  · replace h := (if_neg c5).symm.trans h
    refine dx_aload_n (pc := 10) hx dX0_borrow_10 rfl ?_
    refine dx_iload_n (pc := 11) hx dX0_borrow_11 rfl ?_
    obtain ⟨r12, h12, h⟩ := Option.bind_eq_some_iff.mp h
    refine dx_callVir (pc := 12) (As := [.int x1]) (rest := []) hx dX0_borrow_12 k_X0_61 rfl rfl rfl rfl (dc_le rfl) (dc_le rfl) (dc_le rfl) (dc_le rfl) rfl (th_X0_debtOf_15 h12) ?_
    refine dx_iload_n (pc := 15) hx dX0_borrow_15 rfl ?_
    refine dx_iadd (pc := 16) hx dX0_borrow_16 ?_
    refine dx_sipush (pc := 17) hx dX0_borrow_17 ks_999 ?_
    refine dx_icmp_le (pc := 20) hx dX0_borrow_20 (tgt := 25) (by decide) (fun c20 => ?_) (fun c20 => ?_)
    · replace h := (if_pos c20).symm.trans h
      refine dx_aload_n (pc := 25) hx dX0_borrow_25 rfl ?_
      refine dx_iload_n (pc := 26) hx dX0_borrow_26 rfl ?_
      refine dx_aload_n (pc := 27) hx dX0_borrow_27 rfl ?_
      refine dx_iload_n (pc := 28) hx dX0_borrow_28 rfl ?_
      obtain ⟨r29, h29, h⟩ := Option.bind_eq_some_iff.mp h
      refine dx_callVir (pc := 29) (As := [.int x1]) (rest := [.int x1, .ref 15]) hx dX0_borrow_29 k_X0_61 rfl rfl rfl rfl (dc_le rfl) (dc_le rfl) (dc_le rfl) (dc_le rfl) rfl (th_X0_debtOf_15 h29) ?_
      refine dx_iload_n (pc := 32) hx dX0_borrow_32 rfl ?_
      refine dx_iadd (pc := 33) hx dX0_borrow_33 ?_
      obtain ⟨r34, h34, h⟩ := Option.bind_eq_some_iff.mp h
      refine dx_callVvw (pc := 34) (As := [.int x1, .int (r29 + x2)]) (rest := []) hx dX0_borrow_34 k_X0_114 rfl rfl rfl rfl (dc_le rfl) (dc_le rfl) (dc_le rfl) (dc_le rfl) rfl (th_X0_owe_15 h34) ?_
      refine dx_iconst (pc := 37) hx dX0_borrow_37 kc_0 ?_
      obtain rfl := Option.some.inj h
      exact dx_iret hO (pc := 38) dX0_borrow_38 rfl ⟨_, rfl, rfl, rfl⟩
    · replace h := (if_neg c20).symm.trans h
      refine dx_iconst (pc := 23) hx dX0_borrow_23 kc_3 ?_
      obtain rfl := Option.some.inj h
      exact dx_iret hO (pc := 24) dX0_borrow_24 rfl ⟨_, rfl, rfl, rfl⟩
  · replace h := (if_pos c5).symm.trans h
    refine dx_iconst (pc := 8) hx dX0_borrow_8 kc_1 ?_
    obtain rfl := Option.some.inj h
    exact dx_iret hO (pc := 9) dX0_borrow_9 rfl ⟨_, rfl, rfl, rfl⟩
set_option maxHeartbeats 4000000 in
set_option maxRecDepth 100000 in
theorem th_X0_takeOver_15 {σ : dc_HP} {x1 : Int32} {x2 : Int32} {r : Int32 × dc_HP} (h : fn_X0_takeOver σ 15 x1 x2 = some r) : dc_G mX0_takeOver [.ref 15, .int x1, .int x2] σ (dc_qi (fun x τ => x = r.1 ∧ τ = r.2)) := by
  intro κ hO
  have hx : dc_Cx κ RX0 cX0_takeOver 4 2 43 := hO.1
  show dc_X κ 0 [some (.ref 15), some (.int x1), some (.int x2), none] [] σ
  unfold fn_X0_takeOver at h
  refine dx_aload_n (pc := 0) hx dX0_takeOver_0 rfl ?_
  refine dx_iload_n (pc := 1) hx dX0_takeOver_1 rfl ?_
  obtain ⟨r2, h2, h⟩ := Option.bind_eq_some_iff.mp h
  refine dx_callVir (pc := 2) (As := [.int x1]) (rest := []) hx dX0_takeOver_2 k_X0_53 rfl rfl rfl rfl (dc_le rfl) (dc_le rfl) (dc_le rfl) (dc_le rfl) rfl (th_X0_has_15 h2) ?_
  refine dx_if_eq (pc := 5) hx dX0_takeOver_5 (tgt := 16) (by decide) (fun c5 => ?_) (fun c5 => ?_)
  · replace h := (if_pos c5).symm.trans h
    refine dx_iconst (pc := 16) hx dX0_takeOver_16 kc_1 ?_
    obtain rfl := Option.some.inj h
    exact dx_iret hO (pc := 17) dX0_takeOver_17 rfl ⟨_, rfl, rfl, rfl⟩
  · replace h := (if_neg c5).symm.trans h
    refine dx_aload_n (pc := 8) hx dX0_takeOver_8 rfl ?_
    refine dx_iload_n (pc := 9) hx dX0_takeOver_9 rfl ?_
    obtain ⟨r10, h10, h⟩ := Option.bind_eq_some_iff.mp h
    refine dx_callVir (pc := 10) (As := [.int x2]) (rest := []) hx dX0_takeOver_10 k_X0_53 rfl rfl rfl rfl (dc_le rfl) (dc_le rfl) (dc_le rfl) (dc_le rfl) rfl (th_X0_has_15 h10) ?_
    refine dx_if_ne (pc := 13) hx dX0_takeOver_13 (tgt := 18) (by decide) (fun c13 => ?_) (fun c13 => ?_)
    · replace h := (if_neg c13).symm.trans h
      refine dx_aload_n (pc := 18) hx dX0_takeOver_18 rfl ?_
      refine dx_iload_n (pc := 19) hx dX0_takeOver_19 rfl ?_
      obtain ⟨r20, h20, h⟩ := Option.bind_eq_some_iff.mp h
      refine dx_callVir (pc := 20) (As := [.int x1]) (rest := []) hx dX0_takeOver_20 k_X0_61 rfl rfl rfl rfl (dc_le rfl) (dc_le rfl) (dc_le rfl) (dc_le rfl) rfl (th_X0_debtOf_15 h20) ?_
      refine dx_istore_n (pc := 23) hx dX0_takeOver_23 (dc_le rfl) (ls' := [some (.ref 15), some (.int x1), some (.int x2), some (.int r20)]) rfl ?_
      refine dx_iload_n (pc := 24) hx dX0_takeOver_24 rfl ?_
      refine dx_iload_n (pc := 25) hx dX0_takeOver_25 rfl ?_
      refine dx_icmp_eq (pc := 26) hx dX0_takeOver_26 (tgt := 33) (by decide) (fun c26 => ?_) (fun c26 => ?_)
      · replace h := (if_pos c26).symm.trans h
        refine dx_iconst (pc := 33) hx dX0_takeOver_33 kc_2 ?_
        obtain rfl := Option.some.inj h
        exact dx_iret hO (pc := 34) dX0_takeOver_34 rfl ⟨_, rfl, rfl, rfl⟩
      · replace h := (if_neg c26).symm.trans h
        refine dx_iload_n (pc := 29) hx dX0_takeOver_29 rfl ?_
        refine dx_if_ne (pc := 30) hx dX0_takeOver_30 (tgt := 35) (by decide) (fun c30 => ?_) (fun c30 => ?_)
        · replace h := (if_neg c30).symm.trans h
          refine dx_aload_n (pc := 35) hx dX0_takeOver_35 rfl ?_
          refine dx_iload_n (pc := 36) hx dX0_takeOver_36 rfl ?_
          obtain ⟨r37, h37, h⟩ := Option.bind_eq_some_iff.mp h
          refine dx_callVir (pc := 37) (As := [.int x2]) (rest := []) hx dX0_takeOver_37 k_X0_61 rfl rfl rfl rfl (dc_le rfl) (dc_le rfl) (dc_le rfl) (dc_le rfl) rfl (th_X0_debtOf_15 h37) ?_
          refine dx_iload_n (pc := 40) hx dX0_takeOver_40 rfl ?_
          refine dx_iadd (pc := 41) hx dX0_takeOver_41 ?_
          refine dx_sipush (pc := 42) hx dX0_takeOver_42 ks_999 ?_
          refine dx_icmp_le (pc := 45) hx dX0_takeOver_45 (tgt := 50) (by decide) (fun c45 => ?_) (fun c45 => ?_)
          · replace h := (if_pos c45).symm.trans h
            refine dx_aload_n (pc := 50) hx dX0_takeOver_50 rfl ?_
            refine dx_iload_n (pc := 51) hx dX0_takeOver_51 rfl ?_
            refine dx_aload_n (pc := 52) hx dX0_takeOver_52 rfl ?_
            refine dx_iload_n (pc := 53) hx dX0_takeOver_53 rfl ?_
            obtain ⟨r54, h54, h⟩ := Option.bind_eq_some_iff.mp h
            refine dx_callVir (pc := 54) (As := [.int x2]) (rest := [.int x2, .ref 15]) hx dX0_takeOver_54 k_X0_61 rfl rfl rfl rfl (dc_le rfl) (dc_le rfl) (dc_le rfl) (dc_le rfl) rfl (th_X0_debtOf_15 h54) ?_
            refine dx_iload_n (pc := 57) hx dX0_takeOver_57 rfl ?_
            refine dx_iadd (pc := 58) hx dX0_takeOver_58 ?_
            obtain ⟨r59, h59, h⟩ := Option.bind_eq_some_iff.mp h
            refine dx_callVvw (pc := 59) (As := [.int x2, .int (r54 + r20)]) (rest := []) hx dX0_takeOver_59 k_X0_114 rfl rfl rfl rfl (dc_le rfl) (dc_le rfl) (dc_le rfl) (dc_le rfl) rfl (th_X0_owe_15 h59) ?_
            refine dx_aload_n (pc := 62) hx dX0_takeOver_62 rfl ?_
            refine dx_iload_n (pc := 63) hx dX0_takeOver_63 rfl ?_
            refine dx_iconst (pc := 64) hx dX0_takeOver_64 kc_0 ?_
            obtain ⟨r65, h65, h⟩ := Option.bind_eq_some_iff.mp h
            refine dx_callVvw (pc := 65) (As := [.int x1, .int (nI 0)]) (rest := []) hx dX0_takeOver_65 k_X0_114 rfl rfl rfl rfl (dc_le rfl) (dc_le rfl) (dc_le rfl) (dc_le rfl) rfl (th_X0_owe_15 h65) ?_
            refine dx_iconst (pc := 68) hx dX0_takeOver_68 kc_0 ?_
            obtain rfl := Option.some.inj h
            exact dx_iret hO (pc := 69) dX0_takeOver_69 rfl ⟨_, rfl, rfl, rfl⟩
          · replace h := (if_neg c45).symm.trans h
            refine dx_iconst (pc := 48) hx dX0_takeOver_48 kc_3 ?_
            obtain rfl := Option.some.inj h
            exact dx_iret hO (pc := 49) dX0_takeOver_49 rfl ⟨_, rfl, rfl, rfl⟩
        · replace h := (if_pos c30).symm.trans h
          refine dx_iconst (pc := 33) hx dX0_takeOver_33 kc_2 ?_
          obtain rfl := Option.some.inj h
          exact dx_iret hO (pc := 34) dX0_takeOver_34 rfl ⟨_, rfl, rfl, rfl⟩
    · replace h := (if_pos c13).symm.trans h
      refine dx_iconst (pc := 16) hx dX0_takeOver_16 kc_1 ?_
      obtain rfl := Option.some.inj h
      exact dx_iret hO (pc := 17) dX0_takeOver_17 rfl ⟨_, rfl, rfl, rfl⟩
set_option maxHeartbeats 4000000 in
set_option maxRecDepth 100000 in
theorem th_X0_letGo_15 {σ : dc_HP} {x1 : Int32} {r : Int32 × dc_HP} (h : fn_X0_letGo σ 15 x1 = some r) : dc_G mX0_letGo [.ref 15, .int x1] σ (dc_qi (fun x τ => x = r.1 ∧ τ = r.2)) := by
  intro κ hO
  have hx : dc_Cx κ RX0 cX0_letGo 2 2 43 := hO.1
  show dc_X κ 0 [some (.ref 15), some (.int x1)] [] σ
  unfold fn_X0_letGo at h
  refine dx_aload_n (pc := 0) hx dX0_letGo_0 rfl ?_
  refine dx_iload_n (pc := 1) hx dX0_letGo_1 rfl ?_
  obtain ⟨r2, h2, h⟩ := Option.bind_eq_some_iff.mp h
  refine dx_callVir (pc := 2) (As := [.int x1]) (rest := []) hx dX0_letGo_2 k_X0_53 rfl rfl rfl rfl (dc_le rfl) (dc_le rfl) (dc_le rfl) (dc_le rfl) rfl (th_X0_has_15 h2) ?_
  refine dx_if_ne (pc := 5) hx dX0_letGo_5 (tgt := 10) (by decide) (fun c5 => ?_) (fun c5 => ?_)
  · replace h := (if_neg c5).symm.trans h
    refine dx_aload_n (pc := 10) hx dX0_letGo_10 rfl ?_
    refine dx_iload_n (pc := 11) hx dX0_letGo_11 rfl ?_
    obtain ⟨r12, h12, h⟩ := Option.bind_eq_some_iff.mp h
    refine dx_callVir (pc := 12) (As := [.int x1]) (rest := []) hx dX0_letGo_12 k_X0_61 rfl rfl rfl rfl (dc_le rfl) (dc_le rfl) (dc_le rfl) (dc_le rfl) rfl (th_X0_debtOf_15 h12) ?_
    refine dx_if_ne (pc := 15) hx dX0_letGo_15 (tgt := 20) (by decide) (fun c15 => ?_) (fun c15 => ?_)
    · replace h := (if_neg c15).symm.trans h
      refine dx_aload_n (pc := 20) hx dX0_letGo_20 rfl ?_
      refine dx_iload_n (pc := 21) hx dX0_letGo_21 rfl ?_
      refine dx_iconst (pc := 22) hx dX0_letGo_22 kc_0 ?_
      obtain ⟨r23, h23, h⟩ := Option.bind_eq_some_iff.mp h
      refine dx_callVvw (pc := 23) (As := [.int x1, .int (nI 0)]) (rest := []) hx dX0_letGo_23 k_X0_114 rfl rfl rfl rfl (dc_le rfl) (dc_le rfl) (dc_le rfl) (dc_le rfl) rfl (th_X0_owe_15 h23) ?_
      refine dx_iconst (pc := 26) hx dX0_letGo_26 kc_0 ?_
      obtain rfl := Option.some.inj h
      exact dx_iret hO (pc := 27) dX0_letGo_27 rfl ⟨_, rfl, rfl, rfl⟩
    · replace h := (if_pos c15).symm.trans h
      refine dx_iconst (pc := 18) hx dX0_letGo_18 kc_2 ?_
      obtain rfl := Option.some.inj h
      exact dx_iret hO (pc := 19) dX0_letGo_19 rfl ⟨_, rfl, rfl, rfl⟩
  · replace h := (if_pos c5).symm.trans h
    refine dx_iconst (pc := 8) hx dX0_letGo_8 kc_1 ?_
    obtain rfl := Option.some.inj h
    exact dx_iret hO (pc := 9) dX0_letGo_9 rfl ⟨_, rfl, rfl, rfl⟩
set_option maxHeartbeats 4000000 in
set_option maxRecDepth 100000 in
theorem tl_X0_withBreath_15_L4 {κ : dc_KX} {Q : Option Value → dc_HP → Prop} (hO : dc_Ok κ mX0_withBreath Q) (σ : dc_HP) (x1 : Int32) : ∀ (n : Nat) (x2 : Int32) (x3 : Int32) (q : Int32), fn_X0_withBreath_L4 σ 15 x1 n x2 x3 = some q → ∀ (hk : dc_X κ 32 [some (.ref 15), some (.int x1), some (.int q), none] [] σ), dc_X κ 4 [some (.ref 15), some (.int x1), some (.int x2), some (.int x3)] [] σ := by
  have hx : dc_Cx κ RX0 cX0_withBreath 4 0 0 := hO.1
  intro n
  induction n with
  | zero =>
    intro x2 x3 q h
    cases h
  | succ n ih =>
    intro x2 x3 q h hk
    unfold fn_X0_withBreath_L4 at h
    refine dx_iload_n (pc := 4) hx dX0_withBreath_4 rfl ?_
    refine dx_bipush (pc := 5) hx dX0_withBreath_5 kb_8 ?_
    refine dx_icmp_ge (pc := 7) hx dX0_withBreath_7 (tgt := 32) (by decide) (fun c7 => ?_) (fun c7 => ?_)
    · replace h := (if_pos c7).symm.trans h
      obtain rfl := Option.some.inj h
      exact dx_wk [true, true, true, false] <| hk
    · replace h := (if_neg c7).symm.trans h
      refine dx_aload_n (pc := 10) hx dX0_withBreath_10 rfl ?_
      refine dx_getR (r := 16) (pc := 11) hx dX0_withBreath_11 f_X0_9 rfl rfl ?_
      refine dx_iload_n (pc := 14) hx dX0_withBreath_14 rfl ?_
      by_cases g15 : x3 < 0 ∨ 8 ≤ x3.toNatClampNeg
      · cases (if_pos g15).symm.trans h
      replace h := (if_neg g15).symm.trans h
      refine dx_iald (pc := 15) hx dX0_withBreath_15 rfl g15 ?_
      refine dx_iload_n (pc := 16) hx dX0_withBreath_16 rfl ?_
      refine dx_icmp_ne (pc := 17) hx dX0_withBreath_17 (tgt := 26) (by decide) (fun c17 => ?_) (fun c17 => ?_)
      · replace h := (if_neg c17).symm.trans h
        refine dx_iinc (pc := 26) hx dX0_withBreath_26 rfl (v := x3 + nI 1) (congrArg (fun z => x3 + z) kc_1) (dc_le rfl) (ls' := [some (.ref 15), some (.int x1), some (.int x2), some (.int (x3 + nI 1))]) rfl ?_
        refine dx_goto (pc := 29) hx dX0_withBreath_29 (tgt := 4) (by decide) ?_
        exact (ih x2 (x3 + nI 1) q h hk)
      · replace h := (if_pos c17).symm.trans h
        refine dx_iload_n (pc := 20) hx dX0_withBreath_20 rfl ?_
        refine dx_iconst (pc := 21) hx dX0_withBreath_21 kc_1 ?_
        refine dx_iload_n (pc := 22) hx dX0_withBreath_22 rfl ?_
        refine dx_ishl (pc := 23) hx dX0_withBreath_23 ?_
        refine dx_ior (pc := 24) hx dX0_withBreath_24 ?_
        refine dx_istore_n (pc := 25) hx dX0_withBreath_25 (dc_le rfl) (ls' := [some (.ref 15), some (.int x1), some (.int (x2 ||| ((nI 1) <<< (x3 &&& 31)))), some (.int x3)]) rfl ?_
        refine dx_iinc (pc := 26) hx dX0_withBreath_26 rfl (v := x3 + nI 1) (congrArg (fun z => x3 + z) kc_1) (dc_le rfl) (ls' := [some (.ref 15), some (.int x1), some (.int (x2 ||| ((nI 1) <<< (x3 &&& 31)))), some (.int (x3 + nI 1))]) rfl ?_
        refine dx_goto (pc := 29) hx dX0_withBreath_29 (tgt := 4) (by decide) ?_
        exact (ih (x2 ||| ((nI 1) <<< (x3 &&& 31))) (x3 + nI 1) q h hk)
set_option maxHeartbeats 4000000 in
set_option maxRecDepth 100000 in
theorem th_X0_withBreath_15 {σ : dc_HP} {x1 : Int32} {r : Int32} (h : fn_X0_withBreath σ 15 x1 = some r) : dc_G mX0_withBreath [.ref 15, .int x1] σ (dc_qi (fun x τ => x = r ∧ τ = σ)) := by
  intro κ hO
  have hx : dc_Cx κ RX0 cX0_withBreath 4 0 0 := hO.1
  show dc_X κ 0 [some (.ref 15), some (.int x1), none, none] [] σ
  unfold fn_X0_withBreath at h
  refine dx_iconst (pc := 0) hx dX0_withBreath_0 kc_0 ?_
  refine dx_istore_n (pc := 1) hx dX0_withBreath_1 (dc_le rfl) (ls' := [some (.ref 15), some (.int x1), some (.int (nI 0)), none]) rfl ?_
  refine dx_iconst (pc := 2) hx dX0_withBreath_2 kc_0 ?_
  refine dx_istore_n (pc := 3) hx dX0_withBreath_3 (dc_le rfl) (ls' := [some (.ref 15), some (.int x1), some (.int (nI 0)), some (.int (nI 0))]) rfl ?_
  obtain ⟨q4, h4, h⟩ := Option.bind_eq_some_iff.mp h
  refine (tl_X0_withBreath_15_L4 hO σ x1 200 (nI 0) (nI 0) q4 h4 ?_)
  refine dx_iload_n (pc := 32) hx dX0_withBreath_32 rfl ?_
  refine dx_aload_n (pc := 33) hx dX0_withBreath_33 rfl ?_
  refine dx_getI (pc := 34) hx dX0_withBreath_34 f_X0_27 rfl rfl ?_
  refine dx_iand (pc := 37) hx dX0_withBreath_37 ?_
  refine dx_aload_n (pc := 38) hx dX0_withBreath_38 rfl ?_
  refine dx_getI (pc := 39) hx dX0_withBreath_39 f_X0_31 rfl rfl ?_
  refine dx_iconst (pc := 42) hx dX0_withBreath_42 kc_m1 ?_
  refine dx_ixor (pc := 43) hx dX0_withBreath_43 ?_
  refine dx_iand (pc := 44) hx dX0_withBreath_44 ?_
  refine dx_aload_n (pc := 45) hx dX0_withBreath_45 rfl ?_
  refine dx_getI (pc := 46) hx dX0_withBreath_46 f_X0_34 rfl rfl ?_
  refine dx_iconst (pc := 49) hx dX0_withBreath_49 kc_m1 ?_
  refine dx_ixor (pc := 50) hx dX0_withBreath_50 ?_
  refine dx_iand (pc := 51) hx dX0_withBreath_51 ?_
  obtain rfl := Option.some.inj h
  exact dx_iret hO (pc := 52) dX0_withBreath_52 rfl ⟨_, rfl, rfl, rfl⟩
set_option maxHeartbeats 4000000 in
set_option maxRecDepth 100000 in
theorem th_X0_readyIn_15 {σ : dc_HP} {x1 : Int32} {r : Int32} (h : fn_X0_readyIn σ 15 x1 = some r) : dc_G mX0_readyIn [.ref 15, .int x1] σ (dc_qi (fun x τ => x = r ∧ τ = σ)) := by
  intro κ hO
  have hx : dc_Cx κ RX0 cX0_readyIn 2 1 23 := hO.1
  show dc_X κ 0 [some (.ref 15), some (.int x1)] [] σ
  unfold fn_X0_readyIn at h
  refine dx_aload_n (pc := 0) hx dX0_readyIn_0 rfl ?_
  refine dx_iload_n (pc := 1) hx dX0_readyIn_1 rfl ?_
  obtain ⟨r2, h2, h⟩ := Option.bind_eq_some_iff.mp h
  refine dx_callVir (pc := 2) (As := [.int x1]) (rest := []) hx dX0_readyIn_2 k_X0_84 rfl rfl rfl rfl (dc_le rfl) (dc_le rfl) (dc_le rfl) (dc_le rfl) rfl (th_X0_withBreath_15 h2) ?_
  refine dx_aload_n (pc := 5) hx dX0_readyIn_5 rfl ?_
  obtain ⟨r6, h6, h⟩ := Option.bind_eq_some_iff.mp h
  refine dx_callVir (pc := 6) (As := []) (rest := [.int r2]) hx dX0_readyIn_6 k_X0_87 rfl rfl rfl rfl (dc_le rfl) (dc_le rfl) (dc_le rfl) (dc_le rfl) rfl (th_X0_freeSingers_15 h6) ?_
  refine dx_iconst (pc := 9) hx dX0_readyIn_9 kc_m1 ?_
  refine dx_ixor (pc := 10) hx dX0_readyIn_10 ?_
  refine dx_iand (pc := 11) hx dX0_readyIn_11 ?_
  obtain rfl := Option.some.inj h
  exact dx_iret hO (pc := 12) dX0_readyIn_12 rfl ⟨_, rfl, rfl, rfl⟩
set_option maxHeartbeats 4000000 in
set_option maxRecDepth 100000 in
theorem th_X0_needOf_15 {σ : dc_HP} {x1 : Int32} {x2 : Int32} {r : Int32} (h : fn_X0_needOf σ 15 x1 x2 = some r) : dc_G mX0_needOf [.ref 15, .int x1, .int x2] σ (dc_qi (fun x τ => x = r ∧ τ = σ)) := by
  intro κ hO
  have hx : dc_Cx κ RX0 cX0_needOf 4 1 22 := hO.1
  show dc_X κ 0 [some (.ref 15), some (.int x1), some (.int x2), none] [] σ
  unfold fn_X0_needOf at h
  refine dx_iload_n (pc := 0) hx dX0_needOf_0 rfl ?_
  refine dx_iconst (pc := 1) hx dX0_needOf_1 kc_0 ?_
  refine dx_iconst (pc := 2) hx dX0_needOf_2 kc_5 ?_
  obtain ⟨r3, h3, h⟩ := Option.bind_eq_some_iff.mp h
  refine dx_callNir (pc := 3) (As := [.int x1, .int (nI 0), .int (nI 5)]) (rest := []) hx dX0_needOf_3 k_X0_49 rfl (dc_le rfl) (dc_le rfl) (dc_le rfl) (dc_le rfl) rfl (th_X8_within h3) ?_
  obtain ⟨q6, hr, h⟩ := Option.bind_eq_some_iff.mp h
  have hk : dc_X κ 23 [some (.ref 15), some (.int x1), some (.int x2), none] [.int q6] σ := by
    clear hr
    refine dx_istore_n (pc := 23) hx dX0_needOf_23 (dc_le rfl) (ls' := [some (.ref 15), some (.int x1), some (.int x2), some (.int q6)]) rfl ?_
    refine dx_iload_n (pc := 24) hx dX0_needOf_24 rfl ?_
    refine dx_if_eq (pc := 25) hx dX0_needOf_25 (tgt := 41) (by decide) (fun c25 => ?_) (fun c25 => ?_)
    · replace h := (if_pos c25).symm.trans h
      refine dx_iconst (pc := 41) hx dX0_needOf_41 kc_0 ?_
      obtain rfl := Option.some.inj h
      exact dx_iret hO (pc := 42) dX0_needOf_42 rfl ⟨_, rfl, rfl, rfl⟩
    · replace h := (if_neg c25).symm.trans h
      refine dx_aload_n (pc := 28) hx dX0_needOf_28 rfl ?_
      refine dx_getR (r := 18) (pc := 29) hx dX0_needOf_29 f_X0_18 rfl rfl ?_
      refine dx_iload_n (pc := 32) hx dX0_needOf_32 rfl ?_
      refine dx_iconst (pc := 33) hx dX0_needOf_33 kc_4 ?_
      refine dx_imul (pc := 34) hx dX0_needOf_34 ?_
      refine dx_iload_n (pc := 35) hx dX0_needOf_35 rfl ?_
      refine dx_iadd (pc := 36) hx dX0_needOf_36 ?_
      by_cases g37 : ((x1 * (nI 4)) + x2) < 0 ∨ 24 ≤ ((x1 * (nI 4)) + x2).toNatClampNeg
      · cases (if_pos g37).symm.trans h
      replace h := (if_neg g37).symm.trans h
      refine dx_iald (pc := 37) hx dX0_needOf_37 rfl g37 ?_
      refine dx_goto (pc := 38) hx dX0_needOf_38 (tgt := 42) (by decide) ?_
      obtain rfl := Option.some.inj h
      exact dx_iret hO (pc := 42) dX0_needOf_42 rfl ⟨_, rfl, rfl, rfl⟩
  replace h := hr
  clear hr
  refine dx_if_eq (pc := 6) hx dX0_needOf_6 (tgt := 22) (by decide) (fun c6 => ?_) (fun c6 => ?_)
  · replace h := (if_pos c6).symm.trans h
    refine dx_iconst (pc := 22) hx dX0_needOf_22 kc_0 ?_
    obtain rfl := Option.some.inj h
    exact hk
  · replace h := (if_neg c6).symm.trans h
    refine dx_iload_n (pc := 9) hx dX0_needOf_9 rfl ?_
    refine dx_iconst (pc := 10) hx dX0_needOf_10 kc_0 ?_
    refine dx_iconst (pc := 11) hx dX0_needOf_11 kc_3 ?_
    obtain ⟨r12, h12, h⟩ := Option.bind_eq_some_iff.mp h
    refine dx_callNir (pc := 12) (As := [.int x2, .int (nI 0), .int (nI 3)]) (rest := []) hx dX0_needOf_12 k_X0_49 rfl (dc_le rfl) (dc_le rfl) (dc_le rfl) (dc_le rfl) rfl (th_X8_within h12) ?_
    refine dx_if_eq (pc := 15) hx dX0_needOf_15 (tgt := 22) (by decide) (fun c15 => ?_) (fun c15 => ?_)
    · replace h := (if_pos c15).symm.trans h
      refine dx_iconst (pc := 22) hx dX0_needOf_22 kc_0 ?_
      obtain rfl := Option.some.inj h
      exact hk
    · replace h := (if_neg c15).symm.trans h
      refine dx_iconst (pc := 18) hx dX0_needOf_18 kc_1 ?_
      refine dx_goto (pc := 19) hx dX0_needOf_19 (tgt := 23) (by decide) ?_
      obtain rfl := Option.some.inj h
      exact hk
set_option maxHeartbeats 4000000 in
set_option maxRecDepth 100000 in
theorem tl_X0_canBeSung_15_L2 {κ : dc_KX} {Q : Option Value → dc_HP → Prop} (hO : dc_Ok κ mX0_canBeSung Q) (σ : dc_HP) (x1 : Int32) : ∀ (n : Nat) (x2 : Int32) (q : (Int32) ⊕ (Unit)), fn_X0_canBeSung_L2 σ 15 x1 n x2 = some q → ∀ (hk : ∀ m : Unit, q = .inr m → dc_X κ 32 [some (.ref 15), some (.int x1), none] [] σ) (hr : ∀ r : Int32, q = .inl r → Q (some (.int r)) σ), dc_X κ 2 [some (.ref 15), some (.int x1), some (.int x2)] [] σ := by
  have hx : dc_Cx κ RX0 cX0_canBeSung 3 2 45 := hO.1
  intro n
  induction n with
  | zero =>
    intro x2 q h
    cases h
  | succ n ih =>
    intro x2 q h hk hr
    unfold fn_X0_canBeSung_L2 at h
    refine dx_iload_n (pc := 2) hx dX0_canBeSung_2 rfl ?_
    refine dx_iconst (pc := 3) hx dX0_canBeSung_3 kc_4 ?_
    refine dx_icmp_ge (pc := 4) hx dX0_canBeSung_4 (tgt := 32) (by decide) (fun c4 => ?_) (fun c4 => ?_)
    · replace h := (if_pos c4).symm.trans h
      obtain rfl := Option.some.inj h
      exact dx_wk [true, true, false] <| (hk () rfl)
    · replace h := (if_neg c4).symm.trans h
      refine dx_aload_n (pc := 7) hx dX0_canBeSung_7 rfl ?_
      refine dx_iload_n (pc := 8) hx dX0_canBeSung_8 rfl ?_
      obtain ⟨r9, h9, h⟩ := Option.bind_eq_some_iff.mp h
      refine dx_callVir (pc := 9) (As := [.int x2]) (rest := []) hx dX0_canBeSung_9 k_X0_96 rfl rfl rfl rfl (dc_le rfl) (dc_le rfl) (dc_le rfl) (dc_le rfl) rfl (th_X0_readyIn_15 h9) ?_
      obtain ⟨r12, h12, h⟩ := Option.bind_eq_some_iff.mp h
      refine dx_callSir (pc := 12) (As := [.int r9]) (rest := []) hx dX0_canBeSung_12 k_X0_91 rfl (dc_le rfl) (dc_le rfl) (dc_le rfl) (dc_le rfl) rfl (th_J6_bitCount_0f7a4 h12) ?_
      refine dx_aload_n (pc := 15) hx dX0_canBeSung_15 rfl ?_
      refine dx_iload_n (pc := 16) hx dX0_canBeSung_16 rfl ?_
      refine dx_iload_n (pc := 17) hx dX0_canBeSung_17 rfl ?_
      obtain ⟨r18, h18, h⟩ := Option.bind_eq_some_iff.mp h
      refine dx_callVir (pc := 18) (As := [.int x1, .int x2]) (rest := [.int r12]) hx dX0_canBeSung_18 k_X0_81 rfl rfl rfl rfl (dc_le rfl) (dc_le rfl) (dc_le rfl) (dc_le rfl) rfl (th_X0_needOf_15 h18) ?_
      refine dx_icmp_ge (pc := 21) hx dX0_canBeSung_21 (tgt := 26) (by decide) (fun c21 => ?_) (fun c21 => ?_)
      · replace h := (if_pos c21).symm.trans h
        refine dx_iinc (pc := 26) hx dX0_canBeSung_26 rfl (v := x2 + nI 1) (congrArg (fun z => x2 + z) kc_1) (dc_le rfl) (ls' := [some (.ref 15), some (.int x1), some (.int (x2 + nI 1))]) rfl ?_
        refine dx_goto (pc := 29) hx dX0_canBeSung_29 (tgt := 2) (by decide) ?_
        exact (ih (x2 + nI 1) q h hk hr)
      · replace h := (if_neg c21).symm.trans h
        refine dx_iconst (pc := 24) hx dX0_canBeSung_24 kc_0 ?_
        obtain rfl := Option.some.inj h
        exact dx_zret hO (pc := 25) dX0_canBeSung_25 rfl rfl (hr (nI 0) rfl)
set_option maxHeartbeats 4000000 in
set_option maxRecDepth 100000 in
theorem th_X0_canBeSung_15 {σ : dc_HP} {x1 : Int32} {r : Int32} (h : fn_X0_canBeSung σ 15 x1 = some r) : dc_G mX0_canBeSung [.ref 15, .int x1] σ (dc_qi (fun x τ => x = r ∧ τ = σ)) := by
  intro κ hO
  have hx : dc_Cx κ RX0 cX0_canBeSung 3 2 45 := hO.1
  show dc_X κ 0 [some (.ref 15), some (.int x1), none] [] σ
  unfold fn_X0_canBeSung at h
  refine dx_iconst (pc := 0) hx dX0_canBeSung_0 kc_0 ?_
  refine dx_istore_n (pc := 1) hx dX0_canBeSung_1 (dc_le rfl) (ls' := [some (.ref 15), some (.int x1), some (.int (nI 0))]) rfl ?_
  obtain ⟨q9, h2, h⟩ := Option.bind_eq_some_iff.mp h
  refine (tl_X0_canBeSung_15_L2 hO σ x1 200 (nI 0) q9 h2 (fun q2 e9 => ?_) (fun r9 e9 => ?_))
  rotate_left
  · subst e9
    obtain rfl := Option.some.inj h
    exact ⟨_, rfl, rfl, rfl⟩
  subst e9
  replace h := dc_inr h
  refine dx_iconst (pc := 32) hx dX0_canBeSung_32 kc_1 ?_
  obtain rfl := Option.some.inj h
  exact dx_zret hO (pc := 33) dX0_canBeSung_33 rfl rfl ⟨_, rfl, rfl, rfl⟩
set_option maxHeartbeats 4000000 in
set_option maxRecDepth 100000 in
theorem th_X8_bit {σ : dc_HP} {x0 : Int32} {x1 : Int32} {r : Int32} (h : fn_X8_bit x0 x1 = some r) : dc_G mX8_bit [.int x0, .int x1] σ (dc_qi (fun x τ => x = r ∧ τ = σ)) := by
  intro κ hO
  have hx : dc_Cx κ RX8 cX8_bit 2 0 0 := hO.1
  show dc_X κ 0 [some (.int x0), some (.int x1)] [] σ
  unfold fn_X8_bit at h
  refine dx_iload_n (pc := 0) hx dX8_bit_0 rfl ?_
  refine dx_iload_n (pc := 1) hx dX8_bit_1 rfl ?_
  refine dx_ishr (pc := 2) hx dX8_bit_2 ?_
  refine dx_iconst (pc := 3) hx dX8_bit_3 kc_1 ?_
  refine dx_iand (pc := 4) hx dX8_bit_4 ?_
  obtain rfl := Option.some.inj h
  exact dx_iret hO (pc := 5) dX8_bit_5 rfl ⟨_, rfl, rfl, rfl⟩
set_option maxHeartbeats 4000000 in
set_option maxRecDepth 100000 in
theorem tl_X0_deepestOf_15_L5 {κ : dc_KX} {Q : Option Value → dc_HP → Prop} (hO : dc_Ok κ mX0_deepestOf Q) (σ : dc_HP) (x1 : Int32) : ∀ (n : Nat) (x2 : Int32) (x3 : Int32) (q : Int32), fn_X0_deepestOf_L5 σ 15 x1 n x2 x3 = some q → ∀ (hk : dc_X κ 41 [some (.ref 15), some (.int x1), some (.int q), none] [] σ), dc_X κ 5 [some (.ref 15), some (.int x1), some (.int x2), some (.int x3)] [] σ := by
  have hx : dc_Cx κ RX0 cX0_deepestOf 4 2 42 := hO.1
  intro n
  induction n with
  | zero =>
    intro x2 x3 q h
    cases h
  | succ n ih =>
    intro x2 x3 q h hk
    unfold fn_X0_deepestOf_L5 at h
    refine dx_iload_n (pc := 5) hx dX0_deepestOf_5 rfl ?_
    refine dx_bipush (pc := 6) hx dX0_deepestOf_6 kb_8 ?_
    refine dx_icmp_ge (pc := 8) hx dX0_deepestOf_8 (tgt := 41) (by decide) (fun c8 => ?_) (fun c8 => ?_)
    · replace h := (if_pos c8).symm.trans h
      obtain rfl := Option.some.inj h
      exact dx_wk [true, true, true, false] <| hk
    · replace h := (if_neg c8).symm.trans h
      refine dx_iload_n (pc := 11) hx dX0_deepestOf_11 rfl ?_
      refine dx_iload_n (pc := 12) hx dX0_deepestOf_12 rfl ?_
      obtain ⟨r13, h13, h⟩ := Option.bind_eq_some_iff.mp h
      refine dx_callNir (pc := 13) (As := [.int x1, .int x3]) (rest := []) hx dX0_deepestOf_13 k_X0_75 rfl (dc_le rfl) (dc_le rfl) (dc_le rfl) (dc_le rfl) rfl (th_X8_bit h13) ?_
      refine dx_iconst (pc := 16) hx dX0_deepestOf_16 kc_1 ?_
      refine dx_icmp_ne (pc := 17) hx dX0_deepestOf_17 (tgt := 35) (by decide) (fun c17 => ?_) (fun c17 => ?_)
      · replace h := (if_neg c17).symm.trans h
        refine dx_iinc (pc := 35) hx dX0_deepestOf_35 rfl (v := x3 + nI 1) (congrArg (fun z => x3 + z) kc_1) (dc_le rfl) (ls' := [some (.ref 15), some (.int x1), some (.int x2), some (.int (x3 + nI 1))]) rfl ?_
        refine dx_goto (pc := 38) hx dX0_deepestOf_38 (tgt := 5) (by decide) ?_
        exact (ih x2 (x3 + nI 1) q h hk)
      · replace h := (if_pos c17).symm.trans h
        refine dx_aload_n (pc := 20) hx dX0_deepestOf_20 rfl ?_
        refine dx_iload_n (pc := 21) hx dX0_deepestOf_21 rfl ?_
        obtain ⟨r22, h22, h⟩ := Option.bind_eq_some_iff.mp h
        refine dx_callVir (pc := 22) (As := [.int x3]) (rest := []) hx dX0_deepestOf_22 k_X0_61 rfl rfl rfl rfl (dc_le rfl) (dc_le rfl) (dc_le rfl) (dc_le rfl) rfl (th_X0_debtOf_15 h22) ?_
        refine dx_aload_n (pc := 25) hx dX0_deepestOf_25 rfl ?_
        refine dx_iload_n (pc := 26) hx dX0_deepestOf_26 rfl ?_
        obtain ⟨r27, h27, h⟩ := Option.bind_eq_some_iff.mp h
        refine dx_callVir (pc := 27) (As := [.int x2]) (rest := [.int r22]) hx dX0_deepestOf_27 k_X0_61 rfl rfl rfl rfl (dc_le rfl) (dc_le rfl) (dc_le rfl) (dc_le rfl) rfl (th_X0_debtOf_15 h27) ?_
        refine dx_icmp_le (pc := 30) hx dX0_deepestOf_30 (tgt := 35) (by decide) (fun c30 => ?_) (fun c30 => ?_)
        · replace h := (if_pos c30).symm.trans h
          refine dx_iinc (pc := 35) hx dX0_deepestOf_35 rfl (v := x3 + nI 1) (congrArg (fun z => x3 + z) kc_1) (dc_le rfl) (ls' := [some (.ref 15), some (.int x1), some (.int x2), some (.int (x3 + nI 1))]) rfl ?_
          refine dx_goto (pc := 38) hx dX0_deepestOf_38 (tgt := 5) (by decide) ?_
          exact (ih x2 (x3 + nI 1) q h hk)
        · replace h := (if_neg c30).symm.trans h
          refine dx_iload_n (pc := 33) hx dX0_deepestOf_33 rfl ?_
          refine dx_istore_n (pc := 34) hx dX0_deepestOf_34 (dc_le rfl) (ls' := [some (.ref 15), some (.int x1), some (.int x3), some (.int x3)]) rfl ?_
          refine dx_iinc (pc := 35) hx dX0_deepestOf_35 rfl (v := x3 + nI 1) (congrArg (fun z => x3 + z) kc_1) (dc_le rfl) (ls' := [some (.ref 15), some (.int x1), some (.int x3), some (.int (x3 + nI 1))]) rfl ?_
          refine dx_goto (pc := 38) hx dX0_deepestOf_38 (tgt := 5) (by decide) ?_
          exact (ih x3 (x3 + nI 1) q h hk)
set_option maxHeartbeats 4000000 in
set_option maxRecDepth 100000 in
theorem th_X0_deepestOf_15 {σ : dc_HP} {x1 : Int32} {r : Int32} (h : fn_X0_deepestOf σ 15 x1 = some r) : dc_G mX0_deepestOf [.ref 15, .int x1] σ (dc_qi (fun x τ => x = r ∧ τ = σ)) := by
  intro κ hO
  have hx : dc_Cx κ RX0 cX0_deepestOf 4 2 42 := hO.1
  show dc_X κ 0 [some (.ref 15), some (.int x1), none, none] [] σ
  unfold fn_X0_deepestOf at h
  refine dx_bipush (pc := 0) hx dX0_deepestOf_0 kb_m6 ?_
  refine dx_istore_n (pc := 2) hx dX0_deepestOf_2 (dc_le rfl) (ls' := [some (.ref 15), some (.int x1), some (.int ((-6 : Int32))), none]) rfl ?_
  refine dx_iconst (pc := 3) hx dX0_deepestOf_3 kc_0 ?_
  refine dx_istore_n (pc := 4) hx dX0_deepestOf_4 (dc_le rfl) (ls' := [some (.ref 15), some (.int x1), some (.int ((-6 : Int32))), some (.int (nI 0))]) rfl ?_
  obtain ⟨q5, h5, h⟩ := Option.bind_eq_some_iff.mp h
  refine (tl_X0_deepestOf_15_L5 hO σ x1 200 ((-6 : Int32)) (nI 0) q5 h5 ?_)
  refine dx_iload_n (pc := 41) hx dX0_deepestOf_41 rfl ?_
  obtain rfl := Option.some.inj h
  exact dx_iret hO (pc := 42) dX0_deepestOf_42 rfl ⟨_, rfl, rfl, rfl⟩
set_option maxHeartbeats 4000000 in
set_option maxRecDepth 100000 in
theorem th_X0_barsOf_15 {σ : dc_HP} {x1 : Int32} {r : Int32} (h : fn_X0_barsOf σ 15 x1 = some r) : dc_G mX0_barsOf [.ref 15, .int x1] σ (dc_qi (fun x τ => x = r ∧ τ = σ)) := by
  intro κ hO
  have hx : dc_Cx κ RX0 cX0_barsOf 2 1 22 := hO.1
  show dc_X κ 0 [some (.ref 15), some (.int x1)] [] σ
  unfold fn_X0_barsOf at h
  refine dx_iload_n (pc := 0) hx dX0_barsOf_0 rfl ?_
  refine dx_iconst (pc := 1) hx dX0_barsOf_1 kc_0 ?_
  refine dx_iconst (pc := 2) hx dX0_barsOf_2 kc_5 ?_
  obtain ⟨r3, h3, h⟩ := Option.bind_eq_some_iff.mp h
  refine dx_callNir (pc := 3) (As := [.int x1, .int (nI 0), .int (nI 5)]) (rest := []) hx dX0_barsOf_3 k_X0_49 rfl (dc_le rfl) (dc_le rfl) (dc_le rfl) (dc_le rfl) rfl (th_X8_within h3) ?_
  refine dx_if_eq (pc := 6) hx dX0_barsOf_6 (tgt := 18) (by decide) (fun c6 => ?_) (fun c6 => ?_)
  · replace h := (if_pos c6).symm.trans h
    refine dx_iconst (pc := 18) hx dX0_barsOf_18 kc_0 ?_
    obtain rfl := Option.some.inj h
    exact dx_iret hO (pc := 19) dX0_barsOf_19 rfl ⟨_, rfl, rfl, rfl⟩
  · replace h := (if_neg c6).symm.trans h
    refine dx_aload_n (pc := 9) hx dX0_barsOf_9 rfl ?_
    refine dx_getR (r := 19) (pc := 10) hx dX0_barsOf_10 f_X0_21 rfl rfl ?_
    refine dx_iload_n (pc := 13) hx dX0_barsOf_13 rfl ?_
    by_cases g14 : x1 < 0 ∨ 6 ≤ x1.toNatClampNeg
    · cases (if_pos g14).symm.trans h
    replace h := (if_neg g14).symm.trans h
    refine dx_iald (pc := 14) hx dX0_barsOf_14 rfl g14 ?_
    refine dx_goto (pc := 15) hx dX0_barsOf_15 (tgt := 19) (by decide) ?_
    obtain rfl := Option.some.inj h
    exact dx_iret hO (pc := 19) dX0_barsOf_19 rfl ⟨_, rfl, rfl, rfl⟩
set_option maxHeartbeats 4000000 in
set_option maxRecDepth 100000 in
theorem th_X0_payOf_15 {σ : dc_HP} {x1 : Int32} {r : Int32} (h : fn_X0_payOf σ 15 x1 = some r) : dc_G mX0_payOf [.ref 15, .int x1] σ (dc_qi (fun x τ => x = r ∧ τ = σ)) := by
  intro κ hO
  have hx : dc_Cx κ RX0 cX0_payOf 2 1 22 := hO.1
  show dc_X κ 0 [some (.ref 15), some (.int x1)] [] σ
  unfold fn_X0_payOf at h
  refine dx_iload_n (pc := 0) hx dX0_payOf_0 rfl ?_
  refine dx_iconst (pc := 1) hx dX0_payOf_1 kc_0 ?_
  refine dx_iconst (pc := 2) hx dX0_payOf_2 kc_5 ?_
  obtain ⟨r3, h3, h⟩ := Option.bind_eq_some_iff.mp h
  refine dx_callNir (pc := 3) (As := [.int x1, .int (nI 0), .int (nI 5)]) (rest := []) hx dX0_payOf_3 k_X0_49 rfl (dc_le rfl) (dc_le rfl) (dc_le rfl) (dc_le rfl) rfl (th_X8_within h3) ?_
  refine dx_if_eq (pc := 6) hx dX0_payOf_6 (tgt := 18) (by decide) (fun c6 => ?_) (fun c6 => ?_)
  · replace h := (if_pos c6).symm.trans h
    refine dx_iconst (pc := 18) hx dX0_payOf_18 kc_0 ?_
    obtain rfl := Option.some.inj h
    exact dx_iret hO (pc := 19) dX0_payOf_19 rfl ⟨_, rfl, rfl, rfl⟩
  · replace h := (if_neg c6).symm.trans h
    refine dx_aload_n (pc := 9) hx dX0_payOf_9 rfl ?_
    refine dx_getR (r := 20) (pc := 10) hx dX0_payOf_10 f_X0_24 rfl rfl ?_
    refine dx_iload_n (pc := 13) hx dX0_payOf_13 rfl ?_
    by_cases g14 : x1 < 0 ∨ 6 ≤ x1.toNatClampNeg
    · cases (if_pos g14).symm.trans h
    replace h := (if_neg g14).symm.trans h
    refine dx_iald (pc := 14) hx dX0_payOf_14 rfl g14 ?_
    refine dx_goto (pc := 15) hx dX0_payOf_15 (tgt := 19) (by decide) ?_
    obtain rfl := Option.some.inj h
    exact dx_iret hO (pc := 19) dX0_payOf_19 rfl ⟨_, rfl, rfl, rfl⟩
set_option maxHeartbeats 4000000 in
set_option maxRecDepth 100000 in
theorem th_X0_worthOf_15 {σ : dc_HP} {x1 : Int32} {r : Int32} (h : fn_X0_worthOf σ 15 x1 = some r) : dc_G mX0_worthOf [.ref 15, .int x1] σ (dc_qi (fun x τ => x = r ∧ τ = σ)) := by
  intro κ hO
  have hx : dc_Cx κ RX0 cX0_worthOf 2 2 43 := hO.1
  show dc_X κ 0 [some (.ref 15), some (.int x1)] [] σ
  unfold fn_X0_worthOf at h
  refine dx_aload_n (pc := 0) hx dX0_worthOf_0 rfl ?_
  refine dx_iload_n (pc := 1) hx dX0_worthOf_1 rfl ?_
  obtain ⟨r2, h2, h⟩ := Option.bind_eq_some_iff.mp h
  refine dx_callVir (pc := 2) (As := [.int x1]) (rest := []) hx dX0_worthOf_2 k_X0_69 rfl rfl rfl rfl (dc_le rfl) (dc_le rfl) (dc_le rfl) (dc_le rfl) rfl (th_X0_barsOf_15 h2) ?_
  refine dx_aload_n (pc := 5) hx dX0_worthOf_5 rfl ?_
  refine dx_iload_n (pc := 6) hx dX0_worthOf_6 rfl ?_
  obtain ⟨r7, h7, h⟩ := Option.bind_eq_some_iff.mp h
  refine dx_callVir (pc := 7) (As := [.int x1]) (rest := [.int r2]) hx dX0_worthOf_7 k_X0_72 rfl rfl rfl rfl (dc_le rfl) (dc_le rfl) (dc_le rfl) (dc_le rfl) rfl (th_X0_payOf_15 h7) ?_
  refine dx_imul (pc := 10) hx dX0_worthOf_10 ?_
  obtain rfl := Option.some.inj h
  exact dx_iret hO (pc := 11) dX0_worthOf_11 rfl ⟨_, rfl, rfl, rfl⟩
set_option maxHeartbeats 4000000 in
set_option maxRecDepth 100000 in
theorem th_X0_singOff_15 {σ : dc_HP} {x1 : Int32} {x2 : Int32} {r : dc_HP} (h : fn_X0_singOff σ 15 x1 x2 = some r) : dc_G mX0_singOff [.ref 15, .int x1, .int x2] σ (dc_qv (fun τ => τ = r)) := by
  intro κ hO
  have hx : dc_Cx κ RX0 cX0_singOff 4 2 43 := hO.1
  show dc_X κ 0 [some (.ref 15), some (.int x1), some (.int x2), none] [] σ
  unfold fn_X0_singOff at h
  refine dx_aload_n (pc := 0) hx dX0_singOff_0 rfl ?_
  refine dx_iload_n (pc := 1) hx dX0_singOff_1 rfl ?_
  obtain ⟨r2, h2, h⟩ := Option.bind_eq_some_iff.mp h
  refine dx_callVir (pc := 2) (As := [.int x1]) (rest := []) hx dX0_singOff_2 k_X0_53 rfl rfl rfl rfl (dc_le rfl) (dc_le rfl) (dc_le rfl) (dc_le rfl) rfl (th_X0_has_15 h2) ?_
  refine dx_if_eq (pc := 5) hx dX0_singOff_5 (tgt := 52) (by decide) (fun c5 => ?_) (fun c5 => ?_)
  · replace h := (if_pos c5).symm.trans h
    obtain rfl := Option.some.inj h
    exact dx_vret hO (pc := 52) dX0_singOff_52 rfl ⟨rfl, rfl⟩
  · replace h := (if_neg c5).symm.trans h
    refine dx_iload_n (pc := 8) hx dX0_singOff_8 rfl ?_
    refine dx_aload_n (pc := 9) hx dX0_singOff_9 rfl ?_
    refine dx_iload_n (pc := 10) hx dX0_singOff_10 rfl ?_
    obtain ⟨r11, h11, h⟩ := Option.bind_eq_some_iff.mp h
    refine dx_callVir (pc := 11) (As := [.int x1]) (rest := [.int x2]) hx dX0_singOff_11 k_X0_61 rfl rfl rfl rfl (dc_le rfl) (dc_le rfl) (dc_le rfl) (dc_le rfl) rfl (th_X0_debtOf_15 h11) ?_
    refine dx_mmin (pc := 14) hx dX0_singOff_14 k_X0_109 (dc_le rfl) (dc_le rfl) ?_
    refine dx_istore_n (pc := 17) hx dX0_singOff_17 (dc_le rfl) (ls' := [some (.ref 15), some (.int x1), some (.int x2), some (.int (if r11 < x2 then r11 else x2))]) rfl ?_
    refine dx_aload_n (pc := 18) hx dX0_singOff_18 rfl ?_
    refine dx_iload_n (pc := 19) hx dX0_singOff_19 rfl ?_
    refine dx_aload_n (pc := 20) hx dX0_singOff_20 rfl ?_
    refine dx_iload_n (pc := 21) hx dX0_singOff_21 rfl ?_
    obtain ⟨r22, h22, h⟩ := Option.bind_eq_some_iff.mp h
    refine dx_callVir (pc := 22) (As := [.int x1]) (rest := [.int x1, .ref 15]) hx dX0_singOff_22 k_X0_61 rfl rfl rfl rfl (dc_le rfl) (dc_le rfl) (dc_le rfl) (dc_le rfl) rfl (th_X0_debtOf_15 h22) ?_
    refine dx_iload_n (pc := 25) hx dX0_singOff_25 rfl ?_
    refine dx_isub (pc := 26) hx dX0_singOff_26 ?_
    obtain ⟨r27, h27, h⟩ := Option.bind_eq_some_iff.mp h
    refine dx_callVvw (pc := 27) (As := [.int x1, .int (r22 - (if r11 < x2 then r11 else x2))]) (rest := []) hx dX0_singOff_27 k_X0_114 rfl rfl rfl rfl (dc_le rfl) (dc_le rfl) (dc_le rfl) (dc_le rfl) rfl (th_X0_owe_15 h27) ?_
    refine dx_aload_n (pc := 30) hx dX0_singOff_30 rfl ?_
    refine dx_dup (pc := 31) hx dX0_singOff_31 rfl ?_
    refine dx_getI (pc := 32) hx dX0_singOff_32 f_X0_40 rfl rfl ?_
    refine dx_iload_n (pc := 35) hx dX0_singOff_35 rfl ?_
    refine dx_iadd (pc := 36) hx dX0_singOff_36 ?_
    refine dx_putI (pc := 37) hx dX0_singOff_37 f_X0_40 rfl rfl tyX0_ok rfl (Or.inl ⟨rfl, rfl⟩) ?_
    refine dx_nm (fun s37 e37 => ?_)
    replace h := dc_lt e37 h
    refine dx_aload_n (pc := 40) hx dX0_singOff_40 rfl ?_
    refine dx_dup (pc := 41) hx dX0_singOff_41 rfl ?_
    refine dx_getI (pc := 42) hx dX0_singOff_42 f_X0_34 rfl rfl ?_
    refine dx_iconst (pc := 45) hx dX0_singOff_45 kc_1 ?_
    refine dx_iload_n (pc := 46) hx dX0_singOff_46 rfl ?_
    refine dx_ishl (pc := 47) hx dX0_singOff_47 ?_
    refine dx_ior (pc := 48) hx dX0_singOff_48 ?_
    refine dx_putI (pc := 49) hx dX0_singOff_49 f_X0_34 rfl rfl tyX0_ok rfl (Or.inl ⟨rfl, rfl⟩) ?_
    obtain rfl := Option.some.inj h
    exact dx_vret hO (pc := 52) dX0_singOff_52 rfl ⟨rfl, rfl⟩
set_option maxHeartbeats 4000000 in
set_option maxRecDepth 100000 in
theorem tl_X0_sing_15_L19 {κ : dc_KX} {Q : Option Value → dc_HP → Prop} (hO : dc_Ok κ mX0_sing Q) (x1 : Int32) (x2 : Int32) : ∀ (n : Nat) (x3 : Int32) (σ : dc_HP) (q : dc_HP), fn_X0_sing_L19 15 x1 x2 n x3 σ = some q → ∀ (hk : dc_X κ 53 [some (.ref 15), some (.int x1), some (.int x2), none] [] q), dc_X κ 19 [some (.ref 15), some (.int x1), some (.int x2), some (.int x3)] [] σ := by
  have hx : dc_Cx κ RX0 cX0_sing 4 3 67 := hO.1
  intro n
  induction n with
  | zero =>
    intro x3 σ q h
    cases h
  | succ n ih =>
    intro x3 σ q h hk
    unfold fn_X0_sing_L19 at h
    refine dx_iload_n (pc := 19) hx dX0_sing_19 rfl ?_
    refine dx_aload_n (pc := 20) hx dX0_sing_20 rfl ?_
    refine dx_iload_n (pc := 21) hx dX0_sing_21 rfl ?_
    refine dx_iload_n (pc := 22) hx dX0_sing_22 rfl ?_
    obtain ⟨r23, h23, h⟩ := Option.bind_eq_some_iff.mp h
    refine dx_callVir (pc := 23) (As := [.int x1, .int x2]) (rest := [.int x3]) hx dX0_sing_23 k_X0_81 rfl rfl rfl rfl (dc_le rfl) (dc_le rfl) (dc_le rfl) (dc_le rfl) rfl (th_X0_needOf_15 h23) ?_
    refine dx_icmp_ge (pc := 26) hx dX0_sing_26 (tgt := 53) (by decide) (fun c26 => ?_) (fun c26 => ?_)
    · replace h := (if_pos c26).symm.trans h
      obtain rfl := Option.some.inj h
      exact dx_wk [true, true, true, false] <| hk
    · replace h := (if_neg c26).symm.trans h
      refine dx_aload_n (pc := 29) hx dX0_sing_29 rfl ?_
      refine dx_aload_n (pc := 30) hx dX0_sing_30 rfl ?_
      refine dx_aload_n (pc := 31) hx dX0_sing_31 rfl ?_
      refine dx_iload_n (pc := 32) hx dX0_sing_32 rfl ?_
      obtain ⟨r33, h33, h⟩ := Option.bind_eq_some_iff.mp h
      refine dx_callVir (pc := 33) (As := [.int x2]) (rest := [.ref 15, .ref 15]) hx dX0_sing_33 k_X0_96 rfl rfl rfl rfl (dc_le rfl) (dc_le rfl) (dc_le rfl) (dc_le rfl) rfl (th_X0_readyIn_15 h33) ?_
      obtain ⟨r36, h36, h⟩ := Option.bind_eq_some_iff.mp h
      refine dx_callVir (pc := 36) (As := [.int r33]) (rest := [.ref 15]) hx dX0_sing_36 k_X0_102 rfl rfl rfl rfl (dc_le rfl) (dc_le rfl) (dc_le rfl) (dc_le rfl) rfl (th_X0_deepestOf_15 h36) ?_
      refine dx_aload_n (pc := 39) hx dX0_sing_39 rfl ?_
      refine dx_iload_n (pc := 40) hx dX0_sing_40 rfl ?_
      obtain ⟨r41, h41, h⟩ := Option.bind_eq_some_iff.mp h
      refine dx_callVir (pc := 41) (As := [.int x1]) (rest := [.int r36, .ref 15]) hx dX0_sing_41 k_X0_78 rfl rfl rfl rfl (dc_le rfl) (dc_le rfl) (dc_le rfl) (dc_le rfl) rfl (th_X0_worthOf_15 h41) ?_
      obtain ⟨r44, h44, h⟩ := Option.bind_eq_some_iff.mp h
      refine dx_callVvw (pc := 44) (As := [.int r36, .int r41]) (rest := []) hx dX0_sing_44 k_X0_105 rfl rfl rfl rfl (dc_le rfl) (dc_le rfl) (dc_le rfl) (dc_le rfl) rfl (th_X0_singOff_15 h44) ?_
      refine dx_iinc (pc := 47) hx dX0_sing_47 rfl (v := x3 + nI 1) (congrArg (fun z => x3 + z) kc_1) (dc_le rfl) (ls' := [some (.ref 15), some (.int x1), some (.int x2), some (.int (x3 + nI 1))]) rfl ?_
      refine dx_goto (pc := 50) hx dX0_sing_50 (tgt := 19) (by decide) ?_
      exact (ih (x3 + nI 1) r44 q h hk)
set_option maxHeartbeats 4000000 in
set_option maxRecDepth 100000 in
theorem tl_X0_sing_15_L12 {κ : dc_KX} {Q : Option Value → dc_HP → Prop} (hO : dc_Ok κ mX0_sing Q) (x1 : Int32) : ∀ (n : Nat) (x2 : Int32) (σ : dc_HP) (q : dc_HP), fn_X0_sing_L12 15 x1 n x2 σ = some q → ∀ (hk : dc_X κ 59 [some (.ref 15), some (.int x1), none, none] [] q), dc_X κ 12 [some (.ref 15), some (.int x1), some (.int x2), none] [] σ := by
  have hx : dc_Cx κ RX0 cX0_sing 4 3 67 := hO.1
  intro n
  induction n with
  | zero =>
    intro x2 σ q h
    cases h
  | succ n ih =>
    intro x2 σ q h hk
    unfold fn_X0_sing_L12 at h
    refine dx_iload_n (pc := 12) hx dX0_sing_12 rfl ?_
    refine dx_iconst (pc := 13) hx dX0_sing_13 kc_4 ?_
    refine dx_icmp_ge (pc := 14) hx dX0_sing_14 (tgt := 59) (by decide) (fun c14 => ?_) (fun c14 => ?_)
    · replace h := (if_pos c14).symm.trans h
      obtain rfl := Option.some.inj h
      exact dx_wk [true, true, false, true] <| hk
    · replace h := (if_neg c14).symm.trans h
      refine dx_iconst (pc := 17) hx dX0_sing_17 kc_0 ?_
      refine dx_istore_n (pc := 18) hx dX0_sing_18 (dc_le rfl) (ls' := [some (.ref 15), some (.int x1), some (.int x2), some (.int (nI 0))]) rfl ?_
      obtain ⟨q19, h19, h⟩ := Option.bind_eq_some_iff.mp h
      refine (tl_X0_sing_15_L19 hO x1 x2 200 (nI 0) σ q19 h19 ?_)
      refine dx_iinc (pc := 53) hx dX0_sing_53 rfl (v := x2 + nI 1) (congrArg (fun z => x2 + z) kc_1) (dc_le rfl) (ls' := [some (.ref 15), some (.int x1), some (.int (x2 + nI 1)), none]) rfl ?_
      refine dx_goto (pc := 56) hx dX0_sing_56 (tgt := 12) (by decide) ?_
      exact (ih (x2 + nI 1) q19 q h hk)
set_option maxHeartbeats 4000000 in
set_option maxRecDepth 100000 in
theorem th_X0_sing_15 {σ : dc_HP} {x1 : Int32} {r : Int32 × dc_HP} (h : fn_X0_sing σ 15 x1 = some r) : dc_G mX0_sing [.ref 15, .int x1] σ (dc_qi (fun x τ => x = r.1 ∧ τ = r.2)) := by
  intro κ hO
  have hx : dc_Cx κ RX0 cX0_sing 4 3 67 := hO.1
  show dc_X κ 0 [some (.ref 15), some (.int x1), none, none] [] σ
  unfold fn_X0_sing at h
  refine dx_aload_n (pc := 0) hx dX0_sing_0 rfl ?_
  refine dx_iload_n (pc := 1) hx dX0_sing_1 rfl ?_
  obtain ⟨r2, h2, h⟩ := Option.bind_eq_some_iff.mp h
  refine dx_callVir (pc := 2) (As := [.int x1]) (rest := []) hx dX0_sing_2 k_X0_99 rfl rfl rfl rfl (dc_le rfl) (dc_le rfl) (dc_le rfl) (dc_le rfl) rfl (th_X0_canBeSung_15 h2) ?_
  refine dx_if_ne (pc := 5) hx dX0_sing_5 (tgt := 10) (by decide) (fun c5 => ?_) (fun c5 => ?_)
  · replace h := (if_neg c5).symm.trans h
    refine dx_iconst (pc := 10) hx dX0_sing_10 kc_0 ?_
    refine dx_istore_n (pc := 11) hx dX0_sing_11 (dc_le rfl) (ls' := [some (.ref 15), some (.int x1), some (.int (nI 0)), none]) rfl ?_
    obtain ⟨q12, h12, h⟩ := Option.bind_eq_some_iff.mp h
    refine (tl_X0_sing_15_L12 hO x1 200 (nI 0) σ q12 h12 ?_)
    refine dx_iconst (pc := 59) hx dX0_sing_59 kc_0 ?_
    obtain rfl := Option.some.inj h
    exact dx_iret hO (pc := 60) dX0_sing_60 rfl ⟨_, rfl, rfl, rfl⟩
  · replace h := (if_pos c5).symm.trans h
    refine dx_iconst (pc := 8) hx dX0_sing_8 kc_4 ?_
    obtain rfl := Option.some.inj h
    exact dx_iret hO (pc := 9) dX0_sing_9 rfl ⟨_, rfl, rfl, rfl⟩
set_option maxHeartbeats 4000000 in
set_option maxRecDepth 100000 in
theorem tl_X0_endEvening_15_L13 {κ : dc_KX} {Q : Option Value → dc_HP → Prop} (hO : dc_Ok κ mX0_endEvening Q) : ∀ (n : Nat) (x1 : Int32) (σ : dc_HP) (q : dc_HP), fn_X0_endEvening_L13 15 n x1 σ = some q → ∀ (hk : dc_X κ 71 [some (.ref 15), none, none] [] q), dc_X κ 13 [some (.ref 15), some (.int x1), none] [] σ := by
  have hx : dc_Cx κ RX0 cX0_endEvening 3 2 43 := hO.1
  intro n
  induction n with
  | zero =>
    intro x1 σ q h
    cases h
  | succ n ih =>
    intro x1 σ q h hk
    unfold fn_X0_endEvening_L13 at h
    refine dx_iload_n (pc := 13) hx dX0_endEvening_13 rfl ?_
    refine dx_bipush (pc := 14) hx dX0_endEvening_14 kb_8 ?_
    refine dx_icmp_ge (pc := 16) hx dX0_endEvening_16 (tgt := 71) (by decide) (fun c16 => ?_) (fun c16 => ?_)
    · replace h := (if_pos c16).symm.trans h
      obtain rfl := Option.some.inj h
      exact dx_wk [true, false, true] <| hk
    · replace h := (if_neg c16).symm.trans h
      refine dx_aload_n (pc := 19) hx dX0_endEvening_19 rfl ?_
      refine dx_getI (pc := 20) hx dX0_endEvening_20 f_X0_31 rfl rfl ?_
      refine dx_iload_n (pc := 23) hx dX0_endEvening_23 rfl ?_
      obtain ⟨r24, h24, h⟩ := Option.bind_eq_some_iff.mp h
      refine dx_callNir (pc := 24) (As := [.int (σ.1 15 1), .int x1]) (rest := []) hx dX0_endEvening_24 k_X0_75 rfl (dc_le rfl) (dc_le rfl) (dc_le rfl) (dc_le rfl) rfl (th_X8_bit h24) ?_
      refine dx_iconst (pc := 27) hx dX0_endEvening_27 kc_1 ?_
      refine dx_icmp_eq (pc := 28) hx dX0_endEvening_28 (tgt := 42) (by decide) (fun c28 => ?_) (fun c28 => ?_)
      · replace h := (if_pos c28).symm.trans h
        refine dx_aload_n (pc := 42) hx dX0_endEvening_42 rfl ?_
        refine dx_iload_n (pc := 43) hx dX0_endEvening_43 rfl ?_
        obtain ⟨r44, h44, h⟩ := Option.bind_eq_some_iff.mp h
        refine dx_callVir (pc := 44) (As := [.int x1]) (rest := []) hx dX0_endEvening_44 k_X0_61 rfl rfl rfl rfl (dc_le rfl) (dc_le rfl) (dc_le rfl) (dc_le rfl) rfl (th_X0_debtOf_15 h44) ?_
        refine dx_istore_n (pc := 47) hx dX0_endEvening_47 (dc_le rfl) (ls' := [some (.ref 15), some (.int x1), some (.int r44)]) rfl ?_
        refine dx_aload_n (pc := 48) hx dX0_endEvening_48 rfl ?_
        refine dx_iload_n (pc := 49) hx dX0_endEvening_49 rfl ?_
        refine dx_sipush (pc := 50) hx dX0_endEvening_50 ks_999 ?_
        refine dx_iload_n (pc := 53) hx dX0_endEvening_53 rfl ?_
        refine dx_iload_n (pc := 54) hx dX0_endEvening_54 rfl ?_
        refine dx_bipush (pc := 55) hx dX0_endEvening_55 kb_10 ?_
        refine dx_idiv (pc := 57) hx dX0_endEvening_57 (by decide) ?_
        refine dx_iadd (pc := 58) hx dX0_endEvening_58 ?_
        refine dx_mmin (pc := 59) hx dX0_endEvening_59 k_X0_109 (dc_le rfl) (dc_le rfl) ?_
        obtain ⟨r62, h62, h⟩ := Option.bind_eq_some_iff.mp h
        refine dx_callVvw (pc := 62) (As := [.int x1, .int (if (r44 + (r44 / (nI 10))) < (nI 999) then (r44 + (r44 / (nI 10))) else (nI 999))]) (rest := []) hx dX0_endEvening_62 k_X0_114 rfl rfl rfl rfl (dc_le rfl) (dc_le rfl) (dc_le rfl) (dc_le rfl) rfl (th_X0_owe_15 h62) ?_
        refine dx_iinc (pc := 65) hx dX0_endEvening_65 rfl (v := x1 + nI 1) (congrArg (fun z => x1 + z) kc_1) (dc_le rfl) (ls' := [some (.ref 15), some (.int (x1 + nI 1)), some (.int r44)]) rfl ?_
        refine dx_goto (pc := 68) hx dX0_endEvening_68 (tgt := 13) (by decide) ?_
        exact dx_wk [true, true, false] <| (ih (x1 + nI 1) r62 q h hk)
      · replace h := (if_neg c28).symm.trans h
        refine dx_aload_n (pc := 31) hx dX0_endEvening_31 rfl ?_
        refine dx_getI (pc := 32) hx dX0_endEvening_32 f_X0_34 rfl rfl ?_
        refine dx_iload_n (pc := 35) hx dX0_endEvening_35 rfl ?_
        obtain ⟨r36, h36, h⟩ := Option.bind_eq_some_iff.mp h
        refine dx_callNir (pc := 36) (As := [.int (σ.1 15 2), .int x1]) (rest := []) hx dX0_endEvening_36 k_X0_75 rfl (dc_le rfl) (dc_le rfl) (dc_le rfl) (dc_le rfl) rfl (th_X8_bit h36) ?_
        refine dx_if_ne (pc := 39) hx dX0_endEvening_39 (tgt := 65) (by decide) (fun c39 => ?_) (fun c39 => ?_)
        · replace h := (if_neg c39).symm.trans h
          refine dx_iinc (pc := 65) hx dX0_endEvening_65 rfl (v := x1 + nI 1) (congrArg (fun z => x1 + z) kc_1) (dc_le rfl) (ls' := [some (.ref 15), some (.int (x1 + nI 1)), none]) rfl ?_
          refine dx_goto (pc := 68) hx dX0_endEvening_68 (tgt := 13) (by decide) ?_
          exact (ih (x1 + nI 1) σ q h hk)
        · replace h := (if_pos c39).symm.trans h
          refine dx_aload_n (pc := 42) hx dX0_endEvening_42 rfl ?_
          refine dx_iload_n (pc := 43) hx dX0_endEvening_43 rfl ?_
          obtain ⟨r44, h44, h⟩ := Option.bind_eq_some_iff.mp h
          refine dx_callVir (pc := 44) (As := [.int x1]) (rest := []) hx dX0_endEvening_44 k_X0_61 rfl rfl rfl rfl (dc_le rfl) (dc_le rfl) (dc_le rfl) (dc_le rfl) rfl (th_X0_debtOf_15 h44) ?_
          refine dx_istore_n (pc := 47) hx dX0_endEvening_47 (dc_le rfl) (ls' := [some (.ref 15), some (.int x1), some (.int r44)]) rfl ?_
          refine dx_aload_n (pc := 48) hx dX0_endEvening_48 rfl ?_
          refine dx_iload_n (pc := 49) hx dX0_endEvening_49 rfl ?_
          refine dx_sipush (pc := 50) hx dX0_endEvening_50 ks_999 ?_
          refine dx_iload_n (pc := 53) hx dX0_endEvening_53 rfl ?_
          refine dx_iload_n (pc := 54) hx dX0_endEvening_54 rfl ?_
          refine dx_bipush (pc := 55) hx dX0_endEvening_55 kb_10 ?_
          refine dx_idiv (pc := 57) hx dX0_endEvening_57 (by decide) ?_
          refine dx_iadd (pc := 58) hx dX0_endEvening_58 ?_
          refine dx_mmin (pc := 59) hx dX0_endEvening_59 k_X0_109 (dc_le rfl) (dc_le rfl) ?_
          obtain ⟨r62, h62, h⟩ := Option.bind_eq_some_iff.mp h
          refine dx_callVvw (pc := 62) (As := [.int x1, .int (if (r44 + (r44 / (nI 10))) < (nI 999) then (r44 + (r44 / (nI 10))) else (nI 999))]) (rest := []) hx dX0_endEvening_62 k_X0_114 rfl rfl rfl rfl (dc_le rfl) (dc_le rfl) (dc_le rfl) (dc_le rfl) rfl (th_X0_owe_15 h62) ?_
          refine dx_iinc (pc := 65) hx dX0_endEvening_65 rfl (v := x1 + nI 1) (congrArg (fun z => x1 + z) kc_1) (dc_le rfl) (ls' := [some (.ref 15), some (.int (x1 + nI 1)), some (.int r44)]) rfl ?_
          refine dx_goto (pc := 68) hx dX0_endEvening_68 (tgt := 13) (by decide) ?_
          exact dx_wk [true, true, false] <| (ih (x1 + nI 1) r62 q h hk)
set_option maxHeartbeats 4000000 in
set_option maxRecDepth 100000 in
theorem th_X0_endEvening_15 {σ : dc_HP} {r : Int32 × dc_HP} (h : fn_X0_endEvening σ 15 = some r) : dc_G mX0_endEvening [.ref 15] σ (dc_qi (fun x τ => x = r.1 ∧ τ = r.2)) := by
  intro κ hO
  have hx : dc_Cx κ RX0 cX0_endEvening 3 2 43 := hO.1
  show dc_X κ 0 [some (.ref 15), none, none] [] σ
  unfold fn_X0_endEvening at h
  refine dx_aload_n (pc := 0) hx dX0_endEvening_0 rfl ?_
  refine dx_getI (pc := 1) hx dX0_endEvening_1 f_X0_37 rfl rfl ?_
  refine dx_bipush (pc := 4) hx dX0_endEvening_4 kb_99 ?_
  refine dx_icmp_lt (pc := 6) hx dX0_endEvening_6 (tgt := 11) (by decide) (fun c6 => ?_) (fun c6 => ?_)
  · replace h := (if_pos c6).symm.trans h
    refine dx_iconst (pc := 11) hx dX0_endEvening_11 kc_0 ?_
    refine dx_istore_n (pc := 12) hx dX0_endEvening_12 (dc_le rfl) (ls' := [some (.ref 15), some (.int (nI 0)), none]) rfl ?_
    obtain ⟨q13, h13, h⟩ := Option.bind_eq_some_iff.mp h
    refine (tl_X0_endEvening_15_L13 hO  200 (nI 0) σ q13 h13 ?_)
    refine dx_aload_n (pc := 71) hx dX0_endEvening_71 rfl ?_
    refine dx_iconst (pc := 72) hx dX0_endEvening_72 kc_0 ?_
    refine dx_putI (pc := 73) hx dX0_endEvening_73 f_X0_34 rfl rfl tyX0_ok rfl (Or.inl ⟨rfl, rfl⟩) ?_
    refine dx_nm (fun s73 e73 => ?_)
    replace h := dc_lt e73 h
    refine dx_aload_n (pc := 76) hx dX0_endEvening_76 rfl ?_
    refine dx_dup (pc := 77) hx dX0_endEvening_77 rfl ?_
    refine dx_getI (pc := 78) hx dX0_endEvening_78 f_X0_37 rfl rfl ?_
    refine dx_iconst (pc := 81) hx dX0_endEvening_81 kc_1 ?_
    refine dx_iadd (pc := 82) hx dX0_endEvening_82 ?_
    refine dx_putI (pc := 83) hx dX0_endEvening_83 f_X0_37 rfl rfl tyX0_ok rfl (Or.inl ⟨rfl, rfl⟩) ?_
    refine dx_nm (fun s83 e83 => ?_)
    replace h := dc_lt e83 h
    refine dx_iconst (pc := 86) hx dX0_endEvening_86 kc_0 ?_
    obtain rfl := Option.some.inj h
    exact dx_iret hO (pc := 87) dX0_endEvening_87 rfl ⟨_, rfl, rfl, rfl⟩
  · replace h := (if_neg c6).symm.trans h
    refine dx_iconst (pc := 9) hx dX0_endEvening_9 kc_5 ?_
    obtain rfl := Option.some.inj h
    exact dx_iret hO (pc := 10) dX0_endEvening_10 rfl ⟨_, rfl, rfl, rfl⟩
set_option maxHeartbeats 4000000 in
set_option maxRecDepth 100000 in
theorem th_X7_act {σ : dc_HP} {x1 : Int32} {x2 : Int32} {x3 : Int32} {r : Int32 × dc_HP} (h : fn_X7_act σ x1 x2 x3 = some r) : dc_G mX7_act [.ref 14, .int x1, .int x2, .int x3] σ (dc_qi (fun x τ => x = r.1 ∧ τ = r.2)) := by
  intro κ hO
  have hx : dc_Cx κ RX7 cX7_act 5 4 90 := hO.1
  show dc_X κ 0 [some (.ref 14), some (.int x1), some (.int x2), some (.int x3), none] [] σ
  unfold fn_X7_act at h
  refine dx_iload_n (pc := 0) hx dX7_act_0 rfl ?_
  refine dx_bipush (pc := 1) hx dX7_act_1 kb_46 ?_
  refine dx_icmp_ne (pc := 3) hx dX7_act_3 (tgt := 14) (by decide) (fun c3 => ?_) (fun c3 => ?_)
  · replace h := (if_neg c3).symm.trans h
    refine dx_iload_n (pc := 14) hx dX7_act_14 rfl ?_
    obtain ⟨r15, h15, h⟩ := Option.bind_eq_some_iff.mp h
    refine dx_callSir (pc := 15) (As := [.int x1]) (rest := []) hx dX7_act_15 k_X7_68 rfl (dc_le rfl) (dc_le rfl) (dc_le rfl) (dc_le rfl) rfl (th_X4_isPiece h15) ?_
    refine dx_if_eq (pc := 18) hx dX7_act_18 (tgt := 33) (by decide) (fun c18 => ?_) (fun c18 => ?_)
    · replace h := (if_pos c18).symm.trans h
      refine dx_iload_n (pc := 33) hx dX7_act_33 rfl ?_
      refine dx_bipush (pc := 34) hx dX7_act_34 kb_65 ?_
      refine dx_isub (pc := 36) hx dX7_act_36 ?_
      refine dx_istore (pc := 37) hx dX7_act_37 (dc_le rfl) (ls' := [some (.ref 14), some (.int x1), some (.int x2), some (.int x3), some (.int (x1 - (nI 65)))]) rfl ?_
      refine dx_iload_n (pc := 39) hx dX7_act_39 rfl ?_
      by_cases c40_42 : x2 = nI 42
      · replace h := (if_pos c40_42).symm.trans h
        refine dx_lookup (pc := 40) hx dX7_act_40 (by decide) (off := 53) (by rw [c40_42]; decide) (tgt := 93) (by decide) ?_
        refine dx_aload_n (pc := 93) hx dX7_act_93 rfl ?_
        refine dx_getR (r := 15) (pc := 94) hx dX7_act_94 f_X7_12 rfl rfl ?_
        refine dx_iload (pc := 97) hx dX7_act_97 rfl ?_
        obtain ⟨r99, h99, h⟩ := Option.bind_eq_some_iff.mp h
        refine dx_callViw (pc := 99) (As := [.int (x1 - (nI 65))]) (rest := []) hx dX7_act_99 k_X7_88 rfl rfl rfl rfl (dc_le rfl) (dc_le rfl) (dc_le rfl) (dc_le rfl) rfl (th_X0_turnHoarse_15 h99) ?_
        obtain rfl := Option.some.inj h
        exact dx_iret hO (pc := 102) dX7_act_102 rfl ⟨_, rfl, rfl, rfl⟩
      replace h := (if_neg c40_42).symm.trans h
      by_cases c40_43 : x2 = nI 43
      · replace h := (if_pos c40_43).symm.trans h
        refine dx_lookup (pc := 40) hx dX7_act_40 (by decide) (off := 36) (by rw [c40_43]; decide) (tgt := 76) (by decide) ?_
        refine dx_aload_n (pc := 76) hx dX7_act_76 rfl ?_
        refine dx_getR (r := 15) (pc := 77) hx dX7_act_77 f_X7_12 rfl rfl ?_
        refine dx_iload (pc := 80) hx dX7_act_80 rfl ?_
        refine dx_bipush (pc := 82) hx dX7_act_82 kb_10 ?_
        refine dx_iload_n (pc := 84) hx dX7_act_84 rfl ?_
        refine dx_bipush (pc := 85) hx dX7_act_85 kb_48 ?_
        refine dx_isub (pc := 87) hx dX7_act_87 ?_
        refine dx_imul (pc := 88) hx dX7_act_88 ?_
        obtain ⟨r89, h89, h⟩ := Option.bind_eq_some_iff.mp h
        refine dx_callViw (pc := 89) (As := [.int (x1 - (nI 65)), .int ((nI 10) * (x3 - (nI 48)))]) (rest := []) hx dX7_act_89 k_X7_85 rfl rfl rfl rfl (dc_le rfl) (dc_le rfl) (dc_le rfl) (dc_le rfl) rfl (th_X0_borrow_15 h89) ?_
        obtain rfl := Option.some.inj h
        exact dx_iret hO (pc := 92) dX7_act_92 rfl ⟨_, rfl, rfl, rfl⟩
      replace h := (if_neg c40_43).symm.trans h
      by_cases c40_61 : x2 = nI 61
      · replace h := (if_pos c40_61).symm.trans h
        refine dx_lookup (pc := 40) hx dX7_act_40 (by decide) (off := 63) (by rw [c40_61]; decide) (tgt := 103) (by decide) ?_
        refine dx_aload_n (pc := 103) hx dX7_act_103 rfl ?_
        refine dx_getR (r := 15) (pc := 104) hx dX7_act_104 f_X7_12 rfl rfl ?_
        refine dx_iload (pc := 107) hx dX7_act_107 rfl ?_
        refine dx_iload_n (pc := 109) hx dX7_act_109 rfl ?_
        refine dx_bipush (pc := 110) hx dX7_act_110 kb_65 ?_
        refine dx_isub (pc := 112) hx dX7_act_112 ?_
        obtain ⟨r113, h113, h⟩ := Option.bind_eq_some_iff.mp h
        refine dx_callViw (pc := 113) (As := [.int (x1 - (nI 65)), .int (x3 - (nI 65))]) (rest := []) hx dX7_act_113 k_X7_91 rfl rfl rfl rfl (dc_le rfl) (dc_le rfl) (dc_le rfl) (dc_le rfl) rfl (th_X0_takeOver_15 h113) ?_
        obtain rfl := Option.some.inj h
        exact dx_iret hO (pc := 116) dX7_act_116 rfl ⟨_, rfl, rfl, rfl⟩
      replace h := (if_neg c40_61).symm.trans h
      refine dx_lookup (pc := 40) hx dX7_act_40 (by decide) (off := 77) (by rw [lv_osw c40_42 (by decide), lv_osw c40_43 (by decide), lv_osw c40_61 (by decide)]; rfl) (tgt := 117) (by decide) ?_
      refine dx_aload_n (pc := 117) hx dX7_act_117 rfl ?_
      refine dx_getR (r := 15) (pc := 118) hx dX7_act_118 f_X7_12 rfl rfl ?_
      refine dx_iload (pc := 121) hx dX7_act_121 rfl ?_
      obtain ⟨r123, h123, h⟩ := Option.bind_eq_some_iff.mp h
      refine dx_callViw (pc := 123) (As := [.int (x1 - (nI 65))]) (rest := []) hx dX7_act_123 k_X7_94 rfl rfl rfl rfl (dc_le rfl) (dc_le rfl) (dc_le rfl) (dc_le rfl) rfl (th_X0_letGo_15 h123) ?_
      obtain rfl := Option.some.inj h
      exact dx_iret hO (pc := 126) dX7_act_126 rfl ⟨_, rfl, rfl, rfl⟩
    · replace h := (if_neg c18).symm.trans h
      refine dx_aload_n (pc := 21) hx dX7_act_21 rfl ?_
      refine dx_getR (r := 15) (pc := 22) hx dX7_act_22 f_X7_12 rfl rfl ?_
      refine dx_iload_n (pc := 25) hx dX7_act_25 rfl ?_
      refine dx_bipush (pc := 26) hx dX7_act_26 kb_48 ?_
      refine dx_isub (pc := 28) hx dX7_act_28 ?_
      obtain ⟨r29, h29, h⟩ := Option.bind_eq_some_iff.mp h
      refine dx_callViw (pc := 29) (As := [.int (x1 - (nI 48))]) (rest := []) hx dX7_act_29 k_X7_82 rfl rfl rfl rfl (dc_le rfl) (dc_le rfl) (dc_le rfl) (dc_le rfl) rfl (th_X0_sing_15 h29) ?_
      obtain rfl := Option.some.inj h
      exact dx_iret hO (pc := 32) dX7_act_32 rfl ⟨_, rfl, rfl, rfl⟩
  · replace h := (if_pos c3).symm.trans h
    refine dx_aload_n (pc := 6) hx dX7_act_6 rfl ?_
    refine dx_getR (r := 15) (pc := 7) hx dX7_act_7 f_X7_12 rfl rfl ?_
    obtain ⟨r10, h10, h⟩ := Option.bind_eq_some_iff.mp h
    refine dx_callViw (pc := 10) (As := []) (rest := []) hx dX7_act_10 k_X7_79 rfl rfl rfl rfl (dc_le rfl) (dc_le rfl) (dc_le rfl) (dc_le rfl) rfl (th_X0_endEvening_15 h10) ?_
    obtain rfl := Option.some.inj h
    exact dx_iret hO (pc := 13) dX7_act_13 rfl ⟨_, rfl, rfl, rfl⟩
set_option maxHeartbeats 4000000 in
set_option maxRecDepth 100000 in
theorem tl_X7_noteFreed_L2 {κ : dc_KX} {Q : Option Value → dc_HP → Prop} (hO : dc_Ok κ mX7_noteFreed Q) (x1 : Int32) : ∀ (n : Nat) (x2 : Int32) (σ : dc_HP) (q : dc_HP), fn_X7_noteFreed_L2 x1 n x2 σ = some q → ∀ (hk : dc_X κ 45 [some (.ref 14), some (.int x1), none] [] q), dc_X κ 2 [some (.ref 14), some (.int x1), some (.int x2)] [] σ := by
  have hx : dc_Cx κ RX7 cX7_noteFreed 3 1 21 := hO.1
  intro n
  induction n with
  | zero =>
    intro x2 σ q h
    cases h
  | succ n ih =>
    intro x2 σ q h hk
    unfold fn_X7_noteFreed_L2 at h
    refine dx_iload_n (pc := 2) hx dX7_noteFreed_2 rfl ?_
    refine dx_bipush (pc := 3) hx dX7_noteFreed_3 kb_8 ?_
    refine dx_icmp_ge (pc := 5) hx dX7_noteFreed_5 (tgt := 45) (by decide) (fun c5 => ?_) (fun c5 => ?_)
    · replace h := (if_pos c5).symm.trans h
      obtain rfl := Option.some.inj h
      exact dx_wk [true, true, false] <| hk
    · replace h := (if_neg c5).symm.trans h
      refine dx_aload_n (pc := 8) hx dX7_noteFreed_8 rfl ?_
      refine dx_getI (pc := 9) hx dX7_noteFreed_9 f_X7_35 rfl rfl ?_
      refine dx_bipush (pc := 12) hx dX7_noteFreed_12 kb_m6 ?_
      refine dx_icmp_ne (pc := 14) hx dX7_noteFreed_14 (tgt := 45) (by decide) (fun c14 => ?_) (fun c14 => ?_)
      · replace h := (if_neg c14).symm.trans h
        obtain rfl := Option.some.inj h
        exact dx_wk [true, true, false] <| hk
      · replace h := (if_pos c14).symm.trans h
        refine dx_iload_n (pc := 17) hx dX7_noteFreed_17 rfl ?_
        refine dx_iload_n (pc := 18) hx dX7_noteFreed_18 rfl ?_
        obtain ⟨r19, h19, h⟩ := Option.bind_eq_some_iff.mp h
        refine dx_callNir (pc := 19) (As := [.int x1, .int x2]) (rest := []) hx dX7_noteFreed_19 k_X7_76 rfl (dc_le rfl) (dc_le rfl) (dc_le rfl) (dc_le rfl) rfl (th_X8_bit h19) ?_
        refine dx_iconst (pc := 22) hx dX7_noteFreed_22 kc_1 ?_
        refine dx_icmp_ne (pc := 23) hx dX7_noteFreed_23 (tgt := 39) (by decide) (fun c23 => ?_) (fun c23 => ?_)
        · replace h := (if_neg c23).symm.trans h
          refine dx_iinc (pc := 39) hx dX7_noteFreed_39 rfl (v := x2 + nI 1) (congrArg (fun z => x2 + z) kc_1) (dc_le rfl) (ls' := [some (.ref 14), some (.int x1), some (.int (x2 + nI 1))]) rfl ?_
          refine dx_goto (pc := 42) hx dX7_noteFreed_42 (tgt := 2) (by decide) ?_
          exact (ih (x2 + nI 1) σ q h hk)
        · replace h := (if_pos c23).symm.trans h
          refine dx_aload_n (pc := 26) hx dX7_noteFreed_26 rfl ?_
          refine dx_aload_n (pc := 27) hx dX7_noteFreed_27 rfl ?_
          refine dx_getI (pc := 28) hx dX7_noteFreed_28 f_X7_22 rfl rfl ?_
          refine dx_putI (pc := 31) hx dX7_noteFreed_31 f_X7_35 rfl rfl tyX7_ok rfl (Or.inl ⟨rfl, rfl⟩) ?_
          refine dx_nm (fun s31 e31 => ?_)
          replace h := dc_lt e31 h
          refine dx_aload_n (pc := 34) hx dX7_noteFreed_34 rfl ?_
          refine dx_iload_n (pc := 35) hx dX7_noteFreed_35 rfl ?_
          refine dx_putI (pc := 36) hx dX7_noteFreed_36 f_X7_38 rfl rfl tyX7_ok rfl (Or.inl ⟨rfl, rfl⟩) ?_
          refine dx_nm (fun s36 e36 => ?_)
          replace h := dc_lt e36 h
          refine dx_iinc (pc := 39) hx dX7_noteFreed_39 rfl (v := x2 + nI 1) (congrArg (fun z => x2 + z) kc_1) (dc_le rfl) (ls' := [some (.ref 14), some (.int x1), some (.int (x2 + nI 1))]) rfl ?_
          refine dx_goto (pc := 42) hx dX7_noteFreed_42 (tgt := 2) (by decide) ?_
          exact (ih (x2 + nI 1) s36 q h hk)
set_option maxHeartbeats 4000000 in
set_option maxRecDepth 100000 in
theorem th_X7_noteFreed {σ : dc_HP} {x1 : Int32} {r : dc_HP} (h : fn_X7_noteFreed σ x1 = some r) : dc_G mX7_noteFreed [.ref 14, .int x1] σ (dc_qv (fun τ => τ = r)) := by
  intro κ hO
  have hx : dc_Cx κ RX7 cX7_noteFreed 3 1 21 := hO.1
  show dc_X κ 0 [some (.ref 14), some (.int x1), none] [] σ
  unfold fn_X7_noteFreed at h
  refine dx_iconst (pc := 0) hx dX7_noteFreed_0 kc_0 ?_
  refine dx_istore_n (pc := 1) hx dX7_noteFreed_1 (dc_le rfl) (ls' := [some (.ref 14), some (.int x1), some (.int (nI 0))]) rfl ?_
  obtain ⟨q2, h2, h⟩ := Option.bind_eq_some_iff.mp h
  refine (tl_X7_noteFreed_L2 hO x1 200 (nI 0) σ q2 h2 ?_)
  obtain rfl := Option.some.inj h
  exact dx_vret hO (pc := 45) dX7_noteFreed_45 rfl ⟨rfl, rfl⟩
set_option maxHeartbeats 4000000 in
set_option maxRecDepth 100000 in
theorem tl_X7_play_1_L19 {κ : dc_KX} {Q : Option Value → dc_HP → Prop} (hO : dc_Ok κ mX7_play Q) : ∀ (n : Nat) (x3 : Int32) (σ : dc_HP) (q : (Int32 × dc_HP) ⊕ (dc_HP)), fn_X7_play_L19 1 n x3 σ = some q → ∀ (hk : ∀ m : dc_HP, q = .inr m → dc_X κ 160 [some (.ref 14), some (.ref 12), some (.ref 1), none, none, none] [] m) (hr : ∀ r : Int32 × dc_HP, q = .inl r → Q (some (.int r.1)) r.2), dc_X κ 19 [some (.ref 14), some (.ref 12), some (.ref 1), some (.int x3), none, none] [] σ := by
  have hx : dc_Cx κ RX7 cX7_play 6 5 114 := hO.1
  intro n
  induction n with
  | zero =>
    intro x3 σ q h
    cases h
  | succ n ih =>
    intro x3 σ q h hk hr
    unfold fn_X7_play_L19 at h
    refine dx_aload_n (pc := 19) hx dX7_play_19 rfl ?_
    refine dx_getI (pc := 20) hx dX7_play_20 f_X7_22 rfl rfl ?_
    refine dx_bipush (pc := 23) hx dX7_play_23 kb_60 ?_
    refine dx_icmp_ge (pc := 25) hx dX7_play_25 (tgt := 160) (by decide) (fun c25 => ?_) (fun c25 => ?_)
    · replace h := (if_pos c25).symm.trans h
      obtain rfl := Option.some.inj h
      exact dx_wk [true, true, true, false, true, true] <| (hk σ rfl)
    · replace h := (if_neg c25).symm.trans h
      refine dx_iload_n (pc := 28) hx dX7_play_28 rfl ?_
      refine dx_aload_n (pc := 29) hx dX7_play_29 rfl ?_
      refine dx_getI (pc := 30) hx dX7_play_30 f_X7_50 rfl rfl ?_
      refine dx_icmp_ge (pc := 33) hx dX7_play_33 (tgt := 160) (by decide) (fun c33 => ?_) (fun c33 => ?_)
      · replace h := (if_pos c33).symm.trans h
        obtain rfl := Option.some.inj h
        exact dx_wk [true, true, true, false, true, true] <| (hk σ rfl)
      · replace h := (if_neg c33).symm.trans h
        refine dx_aload_n (pc := 36) hx dX7_play_36 rfl ?_
        refine dx_getR (r := 15) (pc := 37) hx dX7_play_37 f_X7_12 rfl rfl ?_
        obtain ⟨r40, h40, h⟩ := Option.bind_eq_some_iff.mp h
        refine dx_callVir (pc := 40) (As := []) (rest := []) hx dX7_play_40 k_X7_53 rfl rfl rfl rfl (dc_le rfl) (dc_le rfl) (dc_le rfl) (dc_le rfl) rfl (th_X0_freeSingers_15 h40) ?_
        refine dx_istore (pc := 43) hx dX7_play_43 (dc_le rfl) (ls' := [some (.ref 14), some (.ref 12), some (.ref 1), some (.int x3), some (.int r40), none]) rfl ?_
        refine dx_aload_n (pc := 45) hx dX7_play_45 rfl ?_
        refine dx_aload_n (pc := 46) hx dX7_play_46 rfl ?_
        refine dx_iload_n (pc := 47) hx dX7_play_47 rfl ?_
        obtain ⟨r48, h48, h⟩ := Option.bind_eq_some_iff.mp h
        refine dx_callVir (pc := 48) (As := [.int x3]) (rest := [.ref 14]) hx dX7_play_48 k_X7_56 rfl rfl rfl rfl (dc_le rfl) (dc_le rfl) (dc_le rfl) (dc_le rfl) rfl (th_X4_signAt h48) ?_
        refine dx_aload_n (pc := 51) hx dX7_play_51 rfl ?_
        refine dx_iload_n (pc := 52) hx dX7_play_52 rfl ?_
        refine dx_iconst (pc := 53) hx dX7_play_53 kc_1 ?_
        refine dx_iadd (pc := 54) hx dX7_play_54 ?_
        obtain ⟨r55, h55, h⟩ := Option.bind_eq_some_iff.mp h
        refine dx_callVir (pc := 55) (As := [.int (x3 + (nI 1))]) (rest := [.int r48, .ref 14]) hx dX7_play_55 k_X7_56 rfl rfl rfl rfl (dc_le rfl) (dc_le rfl) (dc_le rfl) (dc_le rfl) rfl (th_X4_signAt h55) ?_
        refine dx_aload_n (pc := 58) hx dX7_play_58 rfl ?_
        refine dx_iload_n (pc := 59) hx dX7_play_59 rfl ?_
        refine dx_iconst (pc := 60) hx dX7_play_60 kc_2 ?_
        refine dx_iadd (pc := 61) hx dX7_play_61 ?_
        obtain ⟨r62, h62, h⟩ := Option.bind_eq_some_iff.mp h
        refine dx_callVir (pc := 62) (As := [.int (x3 + (nI 2))]) (rest := [.int r55, .int r48, .ref 14]) hx dX7_play_62 k_X7_56 rfl rfl rfl rfl (dc_le rfl) (dc_le rfl) (dc_le rfl) (dc_le rfl) rfl (th_X4_signAt h62) ?_
        obtain ⟨r65, h65, h⟩ := Option.bind_eq_some_iff.mp h
        refine dx_callViw (pc := 65) (As := [.int r48, .int r55, .int r62]) (rest := []) hx dX7_play_65 k_X7_60 rfl rfl rfl rfl (dc_le rfl) (dc_le rfl) (dc_le rfl) (dc_le rfl) rfl (th_X7_act h65) ?_
        refine dx_istore (pc := 68) hx dX7_play_68 (dc_le rfl) (ls' := [some (.ref 14), some (.ref 12), some (.ref 1), some (.int x3), some (.int r40), some (.int r65.1)]) rfl ?_
        refine dx_iload (pc := 70) hx dX7_play_70 rfl ?_
        refine dx_if_eq (pc := 72) hx dX7_play_72 (tgt := 92) (by decide) (fun c72 => ?_) (fun c72 => ?_)
        · replace h := (if_pos c72).symm.trans h
          refine dx_aload_n (pc := 92) hx dX7_play_92 rfl ?_
          refine dx_aload_n (pc := 93) hx dX7_play_93 rfl ?_
          refine dx_getR (r := 15) (pc := 94) hx dX7_play_94 f_X7_12 rfl rfl ?_
          obtain ⟨r97, h97, h⟩ := Option.bind_eq_some_iff.mp h
          refine dx_callVir (pc := 97) (As := []) (rest := [.ref 14]) hx dX7_play_97 k_X7_53 rfl rfl rfl rfl (dc_le rfl) (dc_le rfl) (dc_le rfl) (dc_le rfl) rfl (th_X0_freeSingers_15 h97) ?_
          refine dx_iload (pc := 100) hx dX7_play_100 rfl ?_
          refine dx_iconst (pc := 102) hx dX7_play_102 kc_m1 ?_
          refine dx_ixor (pc := 103) hx dX7_play_103 ?_
          refine dx_iand (pc := 104) hx dX7_play_104 ?_
          obtain ⟨r105, h105, h⟩ := Option.bind_eq_some_iff.mp h
          refine dx_callVvw (pc := 105) (As := [.int (r97 &&& (r40 ^^^ ((-1 : Int32))))]) (rest := []) hx dX7_play_105 k_X7_64 rfl rfl rfl rfl (dc_le rfl) (dc_le rfl) (dc_le rfl) (dc_le rfl) rfl (th_X7_noteFreed h105) ?_
          refine dx_aload_n (pc := 108) hx dX7_play_108 rfl ?_
          refine dx_iload_n (pc := 109) hx dX7_play_109 rfl ?_
          obtain ⟨r110, h110, h⟩ := Option.bind_eq_some_iff.mp h
          refine dx_callVir (pc := 110) (As := [.int x3]) (rest := []) hx dX7_play_110 k_X7_56 rfl rfl rfl rfl (dc_le rfl) (dc_le rfl) (dc_le rfl) (dc_le rfl) rfl (th_X4_signAt h110) ?_
          obtain ⟨r113, h113, h⟩ := Option.bind_eq_some_iff.mp h
          refine dx_callSir (pc := 113) (As := [.int r110]) (rest := []) hx dX7_play_113 k_X7_68 rfl (dc_le rfl) (dc_le rfl) (dc_le rfl) (dc_le rfl) rfl (th_X4_isPiece h113) ?_
          obtain ⟨q116, hr, h⟩ := Option.bind_eq_some_iff.mp h
          have hk : dc_X κ 129 [some (.ref 14), some (.ref 12), some (.ref 1), some (.int x3), some (.int r40), some (.int r65.1)] [] q116 := by
            clear hr
            refine dx_aload_n (pc := 129) hx dX7_play_129 rfl ?_
            refine dx_dup (pc := 130) hx dX7_play_130 rfl ?_
            refine dx_getI (pc := 131) hx dX7_play_131 f_X7_22 rfl rfl ?_
            refine dx_iconst (pc := 134) hx dX7_play_134 kc_1 ?_
            refine dx_iadd (pc := 135) hx dX7_play_135 ?_
            refine dx_putI (pc := 136) hx dX7_play_136 f_X7_22 rfl rfl tyX7_ok rfl (Or.inl ⟨rfl, rfl⟩) ?_
            refine dx_nm (fun s136 e136 => ?_)
            replace h := dc_lt e136 h
            refine dx_iload_n (pc := 139) hx dX7_play_139 rfl ?_
            refine dx_aload_n (pc := 140) hx dX7_play_140 rfl ?_
            refine dx_iload_n (pc := 141) hx dX7_play_141 rfl ?_
            obtain ⟨r142, h142, h⟩ := Option.bind_eq_some_iff.mp h
            refine dx_callVir (pc := 142) (As := [.int x3]) (rest := [.int x3]) hx dX7_play_142 k_X7_56 rfl rfl rfl rfl (dc_le rfl) (dc_le rfl) (dc_le rfl) (dc_le rfl) rfl (th_X4_signAt h142) ?_
            refine dx_aload_n (pc := 145) hx dX7_play_145 rfl ?_
            refine dx_iload_n (pc := 146) hx dX7_play_146 rfl ?_
            refine dx_iconst (pc := 147) hx dX7_play_147 kc_1 ?_
            refine dx_iadd (pc := 148) hx dX7_play_148 ?_
            obtain ⟨r149, h149, h⟩ := Option.bind_eq_some_iff.mp h
            refine dx_callVir (pc := 149) (As := [.int (x3 + (nI 1))]) (rest := [.int r142, .int x3]) hx dX7_play_149 k_X7_56 rfl rfl rfl rfl (dc_le rfl) (dc_le rfl) (dc_le rfl) (dc_le rfl) rfl (th_X4_signAt h149) ?_
            obtain ⟨r152, h152, h⟩ := Option.bind_eq_some_iff.mp h
            refine dx_callSir (pc := 152) (As := [.int r142, .int r149]) (rest := [.int x3]) hx dX7_play_152 k_X7_72 rfl (dc_le rfl) (dc_le rfl) (dc_le rfl) (dc_le rfl) rfl (th_X4_lengthOf h152) ?_
            refine dx_iadd (pc := 155) hx dX7_play_155 ?_
            refine dx_istore_n (pc := 156) hx dX7_play_156 (dc_le rfl) (ls' := [some (.ref 14), some (.ref 12), some (.ref 1), some (.int (x3 + r152)), some (.int r40), some (.int r65.1)]) rfl ?_
            refine dx_goto (pc := 157) hx dX7_play_157 (tgt := 19) (by decide) ?_
            exact dx_wk [true, true, true, true, false, false] <| (ih (x3 + r152) s136 q h hk hr)
          replace h := hr
          clear hr
          refine dx_if_eq (pc := 116) hx dX7_play_116 (tgt := 129) (by decide) (fun c116 => ?_) (fun c116 => ?_)
          · replace h := (if_pos c116).symm.trans h
            obtain rfl := Option.some.inj h
            exact hk
          · replace h := (if_neg c116).symm.trans h
            refine dx_aload_n (pc := 119) hx dX7_play_119 rfl ?_
            refine dx_dup (pc := 120) hx dX7_play_120 rfl ?_
            refine dx_getI (pc := 121) hx dX7_play_121 f_X7_32 rfl rfl ?_
            refine dx_iconst (pc := 124) hx dX7_play_124 kc_1 ?_
            refine dx_iadd (pc := 125) hx dX7_play_125 ?_
            refine dx_putI (pc := 126) hx dX7_play_126 f_X7_32 rfl rfl tyX7_ok rfl (Or.inl ⟨rfl, rfl⟩) ?_
            refine dx_nm (fun s126 e126 => ?_)
            replace h := dc_lt e126 h
            obtain rfl := Option.some.inj h
            exact hk
        · replace h := (if_neg c72).symm.trans h
          refine dx_aload_n (pc := 75) hx dX7_play_75 rfl ?_
          refine dx_aload_n (pc := 76) hx dX7_play_76 rfl ?_
          refine dx_getI (pc := 77) hx dX7_play_77 f_X7_22 rfl rfl ?_
          refine dx_putI (pc := 80) hx dX7_play_80 f_X7_26 rfl rfl tyX7_ok rfl (Or.inl ⟨rfl, rfl⟩) ?_
          refine dx_nm (fun s80 e80 => ?_)
          replace h := dc_lt e80 h
          refine dx_aload_n (pc := 83) hx dX7_play_83 rfl ?_
          refine dx_iload (pc := 84) hx dX7_play_84 rfl ?_
          refine dx_putI (pc := 86) hx dX7_play_86 f_X7_29 rfl rfl tyX7_ok rfl (Or.inl ⟨rfl, rfl⟩) ?_
          refine dx_nm (fun s86 e86 => ?_)
          replace h := dc_lt e86 h
          refine dx_bipush (pc := 89) hx dX7_play_89 kb_m3 ?_
          obtain rfl := Option.some.inj h
          exact dx_iret hO (pc := 91) dX7_play_91 rfl (hr ((-3 : Int32), s86) rfl)
set_option maxHeartbeats 4000000 in
set_option maxRecDepth 100000 in
theorem th_X7_play_1 {σ : dc_HP} {r : Int32 × dc_HP} (h : fn_X7_play σ 1 = some r) : dc_G mX7_play [.ref 14, .ref 12, .ref 1] σ (dc_qi (fun x τ => x = r.1 ∧ τ = r.2)) := by
  intro κ hO
  have hx : dc_Cx κ RX7 cX7_play 6 5 114 := hO.1
  show dc_X κ 0 [some (.ref 14), some (.ref 12), some (.ref 1), none, none, none] [] σ
  unfold fn_X7_play at h
  refine dx_aload_n (pc := 0) hx dX7_play_0 rfl ?_
  refine dx_aload_n (pc := 1) hx dX7_play_1 rfl ?_
  obtain ⟨r2, h2, h⟩ := Option.bind_eq_some_iff.mp h
  refine dx_callVvw (pc := 2) (As := [.ref 1]) (rest := []) hx dX7_play_2 k_X7_41 rfl rfl rfl rfl (dc_le rfl) (dc_le rfl) (dc_le rfl) (dc_le rfl) rfl (th_X7_start_1 h2) ?_
  refine dx_aload_n (pc := 5) hx dX7_play_5 rfl ?_
  obtain ⟨r6, h6, h⟩ := Option.bind_eq_some_iff.mp h
  refine dx_callVir (pc := 6) (As := []) (rest := []) hx dX7_play_6 k_X7_44 rfl rfl rfl rfl (dc_le rfl) (dc_le rfl) (dc_le rfl) (dc_le rfl) rfl (th_X4_faultPlace h6) ?_
  refine dx_bipush (pc := 9) hx dX7_play_9 kb_m6 ?_
  refine dx_icmp_eq (pc := 11) hx dX7_play_11 (tgt := 17) (by decide) (fun c11 => ?_) (fun c11 => ?_)
  · replace h := (if_pos c11).symm.trans h
    refine dx_iconst (pc := 17) hx dX7_play_17 kc_0 ?_
    refine dx_istore_n (pc := 18) hx dX7_play_18 (dc_le rfl) (ls' := [some (.ref 14), some (.ref 12), some (.ref 1), some (.int (nI 0)), none, none]) rfl ?_
    obtain ⟨q9, h19, h⟩ := Option.bind_eq_some_iff.mp h
    refine (tl_X7_play_1_L19 hO  200 (nI 0) r2 q9 h19 (fun q19 e9 => ?_) (fun r9 e9 => ?_))
    rotate_left
    · subst e9
      obtain rfl := Option.some.inj h
      exact ⟨_, rfl, rfl, rfl⟩
    subst e9
    replace h := dc_inr h
    refine dx_iconst (pc := 160) hx dX7_play_160 kc_0 ?_
    obtain rfl := Option.some.inj h
    exact dx_iret hO (pc := 161) dX7_play_161 rfl ⟨_, rfl, rfl, rfl⟩
  · replace h := (if_neg c11).symm.trans h
    refine dx_bipush (pc := 14) hx dX7_play_14 kb_m5 ?_
    obtain rfl := Option.some.inj h
    exact dx_iret hO (pc := 16) dX7_play_16 rfl ⟨_, rfl, rfl, rfl⟩
set_option maxHeartbeats 4000000 in
set_option maxRecDepth 100000 in
theorem tl_X0_allDebts_15_L4 {κ : dc_KX} {Q : Option Value → dc_HP → Prop} (hO : dc_Ok κ mX0_allDebts Q) (σ : dc_HP) : ∀ (n : Nat) (x1 : Int32) (x2 : Int32) (q : Int32), fn_X0_allDebts_L4 σ 15 n x1 x2 = some q → ∀ (hk : dc_X κ 24 [some (.ref 15), some (.int q), none] [] σ), dc_X κ 4 [some (.ref 15), some (.int x1), some (.int x2)] [] σ := by
  have hx : dc_Cx κ RX0 cX0_allDebts 3 2 42 := hO.1
  intro n
  induction n with
  | zero =>
    intro x1 x2 q h
    cases h
  | succ n ih =>
    intro x1 x2 q h hk
    unfold fn_X0_allDebts_L4 at h
    refine dx_iload_n (pc := 4) hx dX0_allDebts_4 rfl ?_
    refine dx_bipush (pc := 5) hx dX0_allDebts_5 kb_8 ?_
    refine dx_icmp_ge (pc := 7) hx dX0_allDebts_7 (tgt := 24) (by decide) (fun c7 => ?_) (fun c7 => ?_)
    · replace h := (if_pos c7).symm.trans h
      obtain rfl := Option.some.inj h
      exact dx_wk [true, true, false] <| hk
    · replace h := (if_neg c7).symm.trans h
      refine dx_iload_n (pc := 10) hx dX0_allDebts_10 rfl ?_
      refine dx_aload_n (pc := 11) hx dX0_allDebts_11 rfl ?_
      refine dx_iload_n (pc := 12) hx dX0_allDebts_12 rfl ?_
      obtain ⟨r13, h13, h⟩ := Option.bind_eq_some_iff.mp h
      refine dx_callVir (pc := 13) (As := [.int x2]) (rest := [.int x1]) hx dX0_allDebts_13 k_X0_61 rfl rfl rfl rfl (dc_le rfl) (dc_le rfl) (dc_le rfl) (dc_le rfl) rfl (th_X0_debtOf_15 h13) ?_
      refine dx_iadd (pc := 16) hx dX0_allDebts_16 ?_
      refine dx_istore_n (pc := 17) hx dX0_allDebts_17 (dc_le rfl) (ls' := [some (.ref 15), some (.int (x1 + r13)), some (.int x2)]) rfl ?_
      refine dx_iinc (pc := 18) hx dX0_allDebts_18 rfl (v := x2 + nI 1) (congrArg (fun z => x2 + z) kc_1) (dc_le rfl) (ls' := [some (.ref 15), some (.int (x1 + r13)), some (.int (x2 + nI 1))]) rfl ?_
      refine dx_goto (pc := 21) hx dX0_allDebts_21 (tgt := 4) (by decide) ?_
      exact (ih (x1 + r13) (x2 + nI 1) q h hk)
set_option maxHeartbeats 4000000 in
set_option maxRecDepth 100000 in
theorem th_X0_allDebts_15 {σ : dc_HP} {r : Int32} (h : fn_X0_allDebts σ 15 = some r) : dc_G mX0_allDebts [.ref 15] σ (dc_qi (fun x τ => x = r ∧ τ = σ)) := by
  intro κ hO
  have hx : dc_Cx κ RX0 cX0_allDebts 3 2 42 := hO.1
  show dc_X κ 0 [some (.ref 15), none, none] [] σ
  unfold fn_X0_allDebts at h
  refine dx_iconst (pc := 0) hx dX0_allDebts_0 kc_0 ?_
  refine dx_istore_n (pc := 1) hx dX0_allDebts_1 (dc_le rfl) (ls' := [some (.ref 15), some (.int (nI 0)), none]) rfl ?_
  refine dx_iconst (pc := 2) hx dX0_allDebts_2 kc_0 ?_
  refine dx_istore_n (pc := 3) hx dX0_allDebts_3 (dc_le rfl) (ls' := [some (.ref 15), some (.int (nI 0)), some (.int (nI 0))]) rfl ?_
  obtain ⟨q4, h4, h⟩ := Option.bind_eq_some_iff.mp h
  refine (tl_X0_allDebts_15_L4 hO σ  200 (nI 0) (nI 0) q4 h4 ?_)
  refine dx_iload_n (pc := 24) hx dX0_allDebts_24 rfl ?_
  obtain rfl := Option.some.inj h
  exact dx_iret hO (pc := 25) dX0_allDebts_25 rfl ⟨_, rfl, rfl, rfl⟩
set_option maxHeartbeats 4000000 in
set_option maxRecDepth 100000 in
theorem th_X0_copyFrom_15_1 {σ : dc_HP} {r : dc_HP} (h : fn_X0_copyFrom σ 1 15 = some r) : dc_G mX0_copyFrom [.ref 1, .ref 15] σ (dc_qv (fun τ => τ = r)) := by
  intro κ hO
  have hx : dc_Cx κ RX0 cX0_copyFrom 2 1 48 := hO.1
  show dc_X κ 0 [some (.ref 1), some (.ref 15)] [] σ
  unfold fn_X0_copyFrom at h
  refine dx_aload_n (pc := 0) hx dX0_copyFrom_0 rfl ?_
  refine dx_aload_n (pc := 1) hx dX0_copyFrom_1 rfl ?_
  refine dx_getI (pc := 2) hx dX0_copyFrom_2 f_X0_27 rfl rfl ?_
  refine dx_putI (pc := 5) hx dX0_copyFrom_5 f_X0_27 rfl rfl tyX0_ok rfl (Or.inl ⟨rfl, rfl⟩) ?_
  refine dx_nm (fun s5 e5 => ?_)
  replace h := dc_lt e5 h
  refine dx_aload_n (pc := 8) hx dX0_copyFrom_8 rfl ?_
  refine dx_aload_n (pc := 9) hx dX0_copyFrom_9 rfl ?_
  refine dx_getI (pc := 10) hx dX0_copyFrom_10 f_X0_31 rfl rfl ?_
  refine dx_putI (pc := 13) hx dX0_copyFrom_13 f_X0_31 rfl rfl tyX0_ok rfl (Or.inl ⟨rfl, rfl⟩) ?_
  refine dx_nm (fun s13 e13 => ?_)
  replace h := dc_lt e13 h
  refine dx_aload_n (pc := 16) hx dX0_copyFrom_16 rfl ?_
  refine dx_aload_n (pc := 17) hx dX0_copyFrom_17 rfl ?_
  refine dx_getI (pc := 18) hx dX0_copyFrom_18 f_X0_34 rfl rfl ?_
  refine dx_putI (pc := 21) hx dX0_copyFrom_21 f_X0_34 rfl rfl tyX0_ok rfl (Or.inl ⟨rfl, rfl⟩) ?_
  refine dx_nm (fun s21 e21 => ?_)
  replace h := dc_lt e21 h
  refine dx_aload_n (pc := 24) hx dX0_copyFrom_24 rfl ?_
  refine dx_aload_n (pc := 25) hx dX0_copyFrom_25 rfl ?_
  refine dx_getI (pc := 26) hx dX0_copyFrom_26 f_X0_37 rfl rfl ?_
  refine dx_putI (pc := 29) hx dX0_copyFrom_29 f_X0_37 rfl rfl tyX0_ok rfl (Or.inl ⟨rfl, rfl⟩) ?_
  refine dx_nm (fun s29 e29 => ?_)
  replace h := dc_lt e29 h
  refine dx_aload_n (pc := 32) hx dX0_copyFrom_32 rfl ?_
  refine dx_iconst (pc := 33) hx dX0_copyFrom_33 kc_0 ?_
  refine dx_putI (pc := 34) hx dX0_copyFrom_34 f_X0_40 rfl rfl tyX0_ok rfl (Or.inl ⟨rfl, rfl⟩) ?_
  refine dx_nm (fun s34 e34 => ?_)
  replace h := dc_lt e34 h
  refine dx_aload_n (pc := 37) hx dX0_copyFrom_37 rfl ?_
  refine dx_getR (r := 16) (pc := 38) hx dX0_copyFrom_38 f_X0_9 rfl rfl ?_
  refine dx_iconst (pc := 41) hx dX0_copyFrom_41 kc_0 ?_
  refine dx_aload_n (pc := 42) hx dX0_copyFrom_42 rfl ?_
  refine dx_getR (r := 2) (pc := 43) hx dX0_copyFrom_43 f_X0_9 rfl rfl ?_
  refine dx_iconst (pc := 46) hx dX0_copyFrom_46 kc_0 ?_
  refine dx_bipush (pc := 47) hx dX0_copyFrom_47 kb_8 ?_
  refine dx_copy (pc := 49) hx dX0_copyFrom_49 k_X0_43 rfl rfl (v := nI 8) (n := 8) (by decide) (by decide) (dc_le rfl) (dc_le rfl) (dc_le rfl) (dc_le rfl) ?_
  refine dx_nm (fun s49 e49 => ?_)
  replace h := dc_lt e49 h
  refine dx_aload_n (pc := 52) hx dX0_copyFrom_52 rfl ?_
  refine dx_getR (r := 17) (pc := 53) hx dX0_copyFrom_53 f_X0_15 rfl rfl ?_
  refine dx_iconst (pc := 56) hx dX0_copyFrom_56 kc_0 ?_
  refine dx_aload_n (pc := 57) hx dX0_copyFrom_57 rfl ?_
  refine dx_getR (r := 3) (pc := 58) hx dX0_copyFrom_58 f_X0_15 rfl rfl ?_
  refine dx_iconst (pc := 61) hx dX0_copyFrom_61 kc_0 ?_
  refine dx_bipush (pc := 62) hx dX0_copyFrom_62 kb_8 ?_
  refine dx_copy (pc := 64) hx dX0_copyFrom_64 k_X0_43 rfl rfl (v := nI 8) (n := 8) (by decide) (by decide) (dc_le rfl) (dc_le rfl) (dc_le rfl) (dc_le rfl) ?_
  refine dx_nm (fun s64 e64 => ?_)
  replace h := dc_lt e64 h
  refine dx_aload_n (pc := 67) hx dX0_copyFrom_67 rfl ?_
  refine dx_getR (r := 18) (pc := 68) hx dX0_copyFrom_68 f_X0_18 rfl rfl ?_
  refine dx_iconst (pc := 71) hx dX0_copyFrom_71 kc_0 ?_
  refine dx_aload_n (pc := 72) hx dX0_copyFrom_72 rfl ?_
  refine dx_getR (r := 4) (pc := 73) hx dX0_copyFrom_73 f_X0_18 rfl rfl ?_
  refine dx_iconst (pc := 76) hx dX0_copyFrom_76 kc_0 ?_
  refine dx_bipush (pc := 77) hx dX0_copyFrom_77 kb_24 ?_
  refine dx_copy (pc := 79) hx dX0_copyFrom_79 k_X0_43 rfl rfl (v := nI 24) (n := 24) (by decide) (by decide) (dc_le rfl) (dc_le rfl) (dc_le rfl) (dc_le rfl) ?_
  refine dx_nm (fun s79 e79 => ?_)
  replace h := dc_lt e79 h
  refine dx_aload_n (pc := 82) hx dX0_copyFrom_82 rfl ?_
  refine dx_getR (r := 19) (pc := 83) hx dX0_copyFrom_83 f_X0_21 rfl rfl ?_
  refine dx_iconst (pc := 86) hx dX0_copyFrom_86 kc_0 ?_
  refine dx_aload_n (pc := 87) hx dX0_copyFrom_87 rfl ?_
  refine dx_getR (r := 5) (pc := 88) hx dX0_copyFrom_88 f_X0_21 rfl rfl ?_
  refine dx_iconst (pc := 91) hx dX0_copyFrom_91 kc_0 ?_
  refine dx_bipush (pc := 92) hx dX0_copyFrom_92 kb_6 ?_
  refine dx_copy (pc := 94) hx dX0_copyFrom_94 k_X0_43 rfl rfl (v := nI 6) (n := 6) (by decide) (by decide) (dc_le rfl) (dc_le rfl) (dc_le rfl) (dc_le rfl) ?_
  refine dx_nm (fun s94 e94 => ?_)
  replace h := dc_lt e94 h
  refine dx_aload_n (pc := 97) hx dX0_copyFrom_97 rfl ?_
  refine dx_getR (r := 20) (pc := 98) hx dX0_copyFrom_98 f_X0_24 rfl rfl ?_
  refine dx_iconst (pc := 101) hx dX0_copyFrom_101 kc_0 ?_
  refine dx_aload_n (pc := 102) hx dX0_copyFrom_102 rfl ?_
  refine dx_getR (r := 6) (pc := 103) hx dX0_copyFrom_103 f_X0_24 rfl rfl ?_
  refine dx_iconst (pc := 106) hx dX0_copyFrom_106 kc_0 ?_
  refine dx_bipush (pc := 107) hx dX0_copyFrom_107 kb_6 ?_
  refine dx_copy (pc := 109) hx dX0_copyFrom_109 k_X0_43 rfl rfl (v := nI 6) (n := 6) (by decide) (by decide) (dc_le rfl) (dc_le rfl) (dc_le rfl) (dc_le rfl) ?_
  obtain rfl := Option.some.inj h
  exact dx_vret hO (pc := 112) dX0_copyFrom_112 rfl ⟨rfl, rfl⟩
set_option maxHeartbeats 4000000 in
set_option maxRecDepth 100000 in
theorem tl_X0_withBreath_1_L4 {κ : dc_KX} {Q : Option Value → dc_HP → Prop} (hO : dc_Ok κ mX0_withBreath Q) (σ : dc_HP) (x1 : Int32) : ∀ (n : Nat) (x2 : Int32) (x3 : Int32) (q : Int32), fn_X0_withBreath_L4 σ 1 x1 n x2 x3 = some q → ∀ (hk : dc_X κ 32 [some (.ref 1), some (.int x1), some (.int q), none] [] σ), dc_X κ 4 [some (.ref 1), some (.int x1), some (.int x2), some (.int x3)] [] σ := by
  have hx : dc_Cx κ RX0 cX0_withBreath 4 0 0 := hO.1
  intro n
  induction n with
  | zero =>
    intro x2 x3 q h
    cases h
  | succ n ih =>
    intro x2 x3 q h hk
    unfold fn_X0_withBreath_L4 at h
    refine dx_iload_n (pc := 4) hx dX0_withBreath_4 rfl ?_
    refine dx_bipush (pc := 5) hx dX0_withBreath_5 kb_8 ?_
    refine dx_icmp_ge (pc := 7) hx dX0_withBreath_7 (tgt := 32) (by decide) (fun c7 => ?_) (fun c7 => ?_)
    · replace h := (if_pos c7).symm.trans h
      obtain rfl := Option.some.inj h
      exact dx_wk [true, true, true, false] <| hk
    · replace h := (if_neg c7).symm.trans h
      refine dx_aload_n (pc := 10) hx dX0_withBreath_10 rfl ?_
      refine dx_getR (r := 2) (pc := 11) hx dX0_withBreath_11 f_X0_9 rfl rfl ?_
      refine dx_iload_n (pc := 14) hx dX0_withBreath_14 rfl ?_
      by_cases g15 : x3 < 0 ∨ 8 ≤ x3.toNatClampNeg
      · cases (if_pos g15).symm.trans h
      replace h := (if_neg g15).symm.trans h
      refine dx_iald (pc := 15) hx dX0_withBreath_15 rfl g15 ?_
      refine dx_iload_n (pc := 16) hx dX0_withBreath_16 rfl ?_
      refine dx_icmp_ne (pc := 17) hx dX0_withBreath_17 (tgt := 26) (by decide) (fun c17 => ?_) (fun c17 => ?_)
      · replace h := (if_neg c17).symm.trans h
        refine dx_iinc (pc := 26) hx dX0_withBreath_26 rfl (v := x3 + nI 1) (congrArg (fun z => x3 + z) kc_1) (dc_le rfl) (ls' := [some (.ref 1), some (.int x1), some (.int x2), some (.int (x3 + nI 1))]) rfl ?_
        refine dx_goto (pc := 29) hx dX0_withBreath_29 (tgt := 4) (by decide) ?_
        exact (ih x2 (x3 + nI 1) q h hk)
      · replace h := (if_pos c17).symm.trans h
        refine dx_iload_n (pc := 20) hx dX0_withBreath_20 rfl ?_
        refine dx_iconst (pc := 21) hx dX0_withBreath_21 kc_1 ?_
        refine dx_iload_n (pc := 22) hx dX0_withBreath_22 rfl ?_
        refine dx_ishl (pc := 23) hx dX0_withBreath_23 ?_
        refine dx_ior (pc := 24) hx dX0_withBreath_24 ?_
        refine dx_istore_n (pc := 25) hx dX0_withBreath_25 (dc_le rfl) (ls' := [some (.ref 1), some (.int x1), some (.int (x2 ||| ((nI 1) <<< (x3 &&& 31)))), some (.int x3)]) rfl ?_
        refine dx_iinc (pc := 26) hx dX0_withBreath_26 rfl (v := x3 + nI 1) (congrArg (fun z => x3 + z) kc_1) (dc_le rfl) (ls' := [some (.ref 1), some (.int x1), some (.int (x2 ||| ((nI 1) <<< (x3 &&& 31)))), some (.int (x3 + nI 1))]) rfl ?_
        refine dx_goto (pc := 29) hx dX0_withBreath_29 (tgt := 4) (by decide) ?_
        exact (ih (x2 ||| ((nI 1) <<< (x3 &&& 31))) (x3 + nI 1) q h hk)
set_option maxHeartbeats 4000000 in
set_option maxRecDepth 100000 in
theorem th_X0_withBreath_1 {σ : dc_HP} {x1 : Int32} {r : Int32} (h : fn_X0_withBreath σ 1 x1 = some r) : dc_G mX0_withBreath [.ref 1, .int x1] σ (dc_qi (fun x τ => x = r ∧ τ = σ)) := by
  intro κ hO
  have hx : dc_Cx κ RX0 cX0_withBreath 4 0 0 := hO.1
  show dc_X κ 0 [some (.ref 1), some (.int x1), none, none] [] σ
  unfold fn_X0_withBreath at h
  refine dx_iconst (pc := 0) hx dX0_withBreath_0 kc_0 ?_
  refine dx_istore_n (pc := 1) hx dX0_withBreath_1 (dc_le rfl) (ls' := [some (.ref 1), some (.int x1), some (.int (nI 0)), none]) rfl ?_
  refine dx_iconst (pc := 2) hx dX0_withBreath_2 kc_0 ?_
  refine dx_istore_n (pc := 3) hx dX0_withBreath_3 (dc_le rfl) (ls' := [some (.ref 1), some (.int x1), some (.int (nI 0)), some (.int (nI 0))]) rfl ?_
  obtain ⟨q4, h4, h⟩ := Option.bind_eq_some_iff.mp h
  refine (tl_X0_withBreath_1_L4 hO σ x1 200 (nI 0) (nI 0) q4 h4 ?_)
  refine dx_iload_n (pc := 32) hx dX0_withBreath_32 rfl ?_
  refine dx_aload_n (pc := 33) hx dX0_withBreath_33 rfl ?_
  refine dx_getI (pc := 34) hx dX0_withBreath_34 f_X0_27 rfl rfl ?_
  refine dx_iand (pc := 37) hx dX0_withBreath_37 ?_
  refine dx_aload_n (pc := 38) hx dX0_withBreath_38 rfl ?_
  refine dx_getI (pc := 39) hx dX0_withBreath_39 f_X0_31 rfl rfl ?_
  refine dx_iconst (pc := 42) hx dX0_withBreath_42 kc_m1 ?_
  refine dx_ixor (pc := 43) hx dX0_withBreath_43 ?_
  refine dx_iand (pc := 44) hx dX0_withBreath_44 ?_
  refine dx_aload_n (pc := 45) hx dX0_withBreath_45 rfl ?_
  refine dx_getI (pc := 46) hx dX0_withBreath_46 f_X0_34 rfl rfl ?_
  refine dx_iconst (pc := 49) hx dX0_withBreath_49 kc_m1 ?_
  refine dx_ixor (pc := 50) hx dX0_withBreath_50 ?_
  refine dx_iand (pc := 51) hx dX0_withBreath_51 ?_
  obtain rfl := Option.some.inj h
  exact dx_iret hO (pc := 52) dX0_withBreath_52 rfl ⟨_, rfl, rfl, rfl⟩
set_option maxHeartbeats 4000000 in
set_option maxRecDepth 100000 in
theorem tl_X0_freeSingers_1_L4 {κ : dc_KX} {Q : Option Value → dc_HP → Prop} (hO : dc_Ok κ mX0_freeSingers Q) (σ : dc_HP) : ∀ (n : Nat) (x1 : Int32) (x2 : Int32) (q : Int32), fn_X0_freeSingers_L4 σ 1 n x1 x2 = some q → ∀ (hk : dc_X κ 31 [some (.ref 1), some (.int q), none] [] σ), dc_X κ 4 [some (.ref 1), some (.int x1), some (.int x2)] [] σ := by
  have hx : dc_Cx κ RX0 cX0_freeSingers 3 0 0 := hO.1
  intro n
  induction n with
  | zero =>
    intro x1 x2 q h
    cases h
  | succ n ih =>
    intro x1 x2 q h hk
    unfold fn_X0_freeSingers_L4 at h
    refine dx_iload_n (pc := 4) hx dX0_freeSingers_4 rfl ?_
    refine dx_bipush (pc := 5) hx dX0_freeSingers_5 kb_8 ?_
    refine dx_icmp_ge (pc := 7) hx dX0_freeSingers_7 (tgt := 31) (by decide) (fun c7 => ?_) (fun c7 => ?_)
    · replace h := (if_pos c7).symm.trans h
      obtain rfl := Option.some.inj h
      exact dx_wk [true, true, false] <| hk
    · replace h := (if_neg c7).symm.trans h
      refine dx_aload_n (pc := 10) hx dX0_freeSingers_10 rfl ?_
      refine dx_getR (r := 3) (pc := 11) hx dX0_freeSingers_11 f_X0_15 rfl rfl ?_
      refine dx_iload_n (pc := 14) hx dX0_freeSingers_14 rfl ?_
      by_cases g15 : x2 < 0 ∨ 8 ≤ x2.toNatClampNeg
      · cases (if_pos g15).symm.trans h
      replace h := (if_neg g15).symm.trans h
      refine dx_iald (pc := 15) hx dX0_freeSingers_15 rfl g15 ?_
      refine dx_if_ne (pc := 16) hx dX0_freeSingers_16 (tgt := 25) (by decide) (fun c16 => ?_) (fun c16 => ?_)
      · replace h := (if_neg c16).symm.trans h
        refine dx_iinc (pc := 25) hx dX0_freeSingers_25 rfl (v := x2 + nI 1) (congrArg (fun z => x2 + z) kc_1) (dc_le rfl) (ls' := [some (.ref 1), some (.int x1), some (.int (x2 + nI 1))]) rfl ?_
        refine dx_goto (pc := 28) hx dX0_freeSingers_28 (tgt := 4) (by decide) ?_
        exact (ih x1 (x2 + nI 1) q h hk)
      · replace h := (if_pos c16).symm.trans h
        refine dx_iload_n (pc := 19) hx dX0_freeSingers_19 rfl ?_
        refine dx_iconst (pc := 20) hx dX0_freeSingers_20 kc_1 ?_
        refine dx_iload_n (pc := 21) hx dX0_freeSingers_21 rfl ?_
        refine dx_ishl (pc := 22) hx dX0_freeSingers_22 ?_
        refine dx_ior (pc := 23) hx dX0_freeSingers_23 ?_
        refine dx_istore_n (pc := 24) hx dX0_freeSingers_24 (dc_le rfl) (ls' := [some (.ref 1), some (.int (x1 ||| ((nI 1) <<< (x2 &&& 31)))), some (.int x2)]) rfl ?_
        refine dx_iinc (pc := 25) hx dX0_freeSingers_25 rfl (v := x2 + nI 1) (congrArg (fun z => x2 + z) kc_1) (dc_le rfl) (ls' := [some (.ref 1), some (.int (x1 ||| ((nI 1) <<< (x2 &&& 31)))), some (.int (x2 + nI 1))]) rfl ?_
        refine dx_goto (pc := 28) hx dX0_freeSingers_28 (tgt := 4) (by decide) ?_
        exact (ih (x1 ||| ((nI 1) <<< (x2 &&& 31))) (x2 + nI 1) q h hk)
set_option maxHeartbeats 4000000 in
set_option maxRecDepth 100000 in
theorem th_X0_freeSingers_1 {σ : dc_HP} {r : Int32} (h : fn_X0_freeSingers σ 1 = some r) : dc_G mX0_freeSingers [.ref 1] σ (dc_qi (fun x τ => x = r ∧ τ = σ)) := by
  intro κ hO
  have hx : dc_Cx κ RX0 cX0_freeSingers 3 0 0 := hO.1
  show dc_X κ 0 [some (.ref 1), none, none] [] σ
  unfold fn_X0_freeSingers at h
  refine dx_iconst (pc := 0) hx dX0_freeSingers_0 kc_0 ?_
  refine dx_istore_n (pc := 1) hx dX0_freeSingers_1 (dc_le rfl) (ls' := [some (.ref 1), some (.int (nI 0)), none]) rfl ?_
  refine dx_iconst (pc := 2) hx dX0_freeSingers_2 kc_0 ?_
  refine dx_istore_n (pc := 3) hx dX0_freeSingers_3 (dc_le rfl) (ls' := [some (.ref 1), some (.int (nI 0)), some (.int (nI 0))]) rfl ?_
  obtain ⟨q4, h4, h⟩ := Option.bind_eq_some_iff.mp h
  refine (tl_X0_freeSingers_1_L4 hO σ  200 (nI 0) (nI 0) q4 h4 ?_)
  refine dx_iload_n (pc := 31) hx dX0_freeSingers_31 rfl ?_
  refine dx_aload_n (pc := 32) hx dX0_freeSingers_32 rfl ?_
  refine dx_getI (pc := 33) hx dX0_freeSingers_33 f_X0_27 rfl rfl ?_
  refine dx_iand (pc := 36) hx dX0_freeSingers_36 ?_
  obtain rfl := Option.some.inj h
  exact dx_iret hO (pc := 37) dX0_freeSingers_37 rfl ⟨_, rfl, rfl, rfl⟩
set_option maxHeartbeats 4000000 in
set_option maxRecDepth 100000 in
theorem th_X0_readyIn_1 {σ : dc_HP} {x1 : Int32} {r : Int32} (h : fn_X0_readyIn σ 1 x1 = some r) : dc_G mX0_readyIn [.ref 1, .int x1] σ (dc_qi (fun x τ => x = r ∧ τ = σ)) := by
  intro κ hO
  have hx : dc_Cx κ RX0 cX0_readyIn 2 1 23 := hO.1
  show dc_X κ 0 [some (.ref 1), some (.int x1)] [] σ
  unfold fn_X0_readyIn at h
  refine dx_aload_n (pc := 0) hx dX0_readyIn_0 rfl ?_
  refine dx_iload_n (pc := 1) hx dX0_readyIn_1 rfl ?_
  obtain ⟨r2, h2, h⟩ := Option.bind_eq_some_iff.mp h
  refine dx_callVir (pc := 2) (As := [.int x1]) (rest := []) hx dX0_readyIn_2 k_X0_84 rfl rfl rfl rfl (dc_le rfl) (dc_le rfl) (dc_le rfl) (dc_le rfl) rfl (th_X0_withBreath_1 h2) ?_
  refine dx_aload_n (pc := 5) hx dX0_readyIn_5 rfl ?_
  obtain ⟨r6, h6, h⟩ := Option.bind_eq_some_iff.mp h
  refine dx_callVir (pc := 6) (As := []) (rest := [.int r2]) hx dX0_readyIn_6 k_X0_87 rfl rfl rfl rfl (dc_le rfl) (dc_le rfl) (dc_le rfl) (dc_le rfl) rfl (th_X0_freeSingers_1 h6) ?_
  refine dx_iconst (pc := 9) hx dX0_readyIn_9 kc_m1 ?_
  refine dx_ixor (pc := 10) hx dX0_readyIn_10 ?_
  refine dx_iand (pc := 11) hx dX0_readyIn_11 ?_
  obtain rfl := Option.some.inj h
  exact dx_iret hO (pc := 12) dX0_readyIn_12 rfl ⟨_, rfl, rfl, rfl⟩
set_option maxHeartbeats 4000000 in
set_option maxRecDepth 100000 in
theorem th_X0_needOf_1 {σ : dc_HP} {x1 : Int32} {x2 : Int32} {r : Int32} (h : fn_X0_needOf σ 1 x1 x2 = some r) : dc_G mX0_needOf [.ref 1, .int x1, .int x2] σ (dc_qi (fun x τ => x = r ∧ τ = σ)) := by
  intro κ hO
  have hx : dc_Cx κ RX0 cX0_needOf 4 1 22 := hO.1
  show dc_X κ 0 [some (.ref 1), some (.int x1), some (.int x2), none] [] σ
  unfold fn_X0_needOf at h
  refine dx_iload_n (pc := 0) hx dX0_needOf_0 rfl ?_
  refine dx_iconst (pc := 1) hx dX0_needOf_1 kc_0 ?_
  refine dx_iconst (pc := 2) hx dX0_needOf_2 kc_5 ?_
  obtain ⟨r3, h3, h⟩ := Option.bind_eq_some_iff.mp h
  refine dx_callNir (pc := 3) (As := [.int x1, .int (nI 0), .int (nI 5)]) (rest := []) hx dX0_needOf_3 k_X0_49 rfl (dc_le rfl) (dc_le rfl) (dc_le rfl) (dc_le rfl) rfl (th_X8_within h3) ?_
  obtain ⟨q6, hr, h⟩ := Option.bind_eq_some_iff.mp h
  have hk : dc_X κ 23 [some (.ref 1), some (.int x1), some (.int x2), none] [.int q6] σ := by
    clear hr
    refine dx_istore_n (pc := 23) hx dX0_needOf_23 (dc_le rfl) (ls' := [some (.ref 1), some (.int x1), some (.int x2), some (.int q6)]) rfl ?_
    refine dx_iload_n (pc := 24) hx dX0_needOf_24 rfl ?_
    refine dx_if_eq (pc := 25) hx dX0_needOf_25 (tgt := 41) (by decide) (fun c25 => ?_) (fun c25 => ?_)
    · replace h := (if_pos c25).symm.trans h
      refine dx_iconst (pc := 41) hx dX0_needOf_41 kc_0 ?_
      obtain rfl := Option.some.inj h
      exact dx_iret hO (pc := 42) dX0_needOf_42 rfl ⟨_, rfl, rfl, rfl⟩
    · replace h := (if_neg c25).symm.trans h
      refine dx_aload_n (pc := 28) hx dX0_needOf_28 rfl ?_
      refine dx_getR (r := 4) (pc := 29) hx dX0_needOf_29 f_X0_18 rfl rfl ?_
      refine dx_iload_n (pc := 32) hx dX0_needOf_32 rfl ?_
      refine dx_iconst (pc := 33) hx dX0_needOf_33 kc_4 ?_
      refine dx_imul (pc := 34) hx dX0_needOf_34 ?_
      refine dx_iload_n (pc := 35) hx dX0_needOf_35 rfl ?_
      refine dx_iadd (pc := 36) hx dX0_needOf_36 ?_
      by_cases g37 : ((x1 * (nI 4)) + x2) < 0 ∨ 24 ≤ ((x1 * (nI 4)) + x2).toNatClampNeg
      · cases (if_pos g37).symm.trans h
      replace h := (if_neg g37).symm.trans h
      refine dx_iald (pc := 37) hx dX0_needOf_37 rfl g37 ?_
      refine dx_goto (pc := 38) hx dX0_needOf_38 (tgt := 42) (by decide) ?_
      obtain rfl := Option.some.inj h
      exact dx_iret hO (pc := 42) dX0_needOf_42 rfl ⟨_, rfl, rfl, rfl⟩
  replace h := hr
  clear hr
  refine dx_if_eq (pc := 6) hx dX0_needOf_6 (tgt := 22) (by decide) (fun c6 => ?_) (fun c6 => ?_)
  · replace h := (if_pos c6).symm.trans h
    refine dx_iconst (pc := 22) hx dX0_needOf_22 kc_0 ?_
    obtain rfl := Option.some.inj h
    exact hk
  · replace h := (if_neg c6).symm.trans h
    refine dx_iload_n (pc := 9) hx dX0_needOf_9 rfl ?_
    refine dx_iconst (pc := 10) hx dX0_needOf_10 kc_0 ?_
    refine dx_iconst (pc := 11) hx dX0_needOf_11 kc_3 ?_
    obtain ⟨r12, h12, h⟩ := Option.bind_eq_some_iff.mp h
    refine dx_callNir (pc := 12) (As := [.int x2, .int (nI 0), .int (nI 3)]) (rest := []) hx dX0_needOf_12 k_X0_49 rfl (dc_le rfl) (dc_le rfl) (dc_le rfl) (dc_le rfl) rfl (th_X8_within h12) ?_
    refine dx_if_eq (pc := 15) hx dX0_needOf_15 (tgt := 22) (by decide) (fun c15 => ?_) (fun c15 => ?_)
    · replace h := (if_pos c15).symm.trans h
      refine dx_iconst (pc := 22) hx dX0_needOf_22 kc_0 ?_
      obtain rfl := Option.some.inj h
      exact hk
    · replace h := (if_neg c15).symm.trans h
      refine dx_iconst (pc := 18) hx dX0_needOf_18 kc_1 ?_
      refine dx_goto (pc := 19) hx dX0_needOf_19 (tgt := 23) (by decide) ?_
      obtain rfl := Option.some.inj h
      exact hk
set_option maxHeartbeats 4000000 in
set_option maxRecDepth 100000 in
theorem tl_X0_canBeSung_1_L2 {κ : dc_KX} {Q : Option Value → dc_HP → Prop} (hO : dc_Ok κ mX0_canBeSung Q) (σ : dc_HP) (x1 : Int32) : ∀ (n : Nat) (x2 : Int32) (q : (Int32) ⊕ (Unit)), fn_X0_canBeSung_L2 σ 1 x1 n x2 = some q → ∀ (hk : ∀ m : Unit, q = .inr m → dc_X κ 32 [some (.ref 1), some (.int x1), none] [] σ) (hr : ∀ r : Int32, q = .inl r → Q (some (.int r)) σ), dc_X κ 2 [some (.ref 1), some (.int x1), some (.int x2)] [] σ := by
  have hx : dc_Cx κ RX0 cX0_canBeSung 3 2 45 := hO.1
  intro n
  induction n with
  | zero =>
    intro x2 q h
    cases h
  | succ n ih =>
    intro x2 q h hk hr
    unfold fn_X0_canBeSung_L2 at h
    refine dx_iload_n (pc := 2) hx dX0_canBeSung_2 rfl ?_
    refine dx_iconst (pc := 3) hx dX0_canBeSung_3 kc_4 ?_
    refine dx_icmp_ge (pc := 4) hx dX0_canBeSung_4 (tgt := 32) (by decide) (fun c4 => ?_) (fun c4 => ?_)
    · replace h := (if_pos c4).symm.trans h
      obtain rfl := Option.some.inj h
      exact dx_wk [true, true, false] <| (hk () rfl)
    · replace h := (if_neg c4).symm.trans h
      refine dx_aload_n (pc := 7) hx dX0_canBeSung_7 rfl ?_
      refine dx_iload_n (pc := 8) hx dX0_canBeSung_8 rfl ?_
      obtain ⟨r9, h9, h⟩ := Option.bind_eq_some_iff.mp h
      refine dx_callVir (pc := 9) (As := [.int x2]) (rest := []) hx dX0_canBeSung_9 k_X0_96 rfl rfl rfl rfl (dc_le rfl) (dc_le rfl) (dc_le rfl) (dc_le rfl) rfl (th_X0_readyIn_1 h9) ?_
      obtain ⟨r12, h12, h⟩ := Option.bind_eq_some_iff.mp h
      refine dx_callSir (pc := 12) (As := [.int r9]) (rest := []) hx dX0_canBeSung_12 k_X0_91 rfl (dc_le rfl) (dc_le rfl) (dc_le rfl) (dc_le rfl) rfl (th_J6_bitCount_0f7a4 h12) ?_
      refine dx_aload_n (pc := 15) hx dX0_canBeSung_15 rfl ?_
      refine dx_iload_n (pc := 16) hx dX0_canBeSung_16 rfl ?_
      refine dx_iload_n (pc := 17) hx dX0_canBeSung_17 rfl ?_
      obtain ⟨r18, h18, h⟩ := Option.bind_eq_some_iff.mp h
      refine dx_callVir (pc := 18) (As := [.int x1, .int x2]) (rest := [.int r12]) hx dX0_canBeSung_18 k_X0_81 rfl rfl rfl rfl (dc_le rfl) (dc_le rfl) (dc_le rfl) (dc_le rfl) rfl (th_X0_needOf_1 h18) ?_
      refine dx_icmp_ge (pc := 21) hx dX0_canBeSung_21 (tgt := 26) (by decide) (fun c21 => ?_) (fun c21 => ?_)
      · replace h := (if_pos c21).symm.trans h
        refine dx_iinc (pc := 26) hx dX0_canBeSung_26 rfl (v := x2 + nI 1) (congrArg (fun z => x2 + z) kc_1) (dc_le rfl) (ls' := [some (.ref 1), some (.int x1), some (.int (x2 + nI 1))]) rfl ?_
        refine dx_goto (pc := 29) hx dX0_canBeSung_29 (tgt := 2) (by decide) ?_
        exact (ih (x2 + nI 1) q h hk hr)
      · replace h := (if_neg c21).symm.trans h
        refine dx_iconst (pc := 24) hx dX0_canBeSung_24 kc_0 ?_
        obtain rfl := Option.some.inj h
        exact dx_zret hO (pc := 25) dX0_canBeSung_25 rfl rfl (hr (nI 0) rfl)
set_option maxHeartbeats 4000000 in
set_option maxRecDepth 100000 in
theorem th_X0_canBeSung_1 {σ : dc_HP} {x1 : Int32} {r : Int32} (h : fn_X0_canBeSung σ 1 x1 = some r) : dc_G mX0_canBeSung [.ref 1, .int x1] σ (dc_qi (fun x τ => x = r ∧ τ = σ)) := by
  intro κ hO
  have hx : dc_Cx κ RX0 cX0_canBeSung 3 2 45 := hO.1
  show dc_X κ 0 [some (.ref 1), some (.int x1), none] [] σ
  unfold fn_X0_canBeSung at h
  refine dx_iconst (pc := 0) hx dX0_canBeSung_0 kc_0 ?_
  refine dx_istore_n (pc := 1) hx dX0_canBeSung_1 (dc_le rfl) (ls' := [some (.ref 1), some (.int x1), some (.int (nI 0))]) rfl ?_
  obtain ⟨q9, h2, h⟩ := Option.bind_eq_some_iff.mp h
  refine (tl_X0_canBeSung_1_L2 hO σ x1 200 (nI 0) q9 h2 (fun q2 e9 => ?_) (fun r9 e9 => ?_))
  rotate_left
  · subst e9
    obtain rfl := Option.some.inj h
    exact ⟨_, rfl, rfl, rfl⟩
  subst e9
  replace h := dc_inr h
  refine dx_iconst (pc := 32) hx dX0_canBeSung_32 kc_1 ?_
  obtain rfl := Option.some.inj h
  exact dx_zret hO (pc := 33) dX0_canBeSung_33 rfl rfl ⟨_, rfl, rfl, rfl⟩
set_option maxHeartbeats 4000000 in
set_option maxRecDepth 100000 in
theorem th_X0_debtOf_1 {σ : dc_HP} {x1 : Int32} {r : Int32} (h : fn_X0_debtOf σ 1 x1 = some r) : dc_G mX0_debtOf [.ref 1, .int x1] σ (dc_qi (fun x τ => x = r ∧ τ = σ)) := by
  intro κ hO
  have hx : dc_Cx κ RX0 cX0_debtOf 2 1 21 := hO.1
  show dc_X κ 0 [some (.ref 1), some (.int x1)] [] σ
  unfold fn_X0_debtOf at h
  refine dx_aload_n (pc := 0) hx dX0_debtOf_0 rfl ?_
  refine dx_iload_n (pc := 1) hx dX0_debtOf_1 rfl ?_
  obtain ⟨r2, h2, h⟩ := Option.bind_eq_some_iff.mp h
  refine dx_callVir (pc := 2) (As := [.int x1]) (rest := []) hx dX0_debtOf_2 k_X0_53 rfl rfl rfl rfl (dc_le rfl) (dc_le rfl) (dc_le rfl) (dc_le rfl) rfl (th_X0_has_1 h2) ?_
  refine dx_if_eq (pc := 5) hx dX0_debtOf_5 (tgt := 17) (by decide) (fun c5 => ?_) (fun c5 => ?_)
  · replace h := (if_pos c5).symm.trans h
    refine dx_iconst (pc := 17) hx dX0_debtOf_17 kc_0 ?_
    obtain rfl := Option.some.inj h
    exact dx_iret hO (pc := 18) dX0_debtOf_18 rfl ⟨_, rfl, rfl, rfl⟩
  · replace h := (if_neg c5).symm.trans h
    refine dx_aload_n (pc := 8) hx dX0_debtOf_8 rfl ?_
    refine dx_getR (r := 3) (pc := 9) hx dX0_debtOf_9 f_X0_15 rfl rfl ?_
    refine dx_iload_n (pc := 12) hx dX0_debtOf_12 rfl ?_
    by_cases g13 : x1 < 0 ∨ 8 ≤ x1.toNatClampNeg
    · cases (if_pos g13).symm.trans h
    replace h := (if_neg g13).symm.trans h
    refine dx_iald (pc := 13) hx dX0_debtOf_13 rfl g13 ?_
    refine dx_goto (pc := 14) hx dX0_debtOf_14 (tgt := 18) (by decide) ?_
    obtain rfl := Option.some.inj h
    exact dx_iret hO (pc := 18) dX0_debtOf_18 rfl ⟨_, rfl, rfl, rfl⟩
set_option maxHeartbeats 4000000 in
set_option maxRecDepth 100000 in
theorem th_X0_voiceOf_1 {σ : dc_HP} {x1 : Int32} {r : Int32} (h : fn_X0_voiceOf σ 1 x1 = some r) : dc_G mX0_voiceOf [.ref 1, .int x1] σ (dc_qi (fun x τ => x = r ∧ τ = σ)) := by
  intro κ hO
  have hx : dc_Cx κ RX0 cX0_voiceOf 2 1 21 := hO.1
  show dc_X κ 0 [some (.ref 1), some (.int x1)] [] σ
  unfold fn_X0_voiceOf at h
  refine dx_aload_n (pc := 0) hx dX0_voiceOf_0 rfl ?_
  refine dx_iload_n (pc := 1) hx dX0_voiceOf_1 rfl ?_
  obtain ⟨r2, h2, h⟩ := Option.bind_eq_some_iff.mp h
  refine dx_callVir (pc := 2) (As := [.int x1]) (rest := []) hx dX0_voiceOf_2 k_X0_53 rfl rfl rfl rfl (dc_le rfl) (dc_le rfl) (dc_le rfl) (dc_le rfl) rfl (th_X0_has_1 h2) ?_
  refine dx_if_eq (pc := 5) hx dX0_voiceOf_5 (tgt := 17) (by decide) (fun c5 => ?_) (fun c5 => ?_)
  · replace h := (if_pos c5).symm.trans h
    refine dx_bipush (pc := 17) hx dX0_voiceOf_17 kb_m6 ?_
    obtain rfl := Option.some.inj h
    exact dx_iret hO (pc := 19) dX0_voiceOf_19 rfl ⟨_, rfl, rfl, rfl⟩
  · replace h := (if_neg c5).symm.trans h
    refine dx_aload_n (pc := 8) hx dX0_voiceOf_8 rfl ?_
    refine dx_getR (r := 2) (pc := 9) hx dX0_voiceOf_9 f_X0_9 rfl rfl ?_
    refine dx_iload_n (pc := 12) hx dX0_voiceOf_12 rfl ?_
    by_cases g13 : x1 < 0 ∨ 8 ≤ x1.toNatClampNeg
    · cases (if_pos g13).symm.trans h
    replace h := (if_neg g13).symm.trans h
    refine dx_iald (pc := 13) hx dX0_voiceOf_13 rfl g13 ?_
    refine dx_goto (pc := 14) hx dX0_voiceOf_14 (tgt := 19) (by decide) ?_
    obtain rfl := Option.some.inj h
    exact dx_iret hO (pc := 19) dX0_voiceOf_19 rfl ⟨_, rfl, rfl, rfl⟩
set_option maxHeartbeats 4000000 in
set_option maxRecDepth 100000 in
theorem th_X0_payOf_1 {σ : dc_HP} {x1 : Int32} {r : Int32} (h : fn_X0_payOf σ 1 x1 = some r) : dc_G mX0_payOf [.ref 1, .int x1] σ (dc_qi (fun x τ => x = r ∧ τ = σ)) := by
  intro κ hO
  have hx : dc_Cx κ RX0 cX0_payOf 2 1 22 := hO.1
  show dc_X κ 0 [some (.ref 1), some (.int x1)] [] σ
  unfold fn_X0_payOf at h
  refine dx_iload_n (pc := 0) hx dX0_payOf_0 rfl ?_
  refine dx_iconst (pc := 1) hx dX0_payOf_1 kc_0 ?_
  refine dx_iconst (pc := 2) hx dX0_payOf_2 kc_5 ?_
  obtain ⟨r3, h3, h⟩ := Option.bind_eq_some_iff.mp h
  refine dx_callNir (pc := 3) (As := [.int x1, .int (nI 0), .int (nI 5)]) (rest := []) hx dX0_payOf_3 k_X0_49 rfl (dc_le rfl) (dc_le rfl) (dc_le rfl) (dc_le rfl) rfl (th_X8_within h3) ?_
  refine dx_if_eq (pc := 6) hx dX0_payOf_6 (tgt := 18) (by decide) (fun c6 => ?_) (fun c6 => ?_)
  · replace h := (if_pos c6).symm.trans h
    refine dx_iconst (pc := 18) hx dX0_payOf_18 kc_0 ?_
    obtain rfl := Option.some.inj h
    exact dx_iret hO (pc := 19) dX0_payOf_19 rfl ⟨_, rfl, rfl, rfl⟩
  · replace h := (if_neg c6).symm.trans h
    refine dx_aload_n (pc := 9) hx dX0_payOf_9 rfl ?_
    refine dx_getR (r := 6) (pc := 10) hx dX0_payOf_10 f_X0_24 rfl rfl ?_
    refine dx_iload_n (pc := 13) hx dX0_payOf_13 rfl ?_
    by_cases g14 : x1 < 0 ∨ 6 ≤ x1.toNatClampNeg
    · cases (if_pos g14).symm.trans h
    replace h := (if_neg g14).symm.trans h
    refine dx_iald (pc := 14) hx dX0_payOf_14 rfl g14 ?_
    refine dx_goto (pc := 15) hx dX0_payOf_15 (tgt := 19) (by decide) ?_
    obtain rfl := Option.some.inj h
    exact dx_iret hO (pc := 19) dX0_payOf_19 rfl ⟨_, rfl, rfl, rfl⟩
set_option maxHeartbeats 4000000 in
set_option maxRecDepth 100000 in
theorem th_X0_worthOf_1 {σ : dc_HP} {x1 : Int32} {r : Int32} (h : fn_X0_worthOf σ 1 x1 = some r) : dc_G mX0_worthOf [.ref 1, .int x1] σ (dc_qi (fun x τ => x = r ∧ τ = σ)) := by
  intro κ hO
  have hx : dc_Cx κ RX0 cX0_worthOf 2 2 43 := hO.1
  show dc_X κ 0 [some (.ref 1), some (.int x1)] [] σ
  unfold fn_X0_worthOf at h
  refine dx_aload_n (pc := 0) hx dX0_worthOf_0 rfl ?_
  refine dx_iload_n (pc := 1) hx dX0_worthOf_1 rfl ?_
  obtain ⟨r2, h2, h⟩ := Option.bind_eq_some_iff.mp h
  refine dx_callVir (pc := 2) (As := [.int x1]) (rest := []) hx dX0_worthOf_2 k_X0_69 rfl rfl rfl rfl (dc_le rfl) (dc_le rfl) (dc_le rfl) (dc_le rfl) rfl (th_X0_barsOf_1 h2) ?_
  refine dx_aload_n (pc := 5) hx dX0_worthOf_5 rfl ?_
  refine dx_iload_n (pc := 6) hx dX0_worthOf_6 rfl ?_
  obtain ⟨r7, h7, h⟩ := Option.bind_eq_some_iff.mp h
  refine dx_callVir (pc := 7) (As := [.int x1]) (rest := [.int r2]) hx dX0_worthOf_7 k_X0_72 rfl rfl rfl rfl (dc_le rfl) (dc_le rfl) (dc_le rfl) (dc_le rfl) rfl (th_X0_payOf_1 h7) ?_
  refine dx_imul (pc := 10) hx dX0_worthOf_10 ?_
  obtain rfl := Option.some.inj h
  exact dx_iret hO (pc := 11) dX0_worthOf_11 rfl ⟨_, rfl, rfl, rfl⟩
set_option maxHeartbeats 4000000 in
set_option maxRecDepth 100000 in
theorem tl_X3_takePays_1_L2 {κ : dc_KX} {Q : Option Value → dc_HP → Prop} (hO : dc_Ok κ mX3_takePays Q) (x2 : Int32) : ∀ (n : Nat) (x3 : Int32) (σ : dc_HP) (q : dc_HP), fn_X3_takePays_L2 1 x2 n x3 σ = some q → ∀ (hk : dc_X κ 38 [some (.ref 21), some (.ref 1), some (.int x2), none] [] q), dc_X κ 2 [some (.ref 21), some (.ref 1), some (.int x2), some (.int x3)] [] σ := by
  have hx : dc_Cx κ RX3 cX3_takePays 4 3 64 := hO.1
  intro n
  induction n with
  | zero =>
    intro x3 σ q h
    cases h
  | succ n ih =>
    intro x3 σ q h hk
    unfold fn_X3_takePays_L2 at h
    refine dx_iload_n (pc := 2) hx dX3_takePays_2 rfl ?_
    refine dx_bipush (pc := 3) hx dX3_takePays_3 kb_6 ?_
    refine dx_icmp_ge (pc := 5) hx dX3_takePays_5 (tgt := 38) (by decide) (fun c5 => ?_) (fun c5 => ?_)
    · replace h := (if_pos c5).symm.trans h
      obtain rfl := Option.some.inj h
      exact dx_wk [true, true, true, false] <| hk
    · replace h := (if_neg c5).symm.trans h
      refine dx_aload_n (pc := 8) hx dX3_takePays_8 rfl ?_
      refine dx_getR (r := 22) (pc := 9) hx dX3_takePays_9 f_X3_9 rfl rfl ?_
      refine dx_iload_n (pc := 12) hx dX3_takePays_12 rfl ?_
      refine dx_aload_n (pc := 13) hx dX3_takePays_13 rfl ?_
      refine dx_iload_n (pc := 14) hx dX3_takePays_14 rfl ?_
      refine dx_iload_n (pc := 15) hx dX3_takePays_15 rfl ?_
      obtain ⟨r16, h16, h⟩ := Option.bind_eq_some_iff.mp h
      refine dx_callVir (pc := 16) (As := [.int x3, .int x2]) (rest := [.int x3, .ref 22]) hx dX3_takePays_16 k_X3_42 rfl rfl rfl rfl (dc_le rfl) (dc_le rfl) (dc_le rfl) (dc_le rfl) rfl (th_X0_needOf_1 h16) ?_
      refine dx_if_le (pc := 19) hx dX3_takePays_19 (tgt := 30) (by decide) (fun c19 => ?_) (fun c19 => ?_)
      · replace h := (if_pos c19).symm.trans h
        refine dx_iconst (pc := 30) hx dX3_takePays_30 kc_m1 ?_
        by_cases g31 : x3 < 0 ∨ 6 ≤ x3.toNatClampNeg
        · cases (if_pos g31).symm.trans h
        replace h := (if_neg g31).symm.trans h
        refine dx_iast (pc := 31) hx dX3_takePays_31 rfl g31 ?_
        refine dx_nm (fun s31 e31 => ?_)
        replace h := dc_lt e31 h
        refine dx_iinc (pc := 32) hx dX3_takePays_32 rfl (v := x3 + nI 1) (congrArg (fun z => x3 + z) kc_1) (dc_le rfl) (ls' := [some (.ref 21), some (.ref 1), some (.int x2), some (.int (x3 + nI 1))]) rfl ?_
        refine dx_goto (pc := 35) hx dX3_takePays_35 (tgt := 2) (by decide) ?_
        exact (ih (x3 + nI 1) s31 q h hk)
      · replace h := (if_neg c19).symm.trans h
        refine dx_aload_n (pc := 22) hx dX3_takePays_22 rfl ?_
        refine dx_iload_n (pc := 23) hx dX3_takePays_23 rfl ?_
        obtain ⟨r24, h24, h⟩ := Option.bind_eq_some_iff.mp h
        refine dx_callVir (pc := 24) (As := [.int x3]) (rest := [.int x3, .ref 22]) hx dX3_takePays_24 k_X3_45 rfl rfl rfl rfl (dc_le rfl) (dc_le rfl) (dc_le rfl) (dc_le rfl) rfl (th_X0_worthOf_1 h24) ?_
        refine dx_goto (pc := 27) hx dX3_takePays_27 (tgt := 31) (by decide) ?_
        by_cases g31 : x3 < 0 ∨ 6 ≤ x3.toNatClampNeg
        · cases (if_pos g31).symm.trans h
        replace h := (if_neg g31).symm.trans h
        refine dx_iast (pc := 31) hx dX3_takePays_31 rfl g31 ?_
        refine dx_nm (fun s31 e31 => ?_)
        replace h := dc_lt e31 h
        refine dx_iinc (pc := 32) hx dX3_takePays_32 rfl (v := x3 + nI 1) (congrArg (fun z => x3 + z) kc_1) (dc_le rfl) (ls' := [some (.ref 21), some (.ref 1), some (.int x2), some (.int (x3 + nI 1))]) rfl ?_
        refine dx_goto (pc := 35) hx dX3_takePays_35 (tgt := 2) (by decide) ?_
        exact (ih (x3 + nI 1) s31 q h hk)
set_option maxHeartbeats 4000000 in
set_option maxRecDepth 100000 in
theorem th_X3_takePays_1 {σ : dc_HP} {x2 : Int32} {r : dc_HP} (h : fn_X3_takePays σ 1 x2 = some r) : dc_G mX3_takePays [.ref 21, .ref 1, .int x2] σ (dc_qv (fun τ => τ = r)) := by
  intro κ hO
  have hx : dc_Cx κ RX3 cX3_takePays 4 3 64 := hO.1
  show dc_X κ 0 [some (.ref 21), some (.ref 1), some (.int x2), none] [] σ
  unfold fn_X3_takePays at h
  refine dx_iconst (pc := 0) hx dX3_takePays_0 kc_0 ?_
  refine dx_istore_n (pc := 1) hx dX3_takePays_1 (dc_le rfl) (ls' := [some (.ref 21), some (.ref 1), some (.int x2), some (.int (nI 0))]) rfl ?_
  obtain ⟨q2, h2, h⟩ := Option.bind_eq_some_iff.mp h
  refine (tl_X3_takePays_1_L2 hO x2 200 (nI 0) σ q2 h2 ?_)
  obtain rfl := Option.some.inj h
  exact dx_vret hO (pc := 38) dX3_takePays_38 rfl ⟨rfl, rfl⟩
set_option maxHeartbeats 4000000 in
set_option maxRecDepth 100000 in
theorem th_X3_afterPiece {σ : dc_HP} {x1 : Int32} {x2 : Int32} {r : Int32} (h : fn_X3_afterPiece σ x1 x2 = some r) : dc_G mX3_afterPiece [.ref 21, .int x1, .int x2] σ (dc_qi (fun x τ => x = r ∧ τ = σ)) := by
  intro κ hO
  have hx : dc_Cx κ RX3 cX3_afterPiece 4 1 23 := hO.1
  show dc_X κ 0 [some (.ref 21), some (.int x1), some (.int x2), none] [] σ
  unfold fn_X3_afterPiece at h
  refine dx_iload_n (pc := 0) hx dX3_afterPiece_0 rfl ?_
  refine dx_iconst (pc := 1) hx dX3_afterPiece_1 kc_m1 ?_
  refine dx_icmp_eq (pc := 2) hx dX3_afterPiece_2 (tgt := 24) (by decide) (fun c2 => ?_) (fun c2 => ?_)
  · replace h := (if_pos c2).symm.trans h
    refine dx_iconst (pc := 24) hx dX3_afterPiece_24 kc_m1 ?_
    obtain rfl := Option.some.inj h
    exact dx_iret hO (pc := 25) dX3_afterPiece_25 rfl ⟨_, rfl, rfl, rfl⟩
  · replace h := (if_neg c2).symm.trans h
    refine dx_iload_n (pc := 5) hx dX3_afterPiece_5 rfl ?_
    refine dx_iconst (pc := 6) hx dX3_afterPiece_6 kc_0 ?_
    refine dx_iconst (pc := 7) hx dX3_afterPiece_7 kc_5 ?_
    obtain ⟨r8, h8, h⟩ := Option.bind_eq_some_iff.mp h
    refine dx_callNir (pc := 8) (As := [.int x2, .int (nI 0), .int (nI 5)]) (rest := []) hx dX3_afterPiece_8 k_X3_62 rfl (dc_le rfl) (dc_le rfl) (dc_le rfl) (dc_le rfl) rfl (th_X8_within h8) ?_
    refine dx_if_eq (pc := 11) hx dX3_afterPiece_11 (tgt := 24) (by decide) (fun c11 => ?_) (fun c11 => ?_)
    · replace h := (if_pos c11).symm.trans h
      refine dx_iconst (pc := 24) hx dX3_afterPiece_24 kc_m1 ?_
      obtain rfl := Option.some.inj h
      exact dx_iret hO (pc := 25) dX3_afterPiece_25 rfl ⟨_, rfl, rfl, rfl⟩
    · replace h := (if_neg c11).symm.trans h
      refine dx_aload_n (pc := 14) hx dX3_afterPiece_14 rfl ?_
      refine dx_getR (r := 22) (pc := 15) hx dX3_afterPiece_15 f_X3_9 rfl rfl ?_
      refine dx_iload_n (pc := 18) hx dX3_afterPiece_18 rfl ?_
      by_cases g19 : x2 < 0 ∨ 6 ≤ x2.toNatClampNeg
      · cases (if_pos g19).symm.trans h
      replace h := (if_neg g19).symm.trans h
      refine dx_iald (pc := 19) hx dX3_afterPiece_19 rfl g19 ?_
      refine dx_iconst (pc := 20) hx dX3_afterPiece_20 kc_m1 ?_
      refine dx_icmp_ne (pc := 21) hx dX3_afterPiece_21 (tgt := 26) (by decide) (fun c21 => ?_) (fun c21 => ?_)
      · replace h := (if_neg c21).symm.trans h
        refine dx_iconst (pc := 26) hx dX3_afterPiece_26 kc_0 ?_
        refine dx_iload_n (pc := 27) hx dX3_afterPiece_27 rfl ?_
        refine dx_aload_n (pc := 28) hx dX3_afterPiece_28 rfl ?_
        refine dx_getR (r := 22) (pc := 29) hx dX3_afterPiece_29 f_X3_9 rfl rfl ?_
        refine dx_iload_n (pc := 32) hx dX3_afterPiece_32 rfl ?_
        by_cases g33 : x2 < 0 ∨ 6 ≤ x2.toNatClampNeg
        · cases (if_pos g33).symm.trans h
        replace h := (if_neg g33).symm.trans h
        refine dx_iald (pc := 33) hx dX3_afterPiece_33 rfl g33 ?_
        refine dx_isub (pc := 34) hx dX3_afterPiece_34 ?_
        refine dx_mmax (pc := 35) hx dX3_afterPiece_35 k_X3_66 (dc_le rfl) (dc_le rfl) ?_
        refine dx_istore_n (pc := 38) hx dX3_afterPiece_38 (dc_le rfl) (ls' := [some (.ref 21), some (.int x1), some (.int x2), some (.int (if (nI 0) < (x1 - (σ.1 22 x2.toNatClampNeg)) then (x1 - (σ.1 22 x2.toNatClampNeg)) else (nI 0)))]) rfl ?_
        refine dx_iload_n (pc := 39) hx dX3_afterPiece_39 rfl ?_
        refine dx_iload_n (pc := 40) hx dX3_afterPiece_40 rfl ?_
        refine dx_bipush (pc := 41) hx dX3_afterPiece_41 kb_10 ?_
        refine dx_idiv (pc := 43) hx dX3_afterPiece_43 (by decide) ?_
        refine dx_iadd (pc := 44) hx dX3_afterPiece_44 ?_
        obtain rfl := Option.some.inj h
        exact dx_iret hO (pc := 45) dX3_afterPiece_45 rfl ⟨_, rfl, rfl, rfl⟩
      · replace h := (if_pos c21).symm.trans h
        refine dx_iconst (pc := 24) hx dX3_afterPiece_24 kc_m1 ?_
        obtain rfl := Option.some.inj h
        exact dx_iret hO (pc := 25) dX3_afterPiece_25 rfl ⟨_, rfl, rfl, rfl⟩
set_option maxHeartbeats 4000000 in
set_option maxRecDepth 100000 in
theorem tl_X3_leastLeft_L5 {κ : dc_KX} {Q : Option Value → dc_HP → Prop} (hO : dc_Ok κ mX3_leastLeft Q) (σ : dc_HP) (x1 : Int32) (x2 : Int32) : ∀ (n : Nat) (x3 : Int32) (x4 : Int32) (q : Int32), fn_X3_leastLeft_L5 σ x1 x2 n x3 x4 = some q → ∀ (hk : dc_X κ 95 [some (.ref 21), some (.int x1), some (.int x2), some (.int q), none, none, none] [] σ), dc_X κ 5 [some (.ref 21), some (.int x1), some (.int x2), some (.int x3), some (.int x4), none, none] [] σ := by
  have hx : dc_Cx κ RX3 cX3_leastLeft 7 2 46 := hO.1
  intro n
  induction n with
  | zero =>
    intro x3 x4 q h
    cases h
  | succ n ih =>
    intro x3 x4 q h hk
    unfold fn_X3_leastLeft_L5 at h
    refine dx_iload (pc := 5) hx dX3_leastLeft_5 rfl ?_
    refine dx_bipush (pc := 7) hx dX3_leastLeft_7 kb_6 ?_
    refine dx_icmp_ge (pc := 9) hx dX3_leastLeft_9 (tgt := 95) (by decide) (fun c9 => ?_) (fun c9 => ?_)
    · replace h := (if_pos c9).symm.trans h
      obtain rfl := Option.some.inj h
      exact dx_wk [true, true, true, true, false, true, true] <| hk
    · replace h := (if_neg c9).symm.trans h
      refine dx_iload_n (pc := 12) hx dX3_leastLeft_12 rfl ?_
      refine dx_iconst (pc := 13) hx dX3_leastLeft_13 kc_1 ?_
      refine dx_iload (pc := 14) hx dX3_leastLeft_14 rfl ?_
      refine dx_ishl (pc := 16) hx dX3_leastLeft_16 ?_
      refine dx_iconst (pc := 17) hx dX3_leastLeft_17 kc_m1 ?_
      refine dx_ixor (pc := 18) hx dX3_leastLeft_18 ?_
      refine dx_iand (pc := 19) hx dX3_leastLeft_19 ?_
      refine dx_istore (pc := 20) hx dX3_leastLeft_20 (dc_le rfl) (ls' := [some (.ref 21), some (.int x1), some (.int x2), some (.int x3), some (.int x4), some (.int (x1 &&& (((nI 1) <<< (x4 &&& 31)) ^^^ ((-1 : Int32))))), none]) rfl ?_
      refine dx_iload (pc := 22) hx dX3_leastLeft_22 rfl ?_
      refine dx_iload_n (pc := 24) hx dX3_leastLeft_24 rfl ?_
      refine dx_icmp_eq (pc := 25) hx dX3_leastLeft_25 (tgt := 89) (by decide) (fun c25 => ?_) (fun c25 => ?_)
      · replace h := (if_pos c25).symm.trans h
        refine dx_iinc (pc := 89) hx dX3_leastLeft_89 rfl (v := x4 + nI 1) (congrArg (fun z => x4 + z) kc_1) (dc_le rfl) (ls' := [some (.ref 21), some (.int x1), some (.int x2), some (.int x3), some (.int (x4 + nI 1)), some (.int (x1 &&& (((nI 1) <<< (x4 &&& 31)) ^^^ ((-1 : Int32))))), none]) rfl ?_
        refine dx_goto (pc := 92) hx dX3_leastLeft_92 (tgt := 5) (by decide) ?_
        exact dx_wk [true, true, true, true, true, false, true] <| (ih x3 (x4 + nI 1) q h hk)
      · replace h := (if_neg c25).symm.trans h
        refine dx_iload_n (pc := 28) hx dX3_leastLeft_28 rfl ?_
        refine dx_iload (pc := 29) hx dX3_leastLeft_29 rfl ?_
        obtain ⟨r31, h31, h⟩ := Option.bind_eq_some_iff.mp h
        refine dx_callNir (pc := 31) (As := [.int x1, .int x4]) (rest := []) hx dX3_leastLeft_31 k_X3_59 rfl (dc_le rfl) (dc_le rfl) (dc_le rfl) (dc_le rfl) rfl (th_X8_bit h31) ?_
        refine dx_iconst (pc := 34) hx dX3_leastLeft_34 kc_1 ?_
        refine dx_icmp_ne (pc := 35) hx dX3_leastLeft_35 (tgt := 89) (by decide) (fun c35 => ?_) (fun c35 => ?_)
        · replace h := (if_neg c35).symm.trans h
          refine dx_iinc (pc := 89) hx dX3_leastLeft_89 rfl (v := x4 + nI 1) (congrArg (fun z => x4 + z) kc_1) (dc_le rfl) (ls' := [some (.ref 21), some (.int x1), some (.int x2), some (.int x3), some (.int (x4 + nI 1)), some (.int (x1 &&& (((nI 1) <<< (x4 &&& 31)) ^^^ ((-1 : Int32))))), none]) rfl ?_
          refine dx_goto (pc := 92) hx dX3_leastLeft_92 (tgt := 5) (by decide) ?_
          exact dx_wk [true, true, true, true, true, false, true] <| (ih x3 (x4 + nI 1) q h hk)
        · replace h := (if_pos c35).symm.trans h
          refine dx_iload (pc := 38) hx dX3_leastLeft_38 rfl ?_
          refine dx_iconst (pc := 40) hx dX3_leastLeft_40 kc_0 ?_
          refine dx_aload_n (pc := 41) hx dX3_leastLeft_41 rfl ?_
          refine dx_getR (r := 23) (pc := 42) hx dX3_leastLeft_42 f_X3_15 rfl rfl ?_
          refine dx_alen (pc := 45) hx dX3_leastLeft_45 rfl (by decide) (v := nI 64) rfl ?_
          refine dx_iconst (pc := 46) hx dX3_leastLeft_46 kc_1 ?_
          refine dx_isub (pc := 47) hx dX3_leastLeft_47 ?_
          obtain ⟨r48, h48, h⟩ := Option.bind_eq_some_iff.mp h
          refine dx_callNir (pc := 48) (As := [.int (x1 &&& (((nI 1) <<< (x4 &&& 31)) ^^^ ((-1 : Int32)))), .int (nI 0), .int ((nI 64) - (nI 1))]) (rest := []) hx dX3_leastLeft_48 k_X3_62 rfl (dc_le rfl) (dc_le rfl) (dc_le rfl) (dc_le rfl) rfl (th_X8_within h48) ?_
          refine dx_if_eq (pc := 51) hx dX3_leastLeft_51 (tgt := 89) (by decide) (fun c51 => ?_) (fun c51 => ?_)
          · replace h := (if_pos c51).symm.trans h
            refine dx_iinc (pc := 89) hx dX3_leastLeft_89 rfl (v := x4 + nI 1) (congrArg (fun z => x4 + z) kc_1) (dc_le rfl) (ls' := [some (.ref 21), some (.int x1), some (.int x2), some (.int x3), some (.int (x4 + nI 1)), some (.int (x1 &&& (((nI 1) <<< (x4 &&& 31)) ^^^ ((-1 : Int32))))), none]) rfl ?_
            refine dx_goto (pc := 92) hx dX3_leastLeft_92 (tgt := 5) (by decide) ?_
            exact dx_wk [true, true, true, true, true, false, true] <| (ih x3 (x4 + nI 1) q h hk)
          · replace h := (if_neg c51).symm.trans h
            refine dx_aload_n (pc := 54) hx dX3_leastLeft_54 rfl ?_
            refine dx_aload_n (pc := 55) hx dX3_leastLeft_55 rfl ?_
            refine dx_getR (r := 23) (pc := 56) hx dX3_leastLeft_56 f_X3_15 rfl rfl ?_
            refine dx_iload (pc := 59) hx dX3_leastLeft_59 rfl ?_
            by_cases g61 : (x1 &&& (((nI 1) <<< (x4 &&& 31)) ^^^ ((-1 : Int32)))) < 0 ∨ 64 ≤ (x1 &&& (((nI 1) <<< (x4 &&& 31)) ^^^ ((-1 : Int32)))).toNatClampNeg
            · cases (if_pos g61).symm.trans h
            replace h := (if_neg g61).symm.trans h
            refine dx_iald (pc := 61) hx dX3_leastLeft_61 rfl g61 ?_
            refine dx_iload (pc := 62) hx dX3_leastLeft_62 rfl ?_
            obtain ⟨r64, h64, h⟩ := Option.bind_eq_some_iff.mp h
            refine dx_callVir (pc := 64) (As := [.int (σ.1 23 (x1 &&& (((nI 1) <<< (x4 &&& 31)) ^^^ ((-1 : Int32)))).toNatClampNeg), .int x4]) (rest := []) hx dX3_leastLeft_64 k_X3_48 rfl rfl rfl rfl (dc_le rfl) (dc_le rfl) (dc_le rfl) (dc_le rfl) rfl (th_X3_afterPiece h64) ?_
            refine dx_istore (pc := 67) hx dX3_leastLeft_67 (dc_le rfl) (ls' := [some (.ref 21), some (.int x1), some (.int x2), some (.int x3), some (.int x4), some (.int (x1 &&& (((nI 1) <<< (x4 &&& 31)) ^^^ ((-1 : Int32))))), some (.int r64)]) rfl ?_
            refine dx_iload (pc := 69) hx dX3_leastLeft_69 rfl ?_
            refine dx_iconst (pc := 71) hx dX3_leastLeft_71 kc_m1 ?_
            refine dx_icmp_eq (pc := 72) hx dX3_leastLeft_72 (tgt := 89) (by decide) (fun c72 => ?_) (fun c72 => ?_)
            · replace h := (if_pos c72).symm.trans h
              refine dx_iinc (pc := 89) hx dX3_leastLeft_89 rfl (v := x4 + nI 1) (congrArg (fun z => x4 + z) kc_1) (dc_le rfl) (ls' := [some (.ref 21), some (.int x1), some (.int x2), some (.int x3), some (.int (x4 + nI 1)), some (.int (x1 &&& (((nI 1) <<< (x4 &&& 31)) ^^^ ((-1 : Int32))))), some (.int r64)]) rfl ?_
              refine dx_goto (pc := 92) hx dX3_leastLeft_92 (tgt := 5) (by decide) ?_
              exact dx_wk [true, true, true, true, true, false, false] <| (ih x3 (x4 + nI 1) q h hk)
            · replace h := (if_neg c72).symm.trans h
              refine dx_iload_n (pc := 75) hx dX3_leastLeft_75 rfl ?_
              refine dx_iconst (pc := 76) hx dX3_leastLeft_76 kc_m1 ?_
              refine dx_icmp_eq (pc := 77) hx dX3_leastLeft_77 (tgt := 86) (by decide) (fun c77 => ?_) (fun c77 => ?_)
              · replace h := (if_pos c77).symm.trans h
                refine dx_iload (pc := 86) hx dX3_leastLeft_86 rfl ?_
                refine dx_istore_n (pc := 88) hx dX3_leastLeft_88 (dc_le rfl) (ls' := [some (.ref 21), some (.int x1), some (.int x2), some (.int r64), some (.int x4), some (.int (x1 &&& (((nI 1) <<< (x4 &&& 31)) ^^^ ((-1 : Int32))))), some (.int r64)]) rfl ?_
                refine dx_iinc (pc := 89) hx dX3_leastLeft_89 rfl (v := x4 + nI 1) (congrArg (fun z => x4 + z) kc_1) (dc_le rfl) (ls' := [some (.ref 21), some (.int x1), some (.int x2), some (.int r64), some (.int (x4 + nI 1)), some (.int (x1 &&& (((nI 1) <<< (x4 &&& 31)) ^^^ ((-1 : Int32))))), some (.int r64)]) rfl ?_
                refine dx_goto (pc := 92) hx dX3_leastLeft_92 (tgt := 5) (by decide) ?_
                exact dx_wk [true, true, true, true, true, false, false] <| (ih r64 (x4 + nI 1) q h hk)
              · replace h := (if_neg c77).symm.trans h
                refine dx_iload (pc := 80) hx dX3_leastLeft_80 rfl ?_
                refine dx_iload_n (pc := 82) hx dX3_leastLeft_82 rfl ?_
                refine dx_icmp_ge (pc := 83) hx dX3_leastLeft_83 (tgt := 89) (by decide) (fun c83 => ?_) (fun c83 => ?_)
                · replace h := (if_pos c83).symm.trans h
                  refine dx_iinc (pc := 89) hx dX3_leastLeft_89 rfl (v := x4 + nI 1) (congrArg (fun z => x4 + z) kc_1) (dc_le rfl) (ls' := [some (.ref 21), some (.int x1), some (.int x2), some (.int x3), some (.int (x4 + nI 1)), some (.int (x1 &&& (((nI 1) <<< (x4 &&& 31)) ^^^ ((-1 : Int32))))), some (.int r64)]) rfl ?_
                  refine dx_goto (pc := 92) hx dX3_leastLeft_92 (tgt := 5) (by decide) ?_
                  exact dx_wk [true, true, true, true, true, false, false] <| (ih x3 (x4 + nI 1) q h hk)
                · replace h := (if_neg c83).symm.trans h
                  refine dx_iload (pc := 86) hx dX3_leastLeft_86 rfl ?_
                  refine dx_istore_n (pc := 88) hx dX3_leastLeft_88 (dc_le rfl) (ls' := [some (.ref 21), some (.int x1), some (.int x2), some (.int r64), some (.int x4), some (.int (x1 &&& (((nI 1) <<< (x4 &&& 31)) ^^^ ((-1 : Int32))))), some (.int r64)]) rfl ?_
                  refine dx_iinc (pc := 89) hx dX3_leastLeft_89 rfl (v := x4 + nI 1) (congrArg (fun z => x4 + z) kc_1) (dc_le rfl) (ls' := [some (.ref 21), some (.int x1), some (.int x2), some (.int r64), some (.int (x4 + nI 1)), some (.int (x1 &&& (((nI 1) <<< (x4 &&& 31)) ^^^ ((-1 : Int32))))), some (.int r64)]) rfl ?_
                  refine dx_goto (pc := 92) hx dX3_leastLeft_92 (tgt := 5) (by decide) ?_
                  exact dx_wk [true, true, true, true, true, false, false] <| (ih r64 (x4 + nI 1) q h hk)
set_option maxHeartbeats 4000000 in
set_option maxRecDepth 100000 in
theorem th_X3_leastLeft {σ : dc_HP} {x1 : Int32} {x2 : Int32} {r : Int32} (h : fn_X3_leastLeft σ x1 x2 = some r) : dc_G mX3_leastLeft [.ref 21, .int x1, .int x2] σ (dc_qi (fun x τ => x = r ∧ τ = σ)) := by
  intro κ hO
  have hx : dc_Cx κ RX3 cX3_leastLeft 7 2 46 := hO.1
  show dc_X κ 0 [some (.ref 21), some (.int x1), some (.int x2), none, none, none, none] [] σ
  unfold fn_X3_leastLeft at h
  refine dx_iconst (pc := 0) hx dX3_leastLeft_0 kc_m1 ?_
  refine dx_istore_n (pc := 1) hx dX3_leastLeft_1 (dc_le rfl) (ls' := [some (.ref 21), some (.int x1), some (.int x2), some (.int ((-1 : Int32))), none, none, none]) rfl ?_
  refine dx_iconst (pc := 2) hx dX3_leastLeft_2 kc_0 ?_
  refine dx_istore (pc := 3) hx dX3_leastLeft_3 (dc_le rfl) (ls' := [some (.ref 21), some (.int x1), some (.int x2), some (.int ((-1 : Int32))), some (.int (nI 0)), none, none]) rfl ?_
  obtain ⟨q5, h5, h⟩ := Option.bind_eq_some_iff.mp h
  refine (tl_X3_leastLeft_L5 hO σ x1 x2 200 ((-1 : Int32)) (nI 0) q5 h5 ?_)
  refine dx_iload_n (pc := 95) hx dX3_leastLeft_95 rfl ?_
  obtain rfl := Option.some.inj h
  exact dx_iret hO (pc := 96) dX3_leastLeft_96 rfl ⟨_, rfl, rfl, rfl⟩
set_option maxHeartbeats 4000000 in
set_option maxRecDepth 100000 in
theorem tl_X3_fewestFrom_L6 {κ : dc_KX} {Q : Option Value → dc_HP → Prop} (hO : dc_Ok κ mX3_fewestFrom Q) (x1 : Int32) (x2 : Int32) : ∀ (n : Nat) (x3 : Int32) (x4 : Int32) (σ : dc_HP) (q : Int32 × dc_HP), fn_X3_fewestFrom_L6 x1 x2 n x3 x4 σ = some q → ∀ (hk : dc_X κ 85 [some (.ref 21), some (.int x1), some (.int x2), some (.int q.1), none, none] [] q.2), dc_X κ 6 [some (.ref 21), some (.int x1), some (.int x2), some (.int x3), some (.int x4), none] [] σ := by
  have hx : dc_Cx κ RX3 cX3_fewestFrom 6 3 72 := hO.1
  intro n
  induction n with
  | zero =>
    intro x3 x4 σ q h
    cases h
  | succ n ih =>
    intro x3 x4 σ q h hk
    unfold fn_X3_fewestFrom_L6 at h
    refine dx_iload (pc := 6) hx dX3_fewestFrom_6 rfl ?_
    refine dx_aload_n (pc := 8) hx dX3_fewestFrom_8 rfl ?_
    refine dx_getR (r := 23) (pc := 9) hx dX3_fewestFrom_9 f_X3_15 rfl rfl ?_
    refine dx_alen (pc := 12) hx dX3_fewestFrom_12 rfl (by decide) (v := nI 64) rfl ?_
    refine dx_icmp_ge (pc := 13) hx dX3_fewestFrom_13 (tgt := 85) (by decide) (fun c13 => ?_) (fun c13 => ?_)
    · replace h := (if_pos c13).symm.trans h
      obtain rfl := Option.some.inj h
      exact dx_wk [true, true, true, true, false, true] <| hk
    · replace h := (if_neg c13).symm.trans h
      refine dx_aload_n (pc := 16) hx dX3_fewestFrom_16 rfl ?_
      refine dx_getR (r := 23) (pc := 17) hx dX3_fewestFrom_17 f_X3_15 rfl rfl ?_
      refine dx_iload (pc := 20) hx dX3_fewestFrom_20 rfl ?_
      refine dx_iload (pc := 22) hx dX3_fewestFrom_22 rfl ?_
      refine dx_iconst (pc := 24) hx dX3_fewestFrom_24 kc_1 ?_
      refine dx_iload_n (pc := 25) hx dX3_fewestFrom_25 rfl ?_
      refine dx_ishl (pc := 26) hx dX3_fewestFrom_26 ?_
      obtain ⟨q27, hr, h⟩ := Option.bind_eq_some_iff.mp h
      have hk : dc_X κ 46 [some (.ref 21), some (.int x1), some (.int x2), some (.int x3), some (.int x4), none] [.int q27, .int x4, .ref 23] σ := by
        clear hr
        by_cases g46 : x4 < 0 ∨ 64 ≤ x4.toNatClampNeg
        · cases (if_pos g46).symm.trans h
        replace h := (if_neg g46).symm.trans h
        refine dx_iast (pc := 46) hx dX3_fewestFrom_46 rfl g46 ?_
        refine dx_nm (fun s46 e46 => ?_)
        replace h := dc_lt e46 h
        refine dx_iload (pc := 47) hx dX3_fewestFrom_47 rfl ?_
        obtain ⟨r49, h49, h⟩ := Option.bind_eq_some_iff.mp h
        refine dx_callSir (pc := 49) (As := [.int x4]) (rest := []) hx dX3_fewestFrom_49 k_X3_54 rfl (dc_le rfl) (dc_le rfl) (dc_le rfl) (dc_le rfl) rfl (th_J6_bitCount_0f7a4 h49) ?_
        refine dx_istore (pc := 52) hx dX3_fewestFrom_52 (dc_le rfl) (ls' := [some (.ref 21), some (.int x1), some (.int x2), some (.int x3), some (.int x4), some (.int r49)]) rfl ?_
        refine dx_aload_n (pc := 54) hx dX3_fewestFrom_54 rfl ?_
        refine dx_getR (r := 23) (pc := 55) hx dX3_fewestFrom_55 f_X3_15 rfl rfl ?_
        refine dx_iload (pc := 58) hx dX3_fewestFrom_58 rfl ?_
        by_cases g60 : x4 < 0 ∨ 64 ≤ x4.toNatClampNeg
        · cases (if_pos g60).symm.trans h
        replace h := (if_neg g60).symm.trans h
        refine dx_iald (pc := 60) hx dX3_fewestFrom_60 rfl g60 ?_
        refine dx_if_ne (pc := 61) hx dX3_fewestFrom_61 (tgt := 79) (by decide) (fun c61 => ?_) (fun c61 => ?_)
        · replace h := (if_neg c61).symm.trans h
          refine dx_iinc (pc := 79) hx dX3_fewestFrom_79 rfl (v := x4 + nI 1) (congrArg (fun z => x4 + z) kc_1) (dc_le rfl) (ls' := [some (.ref 21), some (.int x1), some (.int x2), some (.int x3), some (.int (x4 + nI 1)), some (.int r49)]) rfl ?_
          refine dx_goto (pc := 82) hx dX3_fewestFrom_82 (tgt := 6) (by decide) ?_
          exact dx_wk [true, true, true, true, true, false] <| (ih x3 (x4 + nI 1) s46 q h hk)
        · replace h := (if_pos c61).symm.trans h
          refine dx_iload_n (pc := 64) hx dX3_fewestFrom_64 rfl ?_
          refine dx_bipush (pc := 65) hx dX3_fewestFrom_65 kb_m6 ?_
          refine dx_icmp_eq (pc := 67) hx dX3_fewestFrom_67 (tgt := 76) (by decide) (fun c67 => ?_) (fun c67 => ?_)
          · replace h := (if_pos c67).symm.trans h
            refine dx_iload (pc := 76) hx dX3_fewestFrom_76 rfl ?_
            refine dx_istore_n (pc := 78) hx dX3_fewestFrom_78 (dc_le rfl) (ls' := [some (.ref 21), some (.int x1), some (.int x2), some (.int r49), some (.int x4), some (.int r49)]) rfl ?_
            refine dx_iinc (pc := 79) hx dX3_fewestFrom_79 rfl (v := x4 + nI 1) (congrArg (fun z => x4 + z) kc_1) (dc_le rfl) (ls' := [some (.ref 21), some (.int x1), some (.int x2), some (.int r49), some (.int (x4 + nI 1)), some (.int r49)]) rfl ?_
            refine dx_goto (pc := 82) hx dX3_fewestFrom_82 (tgt := 6) (by decide) ?_
            exact dx_wk [true, true, true, true, true, false] <| (ih r49 (x4 + nI 1) s46 q h hk)
          · replace h := (if_neg c67).symm.trans h
            refine dx_iload (pc := 70) hx dX3_fewestFrom_70 rfl ?_
            refine dx_iload_n (pc := 72) hx dX3_fewestFrom_72 rfl ?_
            refine dx_icmp_ge (pc := 73) hx dX3_fewestFrom_73 (tgt := 79) (by decide) (fun c73 => ?_) (fun c73 => ?_)
            · replace h := (if_pos c73).symm.trans h
              refine dx_iinc (pc := 79) hx dX3_fewestFrom_79 rfl (v := x4 + nI 1) (congrArg (fun z => x4 + z) kc_1) (dc_le rfl) (ls' := [some (.ref 21), some (.int x1), some (.int x2), some (.int x3), some (.int (x4 + nI 1)), some (.int r49)]) rfl ?_
              refine dx_goto (pc := 82) hx dX3_fewestFrom_82 (tgt := 6) (by decide) ?_
              exact dx_wk [true, true, true, true, true, false] <| (ih x3 (x4 + nI 1) s46 q h hk)
            · replace h := (if_neg c73).symm.trans h
              refine dx_iload (pc := 76) hx dX3_fewestFrom_76 rfl ?_
              refine dx_istore_n (pc := 78) hx dX3_fewestFrom_78 (dc_le rfl) (ls' := [some (.ref 21), some (.int x1), some (.int x2), some (.int r49), some (.int x4), some (.int r49)]) rfl ?_
              refine dx_iinc (pc := 79) hx dX3_fewestFrom_79 rfl (v := x4 + nI 1) (congrArg (fun z => x4 + z) kc_1) (dc_le rfl) (ls' := [some (.ref 21), some (.int x1), some (.int x2), some (.int r49), some (.int (x4 + nI 1)), some (.int r49)]) rfl ?_
              refine dx_goto (pc := 82) hx dX3_fewestFrom_82 (tgt := 6) (by decide) ?_
              exact dx_wk [true, true, true, true, true, false] <| (ih r49 (x4 + nI 1) s46 q h hk)
      replace h := hr
      clear hr
      refine dx_icmp_ne (pc := 27) hx dX3_fewestFrom_27 (tgt := 39) (by decide) (fun c27 => ?_) (fun c27 => ?_)
      · replace h := (if_neg c27).symm.trans h
        refine dx_aload_n (pc := 39) hx dX3_fewestFrom_39 rfl ?_
        refine dx_iload (pc := 40) hx dX3_fewestFrom_40 rfl ?_
        refine dx_iload_n (pc := 42) hx dX3_fewestFrom_42 rfl ?_
        obtain ⟨r43, h43, h⟩ := Option.bind_eq_some_iff.mp h
        refine dx_callVir (pc := 43) (As := [.int x4, .int x1]) (rest := [.int x4, .ref 23]) hx dX3_fewestFrom_43 k_X3_51 rfl rfl rfl rfl (dc_le rfl) (dc_le rfl) (dc_le rfl) (dc_le rfl) rfl (th_X3_leastLeft h43) ?_
        obtain rfl := Option.some.inj h
        exact hk
      · replace h := (if_pos c27).symm.trans h
        refine dx_aload_n (pc := 30) hx dX3_fewestFrom_30 rfl ?_
        refine dx_iload_n (pc := 31) hx dX3_fewestFrom_31 rfl ?_
        refine dx_iload_n (pc := 32) hx dX3_fewestFrom_32 rfl ?_
        obtain ⟨r33, h33, h⟩ := Option.bind_eq_some_iff.mp h
        refine dx_callVir (pc := 33) (As := [.int x2, .int x1]) (rest := [.int x4, .ref 23]) hx dX3_fewestFrom_33 k_X3_48 rfl rfl rfl rfl (dc_le rfl) (dc_le rfl) (dc_le rfl) (dc_le rfl) rfl (th_X3_afterPiece h33) ?_
        refine dx_goto (pc := 36) hx dX3_fewestFrom_36 (tgt := 46) (by decide) ?_
        obtain rfl := Option.some.inj h
        exact hk
set_option maxHeartbeats 4000000 in
set_option maxRecDepth 100000 in
theorem th_X3_fewestFrom {σ : dc_HP} {x1 : Int32} {x2 : Int32} {r : Int32 × dc_HP} (h : fn_X3_fewestFrom σ x1 x2 = some r) : dc_G mX3_fewestFrom [.ref 21, .int x1, .int x2] σ (dc_qi (fun x τ => x = r.1 ∧ τ = r.2)) := by
  intro κ hO
  have hx : dc_Cx κ RX3 cX3_fewestFrom 6 3 72 := hO.1
  show dc_X κ 0 [some (.ref 21), some (.int x1), some (.int x2), none, none, none] [] σ
  unfold fn_X3_fewestFrom at h
  refine dx_bipush (pc := 0) hx dX3_fewestFrom_0 kb_m6 ?_
  refine dx_istore_n (pc := 2) hx dX3_fewestFrom_2 (dc_le rfl) (ls' := [some (.ref 21), some (.int x1), some (.int x2), some (.int ((-6 : Int32))), none, none]) rfl ?_
  refine dx_iconst (pc := 3) hx dX3_fewestFrom_3 kc_0 ?_
  refine dx_istore (pc := 4) hx dX3_fewestFrom_4 (dc_le rfl) (ls' := [some (.ref 21), some (.int x1), some (.int x2), some (.int ((-6 : Int32))), some (.int (nI 0)), none]) rfl ?_
  obtain ⟨q6, h6, h⟩ := Option.bind_eq_some_iff.mp h
  refine (tl_X3_fewestFrom_L6 hO x1 x2 200 ((-6 : Int32)) (nI 0) σ q6 h6 ?_)
  refine dx_iload_n (pc := 85) hx dX3_fewestFrom_85 rfl ?_
  obtain rfl := Option.some.inj h
  exact dx_iret hO (pc := 86) dX3_fewestFrom_86 rfl ⟨_, rfl, rfl, rfl⟩
set_option maxHeartbeats 4000000 in
set_option maxRecDepth 100000 in
theorem tl_X3_find_1_L44 {κ : dc_KX} {Q : Option Value → dc_HP → Prop} (hO : dc_Ok κ mX3_find Q) (x3 : Int32) : ∀ (n : Nat) (x4 : Int32) (σ : dc_HP) (q : dc_HP), fn_X3_find_L44 1 x3 n x4 σ = some q → ∀ (hk : dc_X κ 103 [some (.ref 21), some (.ref 1), none, some (.int x3), none, none] [] q), dc_X κ 44 [some (.ref 21), some (.ref 1), none, some (.int x3), some (.int x4), none] [] σ := by
  have hx : dc_Cx κ RX3 cX3_find 6 4 97 := hO.1
  intro n
  induction n with
  | zero =>
    intro x4 σ q h
    cases h
  | succ n ih =>
    intro x4 σ q h hk
    unfold fn_X3_find_L44 at h
    refine dx_iload (pc := 44) hx dX3_find_44 rfl ?_
    refine dx_bipush (pc := 46) hx dX3_find_46 kb_6 ?_
    refine dx_icmp_ge (pc := 48) hx dX3_find_48 (tgt := 103) (by decide) (fun c48 => ?_) (fun c48 => ?_)
    · replace h := (if_pos c48).symm.trans h
      obtain rfl := Option.some.inj h
      exact dx_wk [true, true, true, true, false, true] <| hk
    · replace h := (if_neg c48).symm.trans h
      refine dx_aload_n (pc := 51) hx dX3_find_51 rfl ?_
      refine dx_iload (pc := 52) hx dX3_find_52 rfl ?_
      refine dx_iload_n (pc := 54) hx dX3_find_54 rfl ?_
      obtain ⟨r55, h55, h⟩ := Option.bind_eq_some_iff.mp h
      refine dx_callViw (pc := 55) (As := [.int x4, .int x3]) (rest := []) hx dX3_find_55 k_X3_38 rfl rfl rfl rfl (dc_le rfl) (dc_le rfl) (dc_le rfl) (dc_le rfl) rfl (th_X3_fewestFrom h55) ?_
      refine dx_istore (pc := 58) hx dX3_find_58 (dc_le rfl) (ls' := [some (.ref 21), some (.ref 1), none, some (.int x3), some (.int x4), some (.int r55.1)]) rfl ?_
      refine dx_iload (pc := 60) hx dX3_find_60 rfl ?_
      refine dx_bipush (pc := 62) hx dX3_find_62 kb_m6 ?_
      refine dx_icmp_eq (pc := 64) hx dX3_find_64 (tgt := 97) (by decide) (fun c64 => ?_) (fun c64 => ?_)
      · replace h := (if_pos c64).symm.trans h
        refine dx_iinc (pc := 97) hx dX3_find_97 rfl (v := x4 + nI 1) (congrArg (fun z => x4 + z) kc_1) (dc_le rfl) (ls' := [some (.ref 21), some (.ref 1), none, some (.int x3), some (.int (x4 + nI 1)), some (.int r55.1)]) rfl ?_
        refine dx_goto (pc := 100) hx dX3_find_100 (tgt := 44) (by decide) ?_
        exact dx_wk [true, true, true, true, true, false] <| (ih (x4 + nI 1) r55.2 q h hk)
      · replace h := (if_neg c64).symm.trans h
        refine dx_aload_n (pc := 67) hx dX3_find_67 rfl ?_
        refine dx_getI (pc := 68) hx dX3_find_68 f_X3_24 rfl rfl ?_
        refine dx_bipush (pc := 71) hx dX3_find_71 kb_m6 ?_
        refine dx_icmp_eq (pc := 73) hx dX3_find_73 (tgt := 85) (by decide) (fun c73 => ?_) (fun c73 => ?_)
        · replace h := (if_pos c73).symm.trans h
          refine dx_aload_n (pc := 85) hx dX3_find_85 rfl ?_
          refine dx_iload (pc := 86) hx dX3_find_86 rfl ?_
          refine dx_putI (pc := 88) hx dX3_find_88 f_X3_24 rfl rfl tyX3_ok rfl (Or.inl ⟨rfl, rfl⟩) ?_
          refine dx_nm (fun s88 e88 => ?_)
          replace h := dc_lt e88 h
          refine dx_aload_n (pc := 91) hx dX3_find_91 rfl ?_
          refine dx_iload (pc := 92) hx dX3_find_92 rfl ?_
          refine dx_putI (pc := 94) hx dX3_find_94 f_X3_28 rfl rfl tyX3_ok rfl (Or.inl ⟨rfl, rfl⟩) ?_
          refine dx_nm (fun s94 e94 => ?_)
          replace h := dc_lt e94 h
          refine dx_iinc (pc := 97) hx dX3_find_97 rfl (v := x4 + nI 1) (congrArg (fun z => x4 + z) kc_1) (dc_le rfl) (ls' := [some (.ref 21), some (.ref 1), none, some (.int x3), some (.int (x4 + nI 1)), some (.int r55.1)]) rfl ?_
          refine dx_goto (pc := 100) hx dX3_find_100 (tgt := 44) (by decide) ?_
          exact dx_wk [true, true, true, true, true, false] <| (ih (x4 + nI 1) s94 q h hk)
        · replace h := (if_neg c73).symm.trans h
          refine dx_iload (pc := 76) hx dX3_find_76 rfl ?_
          refine dx_aload_n (pc := 78) hx dX3_find_78 rfl ?_
          refine dx_getI (pc := 79) hx dX3_find_79 f_X3_24 rfl rfl ?_
          refine dx_icmp_ge (pc := 82) hx dX3_find_82 (tgt := 97) (by decide) (fun c82 => ?_) (fun c82 => ?_)
          · replace h := (if_pos c82).symm.trans h
            refine dx_iinc (pc := 97) hx dX3_find_97 rfl (v := x4 + nI 1) (congrArg (fun z => x4 + z) kc_1) (dc_le rfl) (ls' := [some (.ref 21), some (.ref 1), none, some (.int x3), some (.int (x4 + nI 1)), some (.int r55.1)]) rfl ?_
            refine dx_goto (pc := 100) hx dX3_find_100 (tgt := 44) (by decide) ?_
            exact dx_wk [true, true, true, true, true, false] <| (ih (x4 + nI 1) r55.2 q h hk)
          · replace h := (if_neg c82).symm.trans h
            refine dx_aload_n (pc := 85) hx dX3_find_85 rfl ?_
            refine dx_iload (pc := 86) hx dX3_find_86 rfl ?_
            refine dx_putI (pc := 88) hx dX3_find_88 f_X3_24 rfl rfl tyX3_ok rfl (Or.inl ⟨rfl, rfl⟩) ?_
            refine dx_nm (fun s88 e88 => ?_)
            replace h := dc_lt e88 h
            refine dx_aload_n (pc := 91) hx dX3_find_91 rfl ?_
            refine dx_iload (pc := 92) hx dX3_find_92 rfl ?_
            refine dx_putI (pc := 94) hx dX3_find_94 f_X3_28 rfl rfl tyX3_ok rfl (Or.inl ⟨rfl, rfl⟩) ?_
            refine dx_nm (fun s94 e94 => ?_)
            replace h := dc_lt e94 h
            refine dx_iinc (pc := 97) hx dX3_find_97 rfl (v := x4 + nI 1) (congrArg (fun z => x4 + z) kc_1) (dc_le rfl) (ls' := [some (.ref 21), some (.ref 1), none, some (.int x3), some (.int (x4 + nI 1)), some (.int r55.1)]) rfl ?_
            refine dx_goto (pc := 100) hx dX3_find_100 (tgt := 44) (by decide) ?_
            exact dx_wk [true, true, true, true, true, false] <| (ih (x4 + nI 1) s94 q h hk)
set_option maxHeartbeats 4000000 in
set_option maxRecDepth 100000 in
theorem th_X3_find_1 {σ : dc_HP} {x2 : Int32} {r : dc_HP} (h : fn_X3_find σ 1 x2 = some r) : dc_G mX3_find [.ref 21, .ref 1, .int x2] σ (dc_qv (fun τ => τ = r)) := by
  intro κ hO
  have hx : dc_Cx κ RX3 cX3_find 6 4 97 := hO.1
  show dc_X κ 0 [some (.ref 21), some (.ref 1), some (.int x2), none, none, none] [] σ
  unfold fn_X3_find at h
  refine dx_aload_n (pc := 0) hx dX3_find_0 rfl ?_
  refine dx_iload_n (pc := 1) hx dX3_find_1 rfl ?_
  obtain ⟨r2, h2, h⟩ := Option.bind_eq_some_iff.mp h
  refine dx_callVir (pc := 2) (As := [.int x2]) (rest := []) hx dX3_find_2 k_X3_18 rfl rfl rfl rfl (dc_le rfl) (dc_le rfl) (dc_le rfl) (dc_le rfl) rfl (th_X0_debtOf_1 h2) ?_
  refine dx_istore_n (pc := 5) hx dX3_find_5 (dc_le rfl) (ls' := [some (.ref 21), some (.ref 1), some (.int x2), some (.int r2), none, none]) rfl ?_
  refine dx_aload_n (pc := 6) hx dX3_find_6 rfl ?_
  refine dx_iload_n (pc := 7) hx dX3_find_7 rfl ?_
  obtain ⟨q8, hr, h⟩ := Option.bind_eq_some_iff.mp h
  have hk : dc_X κ 17 [some (.ref 21), some (.ref 1), some (.int x2), some (.int r2), none, none] [.int q8, .ref 21] σ := by
    clear hr
    refine dx_putI (pc := 17) hx dX3_find_17 f_X3_24 rfl rfl tyX3_ok rfl (Or.inl ⟨rfl, rfl⟩) ?_
    refine dx_nm (fun s17 e17 => ?_)
    replace h := dc_lt e17 h
    refine dx_aload_n (pc := 20) hx dX3_find_20 rfl ?_
    refine dx_bipush (pc := 21) hx dX3_find_21 kb_m6 ?_
    refine dx_putI (pc := 23) hx dX3_find_23 f_X3_28 rfl rfl tyX3_ok rfl (Or.inl ⟨rfl, rfl⟩) ?_
    refine dx_nm (fun s23 e23 => ?_)
    replace h := dc_lt e23 h
    refine dx_iload_n (pc := 26) hx dX3_find_26 rfl ?_
    refine dx_if_ne (pc := 27) hx dX3_find_27 (tgt := 31) (by decide) (fun c27 => ?_) (fun c27 => ?_)
    · replace h := (if_neg c27).symm.trans h
      refine dx_aload_n (pc := 31) hx dX3_find_31 rfl ?_
      refine dx_aload_n (pc := 32) hx dX3_find_32 rfl ?_
      refine dx_aload_n (pc := 33) hx dX3_find_33 rfl ?_
      refine dx_iload_n (pc := 34) hx dX3_find_34 rfl ?_
      obtain ⟨r35, h35, h⟩ := Option.bind_eq_some_iff.mp h
      refine dx_callVir (pc := 35) (As := [.int x2]) (rest := [.ref 1, .ref 21]) hx dX3_find_35 k_X3_31 rfl rfl rfl rfl (dc_le rfl) (dc_le rfl) (dc_le rfl) (dc_le rfl) rfl (th_X0_voiceOf_1 h35) ?_
      obtain ⟨r38, h38, h⟩ := Option.bind_eq_some_iff.mp h
      refine dx_callVvw (pc := 38) (As := [.ref 1, .int r35]) (rest := []) hx dX3_find_38 k_X3_34 rfl rfl rfl rfl (dc_le rfl) (dc_le rfl) (dc_le rfl) (dc_le rfl) rfl (th_X3_takePays_1 h38) ?_
      refine dx_iconst (pc := 41) hx dX3_find_41 kc_0 ?_
      refine dx_istore (pc := 42) hx dX3_find_42 (dc_le rfl) (ls' := [some (.ref 21), some (.ref 1), some (.int x2), some (.int r2), some (.int (nI 0)), none]) rfl ?_
      obtain ⟨q44, h44, h⟩ := Option.bind_eq_some_iff.mp h
      refine dx_wk [true, true, false, true, true, true] <| (tl_X3_find_1_L44 hO r2 200 (nI 0) r38 q44 h44 ?_)
      obtain rfl := Option.some.inj h
      exact dx_vret hO (pc := 103) dX3_find_103 rfl ⟨rfl, rfl⟩
    · replace h := (if_pos c27).symm.trans h
      obtain rfl := Option.some.inj h
      exact dx_vret hO (pc := 30) dX3_find_30 rfl ⟨rfl, rfl⟩
  replace h := hr
  clear hr
  refine dx_if_ne (pc := 8) hx dX3_find_8 (tgt := 15) (by decide) (fun c8 => ?_) (fun c8 => ?_)
  · replace h := (if_neg c8).symm.trans h
    refine dx_bipush (pc := 15) hx dX3_find_15 kb_m6 ?_
    obtain rfl := Option.some.inj h
    exact hk
  · replace h := (if_pos c8).symm.trans h
    refine dx_iconst (pc := 11) hx dX3_find_11 kc_0 ?_
    refine dx_goto (pc := 12) hx dX3_find_12 (tgt := 17) (by decide) ?_
    obtain rfl := Option.some.inj h
    exact hk
set_option maxHeartbeats 4000000 in
set_option maxRecDepth 100000 in
theorem tl_X0_payOfSet_1_L13 {κ : dc_KX} {Q : Option Value → dc_HP → Prop} (hO : dc_Ok κ mX0_payOfSet Q) (σ : dc_HP) (x1 : Int32) (x3 : Int32) : ∀ (n : Nat) (x2 : Int32) (x4 : Int32) (q : Int32), fn_X0_payOfSet_L13 σ 1 x1 x3 n x2 x4 = some q → ∀ (hk : dc_X κ 47 [some (.ref 1), some (.int x1), some (.int q), some (.int x3), none] [] σ), dc_X κ 13 [some (.ref 1), some (.int x1), some (.int x2), some (.int x3), some (.int x4)] [] σ := by
  have hx : dc_Cx κ RX0 cX0_payOfSet 5 3 64 := hO.1
  intro n
  induction n with
  | zero =>
    intro x2 x4 q h
    cases h
  | succ n ih =>
    intro x2 x4 q h hk
    unfold fn_X0_payOfSet_L13 at h
    refine dx_iload (pc := 13) hx dX0_payOfSet_13 rfl ?_
    refine dx_iconst (pc := 15) hx dX0_payOfSet_15 kc_4 ?_
    refine dx_icmp_ge (pc := 16) hx dX0_payOfSet_16 (tgt := 47) (by decide) (fun c16 => ?_) (fun c16 => ?_)
    · replace h := (if_pos c16).symm.trans h
      obtain rfl := Option.some.inj h
      exact dx_wk [true, true, true, true, false] <| hk
    · replace h := (if_neg c16).symm.trans h
      refine dx_iload_n (pc := 19) hx dX0_payOfSet_19 rfl ?_
      refine dx_iload_n (pc := 20) hx dX0_payOfSet_20 rfl ?_
      refine dx_iload_n (pc := 21) hx dX0_payOfSet_21 rfl ?_
      obtain ⟨r22, h22, h⟩ := Option.bind_eq_some_iff.mp h
      refine dx_callNir (pc := 22) (As := [.int x1, .int x3]) (rest := [.int x2]) hx dX0_payOfSet_22 k_X0_75 rfl (dc_le rfl) (dc_le rfl) (dc_le rfl) (dc_le rfl) rfl (th_X8_bit h22) ?_
      refine dx_aload_n (pc := 25) hx dX0_payOfSet_25 rfl ?_
      refine dx_iload_n (pc := 26) hx dX0_payOfSet_26 rfl ?_
      obtain ⟨r27, h27, h⟩ := Option.bind_eq_some_iff.mp h
      refine dx_callVir (pc := 27) (As := [.int x3]) (rest := [.int r22, .int x2]) hx dX0_payOfSet_27 k_X0_78 rfl rfl rfl rfl (dc_le rfl) (dc_le rfl) (dc_le rfl) (dc_le rfl) rfl (th_X0_worthOf_1 h27) ?_
      refine dx_imul (pc := 30) hx dX0_payOfSet_30 ?_
      refine dx_aload_n (pc := 31) hx dX0_payOfSet_31 rfl ?_
      refine dx_iload_n (pc := 32) hx dX0_payOfSet_32 rfl ?_
      refine dx_iload (pc := 33) hx dX0_payOfSet_33 rfl ?_
      obtain ⟨r35, h35, h⟩ := Option.bind_eq_some_iff.mp h
      refine dx_callVir (pc := 35) (As := [.int x3, .int x4]) (rest := [.int (r22 * r27), .int x2]) hx dX0_payOfSet_35 k_X0_81 rfl rfl rfl rfl (dc_le rfl) (dc_le rfl) (dc_le rfl) (dc_le rfl) rfl (th_X0_needOf_1 h35) ?_
      refine dx_imul (pc := 38) hx dX0_payOfSet_38 ?_
      refine dx_iadd (pc := 39) hx dX0_payOfSet_39 ?_
      refine dx_istore_n (pc := 40) hx dX0_payOfSet_40 (dc_le rfl) (ls' := [some (.ref 1), some (.int x1), some (.int (x2 + ((r22 * r27) * r35))), some (.int x3), some (.int x4)]) rfl ?_
      refine dx_iinc (pc := 41) hx dX0_payOfSet_41 rfl (v := x4 + nI 1) (congrArg (fun z => x4 + z) kc_1) (dc_le rfl) (ls' := [some (.ref 1), some (.int x1), some (.int (x2 + ((r22 * r27) * r35))), some (.int x3), some (.int (x4 + nI 1))]) rfl ?_
      refine dx_goto (pc := 44) hx dX0_payOfSet_44 (tgt := 13) (by decide) ?_
      exact (ih (x2 + ((r22 * r27) * r35)) (x4 + nI 1) q h hk)
set_option maxHeartbeats 4000000 in
set_option maxRecDepth 100000 in
theorem tl_X0_payOfSet_1_L4 {κ : dc_KX} {Q : Option Value → dc_HP → Prop} (hO : dc_Ok κ mX0_payOfSet Q) (σ : dc_HP) (x1 : Int32) : ∀ (n : Nat) (x2 : Int32) (x3 : Int32) (q : Int32), fn_X0_payOfSet_L4 σ 1 x1 n x2 x3 = some q → ∀ (hk : dc_X κ 53 [some (.ref 1), some (.int x1), some (.int q), none, none] [] σ), dc_X κ 4 [some (.ref 1), some (.int x1), some (.int x2), some (.int x3), none] [] σ := by
  have hx : dc_Cx κ RX0 cX0_payOfSet 5 3 64 := hO.1
  intro n
  induction n with
  | zero =>
    intro x2 x3 q h
    cases h
  | succ n ih =>
    intro x2 x3 q h hk
    unfold fn_X0_payOfSet_L4 at h
    refine dx_iload_n (pc := 4) hx dX0_payOfSet_4 rfl ?_
    refine dx_bipush (pc := 5) hx dX0_payOfSet_5 kb_6 ?_
    refine dx_icmp_ge (pc := 7) hx dX0_payOfSet_7 (tgt := 53) (by decide) (fun c7 => ?_) (fun c7 => ?_)
    · replace h := (if_pos c7).symm.trans h
      obtain rfl := Option.some.inj h
      exact dx_wk [true, true, true, false, true] <| hk
    · replace h := (if_neg c7).symm.trans h
      refine dx_iconst (pc := 10) hx dX0_payOfSet_10 kc_0 ?_
      refine dx_istore (pc := 11) hx dX0_payOfSet_11 (dc_le rfl) (ls' := [some (.ref 1), some (.int x1), some (.int x2), some (.int x3), some (.int (nI 0))]) rfl ?_
      obtain ⟨q13, h13, h⟩ := Option.bind_eq_some_iff.mp h
      refine (tl_X0_payOfSet_1_L13 hO σ x1 x3 200 x2 (nI 0) q13 h13 ?_)
      refine dx_iinc (pc := 47) hx dX0_payOfSet_47 rfl (v := x3 + nI 1) (congrArg (fun z => x3 + z) kc_1) (dc_le rfl) (ls' := [some (.ref 1), some (.int x1), some (.int q13), some (.int (x3 + nI 1)), none]) rfl ?_
      refine dx_goto (pc := 50) hx dX0_payOfSet_50 (tgt := 4) (by decide) ?_
      exact (ih q13 (x3 + nI 1) q h hk)
set_option maxHeartbeats 4000000 in
set_option maxRecDepth 100000 in
theorem th_X0_payOfSet_1 {σ : dc_HP} {x1 : Int32} {r : Int32} (h : fn_X0_payOfSet σ 1 x1 = some r) : dc_G mX0_payOfSet [.ref 1, .int x1] σ (dc_qi (fun x τ => x = r ∧ τ = σ)) := by
  intro κ hO
  have hx : dc_Cx κ RX0 cX0_payOfSet 5 3 64 := hO.1
  show dc_X κ 0 [some (.ref 1), some (.int x1), none, none, none] [] σ
  unfold fn_X0_payOfSet at h
  refine dx_iconst (pc := 0) hx dX0_payOfSet_0 kc_0 ?_
  refine dx_istore_n (pc := 1) hx dX0_payOfSet_1 (dc_le rfl) (ls' := [some (.ref 1), some (.int x1), some (.int (nI 0)), none, none]) rfl ?_
  refine dx_iconst (pc := 2) hx dX0_payOfSet_2 kc_0 ?_
  refine dx_istore_n (pc := 3) hx dX0_payOfSet_3 (dc_le rfl) (ls' := [some (.ref 1), some (.int x1), some (.int (nI 0)), some (.int (nI 0)), none]) rfl ?_
  obtain ⟨q4, h4, h⟩ := Option.bind_eq_some_iff.mp h
  refine (tl_X0_payOfSet_1_L4 hO σ x1 200 (nI 0) (nI 0) q4 h4 ?_)
  refine dx_iload_n (pc := 53) hx dX0_payOfSet_53 rfl ?_
  obtain rfl := Option.some.inj h
  exact dx_iret hO (pc := 54) dX0_payOfSet_54 rfl ⟨_, rfl, rfl, rfl⟩
set_option maxHeartbeats 4000000 in
set_option maxRecDepth 100000 in
theorem tl_X0_barsOfSet_1_L4 {κ : dc_KX} {Q : Option Value → dc_HP → Prop} (hO : dc_Ok κ mX0_barsOfSet Q) (σ : dc_HP) (x1 : Int32) : ∀ (n : Nat) (x2 : Int32) (x3 : Int32) (q : Int32), fn_X0_barsOfSet_L4 σ 1 x1 n x2 x3 = some q → ∀ (hk : dc_X κ 30 [some (.ref 1), some (.int x1), some (.int q), none] [] σ), dc_X κ 4 [some (.ref 1), some (.int x1), some (.int x2), some (.int x3)] [] σ := by
  have hx : dc_Cx κ RX0 cX0_barsOfSet 4 2 43 := hO.1
  intro n
  induction n with
  | zero =>
    intro x2 x3 q h
    cases h
  | succ n ih =>
    intro x2 x3 q h hk
    unfold fn_X0_barsOfSet_L4 at h
    refine dx_iload_n (pc := 4) hx dX0_barsOfSet_4 rfl ?_
    refine dx_bipush (pc := 5) hx dX0_barsOfSet_5 kb_6 ?_
    refine dx_icmp_ge (pc := 7) hx dX0_barsOfSet_7 (tgt := 30) (by decide) (fun c7 => ?_) (fun c7 => ?_)
    · replace h := (if_pos c7).symm.trans h
      obtain rfl := Option.some.inj h
      exact dx_wk [true, true, true, false] <| hk
    · replace h := (if_neg c7).symm.trans h
      refine dx_iload_n (pc := 10) hx dX0_barsOfSet_10 rfl ?_
      refine dx_iload_n (pc := 11) hx dX0_barsOfSet_11 rfl ?_
      refine dx_iload_n (pc := 12) hx dX0_barsOfSet_12 rfl ?_
      obtain ⟨r13, h13, h⟩ := Option.bind_eq_some_iff.mp h
      refine dx_callNir (pc := 13) (As := [.int x1, .int x3]) (rest := [.int x2]) hx dX0_barsOfSet_13 k_X0_75 rfl (dc_le rfl) (dc_le rfl) (dc_le rfl) (dc_le rfl) rfl (th_X8_bit h13) ?_
      refine dx_aload_n (pc := 16) hx dX0_barsOfSet_16 rfl ?_
      refine dx_iload_n (pc := 17) hx dX0_barsOfSet_17 rfl ?_
      obtain ⟨r18, h18, h⟩ := Option.bind_eq_some_iff.mp h
      refine dx_callVir (pc := 18) (As := [.int x3]) (rest := [.int r13, .int x2]) hx dX0_barsOfSet_18 k_X0_69 rfl rfl rfl rfl (dc_le rfl) (dc_le rfl) (dc_le rfl) (dc_le rfl) rfl (th_X0_barsOf_1 h18) ?_
      refine dx_imul (pc := 21) hx dX0_barsOfSet_21 ?_
      refine dx_iadd (pc := 22) hx dX0_barsOfSet_22 ?_
      refine dx_istore_n (pc := 23) hx dX0_barsOfSet_23 (dc_le rfl) (ls' := [some (.ref 1), some (.int x1), some (.int (x2 + (r13 * r18))), some (.int x3)]) rfl ?_
      refine dx_iinc (pc := 24) hx dX0_barsOfSet_24 rfl (v := x3 + nI 1) (congrArg (fun z => x3 + z) kc_1) (dc_le rfl) (ls' := [some (.ref 1), some (.int x1), some (.int (x2 + (r13 * r18))), some (.int (x3 + nI 1))]) rfl ?_
      refine dx_goto (pc := 27) hx dX0_barsOfSet_27 (tgt := 4) (by decide) ?_
      exact (ih (x2 + (r13 * r18)) (x3 + nI 1) q h hk)
set_option maxHeartbeats 4000000 in
set_option maxRecDepth 100000 in
theorem th_X0_barsOfSet_1 {σ : dc_HP} {x1 : Int32} {r : Int32} (h : fn_X0_barsOfSet σ 1 x1 = some r) : dc_G mX0_barsOfSet [.ref 1, .int x1] σ (dc_qi (fun x τ => x = r ∧ τ = σ)) := by
  intro κ hO
  have hx : dc_Cx κ RX0 cX0_barsOfSet 4 2 43 := hO.1
  show dc_X κ 0 [some (.ref 1), some (.int x1), none, none] [] σ
  unfold fn_X0_barsOfSet at h
  refine dx_iconst (pc := 0) hx dX0_barsOfSet_0 kc_0 ?_
  refine dx_istore_n (pc := 1) hx dX0_barsOfSet_1 (dc_le rfl) (ls' := [some (.ref 1), some (.int x1), some (.int (nI 0)), none]) rfl ?_
  refine dx_iconst (pc := 2) hx dX0_barsOfSet_2 kc_0 ?_
  refine dx_istore_n (pc := 3) hx dX0_barsOfSet_3 (dc_le rfl) (ls' := [some (.ref 1), some (.int x1), some (.int (nI 0)), some (.int (nI 0))]) rfl ?_
  obtain ⟨q4, h4, h⟩ := Option.bind_eq_some_iff.mp h
  refine (tl_X0_barsOfSet_1_L4 hO σ x1 200 (nI 0) (nI 0) q4 h4 ?_)
  refine dx_iload_n (pc := 30) hx dX0_barsOfSet_30 rfl ?_
  obtain rfl := Option.some.inj h
  exact dx_iret hO (pc := 31) dX0_barsOfSet_31 rfl ⟨_, rfl, rfl, rfl⟩
set_option maxHeartbeats 4000000 in
set_option maxRecDepth 100000 in
theorem tl_X0_leastFree_1_L17 {κ : dc_KX} {Q : Option Value → dc_HP → Prop} (hO : dc_Ok κ mX0_leastFree Q) (σ : dc_HP) (x2 : Int32) (x3 : Int32) : ∀ (n : Nat) (x4 : Int32) (x5 : Int32) (q : Int32), fn_X0_leastFree_L17 σ 1 x2 x3 n x4 x5 = some q → ∀ (hk : dc_X κ 58 [some (.ref 1), none, some (.int x2), some (.int x3), some (.int q), none] [] σ), dc_X κ 17 [some (.ref 1), none, some (.int x2), some (.int x3), some (.int x4), some (.int x5)] [] σ := by
  have hx : dc_Cx κ RX0 cX0_leastFree 6 1 23 := hO.1
  intro n
  induction n with
  | zero =>
    intro x4 x5 q h
    cases h
  | succ n ih =>
    intro x4 x5 q h hk
    unfold fn_X0_leastFree_L17 at h
    refine dx_iload (pc := 17) hx dX0_leastFree_17 rfl ?_
    refine dx_bipush (pc := 19) hx dX0_leastFree_19 kb_8 ?_
    refine dx_icmp_ge (pc := 21) hx dX0_leastFree_21 (tgt := 58) (by decide) (fun c21 => ?_) (fun c21 => ?_)
    · replace h := (if_pos c21).symm.trans h
      obtain rfl := Option.some.inj h
      exact dx_wk [true, true, true, true, true, false] <| hk
    · replace h := (if_neg c21).symm.trans h
      refine dx_iload_n (pc := 24) hx dX0_leastFree_24 rfl ?_
      refine dx_iload (pc := 25) hx dX0_leastFree_25 rfl ?_
      obtain ⟨r27, h27, h⟩ := Option.bind_eq_some_iff.mp h
      refine dx_callNir (pc := 27) (As := [.int x3, .int x5]) (rest := []) hx dX0_leastFree_27 k_X0_75 rfl (dc_le rfl) (dc_le rfl) (dc_le rfl) (dc_le rfl) rfl (th_X8_bit h27) ?_
      refine dx_iconst (pc := 30) hx dX0_leastFree_30 kc_1 ?_
      refine dx_icmp_ne (pc := 31) hx dX0_leastFree_31 (tgt := 52) (by decide) (fun c31 => ?_) (fun c31 => ?_)
      · replace h := (if_neg c31).symm.trans h
        refine dx_iinc (pc := 52) hx dX0_leastFree_52 rfl (v := x5 + nI 1) (congrArg (fun z => x5 + z) kc_1) (dc_le rfl) (ls' := [some (.ref 1), none, some (.int x2), some (.int x3), some (.int x4), some (.int (x5 + nI 1))]) rfl ?_
        refine dx_goto (pc := 55) hx dX0_leastFree_55 (tgt := 17) (by decide) ?_
        exact (ih x4 (x5 + nI 1) q h hk)
      · replace h := (if_pos c31).symm.trans h
        refine dx_iload (pc := 34) hx dX0_leastFree_34 rfl ?_
        obtain ⟨r36, h36, h⟩ := Option.bind_eq_some_iff.mp h
        refine dx_callSir (pc := 36) (As := [.int x4]) (rest := []) hx dX0_leastFree_36 k_X0_91 rfl (dc_le rfl) (dc_le rfl) (dc_le rfl) (dc_le rfl) rfl (th_J6_bitCount_0f7a4 h36) ?_
        refine dx_iload_n (pc := 39) hx dX0_leastFree_39 rfl ?_
        refine dx_icmp_ge (pc := 40) hx dX0_leastFree_40 (tgt := 52) (by decide) (fun c40 => ?_) (fun c40 => ?_)
        · replace h := (if_pos c40).symm.trans h
          refine dx_iinc (pc := 52) hx dX0_leastFree_52 rfl (v := x5 + nI 1) (congrArg (fun z => x5 + z) kc_1) (dc_le rfl) (ls' := [some (.ref 1), none, some (.int x2), some (.int x3), some (.int x4), some (.int (x5 + nI 1))]) rfl ?_
          refine dx_goto (pc := 55) hx dX0_leastFree_55 (tgt := 17) (by decide) ?_
          exact (ih x4 (x5 + nI 1) q h hk)
        · replace h := (if_neg c40).symm.trans h
          refine dx_iload (pc := 43) hx dX0_leastFree_43 rfl ?_
          refine dx_iconst (pc := 45) hx dX0_leastFree_45 kc_1 ?_
          refine dx_iload (pc := 46) hx dX0_leastFree_46 rfl ?_
          refine dx_ishl (pc := 48) hx dX0_leastFree_48 ?_
          refine dx_ior (pc := 49) hx dX0_leastFree_49 ?_
          refine dx_istore (pc := 50) hx dX0_leastFree_50 (dc_le rfl) (ls' := [some (.ref 1), none, some (.int x2), some (.int x3), some (.int (x4 ||| ((nI 1) <<< (x5 &&& 31)))), some (.int x5)]) rfl ?_
          refine dx_iinc (pc := 52) hx dX0_leastFree_52 rfl (v := x5 + nI 1) (congrArg (fun z => x5 + z) kc_1) (dc_le rfl) (ls' := [some (.ref 1), none, some (.int x2), some (.int x3), some (.int (x4 ||| ((nI 1) <<< (x5 &&& 31)))), some (.int (x5 + nI 1))]) rfl ?_
          refine dx_goto (pc := 55) hx dX0_leastFree_55 (tgt := 17) (by decide) ?_
          exact (ih (x4 ||| ((nI 1) <<< (x5 &&& 31))) (x5 + nI 1) q h hk)
set_option maxHeartbeats 4000000 in
set_option maxRecDepth 100000 in
theorem th_X0_leastFree_1 {σ : dc_HP} {x1 : Int32} {x2 : Int32} {r : Int32} (h : fn_X0_leastFree σ 1 x1 x2 = some r) : dc_G mX0_leastFree [.ref 1, .int x1, .int x2] σ (dc_qi (fun x τ => x = r ∧ τ = σ)) := by
  intro κ hO
  have hx : dc_Cx κ RX0 cX0_leastFree 6 1 23 := hO.1
  show dc_X κ 0 [some (.ref 1), some (.int x1), some (.int x2), none, none, none] [] σ
  unfold fn_X0_leastFree at h
  refine dx_aload_n (pc := 0) hx dX0_leastFree_0 rfl ?_
  refine dx_iload_n (pc := 1) hx dX0_leastFree_1 rfl ?_
  obtain ⟨r2, h2, h⟩ := Option.bind_eq_some_iff.mp h
  refine dx_callVir (pc := 2) (As := [.int x1]) (rest := []) hx dX0_leastFree_2 k_X0_84 rfl rfl rfl rfl (dc_le rfl) (dc_le rfl) (dc_le rfl) (dc_le rfl) rfl (th_X0_withBreath_1 h2) ?_
  refine dx_aload_n (pc := 5) hx dX0_leastFree_5 rfl ?_
  obtain ⟨r6, h6, h⟩ := Option.bind_eq_some_iff.mp h
  refine dx_callVir (pc := 6) (As := []) (rest := [.int r2]) hx dX0_leastFree_6 k_X0_87 rfl rfl rfl rfl (dc_le rfl) (dc_le rfl) (dc_le rfl) (dc_le rfl) rfl (th_X0_freeSingers_1 h6) ?_
  refine dx_iand (pc := 9) hx dX0_leastFree_9 ?_
  refine dx_istore_n (pc := 10) hx dX0_leastFree_10 (dc_le rfl) (ls' := [some (.ref 1), some (.int x1), some (.int x2), some (.int (r2 &&& r6)), none, none]) rfl ?_
  refine dx_iconst (pc := 11) hx dX0_leastFree_11 kc_0 ?_
  refine dx_istore (pc := 12) hx dX0_leastFree_12 (dc_le rfl) (ls' := [some (.ref 1), some (.int x1), some (.int x2), some (.int (r2 &&& r6)), some (.int (nI 0)), none]) rfl ?_
  refine dx_iconst (pc := 14) hx dX0_leastFree_14 kc_0 ?_
  refine dx_istore (pc := 15) hx dX0_leastFree_15 (dc_le rfl) (ls' := [some (.ref 1), some (.int x1), some (.int x2), some (.int (r2 &&& r6)), some (.int (nI 0)), some (.int (nI 0))]) rfl ?_
  obtain ⟨q17, h17, h⟩ := Option.bind_eq_some_iff.mp h
  refine dx_wk [true, false, true, true, true, true] <| (tl_X0_leastFree_1_L17 hO σ x2 (r2 &&& r6) 200 (nI 0) (nI 0) q17 h17 ?_)
  refine dx_iload (pc := 58) hx dX0_leastFree_58 rfl ?_
  obtain rfl := Option.some.inj h
  exact dx_iret hO (pc := 60) dX0_leastFree_60 rfl ⟨_, rfl, rfl, rfl⟩
set_option maxHeartbeats 4000000 in
set_option maxRecDepth 100000 in
theorem tl_X8_placeOfBid_L13 {κ : dc_KX} {Q : Option Value → dc_HP → Prop} (hO : dc_Ok κ mX8_placeOfBid Q) (σ : dc_HP) (x0 : Int32) (x1 : Int32) (x2 : Int32) : ∀ (n : Nat) (x3 : Int32) (x4 : Int32) (q : Int32), fn_X8_placeOfBid_L13 x0 x1 x2 n x3 x4 = some q → ∀ (hk : dc_X κ 57 [some (.int x0), some (.int x1), some (.int x2), some (.int q), none, none] [] σ), dc_X κ 13 [some (.int x0), some (.int x1), some (.int x2), some (.int x3), some (.int x4), none] [] σ := by
  have hx : dc_Cx κ RX8 cX8_placeOfBid 6 1 23 := hO.1
  intro n
  induction n with
  | zero =>
    intro x3 x4 q h
    cases h
  | succ n ih =>
    intro x3 x4 q h hk
    unfold fn_X8_placeOfBid_L13 at h
    refine dx_iload (pc := 13) hx dX8_placeOfBid_13 rfl ?_
    refine dx_bipush (pc := 15) hx dX8_placeOfBid_15 kb_6 ?_
    refine dx_icmp_ge (pc := 17) hx dX8_placeOfBid_17 (tgt := 57) (by decide) (fun c17 => ?_) (fun c17 => ?_)
    · replace h := (if_pos c17).symm.trans h
      obtain rfl := Option.some.inj h
      exact dx_wk [true, true, true, true, false, true] <| hk
    · replace h := (if_neg c17).symm.trans h
      refine dx_iload_n (pc := 20) hx dX8_placeOfBid_20 rfl ?_
      refine dx_iconst (pc := 21) hx dX8_placeOfBid_21 kc_5 ?_
      refine dx_iload (pc := 22) hx dX8_placeOfBid_22 rfl ?_
      refine dx_isub (pc := 24) hx dX8_placeOfBid_24 ?_
      obtain ⟨r25, h25, h⟩ := Option.bind_eq_some_iff.mp h
      refine dx_callSir (pc := 25) (As := [.int x0, .int ((nI 5) - x4)]) (rest := []) hx dX8_placeOfBid_25 k_X8_192 rfl (dc_le rfl) (dc_le rfl) (dc_le rfl) (dc_le rfl) rfl (th_X8_digitOf h25) ?_
      refine dx_istore (pc := 28) hx dX8_placeOfBid_28 (dc_le rfl) (ls' := [some (.int x0), some (.int x1), some (.int x2), some (.int x3), some (.int x4), some (.int r25)]) rfl ?_
      refine dx_iload (pc := 30) hx dX8_placeOfBid_30 rfl ?_
      refine dx_iload_n (pc := 32) hx dX8_placeOfBid_32 rfl ?_
      refine dx_icmp_gt (pc := 33) hx dX8_placeOfBid_33 (tgt := 48) (by decide) (fun c33 => ?_) (fun c33 => ?_)
      · replace h := (if_pos c33).symm.trans h
        refine dx_iinc (pc := 48) hx dX8_placeOfBid_48 rfl (v := x3 + nI 1) (congrArg (fun z => x3 + z) kc_1) (dc_le rfl) (ls' := [some (.int x0), some (.int x1), some (.int x2), some (.int (x3 + nI 1)), some (.int x4), some (.int r25)]) rfl ?_
        refine dx_iinc (pc := 51) hx dX8_placeOfBid_51 rfl (v := x4 + nI 1) (congrArg (fun z => x4 + z) kc_1) (dc_le rfl) (ls' := [some (.int x0), some (.int x1), some (.int x2), some (.int (x3 + nI 1)), some (.int (x4 + nI 1)), some (.int r25)]) rfl ?_
        refine dx_goto (pc := 54) hx dX8_placeOfBid_54 (tgt := 13) (by decide) ?_
        exact dx_wk [true, true, true, true, true, false] <| (ih (x3 + nI 1) (x4 + nI 1) q h hk)
      · replace h := (if_neg c33).symm.trans h
        refine dx_iload (pc := 36) hx dX8_placeOfBid_36 rfl ?_
        refine dx_iload_n (pc := 38) hx dX8_placeOfBid_38 rfl ?_
        refine dx_icmp_ne (pc := 39) hx dX8_placeOfBid_39 (tgt := 51) (by decide) (fun c39 => ?_) (fun c39 => ?_)
        · replace h := (if_neg c39).symm.trans h
          refine dx_iinc (pc := 51) hx dX8_placeOfBid_51 rfl (v := x4 + nI 1) (congrArg (fun z => x4 + z) kc_1) (dc_le rfl) (ls' := [some (.int x0), some (.int x1), some (.int x2), some (.int x3), some (.int (x4 + nI 1)), some (.int r25)]) rfl ?_
          refine dx_goto (pc := 54) hx dX8_placeOfBid_54 (tgt := 13) (by decide) ?_
          exact dx_wk [true, true, true, true, true, false] <| (ih x3 (x4 + nI 1) q h hk)
        · replace h := (if_pos c39).symm.trans h
          refine dx_iload (pc := 42) hx dX8_placeOfBid_42 rfl ?_
          refine dx_iload_n (pc := 44) hx dX8_placeOfBid_44 rfl ?_
          refine dx_icmp_ge (pc := 45) hx dX8_placeOfBid_45 (tgt := 51) (by decide) (fun c45 => ?_) (fun c45 => ?_)
          · replace h := (if_pos c45).symm.trans h
            refine dx_iinc (pc := 51) hx dX8_placeOfBid_51 rfl (v := x4 + nI 1) (congrArg (fun z => x4 + z) kc_1) (dc_le rfl) (ls' := [some (.int x0), some (.int x1), some (.int x2), some (.int x3), some (.int (x4 + nI 1)), some (.int r25)]) rfl ?_
            refine dx_goto (pc := 54) hx dX8_placeOfBid_54 (tgt := 13) (by decide) ?_
            exact dx_wk [true, true, true, true, true, false] <| (ih x3 (x4 + nI 1) q h hk)
          · replace h := (if_neg c45).symm.trans h
            refine dx_iinc (pc := 48) hx dX8_placeOfBid_48 rfl (v := x3 + nI 1) (congrArg (fun z => x3 + z) kc_1) (dc_le rfl) (ls' := [some (.int x0), some (.int x1), some (.int x2), some (.int (x3 + nI 1)), some (.int x4), some (.int r25)]) rfl ?_
            refine dx_iinc (pc := 51) hx dX8_placeOfBid_51 rfl (v := x4 + nI 1) (congrArg (fun z => x4 + z) kc_1) (dc_le rfl) (ls' := [some (.int x0), some (.int x1), some (.int x2), some (.int (x3 + nI 1)), some (.int (x4 + nI 1)), some (.int r25)]) rfl ?_
            refine dx_goto (pc := 54) hx dX8_placeOfBid_54 (tgt := 13) (by decide) ?_
            exact dx_wk [true, true, true, true, true, false] <| (ih (x3 + nI 1) (x4 + nI 1) q h hk)
set_option maxHeartbeats 4000000 in
set_option maxRecDepth 100000 in
theorem th_X8_placeOfBid {σ : dc_HP} {x0 : Int32} {x1 : Int32} {r : Int32} (h : fn_X8_placeOfBid x0 x1 = some r) : dc_G mX8_placeOfBid [.int x0, .int x1] σ (dc_qi (fun x τ => x = r ∧ τ = σ)) := by
  intro κ hO
  have hx : dc_Cx κ RX8 cX8_placeOfBid 6 1 23 := hO.1
  show dc_X κ 0 [some (.int x0), some (.int x1), none, none, none, none] [] σ
  unfold fn_X8_placeOfBid at h
  refine dx_iload_n (pc := 0) hx dX8_placeOfBid_0 rfl ?_
  refine dx_iconst (pc := 1) hx dX8_placeOfBid_1 kc_5 ?_
  refine dx_iload_n (pc := 2) hx dX8_placeOfBid_2 rfl ?_
  refine dx_isub (pc := 3) hx dX8_placeOfBid_3 ?_
  obtain ⟨r4, h4, h⟩ := Option.bind_eq_some_iff.mp h
  refine dx_callSir (pc := 4) (As := [.int x0, .int ((nI 5) - x1)]) (rest := []) hx dX8_placeOfBid_4 k_X8_192 rfl (dc_le rfl) (dc_le rfl) (dc_le rfl) (dc_le rfl) rfl (th_X8_digitOf h4) ?_
  refine dx_istore_n (pc := 7) hx dX8_placeOfBid_7 (dc_le rfl) (ls' := [some (.int x0), some (.int x1), some (.int r4), none, none, none]) rfl ?_
  refine dx_iconst (pc := 8) hx dX8_placeOfBid_8 kc_0 ?_
  refine dx_istore_n (pc := 9) hx dX8_placeOfBid_9 (dc_le rfl) (ls' := [some (.int x0), some (.int x1), some (.int r4), some (.int (nI 0)), none, none]) rfl ?_
  refine dx_iconst (pc := 10) hx dX8_placeOfBid_10 kc_0 ?_
  refine dx_istore (pc := 11) hx dX8_placeOfBid_11 (dc_le rfl) (ls' := [some (.int x0), some (.int x1), some (.int r4), some (.int (nI 0)), some (.int (nI 0)), none]) rfl ?_
  obtain ⟨q13, h13, h⟩ := Option.bind_eq_some_iff.mp h
  refine (tl_X8_placeOfBid_L13 hO σ x0 x1 r4 200 (nI 0) (nI 0) q13 h13 ?_)
  refine dx_iload_n (pc := 57) hx dX8_placeOfBid_57 rfl ?_
  obtain rfl := Option.some.inj h
  exact dx_iret hO (pc := 58) dX8_placeOfBid_58 rfl ⟨_, rfl, rfl, rfl⟩
set_option maxHeartbeats 4000000 in
set_option maxRecDepth 100000 in
theorem tl_X8_areRanks_L17 {κ : dc_KX} {Q : Option Value → dc_HP → Prop} (hO : dc_Ok κ mX8_areRanks Q) (σ : dc_HP) (x0 : Int32) : ∀ (n : Nat) (x1 : Int32) (x2 : Int32) (q : Int32), fn_X8_areRanks_L17 x0 n x1 x2 = some q → ∀ (hk : dc_X κ 38 [some (.int x0), some (.int q), none] [] σ), dc_X κ 17 [some (.int x0), some (.int x1), some (.int x2)] [] σ := by
  have hx : dc_Cx κ RX8 cX8_areRanks 3 1 23 := hO.1
  intro n
  induction n with
  | zero =>
    intro x1 x2 q h
    cases h
  | succ n ih =>
    intro x1 x2 q h hk
    unfold fn_X8_areRanks_L17 at h
    refine dx_iload_n (pc := 17) hx dX8_areRanks_17 rfl ?_
    refine dx_iconst (pc := 18) hx dX8_areRanks_18 kc_4 ?_
    refine dx_icmp_ge (pc := 19) hx dX8_areRanks_19 (tgt := 38) (by decide) (fun c19 => ?_) (fun c19 => ?_)
    · replace h := (if_pos c19).symm.trans h
      obtain rfl := Option.some.inj h
      exact dx_wk [true, true, false] <| hk
    · replace h := (if_neg c19).symm.trans h
      refine dx_iload_n (pc := 22) hx dX8_areRanks_22 rfl ?_
      refine dx_iconst (pc := 23) hx dX8_areRanks_23 kc_1 ?_
      refine dx_iload_n (pc := 24) hx dX8_areRanks_24 rfl ?_
      refine dx_iload_n (pc := 25) hx dX8_areRanks_25 rfl ?_
      obtain ⟨r26, h26, h⟩ := Option.bind_eq_some_iff.mp h
      refine dx_callSir (pc := 26) (As := [.int x0, .int x2]) (rest := [.int (nI 1), .int x1]) hx dX8_areRanks_26 k_X8_192 rfl (dc_le rfl) (dc_le rfl) (dc_le rfl) (dc_le rfl) rfl (th_X8_digitOf h26) ?_
      refine dx_ishl (pc := 29) hx dX8_areRanks_29 ?_
      refine dx_ior (pc := 30) hx dX8_areRanks_30 ?_
      refine dx_istore_n (pc := 31) hx dX8_areRanks_31 (dc_le rfl) (ls' := [some (.int x0), some (.int (x1 ||| ((nI 1) <<< (r26 &&& 31)))), some (.int x2)]) rfl ?_
      refine dx_iinc (pc := 32) hx dX8_areRanks_32 rfl (v := x2 + nI 1) (congrArg (fun z => x2 + z) kc_1) (dc_le rfl) (ls' := [some (.int x0), some (.int (x1 ||| ((nI 1) <<< (r26 &&& 31)))), some (.int (x2 + nI 1))]) rfl ?_
      refine dx_goto (pc := 35) hx dX8_areRanks_35 (tgt := 17) (by decide) ?_
      exact (ih (x1 ||| ((nI 1) <<< (r26 &&& 31))) (x2 + nI 1) q h hk)
set_option maxHeartbeats 4000000 in
set_option maxRecDepth 100000 in
theorem th_X8_areRanks {σ : dc_HP} {x0 : Int32} {r : Int32} (h : fn_X8_areRanks x0 = some r) : dc_G mX8_areRanks [.int x0] σ (dc_qi (fun x τ => x = r ∧ τ = σ)) := by
  intro κ hO
  have hx : dc_Cx κ RX8 cX8_areRanks 3 1 23 := hO.1
  show dc_X κ 0 [some (.int x0), none, none] [] σ
  unfold fn_X8_areRanks at h
  refine dx_iload_n (pc := 0) hx dX8_areRanks_0 rfl ?_
  refine dx_iconst (pc := 1) hx dX8_areRanks_1 kc_0 ?_
  refine dx_sipush (pc := 2) hx dX8_areRanks_2 ks_9999 ?_
  obtain ⟨r5, h5, h⟩ := Option.bind_eq_some_iff.mp h
  refine dx_callSir (pc := 5) (As := [.int x0, .int (nI 0), .int (nI 9999)]) (rest := []) hx dX8_areRanks_5 k_X8_68 rfl (dc_le rfl) (dc_le rfl) (dc_le rfl) (dc_le rfl) rfl (th_X8_within h5) ?_
  refine dx_if_ne (pc := 8) hx dX8_areRanks_8 (tgt := 13) (by decide) (fun c8 => ?_) (fun c8 => ?_)
  · replace h := (if_neg c8).symm.trans h
    refine dx_iconst (pc := 13) hx dX8_areRanks_13 kc_0 ?_
    refine dx_istore_n (pc := 14) hx dX8_areRanks_14 (dc_le rfl) (ls' := [some (.int x0), some (.int (nI 0)), none]) rfl ?_
    refine dx_iconst (pc := 15) hx dX8_areRanks_15 kc_0 ?_
    refine dx_istore_n (pc := 16) hx dX8_areRanks_16 (dc_le rfl) (ls' := [some (.int x0), some (.int (nI 0)), some (.int (nI 0))]) rfl ?_
    obtain ⟨q17, h17, h⟩ := Option.bind_eq_some_iff.mp h
    refine (tl_X8_areRanks_L17 hO σ x0 200 (nI 0) (nI 0) q17 h17 ?_)
    refine dx_iload_n (pc := 38) hx dX8_areRanks_38 rfl ?_
    refine dx_bipush (pc := 39) hx dX8_areRanks_39 kb_15 ?_
    refine dx_icmp_ne (pc := 41) hx dX8_areRanks_41 (tgt := 48) (by decide) (fun c41 => ?_) (fun c41 => ?_)
    · replace h := (if_neg c41).symm.trans h
      refine dx_iconst (pc := 48) hx dX8_areRanks_48 kc_0 ?_
      obtain rfl := Option.some.inj h
      exact dx_zret hO (pc := 49) dX8_areRanks_49 rfl rfl ⟨_, rfl, rfl, rfl⟩
    · replace h := (if_pos c41).symm.trans h
      refine dx_iconst (pc := 44) hx dX8_areRanks_44 kc_1 ?_
      refine dx_goto (pc := 45) hx dX8_areRanks_45 (tgt := 49) (by decide) ?_
      obtain rfl := Option.some.inj h
      exact dx_zret hO (pc := 49) dX8_areRanks_49 rfl rfl ⟨_, rfl, rfl, rfl⟩
  · replace h := (if_pos c8).symm.trans h
    refine dx_iconst (pc := 11) hx dX8_areRanks_11 kc_0 ?_
    obtain rfl := Option.some.inj h
    exact dx_zret hO (pc := 12) dX8_areRanks_12 rfl rfl ⟨_, rfl, rfl, rfl⟩
set_option maxHeartbeats 4000000 in
set_option maxRecDepth 100000 in
theorem th_X5_start {σ : dc_HP} {x1 : Int32} {x2 : Int32} {x3 : Int32} {x4 : Int32} {r : dc_HP} (h : fn_X5_start σ x1 x2 x3 x4 = some r) : dc_G mX5_start [.ref 24, .int x1, .int x2, .int x3, .int x4] σ (dc_qv (fun τ => τ = r)) := by
  intro κ hO
  have hx : dc_Cx κ RX5 cX5_start 5 0 0 := hO.1
  show dc_X κ 0 [some (.ref 24), some (.int x1), some (.int x2), some (.int x3), some (.int x4)] [] σ
  unfold fn_X5_start at h
  refine dx_aload_n (pc := 0) hx dX5_start_0 rfl ?_
  refine dx_getR (r := 25) (pc := 1) hx dX5_start_1 f_X5_11 rfl rfl ?_
  refine dx_iconst (pc := 4) hx dX5_start_4 kc_0 ?_
  refine dx_iload_n (pc := 5) hx dX5_start_5 rfl ?_
  refine dx_iast (pc := 6) hx dX5_start_6 rfl (vp_in_nI (dc_le rfl) (dc_le rfl)) ?_
  refine dx_nm (fun s6 e6 => ?_)
  replace h := dc_lt e6 h
  refine dx_aload_n (pc := 7) hx dX5_start_7 rfl ?_
  refine dx_getR (r := 25) (pc := 8) hx dX5_start_8 f_X5_11 rfl rfl ?_
  refine dx_iconst (pc := 11) hx dX5_start_11 kc_1 ?_
  refine dx_iload_n (pc := 12) hx dX5_start_12 rfl ?_
  refine dx_iast (pc := 13) hx dX5_start_13 rfl (vp_in_nI (dc_le rfl) (dc_le rfl)) ?_
  refine dx_nm (fun s13 e13 => ?_)
  replace h := dc_lt e13 h
  refine dx_aload_n (pc := 14) hx dX5_start_14 rfl ?_
  refine dx_getR (r := 25) (pc := 15) hx dX5_start_15 f_X5_11 rfl rfl ?_
  refine dx_iconst (pc := 18) hx dX5_start_18 kc_2 ?_
  refine dx_iload_n (pc := 19) hx dX5_start_19 rfl ?_
  refine dx_iast (pc := 20) hx dX5_start_20 rfl (vp_in_nI (dc_le rfl) (dc_le rfl)) ?_
  refine dx_nm (fun s20 e20 => ?_)
  replace h := dc_lt e20 h
  refine dx_aload_n (pc := 21) hx dX5_start_21 rfl ?_
  refine dx_getR (r := 25) (pc := 22) hx dX5_start_22 f_X5_11 rfl rfl ?_
  refine dx_iconst (pc := 25) hx dX5_start_25 kc_3 ?_
  refine dx_iload (pc := 26) hx dX5_start_26 rfl ?_
  refine dx_iast (pc := 28) hx dX5_start_28 rfl (vp_in_nI (dc_le rfl) (dc_le rfl)) ?_
  refine dx_nm (fun s28 e28 => ?_)
  replace h := dc_lt e28 h
  refine dx_aload_n (pc := 29) hx dX5_start_29 rfl ?_
  refine dx_bipush (pc := 30) hx dX5_start_30 kb_15 ?_
  refine dx_putI (pc := 32) hx dX5_start_32 f_X5_21 rfl rfl tyX5_ok rfl (Or.inl ⟨rfl, rfl⟩) ?_
  obtain rfl := Option.some.inj h
  exact dx_vret hO (pc := 35) dX5_start_35 rfl ⟨rfl, rfl⟩
set_option maxHeartbeats 4000000 in
set_option maxRecDepth 100000 in
theorem tl_X5_bestLeft_L2 {κ : dc_KX} {Q : Option Value → dc_HP → Prop} (hO : dc_Ok κ mX5_bestLeft Q) (σ : dc_HP) (x1 : Int32) : ∀ (n : Nat) (x2 : Int32) (q : (Int32) ⊕ (Unit)), fn_X5_bestLeft_L2 σ x1 n x2 = some q → ∀ (hk : ∀ m : Unit, q = .inr m → dc_X κ 32 [some (.ref 24), some (.int x1), none, none] [] σ) (hr : ∀ r : Int32, q = .inl r → Q (some (.int r)) σ), dc_X κ 2 [some (.ref 24), some (.int x1), some (.int x2), none] [] σ := by
  have hx : dc_Cx κ RX5 cX5_bestLeft 4 1 23 := hO.1
  intro n
  induction n with
  | zero =>
    intro x2 q h
    cases h
  | succ n ih =>
    intro x2 q h hk hr
    unfold fn_X5_bestLeft_L2 at h
    refine dx_iload_n (pc := 2) hx dX5_bestLeft_2 rfl ?_
    refine dx_if_lt (pc := 3) hx dX5_bestLeft_3 (tgt := 32) (by decide) (fun c3 => ?_) (fun c3 => ?_)
    · replace h := (if_pos c3).symm.trans h
      obtain rfl := Option.some.inj h
      exact dx_wk [true, true, false, true] <| (hk () rfl)
    · replace h := (if_neg c3).symm.trans h
      refine dx_iload_n (pc := 6) hx dX5_bestLeft_6 rfl ?_
      refine dx_iload_n (pc := 7) hx dX5_bestLeft_7 rfl ?_
      obtain ⟨r8, h8, h⟩ := Option.bind_eq_some_iff.mp h
      refine dx_callNir (pc := 8) (As := [.int x1, .int x2]) (rest := []) hx dX5_bestLeft_8 k_X5_37 rfl (dc_le rfl) (dc_le rfl) (dc_le rfl) (dc_le rfl) rfl (th_X8_digitOf h8) ?_
      refine dx_istore_n (pc := 11) hx dX5_bestLeft_11 (dc_le rfl) (ls' := [some (.ref 24), some (.int x1), some (.int x2), some (.int r8)]) rfl ?_
      refine dx_aload_n (pc := 12) hx dX5_bestLeft_12 rfl ?_
      refine dx_getI (pc := 13) hx dX5_bestLeft_13 f_X5_21 rfl rfl ?_
      refine dx_iload_n (pc := 16) hx dX5_bestLeft_16 rfl ?_
      obtain ⟨r17, h17, h⟩ := Option.bind_eq_some_iff.mp h
      refine dx_callNir (pc := 17) (As := [.int (σ.1 24 3), .int r8]) (rest := []) hx dX5_bestLeft_17 k_X5_29 rfl (dc_le rfl) (dc_le rfl) (dc_le rfl) (dc_le rfl) rfl (th_X8_bit h17) ?_
      refine dx_iconst (pc := 20) hx dX5_bestLeft_20 kc_1 ?_
      refine dx_icmp_ne (pc := 21) hx dX5_bestLeft_21 (tgt := 26) (by decide) (fun c21 => ?_) (fun c21 => ?_)
      · replace h := (if_neg c21).symm.trans h
        refine dx_iinc (pc := 26) hx dX5_bestLeft_26 rfl (v := x2 + (-1 : Int32)) (congrArg (fun z => x2 + z) kc_m1) (dc_le rfl) (ls' := [some (.ref 24), some (.int x1), some (.int (x2 + (-1 : Int32))), some (.int r8)]) rfl ?_
        refine dx_goto (pc := 29) hx dX5_bestLeft_29 (tgt := 2) (by decide) ?_
        exact dx_wk [true, true, true, false] <| (ih (x2 + (-1 : Int32)) q h hk hr)
      · replace h := (if_pos c21).symm.trans h
        refine dx_iload_n (pc := 24) hx dX5_bestLeft_24 rfl ?_
        obtain rfl := Option.some.inj h
        exact dx_iret hO (pc := 25) dX5_bestLeft_25 rfl (hr r8 rfl)
set_option maxHeartbeats 4000000 in
set_option maxRecDepth 100000 in
theorem th_X5_bestLeft {σ : dc_HP} {x1 : Int32} {r : Int32} (h : fn_X5_bestLeft σ x1 = some r) : dc_G mX5_bestLeft [.ref 24, .int x1] σ (dc_qi (fun x τ => x = r ∧ τ = σ)) := by
  intro κ hO
  have hx : dc_Cx κ RX5 cX5_bestLeft 4 1 23 := hO.1
  show dc_X κ 0 [some (.ref 24), some (.int x1), none, none] [] σ
  unfold fn_X5_bestLeft at h
  refine dx_iconst (pc := 0) hx dX5_bestLeft_0 kc_3 ?_
  refine dx_istore_n (pc := 1) hx dX5_bestLeft_1 (dc_le rfl) (ls' := [some (.ref 24), some (.int x1), some (.int (nI 3)), none]) rfl ?_
  obtain ⟨q9, h2, h⟩ := Option.bind_eq_some_iff.mp h
  refine (tl_X5_bestLeft_L2 hO σ x1 200 (nI 3) q9 h2 (fun q2 e9 => ?_) (fun r9 e9 => ?_))
  rotate_left
  · subst e9
    obtain rfl := Option.some.inj h
    exact ⟨_, rfl, rfl, rfl⟩
  subst e9
  replace h := dc_inr h
  refine dx_bipush (pc := 32) hx dX5_bestLeft_32 kb_m6 ?_
  obtain rfl := Option.some.inj h
  exact dx_iret hO (pc := 34) dX5_bestLeft_34 rfl ⟨_, rfl, rfl, rfl⟩
set_option maxHeartbeats 4000000 in
set_option maxRecDepth 100000 in
theorem tl_X5_isInRing_L4 {κ : dc_KX} {Q : Option Value → dc_HP → Prop} (hO : dc_Ok κ mX5_isInRing Q) (σ : dc_HP) (x1 : Int32) : ∀ (n : Nat) (x2 : Int32) (x3 : Int32) (q : (Int32) ⊕ (Unit)), fn_X5_isInRing_L4 σ x1 n x2 x3 = some q → ∀ (hk : ∀ m : Unit, q = .inr m → dc_X κ 43 [some (.ref 24), some (.int x1), none, none] [] σ) (hr : ∀ r : Int32, q = .inl r → Q (some (.int r)) σ), dc_X κ 4 [some (.ref 24), some (.int x1), some (.int x2), some (.int x3)] [] σ := by
  have hx : dc_Cx κ RX5 cX5_isInRing 4 1 22 := hO.1
  intro n
  induction n with
  | zero =>
    intro x2 x3 q h
    cases h
  | succ n ih =>
    intro x2 x3 q h hk hr
    unfold fn_X5_isInRing_L4 at h
    refine dx_iload_n (pc := 4) hx dX5_isInRing_4 rfl ?_
    refine dx_iconst (pc := 5) hx dX5_isInRing_5 kc_4 ?_
    refine dx_icmp_ge (pc := 6) hx dX5_isInRing_6 (tgt := 43) (by decide) (fun c6 => ?_) (fun c6 => ?_)
    · replace h := (if_pos c6).symm.trans h
      obtain rfl := Option.some.inj h
      exact dx_wk [true, true, false, false] <| (hk () rfl)
    · replace h := (if_neg c6).symm.trans h
      refine dx_iload_n (pc := 9) hx dX5_isInRing_9 rfl ?_
      refine dx_iconst (pc := 10) hx dX5_isInRing_10 kc_0 ?_
      refine dx_iconst (pc := 11) hx dX5_isInRing_11 kc_3 ?_
      obtain ⟨r12, h12, h⟩ := Option.bind_eq_some_iff.mp h
      refine dx_callNir (pc := 12) (As := [.int x2, .int (nI 0), .int (nI 3)]) (rest := []) hx dX5_isInRing_12 k_X5_40 rfl (dc_le rfl) (dc_le rfl) (dc_le rfl) (dc_le rfl) rfl (th_X8_within h12) ?_
      refine dx_if_eq (pc := 15) hx dX5_isInRing_15 (tgt := 27) (by decide) (fun c15 => ?_) (fun c15 => ?_)
      · replace h := (if_pos c15).symm.trans h
        refine dx_bipush (pc := 27) hx dX5_isInRing_27 kb_m6 ?_
        refine dx_istore_n (pc := 29) hx dX5_isInRing_29 (dc_le rfl) (ls' := [some (.ref 24), some (.int x1), some (.int ((-6 : Int32))), some (.int x3)]) rfl ?_
        refine dx_iload_n (pc := 30) hx dX5_isInRing_30 rfl ?_
        refine dx_iload_n (pc := 31) hx dX5_isInRing_31 rfl ?_
        refine dx_icmp_ne (pc := 32) hx dX5_isInRing_32 (tgt := 37) (by decide) (fun c32 => ?_) (fun c32 => ?_)
        · replace h := (if_neg c32).symm.trans h
          refine dx_iinc (pc := 37) hx dX5_isInRing_37 rfl (v := x3 + nI 1) (congrArg (fun z => x3 + z) kc_1) (dc_le rfl) (ls' := [some (.ref 24), some (.int x1), some (.int ((-6 : Int32))), some (.int (x3 + nI 1))]) rfl ?_
          refine dx_goto (pc := 40) hx dX5_isInRing_40 (tgt := 4) (by decide) ?_
          exact (ih ((-6 : Int32)) (x3 + nI 1) q h hk hr)
        · replace h := (if_pos c32).symm.trans h
          refine dx_iconst (pc := 35) hx dX5_isInRing_35 kc_1 ?_
          obtain rfl := Option.some.inj h
          exact dx_zret hO (pc := 36) dX5_isInRing_36 rfl rfl (hr (nI 1) rfl)
      · replace h := (if_neg c15).symm.trans h
        refine dx_aload_n (pc := 18) hx dX5_isInRing_18 rfl ?_
        refine dx_getR (r := 27) (pc := 19) hx dX5_isInRing_19 f_X5_18 rfl rfl ?_
        refine dx_iload_n (pc := 22) hx dX5_isInRing_22 rfl ?_
        by_cases g23 : x2 < 0 ∨ 4 ≤ x2.toNatClampNeg
        · cases (if_pos g23).symm.trans h
        replace h := (if_neg g23).symm.trans h
        refine dx_iald (pc := 23) hx dX5_isInRing_23 rfl g23 ?_
        refine dx_goto (pc := 24) hx dX5_isInRing_24 (tgt := 29) (by decide) ?_
        refine dx_istore_n (pc := 29) hx dX5_isInRing_29 (dc_le rfl) (ls' := [some (.ref 24), some (.int x1), some (.int (σ.1 27 x2.toNatClampNeg)), some (.int x3)]) rfl ?_
        refine dx_iload_n (pc := 30) hx dX5_isInRing_30 rfl ?_
        refine dx_iload_n (pc := 31) hx dX5_isInRing_31 rfl ?_
        refine dx_icmp_ne (pc := 32) hx dX5_isInRing_32 (tgt := 37) (by decide) (fun c32 => ?_) (fun c32 => ?_)
        · replace h := (if_neg c32).symm.trans h
          refine dx_iinc (pc := 37) hx dX5_isInRing_37 rfl (v := x3 + nI 1) (congrArg (fun z => x3 + z) kc_1) (dc_le rfl) (ls' := [some (.ref 24), some (.int x1), some (.int (σ.1 27 x2.toNatClampNeg)), some (.int (x3 + nI 1))]) rfl ?_
          refine dx_goto (pc := 40) hx dX5_isInRing_40 (tgt := 4) (by decide) ?_
          exact (ih (σ.1 27 x2.toNatClampNeg) (x3 + nI 1) q h hk hr)
        · replace h := (if_pos c32).symm.trans h
          refine dx_iconst (pc := 35) hx dX5_isInRing_35 kc_1 ?_
          obtain rfl := Option.some.inj h
          exact dx_zret hO (pc := 36) dX5_isInRing_36 rfl rfl (hr (nI 1) rfl)
set_option maxHeartbeats 4000000 in
set_option maxRecDepth 100000 in
theorem th_X5_isInRing {σ : dc_HP} {x1 : Int32} {r : Int32} (h : fn_X5_isInRing σ x1 = some r) : dc_G mX5_isInRing [.ref 24, .int x1] σ (dc_qi (fun x τ => x = r ∧ τ = σ)) := by
  intro κ hO
  have hx : dc_Cx κ RX5 cX5_isInRing 4 1 22 := hO.1
  show dc_X κ 0 [some (.ref 24), some (.int x1), none, none] [] σ
  unfold fn_X5_isInRing at h
  refine dx_iload_n (pc := 0) hx dX5_isInRing_0 rfl ?_
  refine dx_istore_n (pc := 1) hx dX5_isInRing_1 (dc_le rfl) (ls' := [some (.ref 24), some (.int x1), some (.int x1), none]) rfl ?_
  refine dx_iconst (pc := 2) hx dX5_isInRing_2 kc_0 ?_
  refine dx_istore_n (pc := 3) hx dX5_isInRing_3 (dc_le rfl) (ls' := [some (.ref 24), some (.int x1), some (.int x1), some (.int (nI 0))]) rfl ?_
  obtain ⟨q9, h4, h⟩ := Option.bind_eq_some_iff.mp h
  refine (tl_X5_isInRing_L4 hO σ x1 200 x1 (nI 0) q9 h4 (fun q4 e9 => ?_) (fun r9 e9 => ?_))
  rotate_left
  · subst e9
    obtain rfl := Option.some.inj h
    exact ⟨_, rfl, rfl, rfl⟩
  subst e9
  replace h := dc_inr h
  refine dx_iconst (pc := 43) hx dX5_isInRing_43 kc_0 ?_
  obtain rfl := Option.some.inj h
  exact dx_zret hO (pc := 44) dX5_isInRing_44 rfl rfl ⟨_, rfl, rfl, rfl⟩
set_option maxHeartbeats 4000000 in
set_option maxRecDepth 100000 in
theorem tl_X5_swap_L9 {κ : dc_KX} {Q : Option Value → dc_HP → Prop} (hO : dc_Ok κ mX5_swap Q) (x1 : Int32) : ∀ (n : Nat) (x2 : Int32) (σ : dc_HP) (q : dc_HP), fn_X5_swap_L9 x1 n x2 σ = some q → ∀ (hk : dc_X κ 36 [some (.ref 24), some (.int x1), none, none] [] q), dc_X κ 9 [some (.ref 24), some (.int x1), some (.int x2), none] [] σ := by
  have hx : dc_Cx κ RX5 cX5_swap 4 2 46 := hO.1
  intro n
  induction n with
  | zero =>
    intro x2 σ q h
    cases h
  | succ n ih =>
    intro x2 σ q h hk
    unfold fn_X5_swap_L9 at h
    refine dx_iload_n (pc := 9) hx dX5_swap_9 rfl ?_
    refine dx_iconst (pc := 10) hx dX5_swap_10 kc_4 ?_
    refine dx_icmp_ge (pc := 11) hx dX5_swap_11 (tgt := 36) (by decide) (fun c11 => ?_) (fun c11 => ?_)
    · replace h := (if_pos c11).symm.trans h
      obtain rfl := Option.some.inj h
      exact dx_wk [true, true, false, true] <| hk
    · replace h := (if_neg c11).symm.trans h
      refine dx_aload_n (pc := 14) hx dX5_swap_14 rfl ?_
      refine dx_getR (r := 27) (pc := 15) hx dX5_swap_15 f_X5_18 rfl rfl ?_
      refine dx_iload_n (pc := 18) hx dX5_swap_18 rfl ?_
      refine dx_aload_n (pc := 19) hx dX5_swap_19 rfl ?_
      refine dx_aload_n (pc := 20) hx dX5_swap_20 rfl ?_
      refine dx_getR (r := 25) (pc := 21) hx dX5_swap_21 f_X5_11 rfl rfl ?_
      refine dx_iload_n (pc := 24) hx dX5_swap_24 rfl ?_
      by_cases g25 : x2 < 0 ∨ 4 ≤ x2.toNatClampNeg
      · cases (if_pos g25).symm.trans h
      replace h := (if_neg g25).symm.trans h
      refine dx_iald (pc := 25) hx dX5_swap_25 rfl g25 ?_
      obtain ⟨r26, h26, h⟩ := Option.bind_eq_some_iff.mp h
      refine dx_callVir (pc := 26) (As := [.int (σ.1 25 x2.toNatClampNeg)]) (rest := [.int x2, .ref 27]) hx dX5_swap_26 k_X5_25 rfl rfl rfl rfl (dc_le rfl) (dc_le rfl) (dc_le rfl) (dc_le rfl) rfl (th_X5_bestLeft h26) ?_
      by_cases g29 : x2 < 0 ∨ 4 ≤ x2.toNatClampNeg
      · cases (if_pos g29).symm.trans h
      replace h := (if_neg g29).symm.trans h
      refine dx_iast (pc := 29) hx dX5_swap_29 rfl g29 ?_
      refine dx_nm (fun s29 e29 => ?_)
      replace h := dc_lt e29 h
      refine dx_iinc (pc := 30) hx dX5_swap_30 rfl (v := x2 + nI 1) (congrArg (fun z => x2 + z) kc_1) (dc_le rfl) (ls' := [some (.ref 24), some (.int x1), some (.int (x2 + nI 1)), none]) rfl ?_
      refine dx_goto (pc := 33) hx dX5_swap_33 (tgt := 9) (by decide) ?_
      exact (ih (x2 + nI 1) s29 q h hk)
set_option maxHeartbeats 4000000 in
set_option maxRecDepth 100000 in
theorem tl_X5_swap_L40 {κ : dc_KX} {Q : Option Value → dc_HP → Prop} (hO : dc_Ok κ mX5_swap Q) (x1 : Int32) : ∀ (n : Nat) (x2 : Int32) (x3 : Int32) (σ : dc_HP) (q : Int32 × dc_HP), fn_X5_swap_L40 x1 n x2 x3 σ = some q → ∀ (hk : dc_X κ 89 [some (.ref 24), some (.int x1), some (.int q.1), none] [] q.2), dc_X κ 40 [some (.ref 24), some (.int x1), some (.int x2), some (.int x3)] [] σ := by
  have hx : dc_Cx κ RX5 cX5_swap 4 2 46 := hO.1
  intro n
  induction n with
  | zero =>
    intro x2 x3 σ q h
    cases h
  | succ n ih =>
    intro x2 x3 σ q h hk
    unfold fn_X5_swap_L40 at h
    refine dx_iload_n (pc := 40) hx dX5_swap_40 rfl ?_
    refine dx_iconst (pc := 41) hx dX5_swap_41 kc_4 ?_
    refine dx_icmp_ge (pc := 42) hx dX5_swap_42 (tgt := 89) (by decide) (fun c42 => ?_) (fun c42 => ?_)
    · replace h := (if_pos c42).symm.trans h
      obtain rfl := Option.some.inj h
      exact dx_wk [true, true, true, false] <| hk
    · replace h := (if_neg c42).symm.trans h
      refine dx_aload_n (pc := 45) hx dX5_swap_45 rfl ?_
      refine dx_getI (pc := 46) hx dX5_swap_46 f_X5_21 rfl rfl ?_
      refine dx_iload_n (pc := 49) hx dX5_swap_49 rfl ?_
      obtain ⟨r50, h50, h⟩ := Option.bind_eq_some_iff.mp h
      refine dx_callNir (pc := 50) (As := [.int (σ.1 24 3), .int x3]) (rest := []) hx dX5_swap_50 k_X5_29 rfl (dc_le rfl) (dc_le rfl) (dc_le rfl) (dc_le rfl) rfl (th_X8_bit h50) ?_
      refine dx_iconst (pc := 53) hx dX5_swap_53 kc_1 ?_
      refine dx_icmp_ne (pc := 54) hx dX5_swap_54 (tgt := 83) (by decide) (fun c54 => ?_) (fun c54 => ?_)
      · replace h := (if_neg c54).symm.trans h
        refine dx_iinc (pc := 83) hx dX5_swap_83 rfl (v := x3 + nI 1) (congrArg (fun z => x3 + z) kc_1) (dc_le rfl) (ls' := [some (.ref 24), some (.int x1), some (.int x2), some (.int (x3 + nI 1))]) rfl ?_
        refine dx_goto (pc := 86) hx dX5_swap_86 (tgt := 40) (by decide) ?_
        exact (ih x2 (x3 + nI 1) σ q h hk)
      · replace h := (if_pos c54).symm.trans h
        refine dx_aload_n (pc := 57) hx dX5_swap_57 rfl ?_
        refine dx_iload_n (pc := 58) hx dX5_swap_58 rfl ?_
        obtain ⟨r59, h59, h⟩ := Option.bind_eq_some_iff.mp h
        refine dx_callVir (pc := 59) (As := [.int x3]) (rest := []) hx dX5_swap_59 k_X5_33 rfl rfl rfl rfl (dc_le rfl) (dc_le rfl) (dc_le rfl) (dc_le rfl) rfl (th_X5_isInRing h59) ?_
        refine dx_if_eq (pc := 62) hx dX5_swap_62 (tgt := 83) (by decide) (fun c62 => ?_) (fun c62 => ?_)
        · replace h := (if_pos c62).symm.trans h
          refine dx_iinc (pc := 83) hx dX5_swap_83 rfl (v := x3 + nI 1) (congrArg (fun z => x3 + z) kc_1) (dc_le rfl) (ls' := [some (.ref 24), some (.int x1), some (.int x2), some (.int (x3 + nI 1))]) rfl ?_
          refine dx_goto (pc := 86) hx dX5_swap_86 (tgt := 40) (by decide) ?_
          exact (ih x2 (x3 + nI 1) σ q h hk)
        · replace h := (if_neg c62).symm.trans h
          refine dx_aload_n (pc := 65) hx dX5_swap_65 rfl ?_
          refine dx_getR (r := 26) (pc := 66) hx dX5_swap_66 f_X5_15 rfl rfl ?_
          refine dx_iload_n (pc := 69) hx dX5_swap_69 rfl ?_
          refine dx_aload_n (pc := 70) hx dX5_swap_70 rfl ?_
          refine dx_getR (r := 27) (pc := 71) hx dX5_swap_71 f_X5_18 rfl rfl ?_
          refine dx_iload_n (pc := 74) hx dX5_swap_74 rfl ?_
          by_cases g75 : x3 < 0 ∨ 4 ≤ x3.toNatClampNeg
          · cases (if_pos g75).symm.trans h
          replace h := (if_neg g75).symm.trans h
          refine dx_iald (pc := 75) hx dX5_swap_75 rfl g75 ?_
          by_cases g76 : x3 < 0 ∨ 4 ≤ x3.toNatClampNeg
          · cases (if_pos g76).symm.trans h
          replace h := (if_neg g76).symm.trans h
          refine dx_iast (pc := 76) hx dX5_swap_76 rfl g76 ?_
          refine dx_nm (fun s76 e76 => ?_)
          replace h := dc_lt e76 h
          refine dx_iload_n (pc := 77) hx dX5_swap_77 rfl ?_
          refine dx_iconst (pc := 78) hx dX5_swap_78 kc_1 ?_
          refine dx_iload_n (pc := 79) hx dX5_swap_79 rfl ?_
          refine dx_ishl (pc := 80) hx dX5_swap_80 ?_
          refine dx_ior (pc := 81) hx dX5_swap_81 ?_
          refine dx_istore_n (pc := 82) hx dX5_swap_82 (dc_le rfl) (ls' := [some (.ref 24), some (.int x1), some (.int (x2 ||| ((nI 1) <<< (x3 &&& 31)))), some (.int x3)]) rfl ?_
          refine dx_iinc (pc := 83) hx dX5_swap_83 rfl (v := x3 + nI 1) (congrArg (fun z => x3 + z) kc_1) (dc_le rfl) (ls' := [some (.ref 24), some (.int x1), some (.int (x2 ||| ((nI 1) <<< (x3 &&& 31)))), some (.int (x3 + nI 1))]) rfl ?_
          refine dx_goto (pc := 86) hx dX5_swap_86 (tgt := 40) (by decide) ?_
          exact (ih (x2 ||| ((nI 1) <<< (x3 &&& 31))) (x3 + nI 1) s76 q h hk)
set_option maxHeartbeats 4000000 in
set_option maxRecDepth 100000 in
theorem tl_X5_swap_L2 {κ : dc_KX} {Q : Option Value → dc_HP → Prop} (hO : dc_Ok κ mX5_swap Q) : ∀ (n : Nat) (x1 : Int32) (σ : dc_HP) (q : dc_HP), fn_X5_swap_L2 n x1 σ = some q → ∀ (hk : dc_X κ 107 [some (.ref 24), none, none, none] [] q), dc_X κ 2 [some (.ref 24), some (.int x1), none, none] [] σ := by
  have hx : dc_Cx κ RX5 cX5_swap 4 2 46 := hO.1
  intro n
  induction n with
  | zero =>
    intro x1 σ q h
    cases h
  | succ n ih =>
    intro x1 σ q h hk
    unfold fn_X5_swap_L2 at h
    refine dx_iload_n (pc := 2) hx dX5_swap_2 rfl ?_
    refine dx_iconst (pc := 3) hx dX5_swap_3 kc_4 ?_
    refine dx_icmp_ge (pc := 4) hx dX5_swap_4 (tgt := 107) (by decide) (fun c4 => ?_) (fun c4 => ?_)
    · replace h := (if_pos c4).symm.trans h
      obtain rfl := Option.some.inj h
      exact dx_wk [true, false, true, true] <| hk
    · replace h := (if_neg c4).symm.trans h
      refine dx_iconst (pc := 7) hx dX5_swap_7 kc_0 ?_
      refine dx_istore_n (pc := 8) hx dX5_swap_8 (dc_le rfl) (ls' := [some (.ref 24), some (.int x1), some (.int (nI 0)), none]) rfl ?_
      obtain ⟨q9, h9, h⟩ := Option.bind_eq_some_iff.mp h
      refine (tl_X5_swap_L9 hO x1 200 (nI 0) σ q9 h9 ?_)
      refine dx_iconst (pc := 36) hx dX5_swap_36 kc_0 ?_
      refine dx_istore_n (pc := 37) hx dX5_swap_37 (dc_le rfl) (ls' := [some (.ref 24), some (.int x1), some (.int (nI 0)), none]) rfl ?_
      refine dx_iconst (pc := 38) hx dX5_swap_38 kc_0 ?_
      refine dx_istore_n (pc := 39) hx dX5_swap_39 (dc_le rfl) (ls' := [some (.ref 24), some (.int x1), some (.int (nI 0)), some (.int (nI 0))]) rfl ?_
      obtain ⟨q40, h40, h⟩ := Option.bind_eq_some_iff.mp h
      refine (tl_X5_swap_L40 hO x1 200 (nI 0) (nI 0) q9 q40 h40 ?_)
      refine dx_aload_n (pc := 89) hx dX5_swap_89 rfl ?_
      refine dx_dup (pc := 90) hx dX5_swap_90 rfl ?_
      refine dx_getI (pc := 91) hx dX5_swap_91 f_X5_21 rfl rfl ?_
      refine dx_iload_n (pc := 94) hx dX5_swap_94 rfl ?_
      refine dx_iconst (pc := 95) hx dX5_swap_95 kc_m1 ?_
      refine dx_ixor (pc := 96) hx dX5_swap_96 ?_
      refine dx_iand (pc := 97) hx dX5_swap_97 ?_
      refine dx_putI (pc := 98) hx dX5_swap_98 f_X5_21 rfl rfl tyX5_ok rfl (Or.inl ⟨rfl, rfl⟩) ?_
      refine dx_nm (fun s98 e98 => ?_)
      replace h := dc_lt e98 h
      refine dx_iinc (pc := 101) hx dX5_swap_101 rfl (v := x1 + nI 1) (congrArg (fun z => x1 + z) kc_1) (dc_le rfl) (ls' := [some (.ref 24), some (.int (x1 + nI 1)), some (.int q40.1), none]) rfl ?_
      refine dx_goto (pc := 104) hx dX5_swap_104 (tgt := 2) (by decide) ?_
      exact dx_wk [true, true, false, true] <| (ih (x1 + nI 1) s98 q h hk)
set_option maxHeartbeats 4000000 in
set_option maxRecDepth 100000 in
theorem th_X5_swap {σ : dc_HP} {r : dc_HP} (h : fn_X5_swap σ = some r) : dc_G mX5_swap [.ref 24] σ (dc_qv (fun τ => τ = r)) := by
  intro κ hO
  have hx : dc_Cx κ RX5 cX5_swap 4 2 46 := hO.1
  show dc_X κ 0 [some (.ref 24), none, none, none] [] σ
  unfold fn_X5_swap at h
  refine dx_iconst (pc := 0) hx dX5_swap_0 kc_0 ?_
  refine dx_istore_n (pc := 1) hx dX5_swap_1 (dc_le rfl) (ls' := [some (.ref 24), some (.int (nI 0)), none, none]) rfl ?_
  obtain ⟨q2, h2, h⟩ := Option.bind_eq_some_iff.mp h
  refine (tl_X5_swap_L2 hO  200 (nI 0) σ q2 h2 ?_)
  obtain rfl := Option.some.inj h
  exact dx_vret hO (pc := 107) dX5_swap_107 rfl ⟨rfl, rfl⟩
set_option maxHeartbeats 4000000 in
set_option maxRecDepth 100000 in
theorem tl_X5_countOwn_L4 {κ : dc_KX} {Q : Option Value → dc_HP → Prop} (hO : dc_Ok κ mX5_countOwn Q) (σ : dc_HP) : ∀ (n : Nat) (x1 : Int32) (x2 : Int32) (q : Int32), fn_X5_countOwn_L4 σ n x1 x2 = some q → ∀ (hk : dc_X κ 28 [some (.ref 24), some (.int q), none] [] σ), dc_X κ 4 [some (.ref 24), some (.int x1), some (.int x2)] [] σ := by
  have hx : dc_Cx κ RX5 cX5_countOwn 3 0 0 := hO.1
  intro n
  induction n with
  | zero =>
    intro x1 x2 q h
    cases h
  | succ n ih =>
    intro x1 x2 q h hk
    unfold fn_X5_countOwn_L4 at h
    refine dx_iload_n (pc := 4) hx dX5_countOwn_4 rfl ?_
    refine dx_iconst (pc := 5) hx dX5_countOwn_5 kc_4 ?_
    refine dx_icmp_ge (pc := 6) hx dX5_countOwn_6 (tgt := 28) (by decide) (fun c6 => ?_) (fun c6 => ?_)
    · replace h := (if_pos c6).symm.trans h
      obtain rfl := Option.some.inj h
      exact dx_wk [true, true, false] <| hk
    · replace h := (if_neg c6).symm.trans h
      refine dx_aload_n (pc := 9) hx dX5_countOwn_9 rfl ?_
      refine dx_getR (r := 26) (pc := 10) hx dX5_countOwn_10 f_X5_15 rfl rfl ?_
      refine dx_iload_n (pc := 13) hx dX5_countOwn_13 rfl ?_
      by_cases g14 : x2 < 0 ∨ 4 ≤ x2.toNatClampNeg
      · cases (if_pos g14).symm.trans h
      replace h := (if_neg g14).symm.trans h
      refine dx_iald (pc := 14) hx dX5_countOwn_14 rfl g14 ?_
      refine dx_iload_n (pc := 15) hx dX5_countOwn_15 rfl ?_
      refine dx_icmp_ne (pc := 16) hx dX5_countOwn_16 (tgt := 22) (by decide) (fun c16 => ?_) (fun c16 => ?_)
      · replace h := (if_neg c16).symm.trans h
        refine dx_iinc (pc := 22) hx dX5_countOwn_22 rfl (v := x2 + nI 1) (congrArg (fun z => x2 + z) kc_1) (dc_le rfl) (ls' := [some (.ref 24), some (.int x1), some (.int (x2 + nI 1))]) rfl ?_
        refine dx_goto (pc := 25) hx dX5_countOwn_25 (tgt := 4) (by decide) ?_
        exact (ih x1 (x2 + nI 1) q h hk)
      · replace h := (if_pos c16).symm.trans h
        refine dx_iinc (pc := 19) hx dX5_countOwn_19 rfl (v := x1 + nI 1) (congrArg (fun z => x1 + z) kc_1) (dc_le rfl) (ls' := [some (.ref 24), some (.int (x1 + nI 1)), some (.int x2)]) rfl ?_
        refine dx_iinc (pc := 22) hx dX5_countOwn_22 rfl (v := x2 + nI 1) (congrArg (fun z => x2 + z) kc_1) (dc_le rfl) (ls' := [some (.ref 24), some (.int (x1 + nI 1)), some (.int (x2 + nI 1))]) rfl ?_
        refine dx_goto (pc := 25) hx dX5_countOwn_25 (tgt := 4) (by decide) ?_
        exact (ih (x1 + nI 1) (x2 + nI 1) q h hk)
set_option maxHeartbeats 4000000 in
set_option maxRecDepth 100000 in
theorem th_X5_countOwn {σ : dc_HP} {r : Int32} (h : fn_X5_countOwn σ = some r) : dc_G mX5_countOwn [.ref 24] σ (dc_qi (fun x τ => x = r ∧ τ = σ)) := by
  intro κ hO
  have hx : dc_Cx κ RX5 cX5_countOwn 3 0 0 := hO.1
  show dc_X κ 0 [some (.ref 24), none, none] [] σ
  unfold fn_X5_countOwn at h
  refine dx_iconst (pc := 0) hx dX5_countOwn_0 kc_0 ?_
  refine dx_istore_n (pc := 1) hx dX5_countOwn_1 (dc_le rfl) (ls' := [some (.ref 24), some (.int (nI 0)), none]) rfl ?_
  refine dx_iconst (pc := 2) hx dX5_countOwn_2 kc_0 ?_
  refine dx_istore_n (pc := 3) hx dX5_countOwn_3 (dc_le rfl) (ls' := [some (.ref 24), some (.int (nI 0)), some (.int (nI 0))]) rfl ?_
  obtain ⟨q4, h4, h⟩ := Option.bind_eq_some_iff.mp h
  refine (tl_X5_countOwn_L4 hO σ  200 (nI 0) (nI 0) q4 h4 ?_)
  refine dx_iload_n (pc := 28) hx dX5_countOwn_28 rfl ?_
  obtain rfl := Option.some.inj h
  exact dx_iret hO (pc := 29) dX5_countOwn_29 rfl ⟨_, rfl, rfl, rfl⟩
set_option maxHeartbeats 4000000 in
set_option maxRecDepth 100000 in
theorem tl_X5_partsAsDigits_L4 {κ : dc_KX} {Q : Option Value → dc_HP → Prop} (hO : dc_Ok κ mX5_partsAsDigits Q) (σ : dc_HP) : ∀ (n : Nat) (x1 : Int32) (x2 : Int32) (q : Int32), fn_X5_partsAsDigits_L4 σ n x1 x2 = some q → ∀ (hk : dc_X κ 27 [some (.ref 24), some (.int q), none] [] σ), dc_X κ 4 [some (.ref 24), some (.int x1), some (.int x2)] [] σ := by
  have hx : dc_Cx κ RX5 cX5_partsAsDigits 3 0 0 := hO.1
  intro n
  induction n with
  | zero =>
    intro x1 x2 q h
    cases h
  | succ n ih =>
    intro x1 x2 q h hk
    unfold fn_X5_partsAsDigits_L4 at h
    refine dx_iload_n (pc := 4) hx dX5_partsAsDigits_4 rfl ?_
    refine dx_iconst (pc := 5) hx dX5_partsAsDigits_5 kc_4 ?_
    refine dx_icmp_ge (pc := 6) hx dX5_partsAsDigits_6 (tgt := 27) (by decide) (fun c6 => ?_) (fun c6 => ?_)
    · replace h := (if_pos c6).symm.trans h
      obtain rfl := Option.some.inj h
      exact dx_wk [true, true, false] <| hk
    · replace h := (if_neg c6).symm.trans h
      refine dx_bipush (pc := 9) hx dX5_partsAsDigits_9 kb_10 ?_
      refine dx_iload_n (pc := 11) hx dX5_partsAsDigits_11 rfl ?_
      refine dx_imul (pc := 12) hx dX5_partsAsDigits_12 ?_
      refine dx_aload_n (pc := 13) hx dX5_partsAsDigits_13 rfl ?_
      refine dx_getR (r := 26) (pc := 14) hx dX5_partsAsDigits_14 f_X5_15 rfl rfl ?_
      refine dx_iload_n (pc := 17) hx dX5_partsAsDigits_17 rfl ?_
      by_cases g18 : x2 < 0 ∨ 4 ≤ x2.toNatClampNeg
      · cases (if_pos g18).symm.trans h
      replace h := (if_neg g18).symm.trans h
      refine dx_iald (pc := 18) hx dX5_partsAsDigits_18 rfl g18 ?_
      refine dx_iadd (pc := 19) hx dX5_partsAsDigits_19 ?_
      refine dx_istore_n (pc := 20) hx dX5_partsAsDigits_20 (dc_le rfl) (ls' := [some (.ref 24), some (.int (((nI 10) * x1) + (σ.1 26 x2.toNatClampNeg))), some (.int x2)]) rfl ?_
      refine dx_iinc (pc := 21) hx dX5_partsAsDigits_21 rfl (v := x2 + nI 1) (congrArg (fun z => x2 + z) kc_1) (dc_le rfl) (ls' := [some (.ref 24), some (.int (((nI 10) * x1) + (σ.1 26 x2.toNatClampNeg))), some (.int (x2 + nI 1))]) rfl ?_
      refine dx_goto (pc := 24) hx dX5_partsAsDigits_24 (tgt := 4) (by decide) ?_
      exact (ih (((nI 10) * x1) + (σ.1 26 x2.toNatClampNeg)) (x2 + nI 1) q h hk)
set_option maxHeartbeats 4000000 in
set_option maxRecDepth 100000 in
theorem th_X5_partsAsDigits {σ : dc_HP} {r : Int32} (h : fn_X5_partsAsDigits σ = some r) : dc_G mX5_partsAsDigits [.ref 24] σ (dc_qi (fun x τ => x = r ∧ τ = σ)) := by
  intro κ hO
  have hx : dc_Cx κ RX5 cX5_partsAsDigits 3 0 0 := hO.1
  show dc_X κ 0 [some (.ref 24), none, none] [] σ
  unfold fn_X5_partsAsDigits at h
  refine dx_iconst (pc := 0) hx dX5_partsAsDigits_0 kc_0 ?_
  refine dx_istore_n (pc := 1) hx dX5_partsAsDigits_1 (dc_le rfl) (ls' := [some (.ref 24), some (.int (nI 0)), none]) rfl ?_
  refine dx_iconst (pc := 2) hx dX5_partsAsDigits_2 kc_0 ?_
  refine dx_istore_n (pc := 3) hx dX5_partsAsDigits_3 (dc_le rfl) (ls' := [some (.ref 24), some (.int (nI 0)), some (.int (nI 0))]) rfl ?_
  obtain ⟨q4, h4, h⟩ := Option.bind_eq_some_iff.mp h
  refine (tl_X5_partsAsDigits_L4 hO σ  200 (nI 0) (nI 0) q4 h4 ?_)
  refine dx_iload_n (pc := 27) hx dX5_partsAsDigits_27 rfl ?_
  obtain rfl := Option.some.inj h
  exact dx_iret hO (pc := 28) dX5_partsAsDigits_28 rfl ⟨_, rfl, rfl, rfl⟩
set_option maxHeartbeats 4000000 in
set_option maxRecDepth 100000 in
theorem th_X6_add_7 {σ : dc_HP} {x1 : Int32} {x2 : Int32} {r : Int32 × dc_HP} (h : fn_X6_add σ 7 x1 x2 = some r) : dc_G mX6_add [.ref 7, .int x1, .int x2] σ (dc_qi (fun x τ => x = r.1 ∧ τ = r.2)) := by
  intro κ hO
  have hx : dc_Cx κ RX6 cX6_add 3 1 22 := hO.1
  show dc_X κ 0 [some (.ref 7), some (.int x1), some (.int x2)] [] σ
  unfold fn_X6_add at h
  refine dx_aload_n (pc := 0) hx dX6_add_0 rfl ?_
  refine dx_getI (pc := 1) hx dX6_add_1 f_X6_24 rfl rfl ?_
  refine dx_iconst (pc := 4) hx dX6_add_4 kc_0 ?_
  refine dx_bipush (pc := 5) hx dX6_add_5 kb_7 ?_
  obtain ⟨r7, h7, h⟩ := Option.bind_eq_some_iff.mp h
  refine dx_callNir (pc := 7) (As := [.int (σ.1 7 0), .int (nI 0), .int (nI 7)]) (rest := []) hx dX6_add_7 k_X6_34 rfl (dc_le rfl) (dc_le rfl) (dc_le rfl) (dc_le rfl) rfl (th_X8_within h7) ?_
  refine dx_if_ne (pc := 10) hx dX6_add_10 (tgt := 15) (by decide) (fun c10 => ?_) (fun c10 => ?_)
  · replace h := (if_neg c10).symm.trans h
    refine dx_aload_n (pc := 15) hx dX6_add_15 rfl ?_
    refine dx_getR (r := 8) (pc := 16) hx dX6_add_16 f_X6_11 rfl rfl ?_
    refine dx_aload_n (pc := 19) hx dX6_add_19 rfl ?_
    refine dx_getI (pc := 20) hx dX6_add_20 f_X6_24 rfl rfl ?_
    refine dx_iload_n (pc := 23) hx dX6_add_23 rfl ?_
    by_cases g24 : (σ.1 7 0) < 0 ∨ 8 ≤ (σ.1 7 0).toNatClampNeg
    · cases (if_pos g24).symm.trans h
    replace h := (if_neg g24).symm.trans h
    refine dx_iast (pc := 24) hx dX6_add_24 rfl g24 ?_
    refine dx_nm (fun s24 e24 => ?_)
    replace h := dc_lt e24 h
    refine dx_aload_n (pc := 25) hx dX6_add_25 rfl ?_
    refine dx_getR (r := 9) (pc := 26) hx dX6_add_26 f_X6_15 rfl rfl ?_
    refine dx_aload_n (pc := 29) hx dX6_add_29 rfl ?_
    refine dx_getI (pc := 30) hx dX6_add_30 f_X6_24 rfl rfl ?_
    refine dx_iload_n (pc := 33) hx dX6_add_33 rfl ?_
    by_cases g34 : (s24.1 7 0) < 0 ∨ 8 ≤ (s24.1 7 0).toNatClampNeg
    · cases (if_pos g34).symm.trans h
    replace h := (if_neg g34).symm.trans h
    refine dx_iast (pc := 34) hx dX6_add_34 rfl g34 ?_
    refine dx_nm (fun s34 e34 => ?_)
    replace h := dc_lt e34 h
    refine dx_aload_n (pc := 35) hx dX6_add_35 rfl ?_
    refine dx_dup (pc := 36) hx dX6_add_36 rfl ?_
    refine dx_getI (pc := 37) hx dX6_add_37 f_X6_24 rfl rfl ?_
    refine dx_iconst (pc := 40) hx dX6_add_40 kc_1 ?_
    refine dx_iadd (pc := 41) hx dX6_add_41 ?_
    refine dx_putI (pc := 42) hx dX6_add_42 f_X6_24 rfl rfl tyX6_ok rfl (Or.inl ⟨rfl, rfl⟩) ?_
    refine dx_nm (fun s42 e42 => ?_)
    replace h := dc_lt e42 h
    refine dx_iconst (pc := 45) hx dX6_add_45 kc_1 ?_
    obtain rfl := Option.some.inj h
    exact dx_zret hO (pc := 46) dX6_add_46 rfl rfl ⟨_, rfl, rfl, rfl⟩
  · replace h := (if_pos c10).symm.trans h
    refine dx_iconst (pc := 13) hx dX6_add_13 kc_0 ?_
    obtain rfl := Option.some.inj h
    exact dx_zret hO (pc := 14) dX6_add_14 rfl rfl ⟨_, rfl, rfl, rfl⟩
set_option maxHeartbeats 4000000 in
set_option maxRecDepth 100000 in
theorem th_X6_sumOf {σ : dc_HP} {x0 : Int32} {x1 : Int32} {r : Int32} (h : fn_X6_sumOf x0 x1 = some r) : dc_G mX6_sumOf [.int x0, .int x1] σ (dc_qi (fun x τ => x = r ∧ τ = σ)) := by
  intro κ hO
  have hx : dc_Cx κ RX6 cX6_sumOf 2 1 23 := hO.1
  show dc_X κ 0 [some (.int x0), some (.int x1)] [] σ
  unfold fn_X6_sumOf at h
  refine dx_iload_n (pc := 0) hx dX6_sumOf_0 rfl ?_
  refine dx_iload_n (pc := 1) hx dX6_sumOf_1 rfl ?_
  refine dx_bipush (pc := 2) hx dX6_sumOf_2 kb_10 ?_
  refine dx_idiv (pc := 4) hx dX6_sumOf_4 (by decide) ?_
  refine dx_mmin (pc := 5) hx dX6_sumOf_5 k_X6_38 (dc_le rfl) (dc_le rfl) ?_
  refine dx_iload_n (pc := 8) hx dX6_sumOf_8 rfl ?_
  refine dx_iload_n (pc := 9) hx dX6_sumOf_9 rfl ?_
  refine dx_bipush (pc := 10) hx dX6_sumOf_10 kb_10 ?_
  refine dx_irem (pc := 12) hx dX6_sumOf_12 (by decide) ?_
  refine dx_mmin (pc := 13) hx dX6_sumOf_13 k_X6_38 (dc_le rfl) (dc_le rfl) ?_
  refine dx_iadd (pc := 16) hx dX6_sumOf_16 ?_
  obtain rfl := Option.some.inj h
  exact dx_iret hO (pc := 17) dX6_sumOf_17 rfl ⟨_, rfl, rfl, rfl⟩
set_option maxHeartbeats 4000000 in
set_option maxRecDepth 100000 in
theorem tl_X6_fitsAll_7_L2 {κ : dc_KX} {Q : Option Value → dc_HP → Prop} (hO : dc_Ok κ mX6_fitsAll Q) (σ : dc_HP) (x1 : Int32) : ∀ (n : Nat) (x2 : Int32) (q : (Int32) ⊕ (Unit)), fn_X6_fitsAll_L2 σ 7 x1 n x2 = some q → ∀ (hk : ∀ m : Unit, q = .inr m → dc_X κ 43 [some (.ref 7), some (.int x1), none] [] σ) (hr : ∀ r : Int32, q = .inl r → Q (some (.int r)) σ), dc_X κ 2 [some (.ref 7), some (.int x1), some (.int x2)] [] σ := by
  have hx : dc_Cx κ RX6 cX6_fitsAll 3 2 44 := hO.1
  intro n
  induction n with
  | zero =>
    intro x2 q h
    cases h
  | succ n ih =>
    intro x2 q h hk hr
    unfold fn_X6_fitsAll_L2 at h
    refine dx_iload_n (pc := 2) hx dX6_fitsAll_2 rfl ?_
    refine dx_aload_n (pc := 3) hx dX6_fitsAll_3 rfl ?_
    refine dx_getI (pc := 4) hx dX6_fitsAll_4 f_X6_24 rfl rfl ?_
    refine dx_icmp_ge (pc := 7) hx dX6_fitsAll_7 (tgt := 43) (by decide) (fun c7 => ?_) (fun c7 => ?_)
    · replace h := (if_pos c7).symm.trans h
      obtain rfl := Option.some.inj h
      exact dx_wk [true, true, false] <| (hk () rfl)
    · replace h := (if_neg c7).symm.trans h
      refine dx_iload_n (pc := 10) hx dX6_fitsAll_10 rfl ?_
      refine dx_bipush (pc := 11) hx dX6_fitsAll_11 kb_8 ?_
      refine dx_icmp_ge (pc := 13) hx dX6_fitsAll_13 (tgt := 43) (by decide) (fun c13 => ?_) (fun c13 => ?_)
      · replace h := (if_pos c13).symm.trans h
        obtain rfl := Option.some.inj h
        exact dx_wk [true, true, false] <| (hk () rfl)
      · replace h := (if_neg c13).symm.trans h
        refine dx_iload_n (pc := 16) hx dX6_fitsAll_16 rfl ?_
        refine dx_aload_n (pc := 17) hx dX6_fitsAll_17 rfl ?_
        refine dx_getR (r := 8) (pc := 18) hx dX6_fitsAll_18 f_X6_11 rfl rfl ?_
        refine dx_iload_n (pc := 21) hx dX6_fitsAll_21 rfl ?_
        by_cases g22 : x2 < 0 ∨ 8 ≤ x2.toNatClampNeg
        · cases (if_pos g22).symm.trans h
        replace h := (if_neg g22).symm.trans h
        refine dx_iald (pc := 22) hx dX6_fitsAll_22 rfl g22 ?_
        obtain ⟨r23, h23, h⟩ := Option.bind_eq_some_iff.mp h
        refine dx_callSir (pc := 23) (As := [.int x1, .int (σ.1 8 x2.toNatClampNeg)]) (rest := []) hx dX6_fitsAll_23 k_X6_44 rfl (dc_le rfl) (dc_le rfl) (dc_le rfl) (dc_le rfl) rfl (th_X6_sumOf h23) ?_
        refine dx_aload_n (pc := 26) hx dX6_fitsAll_26 rfl ?_
        refine dx_getR (r := 9) (pc := 27) hx dX6_fitsAll_27 f_X6_15 rfl rfl ?_
        refine dx_iload_n (pc := 30) hx dX6_fitsAll_30 rfl ?_
        by_cases g31 : x2 < 0 ∨ 8 ≤ x2.toNatClampNeg
        · cases (if_pos g31).symm.trans h
        replace h := (if_neg g31).symm.trans h
        refine dx_iald (pc := 31) hx dX6_fitsAll_31 rfl g31 ?_
        refine dx_icmp_eq (pc := 32) hx dX6_fitsAll_32 (tgt := 37) (by decide) (fun c32 => ?_) (fun c32 => ?_)
        · replace h := (if_pos c32).symm.trans h
          refine dx_iinc (pc := 37) hx dX6_fitsAll_37 rfl (v := x2 + nI 1) (congrArg (fun z => x2 + z) kc_1) (dc_le rfl) (ls' := [some (.ref 7), some (.int x1), some (.int (x2 + nI 1))]) rfl ?_
          refine dx_goto (pc := 40) hx dX6_fitsAll_40 (tgt := 2) (by decide) ?_
          exact (ih (x2 + nI 1) q h hk hr)
        · replace h := (if_neg c32).symm.trans h
          refine dx_iconst (pc := 35) hx dX6_fitsAll_35 kc_0 ?_
          obtain rfl := Option.some.inj h
          exact dx_zret hO (pc := 36) dX6_fitsAll_36 rfl rfl (hr (nI 0) rfl)
set_option maxHeartbeats 4000000 in
set_option maxRecDepth 100000 in
theorem th_X6_fitsAll_7 {σ : dc_HP} {x1 : Int32} {r : Int32} (h : fn_X6_fitsAll σ 7 x1 = some r) : dc_G mX6_fitsAll [.ref 7, .int x1] σ (dc_qi (fun x τ => x = r ∧ τ = σ)) := by
  intro κ hO
  have hx : dc_Cx κ RX6 cX6_fitsAll 3 2 44 := hO.1
  show dc_X κ 0 [some (.ref 7), some (.int x1), none] [] σ
  unfold fn_X6_fitsAll at h
  refine dx_iconst (pc := 0) hx dX6_fitsAll_0 kc_0 ?_
  refine dx_istore_n (pc := 1) hx dX6_fitsAll_1 (dc_le rfl) (ls' := [some (.ref 7), some (.int x1), some (.int (nI 0))]) rfl ?_
  obtain ⟨q9, h2, h⟩ := Option.bind_eq_some_iff.mp h
  refine (tl_X6_fitsAll_7_L2 hO σ x1 200 (nI 0) q9 h2 (fun q2 e9 => ?_) (fun r9 e9 => ?_))
  rotate_left
  · subst e9
    obtain rfl := Option.some.inj h
    exact ⟨_, rfl, rfl, rfl⟩
  subst e9
  replace h := dc_inr h
  refine dx_iconst (pc := 43) hx dX6_fitsAll_43 kc_1 ?_
  obtain rfl := Option.some.inj h
  exact dx_zret hO (pc := 44) dX6_fitsAll_44 rfl rfl ⟨_, rfl, rfl, rfl⟩
set_option maxHeartbeats 4000000 in
set_option maxRecDepth 100000 in
theorem tl_X6_findRows_7_L7 {κ : dc_KX} {Q : Option Value → dc_HP → Prop} (hO : dc_Ok κ mX6_findRows Q) : ∀ (n : Nat) (x1 : Int32) (σ : dc_HP) (q : dc_HP), fn_X6_findRows_L7 7 n x1 σ = some q → ∀ (hk : dc_X κ 56 [some (.ref 7), none] [] q), dc_X κ 7 [some (.ref 7), some (.int x1)] [] σ := by
  have hx : dc_Cx κ RX6 cX6_findRows 2 3 66 := hO.1
  intro n
  induction n with
  | zero =>
    intro x1 σ q h
    cases h
  | succ n ih =>
    intro x1 σ q h hk
    unfold fn_X6_findRows_L7 at h
    refine dx_iload_n (pc := 7) hx dX6_findRows_7 rfl ?_
    refine dx_bipush (pc := 8) hx dX6_findRows_8 kb_100 ?_
    refine dx_icmp_ge (pc := 10) hx dX6_findRows_10 (tgt := 56) (by decide) (fun c10 => ?_) (fun c10 => ?_)
    · replace h := (if_pos c10).symm.trans h
      obtain rfl := Option.some.inj h
      exact dx_wk [true, false] <| hk
    · replace h := (if_neg c10).symm.trans h
      refine dx_aload_n (pc := 13) hx dX6_findRows_13 rfl ?_
      refine dx_iload_n (pc := 14) hx dX6_findRows_14 rfl ?_
      obtain ⟨r15, h15, h⟩ := Option.bind_eq_some_iff.mp h
      refine dx_callVir (pc := 15) (As := [.int x1]) (rest := []) hx dX6_findRows_15 k_X6_50 rfl rfl rfl rfl (dc_le rfl) (dc_le rfl) (dc_le rfl) (dc_le rfl) rfl (th_X6_fitsAll_7 h15) ?_
      refine dx_if_eq (pc := 18) hx dX6_findRows_18 (tgt := 50) (by decide) (fun c18 => ?_) (fun c18 => ?_)
      · replace h := (if_pos c18).symm.trans h
        refine dx_iinc (pc := 50) hx dX6_findRows_50 rfl (v := x1 + nI 1) (congrArg (fun z => x1 + z) kc_1) (dc_le rfl) (ls' := [some (.ref 7), some (.int (x1 + nI 1))]) rfl ?_
        refine dx_goto (pc := 53) hx dX6_findRows_53 (tgt := 7) (by decide) ?_
        exact (ih (x1 + nI 1) σ q h hk)
      · replace h := (if_neg c18).symm.trans h
        refine dx_aload_n (pc := 21) hx dX6_findRows_21 rfl ?_
        refine dx_getI (pc := 22) hx dX6_findRows_22 f_X6_47 rfl rfl ?_
        refine dx_bipush (pc := 25) hx dX6_findRows_25 kb_100 ?_
        refine dx_icmp_ge (pc := 27) hx dX6_findRows_27 (tgt := 50) (by decide) (fun c27 => ?_) (fun c27 => ?_)
        · replace h := (if_pos c27).symm.trans h
          refine dx_iinc (pc := 50) hx dX6_findRows_50 rfl (v := x1 + nI 1) (congrArg (fun z => x1 + z) kc_1) (dc_le rfl) (ls' := [some (.ref 7), some (.int (x1 + nI 1))]) rfl ?_
          refine dx_goto (pc := 53) hx dX6_findRows_53 (tgt := 7) (by decide) ?_
          exact (ih (x1 + nI 1) σ q h hk)
        · replace h := (if_neg c27).symm.trans h
          refine dx_aload_n (pc := 30) hx dX6_findRows_30 rfl ?_
          refine dx_getR (r := 10) (pc := 31) hx dX6_findRows_31 f_X6_18 rfl rfl ?_
          refine dx_aload_n (pc := 34) hx dX6_findRows_34 rfl ?_
          refine dx_getI (pc := 35) hx dX6_findRows_35 f_X6_47 rfl rfl ?_
          refine dx_iload_n (pc := 38) hx dX6_findRows_38 rfl ?_
          by_cases g39 : (σ.1 7 1) < 0 ∨ 100 ≤ (σ.1 7 1).toNatClampNeg
          · cases (if_pos g39).symm.trans h
          replace h := (if_neg g39).symm.trans h
          refine dx_iast (pc := 39) hx dX6_findRows_39 rfl g39 ?_
          refine dx_nm (fun s39 e39 => ?_)
          replace h := dc_lt e39 h
          refine dx_aload_n (pc := 40) hx dX6_findRows_40 rfl ?_
          refine dx_dup (pc := 41) hx dX6_findRows_41 rfl ?_
          refine dx_getI (pc := 42) hx dX6_findRows_42 f_X6_47 rfl rfl ?_
          refine dx_iconst (pc := 45) hx dX6_findRows_45 kc_1 ?_
          refine dx_iadd (pc := 46) hx dX6_findRows_46 ?_
          refine dx_putI (pc := 47) hx dX6_findRows_47 f_X6_47 rfl rfl tyX6_ok rfl (Or.inl ⟨rfl, rfl⟩) ?_
          refine dx_nm (fun s47 e47 => ?_)
          replace h := dc_lt e47 h
          refine dx_iinc (pc := 50) hx dX6_findRows_50 rfl (v := x1 + nI 1) (congrArg (fun z => x1 + z) kc_1) (dc_le rfl) (ls' := [some (.ref 7), some (.int (x1 + nI 1))]) rfl ?_
          refine dx_goto (pc := 53) hx dX6_findRows_53 (tgt := 7) (by decide) ?_
          exact (ih (x1 + nI 1) s47 q h hk)
set_option maxHeartbeats 4000000 in
set_option maxRecDepth 100000 in
theorem th_X6_findRows_7 {σ : dc_HP} {r : dc_HP} (h : fn_X6_findRows σ 7 = some r) : dc_G mX6_findRows [.ref 7] σ (dc_qv (fun τ => τ = r)) := by
  intro κ hO
  have hx : dc_Cx κ RX6 cX6_findRows 2 3 66 := hO.1
  show dc_X κ 0 [some (.ref 7), none] [] σ
  unfold fn_X6_findRows at h
  refine dx_aload_n (pc := 0) hx dX6_findRows_0 rfl ?_
  refine dx_iconst (pc := 1) hx dX6_findRows_1 kc_0 ?_
  refine dx_putI (pc := 2) hx dX6_findRows_2 f_X6_47 rfl rfl tyX6_ok rfl (Or.inl ⟨rfl, rfl⟩) ?_
  refine dx_nm (fun s2 e2 => ?_)
  replace h := dc_lt e2 h
  refine dx_iconst (pc := 5) hx dX6_findRows_5 kc_0 ?_
  refine dx_istore_n (pc := 6) hx dX6_findRows_6 (dc_le rfl) (ls' := [some (.ref 7), some (.int (nI 0))]) rfl ?_
  obtain ⟨q7, h7, h⟩ := Option.bind_eq_some_iff.mp h
  refine (tl_X6_findRows_7_L7 hO  200 (nI 0) s2 q7 h7 ?_)
  obtain rfl := Option.some.inj h
  exact dx_vret hO (pc := 56) dX6_findRows_56 rfl ⟨rfl, rfl⟩
set_option maxHeartbeats 4000000 in
set_option maxRecDepth 100000 in
theorem th_X6_rowAt_7 {σ : dc_HP} {x1 : Int32} {r : Int32} (h : fn_X6_rowAt σ 7 x1 = some r) : dc_G mX6_rowAt [.ref 7, .int x1] σ (dc_qi (fun x τ => x = r ∧ τ = σ)) := by
  intro κ hO
  have hx : dc_Cx κ RX6 cX6_rowAt 2 0 0 := hO.1
  show dc_X κ 0 [some (.ref 7), some (.int x1)] [] σ
  unfold fn_X6_rowAt at h
  refine dx_iload_n (pc := 0) hx dX6_rowAt_0 rfl ?_
  refine dx_if_lt (pc := 1) hx dX6_rowAt_1 (tgt := 27) (by decide) (fun c1 => ?_) (fun c1 => ?_)
  · replace h := (if_pos c1).symm.trans h
    refine dx_bipush (pc := 27) hx dX6_rowAt_27 kb_m6 ?_
    obtain rfl := Option.some.inj h
    exact dx_iret hO (pc := 29) dX6_rowAt_29 rfl ⟨_, rfl, rfl, rfl⟩
  · replace h := (if_neg c1).symm.trans h
    refine dx_iload_n (pc := 4) hx dX6_rowAt_4 rfl ?_
    refine dx_aload_n (pc := 5) hx dX6_rowAt_5 rfl ?_
    refine dx_getI (pc := 6) hx dX6_rowAt_6 f_X6_47 rfl rfl ?_
    refine dx_icmp_ge (pc := 9) hx dX6_rowAt_9 (tgt := 27) (by decide) (fun c9 => ?_) (fun c9 => ?_)
    · replace h := (if_pos c9).symm.trans h
      refine dx_bipush (pc := 27) hx dX6_rowAt_27 kb_m6 ?_
      obtain rfl := Option.some.inj h
      exact dx_iret hO (pc := 29) dX6_rowAt_29 rfl ⟨_, rfl, rfl, rfl⟩
    · replace h := (if_neg c9).symm.trans h
      refine dx_iload_n (pc := 12) hx dX6_rowAt_12 rfl ?_
      refine dx_bipush (pc := 13) hx dX6_rowAt_13 kb_100 ?_
      refine dx_icmp_ge (pc := 15) hx dX6_rowAt_15 (tgt := 27) (by decide) (fun c15 => ?_) (fun c15 => ?_)
      · replace h := (if_pos c15).symm.trans h
        refine dx_bipush (pc := 27) hx dX6_rowAt_27 kb_m6 ?_
        obtain rfl := Option.some.inj h
        exact dx_iret hO (pc := 29) dX6_rowAt_29 rfl ⟨_, rfl, rfl, rfl⟩
      · replace h := (if_neg c15).symm.trans h
        refine dx_aload_n (pc := 18) hx dX6_rowAt_18 rfl ?_
        refine dx_getR (r := 10) (pc := 19) hx dX6_rowAt_19 f_X6_18 rfl rfl ?_
        refine dx_iload_n (pc := 22) hx dX6_rowAt_22 rfl ?_
        by_cases g23 : x1 < 0 ∨ 100 ≤ x1.toNatClampNeg
        · cases (if_pos g23).symm.trans h
        replace h := (if_neg g23).symm.trans h
        refine dx_iald (pc := 23) hx dX6_rowAt_23 rfl g23 ?_
        refine dx_goto (pc := 24) hx dX6_rowAt_24 (tgt := 29) (by decide) ?_
        obtain rfl := Option.some.inj h
        exact dx_iret hO (pc := 29) dX6_rowAt_29 rfl ⟨_, rfl, rfl, rfl⟩
set_option maxHeartbeats 4000000 in
set_option maxRecDepth 100000 in
theorem tl_X6_mostLeft_7_L2 {κ : dc_KX} {Q : Option Value → dc_HP → Prop} (hO : dc_Ok κ mX6_mostLeft Q) (x1 : Int32) : ∀ (n : Nat) (x2 : Int32) (σ : dc_HP) (q : dc_HP), fn_X6_mostLeft_L2 7 x1 n x2 σ = some q → ∀ (hk : dc_X κ 21 [some (.ref 7), some (.int x1), none, none, none] [] q), dc_X κ 2 [some (.ref 7), some (.int x1), some (.int x2), none, none] [] σ := by
  have hx : dc_Cx κ RX6 cX6_mostLeft 5 2 44 := hO.1
  intro n
  induction n with
  | zero =>
    intro x2 σ q h
    cases h
  | succ n ih =>
    intro x2 σ q h hk
    unfold fn_X6_mostLeft_L2 at h
    refine dx_iload_n (pc := 2) hx dX6_mostLeft_2 rfl ?_
    refine dx_bipush (pc := 3) hx dX6_mostLeft_3 kb_19 ?_
    refine dx_icmp_ge (pc := 5) hx dX6_mostLeft_5 (tgt := 21) (by decide) (fun c5 => ?_) (fun c5 => ?_)
    · replace h := (if_pos c5).symm.trans h
      obtain rfl := Option.some.inj h
      exact dx_wk [true, true, false, true, true] <| hk
    · replace h := (if_neg c5).symm.trans h
      refine dx_aload_n (pc := 8) hx dX6_mostLeft_8 rfl ?_
      refine dx_getR (r := 11) (pc := 9) hx dX6_mostLeft_9 f_X6_21 rfl rfl ?_
      refine dx_iload_n (pc := 12) hx dX6_mostLeft_12 rfl ?_
      refine dx_iconst (pc := 13) hx dX6_mostLeft_13 kc_0 ?_
      by_cases g14 : x2 < 0 ∨ 19 ≤ x2.toNatClampNeg
      · cases (if_pos g14).symm.trans h
      replace h := (if_neg g14).symm.trans h
      refine dx_iast (pc := 14) hx dX6_mostLeft_14 rfl g14 ?_
      refine dx_nm (fun s14 e14 => ?_)
      replace h := dc_lt e14 h
      refine dx_iinc (pc := 15) hx dX6_mostLeft_15 rfl (v := x2 + nI 1) (congrArg (fun z => x2 + z) kc_1) (dc_le rfl) (ls' := [some (.ref 7), some (.int x1), some (.int (x2 + nI 1)), none, none]) rfl ?_
      refine dx_goto (pc := 18) hx dX6_mostLeft_18 (tgt := 2) (by decide) ?_
      exact (ih (x2 + nI 1) s14 q h hk)
set_option maxHeartbeats 4000000 in
set_option maxRecDepth 100000 in
theorem tl_X6_mostLeft_7_L25 {κ : dc_KX} {Q : Option Value → dc_HP → Prop} (hO : dc_Ok κ mX6_mostLeft Q) (x1 : Int32) : ∀ (n : Nat) (x2 : Int32) (x3 : Int32) (σ : dc_HP) (q : Int32 × dc_HP), fn_X6_mostLeft_L25 7 x1 n x2 x3 σ = some q → ∀ (hk : dc_X κ 84 [some (.ref 7), some (.int x1), some (.int q.1), none, none] [] q.2), dc_X κ 25 [some (.ref 7), some (.int x1), some (.int x2), some (.int x3), none] [] σ := by
  have hx : dc_Cx κ RX6 cX6_mostLeft 5 2 44 := hO.1
  intro n
  induction n with
  | zero =>
    intro x2 x3 σ q h
    cases h
  | succ n ih =>
    intro x2 x3 σ q h hk
    unfold fn_X6_mostLeft_L25 at h
    refine dx_iload_n (pc := 25) hx dX6_mostLeft_25 rfl ?_
    refine dx_aload_n (pc := 26) hx dX6_mostLeft_26 rfl ?_
    refine dx_getI (pc := 27) hx dX6_mostLeft_27 f_X6_47 rfl rfl ?_
    refine dx_icmp_ge (pc := 30) hx dX6_mostLeft_30 (tgt := 84) (by decide) (fun c30 => ?_) (fun c30 => ?_)
    · replace h := (if_pos c30).symm.trans h
      obtain rfl := Option.some.inj h
      exact dx_wk [true, true, true, false, true] <| hk
    · replace h := (if_neg c30).symm.trans h
      refine dx_aload_n (pc := 33) hx dX6_mostLeft_33 rfl ?_
      refine dx_iload_n (pc := 34) hx dX6_mostLeft_34 rfl ?_
      obtain ⟨r35, h35, h⟩ := Option.bind_eq_some_iff.mp h
      refine dx_callVir (pc := 35) (As := [.int x3]) (rest := []) hx dX6_mostLeft_35 k_X6_54 rfl rfl rfl rfl (dc_le rfl) (dc_le rfl) (dc_le rfl) (dc_le rfl) rfl (th_X6_rowAt_7 h35) ?_
      refine dx_iload_n (pc := 38) hx dX6_mostLeft_38 rfl ?_
      obtain ⟨r39, h39, h⟩ := Option.bind_eq_some_iff.mp h
      refine dx_callSir (pc := 39) (As := [.int r35, .int x1]) (rest := []) hx dX6_mostLeft_39 k_X6_44 rfl (dc_le rfl) (dc_le rfl) (dc_le rfl) (dc_le rfl) rfl (th_X6_sumOf h39) ?_
      refine dx_istore (pc := 42) hx dX6_mostLeft_42 (dc_le rfl) (ls' := [some (.ref 7), some (.int x1), some (.int x2), some (.int x3), some (.int r39)]) rfl ?_
      refine dx_iload (pc := 44) hx dX6_mostLeft_44 rfl ?_
      refine dx_iconst (pc := 46) hx dX6_mostLeft_46 kc_0 ?_
      refine dx_bipush (pc := 47) hx dX6_mostLeft_47 kb_18 ?_
      obtain ⟨r49, h49, h⟩ := Option.bind_eq_some_iff.mp h
      refine dx_callNir (pc := 49) (As := [.int r39, .int (nI 0), .int (nI 18)]) (rest := []) hx dX6_mostLeft_49 k_X6_34 rfl (dc_le rfl) (dc_le rfl) (dc_le rfl) (dc_le rfl) rfl (th_X8_within h49) ?_
      refine dx_if_eq (pc := 52) hx dX6_mostLeft_52 (tgt := 78) (by decide) (fun c52 => ?_) (fun c52 => ?_)
      · replace h := (if_pos c52).symm.trans h
        refine dx_iinc (pc := 78) hx dX6_mostLeft_78 rfl (v := x3 + nI 1) (congrArg (fun z => x3 + z) kc_1) (dc_le rfl) (ls' := [some (.ref 7), some (.int x1), some (.int x2), some (.int (x3 + nI 1)), some (.int r39)]) rfl ?_
        refine dx_goto (pc := 81) hx dX6_mostLeft_81 (tgt := 25) (by decide) ?_
        exact dx_wk [true, true, true, true, false] <| (ih x2 (x3 + nI 1) σ q h hk)
      · replace h := (if_neg c52).symm.trans h
        refine dx_aload_n (pc := 55) hx dX6_mostLeft_55 rfl ?_
        refine dx_getR (r := 11) (pc := 56) hx dX6_mostLeft_56 f_X6_21 rfl rfl ?_
        refine dx_iload (pc := 59) hx dX6_mostLeft_59 rfl ?_
        refine dx_dup2 (pc := 61) hx dX6_mostLeft_61 rfl rfl ?_
        by_cases g62 : r39 < 0 ∨ 19 ≤ r39.toNatClampNeg
        · cases (if_pos g62).symm.trans h
        replace h := (if_neg g62).symm.trans h
        refine dx_iald (pc := 62) hx dX6_mostLeft_62 rfl g62 ?_
        refine dx_iconst (pc := 63) hx dX6_mostLeft_63 kc_1 ?_
        refine dx_iadd (pc := 64) hx dX6_mostLeft_64 ?_
        by_cases g65 : r39 < 0 ∨ 19 ≤ r39.toNatClampNeg
        · cases (if_pos g65).symm.trans h
        replace h := (if_neg g65).symm.trans h
        refine dx_iast (pc := 65) hx dX6_mostLeft_65 rfl g65 ?_
        refine dx_nm (fun s65 e65 => ?_)
        replace h := dc_lt e65 h
        refine dx_iload_n (pc := 66) hx dX6_mostLeft_66 rfl ?_
        refine dx_aload_n (pc := 67) hx dX6_mostLeft_67 rfl ?_
        refine dx_getR (r := 11) (pc := 68) hx dX6_mostLeft_68 f_X6_21 rfl rfl ?_
        refine dx_iload (pc := 71) hx dX6_mostLeft_71 rfl ?_
        by_cases g73 : r39 < 0 ∨ 19 ≤ r39.toNatClampNeg
        · cases (if_pos g73).symm.trans h
        replace h := (if_neg g73).symm.trans h
        refine dx_iald (pc := 73) hx dX6_mostLeft_73 rfl g73 ?_
        refine dx_mmax (pc := 74) hx dX6_mostLeft_74 k_X6_58 (dc_le rfl) (dc_le rfl) ?_
        refine dx_istore_n (pc := 77) hx dX6_mostLeft_77 (dc_le rfl) (ls' := [some (.ref 7), some (.int x1), some (.int (if x2 < (s65.1 11 r39.toNatClampNeg) then (s65.1 11 r39.toNatClampNeg) else x2)), some (.int x3), some (.int r39)]) rfl ?_
        refine dx_iinc (pc := 78) hx dX6_mostLeft_78 rfl (v := x3 + nI 1) (congrArg (fun z => x3 + z) kc_1) (dc_le rfl) (ls' := [some (.ref 7), some (.int x1), some (.int (if x2 < (s65.1 11 r39.toNatClampNeg) then (s65.1 11 r39.toNatClampNeg) else x2)), some (.int (x3 + nI 1)), some (.int r39)]) rfl ?_
        refine dx_goto (pc := 81) hx dX6_mostLeft_81 (tgt := 25) (by decide) ?_
        exact dx_wk [true, true, true, true, false] <| (ih (if x2 < (s65.1 11 r39.toNatClampNeg) then (s65.1 11 r39.toNatClampNeg) else x2) (x3 + nI 1) s65 q h hk)
set_option maxHeartbeats 4000000 in
set_option maxRecDepth 100000 in
theorem th_X6_mostLeft_7 {σ : dc_HP} {x1 : Int32} {r : Int32 × dc_HP} (h : fn_X6_mostLeft σ 7 x1 = some r) : dc_G mX6_mostLeft [.ref 7, .int x1] σ (dc_qi (fun x τ => x = r.1 ∧ τ = r.2)) := by
  intro κ hO
  have hx : dc_Cx κ RX6 cX6_mostLeft 5 2 44 := hO.1
  show dc_X κ 0 [some (.ref 7), some (.int x1), none, none, none] [] σ
  unfold fn_X6_mostLeft at h
  refine dx_iconst (pc := 0) hx dX6_mostLeft_0 kc_0 ?_
  refine dx_istore_n (pc := 1) hx dX6_mostLeft_1 (dc_le rfl) (ls' := [some (.ref 7), some (.int x1), some (.int (nI 0)), none, none]) rfl ?_
  obtain ⟨q2, h2, h⟩ := Option.bind_eq_some_iff.mp h
  refine (tl_X6_mostLeft_7_L2 hO x1 200 (nI 0) σ q2 h2 ?_)
  refine dx_iconst (pc := 21) hx dX6_mostLeft_21 kc_0 ?_
  refine dx_istore_n (pc := 22) hx dX6_mostLeft_22 (dc_le rfl) (ls' := [some (.ref 7), some (.int x1), some (.int (nI 0)), none, none]) rfl ?_
  refine dx_iconst (pc := 23) hx dX6_mostLeft_23 kc_0 ?_
  refine dx_istore_n (pc := 24) hx dX6_mostLeft_24 (dc_le rfl) (ls' := [some (.ref 7), some (.int x1), some (.int (nI 0)), some (.int (nI 0)), none]) rfl ?_
  obtain ⟨q25, h25, h⟩ := Option.bind_eq_some_iff.mp h
  refine (tl_X6_mostLeft_7_L25 hO x1 200 (nI 0) (nI 0) q2 q25 h25 ?_)
  refine dx_iload_n (pc := 84) hx dX6_mostLeft_84 rfl ?_
  obtain rfl := Option.some.inj h
  exact dx_iret hO (pc := 85) dX6_mostLeft_85 rfl ⟨_, rfl, rfl, rfl⟩
set_option maxHeartbeats 4000000 in
set_option maxRecDepth 100000 in
theorem tl_X1_start_L12 {κ : dc_KX} {Q : Option Value → dc_HP → Prop} (hO : dc_Ok κ mX1_start Q) (x1 : Int32) : ∀ (n : Nat) (x2 : Int32) (σ : dc_HP) (q : dc_HP), fn_X1_start_L12 x1 n x2 σ = some q → ∀ (hk : dc_X κ 35 [some (.ref 28), some (.int x1), none] [] q), dc_X κ 12 [some (.ref 28), some (.int x1), some (.int x2)] [] σ := by
  have hx : dc_Cx κ RX1 cX1_start 3 0 0 := hO.1
  intro n
  induction n with
  | zero =>
    intro x2 σ q h
    cases h
  | succ n ih =>
    intro x2 σ q h hk
    unfold fn_X1_start_L12 at h
    refine dx_iload_n (pc := 12) hx dX1_start_12 rfl ?_
    refine dx_bipush (pc := 13) hx dX1_start_13 kb_9 ?_
    refine dx_icmp_gt (pc := 15) hx dX1_start_15 (tgt := 35) (by decide) (fun c15 => ?_) (fun c15 => ?_)
    · replace h := (if_pos c15).symm.trans h
      obtain rfl := Option.some.inj h
      exact dx_wk [true, true, false] <| hk
    · replace h := (if_neg c15).symm.trans h
      refine dx_aload_n (pc := 18) hx dX1_start_18 rfl ?_
      refine dx_getR (r := 29) (pc := 19) hx dX1_start_19 f_X1_9 rfl rfl ?_
      refine dx_iload_n (pc := 22) hx dX1_start_22 rfl ?_
      refine dx_iload_n (pc := 23) hx dX1_start_23 rfl ?_
      refine dx_ineg (pc := 24) hx dX1_start_24 ?_
      refine dx_iload_n (pc := 25) hx dX1_start_25 rfl ?_
      refine dx_imul (pc := 26) hx dX1_start_26 ?_
      refine dx_i2l (pc := 27) hx dX1_start_27 ?_
      by_cases g28 : x2 < 0 ∨ 10 ≤ x2.toNatClampNeg
      · cases (if_pos g28).symm.trans h
      replace h := (if_neg g28).symm.trans h
      refine dx_last (pc := 28) hx dX1_start_28 rfl g28 ?_
      refine dx_nm (fun s28 e28 => ?_)
      replace h := dc_lt e28 h
      refine dx_iinc (pc := 29) hx dX1_start_29 rfl (v := x2 + nI 1) (congrArg (fun z => x2 + z) kc_1) (dc_le rfl) (ls' := [some (.ref 28), some (.int x1), some (.int (x2 + nI 1))]) rfl ?_
      refine dx_goto (pc := 32) hx dX1_start_32 (tgt := 12) (by decide) ?_
      exact (ih (x2 + nI 1) s28 q h hk)
set_option maxHeartbeats 4000000 in
set_option maxRecDepth 100000 in
theorem th_X1_start {σ : dc_HP} {x1 : Int32} {r : dc_HP} (h : fn_X1_start σ x1 = some r) : dc_G mX1_start [.ref 28, .int x1] σ (dc_qv (fun τ => τ = r)) := by
  intro κ hO
  have hx : dc_Cx κ RX1 cX1_start 3 0 0 := hO.1
  show dc_X κ 0 [some (.ref 28), some (.int x1), none] [] σ
  unfold fn_X1_start at h
  refine dx_aload_n (pc := 0) hx dX1_start_0 rfl ?_
  refine dx_lconst (pc := 1) hx dX1_start_1 (v := (1 : Int64)) (by decide) ?_
  refine dx_putL (pc := 2) hx dX1_start_2 f_X1_16 rfl rfl tyX1_ok rfl rfl ?_
  refine dx_nm (fun s2 e2 => ?_)
  replace h := dc_lt e2 h
  refine dx_aload_n (pc := 5) hx dX1_start_5 rfl ?_
  refine dx_iconst (pc := 6) hx dX1_start_6 kc_0 ?_
  refine dx_putI (pc := 7) hx dX1_start_7 f_X1_20 rfl rfl tyX1_ok rfl (Or.inl ⟨rfl, rfl⟩) ?_
  refine dx_nm (fun s7 e7 => ?_)
  replace h := dc_lt e7 h
  refine dx_iconst (pc := 10) hx dX1_start_10 kc_0 ?_
  refine dx_istore_n (pc := 11) hx dX1_start_11 (dc_le rfl) (ls' := [some (.ref 28), some (.int x1), some (.int (nI 0))]) rfl ?_
  obtain ⟨q12, h12, h⟩ := Option.bind_eq_some_iff.mp h
  refine (tl_X1_start_L12 hO x1 200 (nI 0) s7 q12 h12 ?_)
  obtain rfl := Option.some.inj h
  exact dx_vret hO (pc := 35) dX1_start_35 rfl ⟨rfl, rfl⟩
set_option maxHeartbeats 4000000 in
set_option maxRecDepth 100000 in
theorem th_X1_bestOf {σ : dc_HP} {x1 : Int32} {r : Int64} (h : fn_X1_bestOf σ x1 = some r) : dc_G mX1_bestOf [.ref 28, .int x1] σ (dc_ql (fun x τ => x = r ∧ τ = σ)) := by
  intro κ hO
  have hx : dc_Cx κ RX1 cX1_bestOf 2 1 22 := hO.1
  show dc_X κ 0 [some (.ref 28), some (.int x1)] [] σ
  unfold fn_X1_bestOf at h
  refine dx_iload_n (pc := 0) hx dX1_bestOf_0 rfl ?_
  refine dx_iconst (pc := 1) hx dX1_bestOf_1 kc_0 ?_
  refine dx_bipush (pc := 2) hx dX1_bestOf_2 kb_9 ?_
  obtain ⟨r4, h4, h⟩ := Option.bind_eq_some_iff.mp h
  refine dx_callNir (pc := 4) (As := [.int x1, .int (nI 0), .int (nI 9)]) (rest := []) hx dX1_bestOf_4 k_X1_36 rfl (dc_le rfl) (dc_le rfl) (dc_le rfl) (dc_le rfl) rfl (th_X8_within h4) ?_
  refine dx_if_eq (pc := 7) hx dX1_bestOf_7 (tgt := 19) (by decide) (fun c7 => ?_) (fun c7 => ?_)
  · replace h := (if_pos c7).symm.trans h
    refine dx_lconst (pc := 19) hx dX1_bestOf_19 (v := (0 : Int64)) (by decide) ?_
    obtain rfl := Option.some.inj h
    exact dx_lret hO (pc := 20) dX1_bestOf_20 rfl ⟨_, rfl, rfl, rfl⟩
  · replace h := (if_neg c7).symm.trans h
    refine dx_aload_n (pc := 10) hx dX1_bestOf_10 rfl ?_
    refine dx_getR (r := 29) (pc := 11) hx dX1_bestOf_11 f_X1_9 rfl rfl ?_
    refine dx_iload_n (pc := 14) hx dX1_bestOf_14 rfl ?_
    by_cases g15 : x1 < 0 ∨ 10 ≤ x1.toNatClampNeg
    · cases (if_pos g15).symm.trans h
    replace h := (if_neg g15).symm.trans h
    refine dx_lald (pc := 15) hx dX1_bestOf_15 rfl g15 ?_
    refine dx_goto (pc := 16) hx dX1_bestOf_16 (tgt := 20) (by decide) ?_
    obtain rfl := Option.some.inj h
    exact dx_lret hO (pc := 20) dX1_bestOf_20 rfl ⟨_, rfl, rfl, rfl⟩
set_option maxHeartbeats 4000000 in
set_option maxRecDepth 100000 in
theorem tl_X1_evening_L19 {κ : dc_KX} {Q : Option Value → dc_HP → Prop} (hO : dc_Ok κ mX1_evening Q) (x1 : Int32) (x2 : Int32) : ∀ (n : Nat) (x3 : Int32) (σ : dc_HP) (q : dc_HP), fn_X1_evening_L19 x1 x2 n x3 σ = some q → ∀ (hk : dc_X κ 82 [some (.ref 28), some (.int x1), some (.int x2), none] [] q), dc_X κ 19 [some (.ref 28), some (.int x1), some (.int x2), some (.int x3)] [] σ := by
  have hx : dc_Cx κ RX1 cX1_evening 4 2 43 := hO.1
  intro n
  induction n with
  | zero =>
    intro x3 σ q h
    cases h
  | succ n ih =>
    intro x3 σ q h hk
    unfold fn_X1_evening_L19 at h
    refine dx_iload_n (pc := 19) hx dX1_evening_19 rfl ?_
    refine dx_bipush (pc := 20) hx dX1_evening_20 kb_9 ?_
    refine dx_icmp_gt (pc := 22) hx dX1_evening_22 (tgt := 82) (by decide) (fun c22 => ?_) (fun c22 => ?_)
    · replace h := (if_pos c22).symm.trans h
      obtain rfl := Option.some.inj h
      exact dx_wk [true, true, true, false] <| hk
    · replace h := (if_neg c22).symm.trans h
      refine dx_aload_n (pc := 25) hx dX1_evening_25 rfl ?_
      refine dx_getR (r := 30) (pc := 26) hx dX1_evening_26 f_X1_13 rfl rfl ?_
      refine dx_iload_n (pc := 29) hx dX1_evening_29 rfl ?_
      refine dx_iload_n (pc := 30) hx dX1_evening_30 rfl ?_
      refine dx_if_ne (pc := 31) hx dX1_evening_31 (tgt := 46) (by decide) (fun c31 => ?_) (fun c31 => ?_)
      · replace h := (if_neg c31).symm.trans h
        refine dx_iload_n (pc := 46) hx dX1_evening_46 rfl ?_
        refine dx_i2l (pc := 47) hx dX1_evening_47 ?_
        refine dx_aload_n (pc := 48) hx dX1_evening_48 rfl ?_
        refine dx_iload_n (pc := 49) hx dX1_evening_49 rfl ?_
        refine dx_iconst (pc := 50) hx dX1_evening_50 kc_1 ?_
        refine dx_isub (pc := 51) hx dX1_evening_51 ?_
        obtain ⟨r52, h52, h⟩ := Option.bind_eq_some_iff.mp h
        refine dx_callVlr (pc := 52) (As := [.int (x3 - (nI 1))]) (rest := [.long x1.toInt64, .int x3, .ref 30]) hx dX1_evening_52 k_X1_26 rfl rfl rfl rfl (dc_le rfl) (dc_le rfl) (dc_le rfl) (dc_le rfl) rfl (th_X1_bestOf h52) ?_
        refine dx_lmul (pc := 55) hx dX1_evening_55 ?_
        refine dx_bipush (pc := 56) hx dX1_evening_56 kb_10 ?_
        refine dx_iload_n (pc := 58) hx dX1_evening_58 rfl ?_
        refine dx_isub (pc := 59) hx dX1_evening_59 ?_
        refine dx_i2l (pc := 60) hx dX1_evening_60 ?_
        refine dx_aload_n (pc := 61) hx dX1_evening_61 rfl ?_
        refine dx_bipush (pc := 62) hx dX1_evening_62 kb_9 ?_
        refine dx_iload_n (pc := 64) hx dX1_evening_64 rfl ?_
        refine dx_iconst (pc := 65) hx dX1_evening_65 kc_1 ?_
        refine dx_iadd (pc := 66) hx dX1_evening_66 ?_
        refine dx_mmin (pc := 67) hx dX1_evening_67 k_X1_30 (dc_le rfl) (dc_le rfl) ?_
        obtain ⟨r70, h70, h⟩ := Option.bind_eq_some_iff.mp h
        refine dx_callVlr (pc := 70) (As := [.int (if (x3 + (nI 1)) < (nI 9) then (x3 + (nI 1)) else (nI 9))]) (rest := [.long (((nI 10) - x1).toInt64), .long (x1.toInt64 * r52), .int x3, .ref 30]) hx dX1_evening_70 k_X1_26 rfl rfl rfl rfl (dc_le rfl) (dc_le rfl) (dc_le rfl) (dc_le rfl) rfl (th_X1_bestOf h70) ?_
        refine dx_lmul (pc := 73) hx dX1_evening_73 ?_
        refine dx_ladd (pc := 74) hx dX1_evening_74 ?_
        by_cases g75 : x3 < 0 ∨ 10 ≤ x3.toNatClampNeg
        · cases (if_pos g75).symm.trans h
        replace h := (if_neg g75).symm.trans h
        refine dx_last (pc := 75) hx dX1_evening_75 rfl g75 ?_
        refine dx_nm (fun s75 e75 => ?_)
        replace h := dc_lt e75 h
        refine dx_iinc (pc := 76) hx dX1_evening_76 rfl (v := x3 + nI 1) (congrArg (fun z => x3 + z) kc_1) (dc_le rfl) (ls' := [some (.ref 28), some (.int x1), some (.int x2), some (.int (x3 + nI 1))]) rfl ?_
        refine dx_goto (pc := 79) hx dX1_evening_79 (tgt := 19) (by decide) ?_
        exact (ih (x3 + nI 1) s75 q h hk)
      · replace h := (if_pos c31).symm.trans h
        refine dx_ldc2 (pc := 34) hx dX1_evening_34 f_X1_24 ?_
        refine dx_aload_n (pc := 37) hx dX1_evening_37 rfl ?_
        refine dx_iconst (pc := 38) hx dX1_evening_38 kc_0 ?_
        obtain ⟨r39, h39, h⟩ := Option.bind_eq_some_iff.mp h
        refine dx_callVlr (pc := 39) (As := [.int (nI 0)]) (rest := [.long ((10 : Int64)), .int x3, .ref 30]) hx dX1_evening_39 k_X1_26 rfl rfl rfl rfl (dc_le rfl) (dc_le rfl) (dc_le rfl) (dc_le rfl) rfl (th_X1_bestOf h39) ?_
        refine dx_lmul (pc := 42) hx dX1_evening_42 ?_
        refine dx_goto (pc := 43) hx dX1_evening_43 (tgt := 75) (by decide) ?_
        by_cases g75 : x3 < 0 ∨ 10 ≤ x3.toNatClampNeg
        · cases (if_pos g75).symm.trans h
        replace h := (if_neg g75).symm.trans h
        refine dx_last (pc := 75) hx dX1_evening_75 rfl g75 ?_
        refine dx_nm (fun s75 e75 => ?_)
        replace h := dc_lt e75 h
        refine dx_iinc (pc := 76) hx dX1_evening_76 rfl (v := x3 + nI 1) (congrArg (fun z => x3 + z) kc_1) (dc_le rfl) (ls' := [some (.ref 28), some (.int x1), some (.int x2), some (.int (x3 + nI 1))]) rfl ?_
        refine dx_goto (pc := 79) hx dX1_evening_79 (tgt := 19) (by decide) ?_
        exact (ih (x3 + nI 1) s75 q h hk)
set_option maxHeartbeats 4000000 in
set_option maxRecDepth 100000 in
theorem tl_X1_evening_L84 {κ : dc_KX} {Q : Option Value → dc_HP → Prop} (hO : dc_Ok κ mX1_evening Q) (x2 : Int32) : ∀ (n : Nat) (x3 : Int32) (σ : dc_HP) (q : dc_HP), fn_X1_evening_L84 x2 n x3 σ = some q → ∀ (hk : dc_X κ 174 [some (.ref 28), none, some (.int x2), none] [] q), dc_X κ 84 [some (.ref 28), none, some (.int x2), some (.int x3)] [] σ := by
  have hx : dc_Cx κ RX1 cX1_evening 4 2 43 := hO.1
  intro n
  induction n with
  | zero =>
    intro x3 σ q h
    cases h
  | succ n ih =>
    intro x3 σ q h hk
    unfold fn_X1_evening_L84 at h
    refine dx_iload_n (pc := 84) hx dX1_evening_84 rfl ?_
    refine dx_bipush (pc := 85) hx dX1_evening_85 kb_9 ?_
    refine dx_icmp_gt (pc := 87) hx dX1_evening_87 (tgt := 174) (by decide) (fun c87 => ?_) (fun c87 => ?_)
    · replace h := (if_pos c87).symm.trans h
      obtain rfl := Option.some.inj h
      exact dx_wk [true, true, true, false] <| hk
    · replace h := (if_neg c87).symm.trans h
      refine dx_aload_n (pc := 90) hx dX1_evening_90 rfl ?_
      refine dx_getR (r := 29) (pc := 91) hx dX1_evening_91 f_X1_9 rfl rfl ?_
      refine dx_iload_n (pc := 94) hx dX1_evening_94 rfl ?_
      refine dx_aload_n (pc := 95) hx dX1_evening_95 rfl ?_
      refine dx_getR (r := 30) (pc := 96) hx dX1_evening_96 f_X1_13 rfl rfl ?_
      refine dx_iload_n (pc := 99) hx dX1_evening_99 rfl ?_
      by_cases g100 : x3 < 0 ∨ 10 ≤ x3.toNatClampNeg
      · cases (if_pos g100).symm.trans h
      replace h := (if_neg g100).symm.trans h
      refine dx_lald (pc := 100) hx dX1_evening_100 rfl g100 ?_
      by_cases g101 : x3 < 0 ∨ 10 ≤ x3.toNatClampNeg
      · cases (if_pos g101).symm.trans h
      replace h := (if_neg g101).symm.trans h
      refine dx_last (pc := 101) hx dX1_evening_101 rfl g101 ?_
      refine dx_nm (fun s101 e101 => ?_)
      replace h := dc_lt e101 h
      refine dx_iload_n (pc := 102) hx dX1_evening_102 rfl ?_
      refine dx_bipush (pc := 103) hx dX1_evening_103 kb_9 ?_
      refine dx_icmp_ge (pc := 105) hx dX1_evening_105 (tgt := 168) (by decide) (fun c105 => ?_) (fun c105 => ?_)
      · replace h := (if_pos c105).symm.trans h
        refine dx_iinc (pc := 168) hx dX1_evening_168 rfl (v := x3 + nI 1) (congrArg (fun z => x3 + z) kc_1) (dc_le rfl) (ls' := [some (.ref 28), none, some (.int x2), some (.int (x3 + nI 1))]) rfl ?_
        refine dx_goto (pc := 171) hx dX1_evening_171 (tgt := 84) (by decide) ?_
        exact (ih (x3 + nI 1) s101 q h hk)
      · replace h := (if_neg c105).symm.trans h
        refine dx_iload_n (pc := 108) hx dX1_evening_108 rfl ?_
        refine dx_i2l (pc := 109) hx dX1_evening_109 ?_
        refine dx_aload_n (pc := 110) hx dX1_evening_110 rfl ?_
        refine dx_getJ (pc := 111) hx dX1_evening_111 f_X1_16 rfl rfl ?_
        refine dx_lmul (pc := 114) hx dX1_evening_114 ?_
        refine dx_aload_n (pc := 115) hx dX1_evening_115 rfl ?_
        refine dx_getR (r := 30) (pc := 116) hx dX1_evening_116 f_X1_13 rfl rfl ?_
        refine dx_iload_n (pc := 119) hx dX1_evening_119 rfl ?_
        refine dx_iconst (pc := 120) hx dX1_evening_120 kc_1 ?_
        refine dx_iadd (pc := 121) hx dX1_evening_121 ?_
        by_cases g122 : (x3 + (nI 1)) < 0 ∨ 10 ≤ (x3 + (nI 1)).toNatClampNeg
        · cases (if_pos g122).symm.trans h
        replace h := (if_neg g122).symm.trans h
        refine dx_lald (pc := 122) hx dX1_evening_122 rfl g122 ?_
        refine dx_ladd (pc := 123) hx dX1_evening_123 ?_
        refine dx_aload_n (pc := 124) hx dX1_evening_124 rfl ?_
        refine dx_getR (r := 30) (pc := 125) hx dX1_evening_125 f_X1_13 rfl rfl ?_
        refine dx_iload_n (pc := 128) hx dX1_evening_128 rfl ?_
        by_cases g129 : x3 < 0 ∨ 10 ≤ x3.toNatClampNeg
        · cases (if_pos g129).symm.trans h
        replace h := (if_neg g129).symm.trans h
        refine dx_lald (pc := 129) hx dX1_evening_129 rfl g129 ?_
        refine dx_lcmp (pc := 130) hx dX1_evening_130 ?_
        refine dx_if_le (pc := 131) hx dX1_evening_131 (tgt := 168) (by decide) (fun c131 => ?_) (fun c131 => ?_)
        · replace h := (if_pos c131).symm.trans h
          refine dx_iinc (pc := 168) hx dX1_evening_168 rfl (v := x3 + nI 1) (congrArg (fun z => x3 + z) kc_1) (dc_le rfl) (ls' := [some (.ref 28), none, some (.int x2), some (.int (x3 + nI 1))]) rfl ?_
          refine dx_goto (pc := 171) hx dX1_evening_171 (tgt := 84) (by decide) ?_
          exact (ih (x3 + nI 1) s101 q h hk)
        · replace h := (if_neg c131).symm.trans h
          refine dx_aload_n (pc := 134) hx dX1_evening_134 rfl ?_
          refine dx_getR (r := 29) (pc := 135) hx dX1_evening_135 f_X1_9 rfl rfl ?_
          refine dx_iload_n (pc := 138) hx dX1_evening_138 rfl ?_
          refine dx_iload_n (pc := 139) hx dX1_evening_139 rfl ?_
          refine dx_i2l (pc := 140) hx dX1_evening_140 ?_
          refine dx_aload_n (pc := 141) hx dX1_evening_141 rfl ?_
          refine dx_getJ (pc := 142) hx dX1_evening_142 f_X1_16 rfl rfl ?_
          refine dx_lmul (pc := 145) hx dX1_evening_145 ?_
          refine dx_aload_n (pc := 146) hx dX1_evening_146 rfl ?_
          refine dx_getR (r := 30) (pc := 147) hx dX1_evening_147 f_X1_13 rfl rfl ?_
          refine dx_iload_n (pc := 150) hx dX1_evening_150 rfl ?_
          refine dx_iconst (pc := 151) hx dX1_evening_151 kc_1 ?_
          refine dx_iadd (pc := 152) hx dX1_evening_152 ?_
          by_cases g153 : (x3 + (nI 1)) < 0 ∨ 10 ≤ (x3 + (nI 1)).toNatClampNeg
          · cases (if_pos g153).symm.trans h
          replace h := (if_neg g153).symm.trans h
          refine dx_lald (pc := 153) hx dX1_evening_153 rfl g153 ?_
          refine dx_ladd (pc := 154) hx dX1_evening_154 ?_
          by_cases g155 : x3 < 0 ∨ 10 ≤ x3.toNatClampNeg
          · cases (if_pos g155).symm.trans h
          replace h := (if_neg g155).symm.trans h
          refine dx_last (pc := 155) hx dX1_evening_155 rfl g155 ?_
          refine dx_nm (fun s155 e155 => ?_)
          replace h := dc_lt e155 h
          refine dx_aload_n (pc := 156) hx dX1_evening_156 rfl ?_
          refine dx_dup (pc := 157) hx dX1_evening_157 rfl ?_
          refine dx_getI (pc := 158) hx dX1_evening_158 f_X1_20 rfl rfl ?_
          refine dx_iconst (pc := 161) hx dX1_evening_161 kc_1 ?_
          refine dx_iload_n (pc := 162) hx dX1_evening_162 rfl ?_
          refine dx_ishl (pc := 163) hx dX1_evening_163 ?_
          refine dx_ior (pc := 164) hx dX1_evening_164 ?_
          refine dx_putI (pc := 165) hx dX1_evening_165 f_X1_20 rfl rfl tyX1_ok rfl (Or.inl ⟨rfl, rfl⟩) ?_
          refine dx_nm (fun s165 e165 => ?_)
          replace h := dc_lt e165 h
          refine dx_iinc (pc := 168) hx dX1_evening_168 rfl (v := x3 + nI 1) (congrArg (fun z => x3 + z) kc_1) (dc_le rfl) (ls' := [some (.ref 28), none, some (.int x2), some (.int (x3 + nI 1))]) rfl ?_
          refine dx_goto (pc := 171) hx dX1_evening_171 (tgt := 84) (by decide) ?_
          exact (ih (x3 + nI 1) s165 q h hk)
set_option maxHeartbeats 4000000 in
set_option maxRecDepth 100000 in
theorem th_X1_evening {σ : dc_HP} {x1 : Int32} {x2 : Int32} {r : dc_HP} (h : fn_X1_evening σ x1 x2 = some r) : dc_G mX1_evening [.ref 28, .int x1, .int x2] σ (dc_qv (fun τ => τ = r)) := by
  intro κ hO
  have hx : dc_Cx κ RX1 cX1_evening 4 2 43 := hO.1
  show dc_X κ 0 [some (.ref 28), some (.int x1), some (.int x2), none] [] σ
  unfold fn_X1_evening at h
  refine dx_aload_n (pc := 0) hx dX1_evening_0 rfl ?_
  refine dx_dup (pc := 1) hx dX1_evening_1 rfl ?_
  refine dx_getJ (pc := 2) hx dX1_evening_2 f_X1_16 rfl rfl ?_
  refine dx_ldc2 (pc := 5) hx dX1_evening_5 f_X1_24 ?_
  refine dx_lmul (pc := 8) hx dX1_evening_8 ?_
  refine dx_putL (pc := 9) hx dX1_evening_9 f_X1_16 rfl rfl tyX1_ok rfl rfl ?_
  refine dx_nm (fun s9 e9 => ?_)
  replace h := dc_lt e9 h
  refine dx_aload_n (pc := 12) hx dX1_evening_12 rfl ?_
  refine dx_iconst (pc := 13) hx dX1_evening_13 kc_0 ?_
  refine dx_putI (pc := 14) hx dX1_evening_14 f_X1_20 rfl rfl tyX1_ok rfl (Or.inl ⟨rfl, rfl⟩) ?_
  refine dx_nm (fun s14 e14 => ?_)
  replace h := dc_lt e14 h
  refine dx_iconst (pc := 17) hx dX1_evening_17 kc_0 ?_
  refine dx_istore_n (pc := 18) hx dX1_evening_18 (dc_le rfl) (ls' := [some (.ref 28), some (.int x1), some (.int x2), some (.int (nI 0))]) rfl ?_
  obtain ⟨q19, h19, h⟩ := Option.bind_eq_some_iff.mp h
  refine (tl_X1_evening_L19 hO x1 x2 200 (nI 0) s14 q19 h19 ?_)
  refine dx_iconst (pc := 82) hx dX1_evening_82 kc_0 ?_
  refine dx_istore_n (pc := 83) hx dX1_evening_83 (dc_le rfl) (ls' := [some (.ref 28), some (.int x1), some (.int x2), some (.int (nI 0))]) rfl ?_
  obtain ⟨q84, h84, h⟩ := Option.bind_eq_some_iff.mp h
  refine dx_wk [true, false, true, true] <| (tl_X1_evening_L84 hO x2 200 (nI 0) q19 q84 h84 ?_)
  obtain rfl := Option.some.inj h
  exact dx_vret hO (pc := 174) dX1_evening_174 rfl ⟨rfl, rfl⟩
set_option maxHeartbeats 4000000 in
set_option maxRecDepth 100000 in
theorem th_X7_draw {σ : dc_HP} {x1 : Int32} {r : dc_HP} (h : fn_X7_draw σ x1 = some r) : dc_G mX7_draw [.ref 14, .int x1] σ (dc_qv (fun τ => τ = r)) := by
  intro κ hO
  have hx : dc_Cx κ RX7 cX7_draw 4 4 90 := hO.1
  show dc_X κ 0 [some (.ref 14), some (.int x1), none, none] [] σ
  unfold fn_X7_draw at h
  refine dx_iload_n (pc := 0) hx dX7_draw_0 rfl ?_
  refine dx_bipush (pc := 1) hx dX7_draw_1 kb_8 ?_
  refine dx_idiv (pc := 3) hx dX7_draw_3 (by decide) ?_
  refine dx_istore_n (pc := 4) hx dX7_draw_4 (dc_le rfl) (ls' := [some (.ref 14), some (.int x1), some (.int (x1 / (nI 8))), none]) rfl ?_
  refine dx_iload_n (pc := 5) hx dX7_draw_5 rfl ?_
  refine dx_bipush (pc := 6) hx dX7_draw_6 kb_64 ?_
  refine dx_idiv (pc := 8) hx dX7_draw_8 (by decide) ?_
  refine dx_istore_n (pc := 9) hx dX7_draw_9 (dc_le rfl) (ls' := [some (.ref 14), some (.int x1), some (.int (x1 / (nI 8))), some (.int (x1 / (nI 64)))]) rfl ?_
  refine dx_iload_n (pc := 10) hx dX7_draw_10 rfl ?_
  refine dx_bipush (pc := 11) hx dX7_draw_11 kb_8 ?_
  refine dx_irem (pc := 13) hx dX7_draw_13 (by decide) ?_
  by_cases c14_0 : (x1 - x1 / (nI 8) * (nI 8)) = nI 0
  · replace h := (if_pos c14_0).symm.trans h
    refine dx_tableIn (pc := 14) hx dX7_draw_14 (by rw [c14_0]; decide) (by rw [c14_0]; decide) (off := 42) (by rw [c14_0]; decide) (tgt := 56) (by decide) ?_
    refine dx_aload_n (pc := 56) hx dX7_draw_56 rfl ?_
    refine dx_getR (r := 15) (pc := 57) hx dX7_draw_57 f_X7_12 rfl rfl ?_
    refine dx_iload_n (pc := 60) hx dX7_draw_60 rfl ?_
    refine dx_bipush (pc := 61) hx dX7_draw_61 kb_6 ?_
    refine dx_irem (pc := 63) hx dX7_draw_63 (by decide) ?_
    obtain ⟨r64, h64, h⟩ := Option.bind_eq_some_iff.mp h
    refine dx_callViw (pc := 64) (As := [.int ((x1 / (nI 8)) - (x1 / (nI 8)) / (nI 6) * (nI 6))]) (rest := []) hx dX7_draw_64 k_X7_82 rfl rfl rfl rfl (dc_le rfl) (dc_le rfl) (dc_le rfl) (dc_le rfl) rfl (th_X0_sing_15 h64) ?_
    refine dx_pop (pc := 67) hx dX7_draw_67 rfl ?_
    refine dx_goto (pc := 68) hx dX7_draw_68 (tgt := 137) (by decide) ?_
    obtain rfl := Option.some.inj h
    exact dx_vret hO (pc := 137) dX7_draw_137 rfl ⟨rfl, rfl⟩
  replace h := (if_neg c14_0).symm.trans h
  by_cases c14_1 : (x1 - x1 / (nI 8) * (nI 8)) = nI 1
  · replace h := (if_pos c14_1).symm.trans h
    refine dx_tableIn (pc := 14) hx dX7_draw_14 (by rw [c14_1]; decide) (by rw [c14_1]; decide) (off := 42) (by rw [c14_1]; decide) (tgt := 56) (by decide) ?_
    refine dx_aload_n (pc := 56) hx dX7_draw_56 rfl ?_
    refine dx_getR (r := 15) (pc := 57) hx dX7_draw_57 f_X7_12 rfl rfl ?_
    refine dx_iload_n (pc := 60) hx dX7_draw_60 rfl ?_
    refine dx_bipush (pc := 61) hx dX7_draw_61 kb_6 ?_
    refine dx_irem (pc := 63) hx dX7_draw_63 (by decide) ?_
    obtain ⟨r64, h64, h⟩ := Option.bind_eq_some_iff.mp h
    refine dx_callViw (pc := 64) (As := [.int ((x1 / (nI 8)) - (x1 / (nI 8)) / (nI 6) * (nI 6))]) (rest := []) hx dX7_draw_64 k_X7_82 rfl rfl rfl rfl (dc_le rfl) (dc_le rfl) (dc_le rfl) (dc_le rfl) rfl (th_X0_sing_15 h64) ?_
    refine dx_pop (pc := 67) hx dX7_draw_67 rfl ?_
    refine dx_goto (pc := 68) hx dX7_draw_68 (tgt := 137) (by decide) ?_
    obtain rfl := Option.some.inj h
    exact dx_vret hO (pc := 137) dX7_draw_137 rfl ⟨rfl, rfl⟩
  replace h := (if_neg c14_1).symm.trans h
  by_cases c14_2 : (x1 - x1 / (nI 8) * (nI 8)) = nI 2
  · replace h := (if_pos c14_2).symm.trans h
    refine dx_tableIn (pc := 14) hx dX7_draw_14 (by rw [c14_2]; decide) (by rw [c14_2]; decide) (off := 42) (by rw [c14_2]; decide) (tgt := 56) (by decide) ?_
    refine dx_aload_n (pc := 56) hx dX7_draw_56 rfl ?_
    refine dx_getR (r := 15) (pc := 57) hx dX7_draw_57 f_X7_12 rfl rfl ?_
    refine dx_iload_n (pc := 60) hx dX7_draw_60 rfl ?_
    refine dx_bipush (pc := 61) hx dX7_draw_61 kb_6 ?_
    refine dx_irem (pc := 63) hx dX7_draw_63 (by decide) ?_
    obtain ⟨r64, h64, h⟩ := Option.bind_eq_some_iff.mp h
    refine dx_callViw (pc := 64) (As := [.int ((x1 / (nI 8)) - (x1 / (nI 8)) / (nI 6) * (nI 6))]) (rest := []) hx dX7_draw_64 k_X7_82 rfl rfl rfl rfl (dc_le rfl) (dc_le rfl) (dc_le rfl) (dc_le rfl) rfl (th_X0_sing_15 h64) ?_
    refine dx_pop (pc := 67) hx dX7_draw_67 rfl ?_
    refine dx_goto (pc := 68) hx dX7_draw_68 (tgt := 137) (by decide) ?_
    obtain rfl := Option.some.inj h
    exact dx_vret hO (pc := 137) dX7_draw_137 rfl ⟨rfl, rfl⟩
  replace h := (if_neg c14_2).symm.trans h
  by_cases c14_3 : (x1 - x1 / (nI 8) * (nI 8)) = nI 3
  · replace h := (if_pos c14_3).symm.trans h
    refine dx_tableIn (pc := 14) hx dX7_draw_14 (by rw [c14_3]; decide) (by rw [c14_3]; decide) (off := 57) (by rw [c14_3]; decide) (tgt := 71) (by decide) ?_
    refine dx_aload_n (pc := 71) hx dX7_draw_71 rfl ?_
    refine dx_getR (r := 15) (pc := 72) hx dX7_draw_72 f_X7_12 rfl rfl ?_
    obtain ⟨r75, h75, h⟩ := Option.bind_eq_some_iff.mp h
    refine dx_callViw (pc := 75) (As := []) (rest := []) hx dX7_draw_75 k_X7_79 rfl rfl rfl rfl (dc_le rfl) (dc_le rfl) (dc_le rfl) (dc_le rfl) rfl (th_X0_endEvening_15 h75) ?_
    refine dx_pop (pc := 78) hx dX7_draw_78 rfl ?_
    refine dx_goto (pc := 79) hx dX7_draw_79 (tgt := 137) (by decide) ?_
    obtain rfl := Option.some.inj h
    exact dx_vret hO (pc := 137) dX7_draw_137 rfl ⟨rfl, rfl⟩
  replace h := (if_neg c14_3).symm.trans h
  by_cases c14_4 : (x1 - x1 / (nI 8) * (nI 8)) = nI 4
  · replace h := (if_pos c14_4).symm.trans h
    refine dx_tableIn (pc := 14) hx dX7_draw_14 (by rw [c14_4]; decide) (by rw [c14_4]; decide) (off := 68) (by rw [c14_4]; decide) (tgt := 82) (by decide) ?_
    refine dx_aload_n (pc := 82) hx dX7_draw_82 rfl ?_
    refine dx_getR (r := 15) (pc := 83) hx dX7_draw_83 f_X7_12 rfl rfl ?_
    refine dx_iload_n (pc := 86) hx dX7_draw_86 rfl ?_
    refine dx_bipush (pc := 87) hx dX7_draw_87 kb_8 ?_
    refine dx_irem (pc := 89) hx dX7_draw_89 (by decide) ?_
    refine dx_bipush (pc := 90) hx dX7_draw_90 kb_10 ?_
    refine dx_iconst (pc := 92) hx dX7_draw_92 kc_1 ?_
    refine dx_iload_n (pc := 93) hx dX7_draw_93 rfl ?_
    refine dx_bipush (pc := 94) hx dX7_draw_94 kb_9 ?_
    refine dx_irem (pc := 96) hx dX7_draw_96 (by decide) ?_
    refine dx_iadd (pc := 97) hx dX7_draw_97 ?_
    refine dx_imul (pc := 98) hx dX7_draw_98 ?_
    obtain ⟨r99, h99, h⟩ := Option.bind_eq_some_iff.mp h
    refine dx_callViw (pc := 99) (As := [.int ((x1 / (nI 8)) - (x1 / (nI 8)) / (nI 8) * (nI 8)), .int ((nI 10) * ((nI 1) + ((x1 / (nI 64)) - (x1 / (nI 64)) / (nI 9) * (nI 9))))]) (rest := []) hx dX7_draw_99 k_X7_85 rfl rfl rfl rfl (dc_le rfl) (dc_le rfl) (dc_le rfl) (dc_le rfl) rfl (th_X0_borrow_15 h99) ?_
    refine dx_pop (pc := 102) hx dX7_draw_102 rfl ?_
    refine dx_goto (pc := 103) hx dX7_draw_103 (tgt := 137) (by decide) ?_
    obtain rfl := Option.some.inj h
    exact dx_vret hO (pc := 137) dX7_draw_137 rfl ⟨rfl, rfl⟩
  replace h := (if_neg c14_4).symm.trans h
  by_cases c14_5 : (x1 - x1 / (nI 8) * (nI 8)) = nI 5
  · replace h := (if_pos c14_5).symm.trans h
    refine dx_tableIn (pc := 14) hx dX7_draw_14 (by rw [c14_5]; decide) (by rw [c14_5]; decide) (off := 68) (by rw [c14_5]; decide) (tgt := 82) (by decide) ?_
    refine dx_aload_n (pc := 82) hx dX7_draw_82 rfl ?_
    refine dx_getR (r := 15) (pc := 83) hx dX7_draw_83 f_X7_12 rfl rfl ?_
    refine dx_iload_n (pc := 86) hx dX7_draw_86 rfl ?_
    refine dx_bipush (pc := 87) hx dX7_draw_87 kb_8 ?_
    refine dx_irem (pc := 89) hx dX7_draw_89 (by decide) ?_
    refine dx_bipush (pc := 90) hx dX7_draw_90 kb_10 ?_
    refine dx_iconst (pc := 92) hx dX7_draw_92 kc_1 ?_
    refine dx_iload_n (pc := 93) hx dX7_draw_93 rfl ?_
    refine dx_bipush (pc := 94) hx dX7_draw_94 kb_9 ?_
    refine dx_irem (pc := 96) hx dX7_draw_96 (by decide) ?_
    refine dx_iadd (pc := 97) hx dX7_draw_97 ?_
    refine dx_imul (pc := 98) hx dX7_draw_98 ?_
    obtain ⟨r99, h99, h⟩ := Option.bind_eq_some_iff.mp h
    refine dx_callViw (pc := 99) (As := [.int ((x1 / (nI 8)) - (x1 / (nI 8)) / (nI 8) * (nI 8)), .int ((nI 10) * ((nI 1) + ((x1 / (nI 64)) - (x1 / (nI 64)) / (nI 9) * (nI 9))))]) (rest := []) hx dX7_draw_99 k_X7_85 rfl rfl rfl rfl (dc_le rfl) (dc_le rfl) (dc_le rfl) (dc_le rfl) rfl (th_X0_borrow_15 h99) ?_
    refine dx_pop (pc := 102) hx dX7_draw_102 rfl ?_
    refine dx_goto (pc := 103) hx dX7_draw_103 (tgt := 137) (by decide) ?_
    obtain rfl := Option.some.inj h
    exact dx_vret hO (pc := 137) dX7_draw_137 rfl ⟨rfl, rfl⟩
  replace h := (if_neg c14_5).symm.trans h
  by_cases c14_6 : (x1 - x1 / (nI 8) * (nI 8)) = nI 6
  · replace h := (if_pos c14_6).symm.trans h
    refine dx_tableIn (pc := 14) hx dX7_draw_14 (by rw [c14_6]; decide) (by rw [c14_6]; decide) (off := 92) (by rw [c14_6]; decide) (tgt := 106) (by decide) ?_
    refine dx_aload_n (pc := 106) hx dX7_draw_106 rfl ?_
    refine dx_getR (r := 15) (pc := 107) hx dX7_draw_107 f_X7_12 rfl rfl ?_
    refine dx_iload_n (pc := 110) hx dX7_draw_110 rfl ?_
    refine dx_bipush (pc := 111) hx dX7_draw_111 kb_8 ?_
    refine dx_irem (pc := 113) hx dX7_draw_113 (by decide) ?_
    obtain ⟨r114, h114, h⟩ := Option.bind_eq_some_iff.mp h
    refine dx_callViw (pc := 114) (As := [.int ((x1 / (nI 8)) - (x1 / (nI 8)) / (nI 8) * (nI 8))]) (rest := []) hx dX7_draw_114 k_X7_88 rfl rfl rfl rfl (dc_le rfl) (dc_le rfl) (dc_le rfl) (dc_le rfl) rfl (th_X0_turnHoarse_15 h114) ?_
    refine dx_pop (pc := 117) hx dX7_draw_117 rfl ?_
    refine dx_goto (pc := 118) hx dX7_draw_118 (tgt := 137) (by decide) ?_
    obtain rfl := Option.some.inj h
    exact dx_vret hO (pc := 137) dX7_draw_137 rfl ⟨rfl, rfl⟩
  replace h := (if_neg c14_6).symm.trans h
  refine dx_tableOut (pc := 14) hx dX7_draw_14 (by have z0 := dc_swn (k := 0) (by decide) c14_0; have z1 := dc_swn (k := 1) (by decide) c14_1; have z2 := dc_swn (k := 2) (by decide) c14_2; have z3 := dc_swn (k := 3) (by decide) c14_3; have z4 := dc_swn (k := 4) (by decide) c14_4; have z5 := dc_swn (k := 5) (by decide) c14_5; have z6 := dc_swn (k := 6) (by decide) c14_6; omega) (tgt := 121) (by decide) ?_
  refine dx_aload_n (pc := 121) hx dX7_draw_121 rfl ?_
  refine dx_getR (r := 15) (pc := 122) hx dX7_draw_122 f_X7_12 rfl rfl ?_
  refine dx_iload_n (pc := 125) hx dX7_draw_125 rfl ?_
  refine dx_bipush (pc := 126) hx dX7_draw_126 kb_8 ?_
  refine dx_irem (pc := 128) hx dX7_draw_128 (by decide) ?_
  refine dx_iload_n (pc := 129) hx dX7_draw_129 rfl ?_
  refine dx_bipush (pc := 130) hx dX7_draw_130 kb_8 ?_
  refine dx_irem (pc := 132) hx dX7_draw_132 (by decide) ?_
  obtain ⟨r133, h133, h⟩ := Option.bind_eq_some_iff.mp h
  refine dx_callViw (pc := 133) (As := [.int ((x1 / (nI 8)) - (x1 / (nI 8)) / (nI 8) * (nI 8)), .int ((x1 / (nI 64)) - (x1 / (nI 64)) / (nI 8) * (nI 8))]) (rest := []) hx dX7_draw_133 k_X7_91 rfl rfl rfl rfl (dc_le rfl) (dc_le rfl) (dc_le rfl) (dc_le rfl) rfl (th_X0_takeOver_15 h133) ?_
  refine dx_pop (pc := 136) hx dX7_draw_136 rfl ?_
  obtain rfl := Option.some.inj h
  exact dx_vret hO (pc := 137) dX7_draw_137 rfl ⟨rfl, rfl⟩
set_option maxHeartbeats 4000000 in
set_option maxRecDepth 100000 in
theorem th_X0_copyFrom_1_44 {σ : dc_HP} {r : dc_HP} (h : fn_X0_copyFrom σ 44 1 = some r) : dc_G mX0_copyFrom [.ref 44, .ref 1] σ (dc_qv (fun τ => τ = r)) := by
  intro κ hO
  have hx : dc_Cx κ RX0 cX0_copyFrom 2 1 48 := hO.1
  show dc_X κ 0 [some (.ref 44), some (.ref 1)] [] σ
  unfold fn_X0_copyFrom at h
  refine dx_aload_n (pc := 0) hx dX0_copyFrom_0 rfl ?_
  refine dx_aload_n (pc := 1) hx dX0_copyFrom_1 rfl ?_
  refine dx_getI (pc := 2) hx dX0_copyFrom_2 f_X0_27 rfl rfl ?_
  refine dx_putI (pc := 5) hx dX0_copyFrom_5 f_X0_27 rfl rfl tyX0_ok rfl (Or.inl ⟨rfl, rfl⟩) ?_
  refine dx_nm (fun s5 e5 => ?_)
  replace h := dc_lt e5 h
  refine dx_aload_n (pc := 8) hx dX0_copyFrom_8 rfl ?_
  refine dx_aload_n (pc := 9) hx dX0_copyFrom_9 rfl ?_
  refine dx_getI (pc := 10) hx dX0_copyFrom_10 f_X0_31 rfl rfl ?_
  refine dx_putI (pc := 13) hx dX0_copyFrom_13 f_X0_31 rfl rfl tyX0_ok rfl (Or.inl ⟨rfl, rfl⟩) ?_
  refine dx_nm (fun s13 e13 => ?_)
  replace h := dc_lt e13 h
  refine dx_aload_n (pc := 16) hx dX0_copyFrom_16 rfl ?_
  refine dx_aload_n (pc := 17) hx dX0_copyFrom_17 rfl ?_
  refine dx_getI (pc := 18) hx dX0_copyFrom_18 f_X0_34 rfl rfl ?_
  refine dx_putI (pc := 21) hx dX0_copyFrom_21 f_X0_34 rfl rfl tyX0_ok rfl (Or.inl ⟨rfl, rfl⟩) ?_
  refine dx_nm (fun s21 e21 => ?_)
  replace h := dc_lt e21 h
  refine dx_aload_n (pc := 24) hx dX0_copyFrom_24 rfl ?_
  refine dx_aload_n (pc := 25) hx dX0_copyFrom_25 rfl ?_
  refine dx_getI (pc := 26) hx dX0_copyFrom_26 f_X0_37 rfl rfl ?_
  refine dx_putI (pc := 29) hx dX0_copyFrom_29 f_X0_37 rfl rfl tyX0_ok rfl (Or.inl ⟨rfl, rfl⟩) ?_
  refine dx_nm (fun s29 e29 => ?_)
  replace h := dc_lt e29 h
  refine dx_aload_n (pc := 32) hx dX0_copyFrom_32 rfl ?_
  refine dx_iconst (pc := 33) hx dX0_copyFrom_33 kc_0 ?_
  refine dx_putI (pc := 34) hx dX0_copyFrom_34 f_X0_40 rfl rfl tyX0_ok rfl (Or.inl ⟨rfl, rfl⟩) ?_
  refine dx_nm (fun s34 e34 => ?_)
  replace h := dc_lt e34 h
  refine dx_aload_n (pc := 37) hx dX0_copyFrom_37 rfl ?_
  refine dx_getR (r := 2) (pc := 38) hx dX0_copyFrom_38 f_X0_9 rfl rfl ?_
  refine dx_iconst (pc := 41) hx dX0_copyFrom_41 kc_0 ?_
  refine dx_aload_n (pc := 42) hx dX0_copyFrom_42 rfl ?_
  refine dx_getR (r := 45) (pc := 43) hx dX0_copyFrom_43 f_X0_9 rfl rfl ?_
  refine dx_iconst (pc := 46) hx dX0_copyFrom_46 kc_0 ?_
  refine dx_bipush (pc := 47) hx dX0_copyFrom_47 kb_8 ?_
  refine dx_copy (pc := 49) hx dX0_copyFrom_49 k_X0_43 rfl rfl (v := nI 8) (n := 8) (by decide) (by decide) (dc_le rfl) (dc_le rfl) (dc_le rfl) (dc_le rfl) ?_
  refine dx_nm (fun s49 e49 => ?_)
  replace h := dc_lt e49 h
  refine dx_aload_n (pc := 52) hx dX0_copyFrom_52 rfl ?_
  refine dx_getR (r := 3) (pc := 53) hx dX0_copyFrom_53 f_X0_15 rfl rfl ?_
  refine dx_iconst (pc := 56) hx dX0_copyFrom_56 kc_0 ?_
  refine dx_aload_n (pc := 57) hx dX0_copyFrom_57 rfl ?_
  refine dx_getR (r := 46) (pc := 58) hx dX0_copyFrom_58 f_X0_15 rfl rfl ?_
  refine dx_iconst (pc := 61) hx dX0_copyFrom_61 kc_0 ?_
  refine dx_bipush (pc := 62) hx dX0_copyFrom_62 kb_8 ?_
  refine dx_copy (pc := 64) hx dX0_copyFrom_64 k_X0_43 rfl rfl (v := nI 8) (n := 8) (by decide) (by decide) (dc_le rfl) (dc_le rfl) (dc_le rfl) (dc_le rfl) ?_
  refine dx_nm (fun s64 e64 => ?_)
  replace h := dc_lt e64 h
  refine dx_aload_n (pc := 67) hx dX0_copyFrom_67 rfl ?_
  refine dx_getR (r := 4) (pc := 68) hx dX0_copyFrom_68 f_X0_18 rfl rfl ?_
  refine dx_iconst (pc := 71) hx dX0_copyFrom_71 kc_0 ?_
  refine dx_aload_n (pc := 72) hx dX0_copyFrom_72 rfl ?_
  refine dx_getR (r := 47) (pc := 73) hx dX0_copyFrom_73 f_X0_18 rfl rfl ?_
  refine dx_iconst (pc := 76) hx dX0_copyFrom_76 kc_0 ?_
  refine dx_bipush (pc := 77) hx dX0_copyFrom_77 kb_24 ?_
  refine dx_copy (pc := 79) hx dX0_copyFrom_79 k_X0_43 rfl rfl (v := nI 24) (n := 24) (by decide) (by decide) (dc_le rfl) (dc_le rfl) (dc_le rfl) (dc_le rfl) ?_
  refine dx_nm (fun s79 e79 => ?_)
  replace h := dc_lt e79 h
  refine dx_aload_n (pc := 82) hx dX0_copyFrom_82 rfl ?_
  refine dx_getR (r := 5) (pc := 83) hx dX0_copyFrom_83 f_X0_21 rfl rfl ?_
  refine dx_iconst (pc := 86) hx dX0_copyFrom_86 kc_0 ?_
  refine dx_aload_n (pc := 87) hx dX0_copyFrom_87 rfl ?_
  refine dx_getR (r := 48) (pc := 88) hx dX0_copyFrom_88 f_X0_21 rfl rfl ?_
  refine dx_iconst (pc := 91) hx dX0_copyFrom_91 kc_0 ?_
  refine dx_bipush (pc := 92) hx dX0_copyFrom_92 kb_6 ?_
  refine dx_copy (pc := 94) hx dX0_copyFrom_94 k_X0_43 rfl rfl (v := nI 6) (n := 6) (by decide) (by decide) (dc_le rfl) (dc_le rfl) (dc_le rfl) (dc_le rfl) ?_
  refine dx_nm (fun s94 e94 => ?_)
  replace h := dc_lt e94 h
  refine dx_aload_n (pc := 97) hx dX0_copyFrom_97 rfl ?_
  refine dx_getR (r := 6) (pc := 98) hx dX0_copyFrom_98 f_X0_24 rfl rfl ?_
  refine dx_iconst (pc := 101) hx dX0_copyFrom_101 kc_0 ?_
  refine dx_aload_n (pc := 102) hx dX0_copyFrom_102 rfl ?_
  refine dx_getR (r := 49) (pc := 103) hx dX0_copyFrom_103 f_X0_24 rfl rfl ?_
  refine dx_iconst (pc := 106) hx dX0_copyFrom_106 kc_0 ?_
  refine dx_bipush (pc := 107) hx dX0_copyFrom_107 kb_6 ?_
  refine dx_copy (pc := 109) hx dX0_copyFrom_109 k_X0_43 rfl rfl (v := nI 6) (n := 6) (by decide) (by decide) (dc_le rfl) (dc_le rfl) (dc_le rfl) (dc_le rfl) ?_
  obtain rfl := Option.some.inj h
  exact dx_vret hO (pc := 112) dX0_copyFrom_112 rfl ⟨rfl, rfl⟩
set_option maxHeartbeats 4000000 in
set_option maxRecDepth 100000 in
theorem th_X6_copyFrom_7_50 {σ : dc_HP} {r : dc_HP} (h : fn_X6_copyFrom σ 50 7 = some r) : dc_G mX6_copyFrom [.ref 50, .ref 7] σ (dc_qv (fun τ => τ = r)) := by
  intro κ hO
  have hx : dc_Cx κ RX6 cX6_copyFrom 2 1 48 := hO.1
  show dc_X κ 0 [some (.ref 50), some (.ref 7)] [] σ
  unfold fn_X6_copyFrom at h
  refine dx_aload_n (pc := 0) hx dX6_copyFrom_0 rfl ?_
  refine dx_aload_n (pc := 1) hx dX6_copyFrom_1 rfl ?_
  refine dx_getI (pc := 2) hx dX6_copyFrom_2 f_X6_24 rfl rfl ?_
  refine dx_putI (pc := 5) hx dX6_copyFrom_5 f_X6_24 rfl rfl tyX6_ok rfl (Or.inl ⟨rfl, rfl⟩) ?_
  refine dx_nm (fun s5 e5 => ?_)
  replace h := dc_lt e5 h
  refine dx_aload_n (pc := 8) hx dX6_copyFrom_8 rfl ?_
  refine dx_getR (r := 8) (pc := 9) hx dX6_copyFrom_9 f_X6_11 rfl rfl ?_
  refine dx_iconst (pc := 12) hx dX6_copyFrom_12 kc_0 ?_
  refine dx_aload_n (pc := 13) hx dX6_copyFrom_13 rfl ?_
  refine dx_getR (r := 51) (pc := 14) hx dX6_copyFrom_14 f_X6_11 rfl rfl ?_
  refine dx_iconst (pc := 17) hx dX6_copyFrom_17 kc_0 ?_
  refine dx_bipush (pc := 18) hx dX6_copyFrom_18 kb_8 ?_
  refine dx_copy (pc := 20) hx dX6_copyFrom_20 k_X6_28 rfl rfl (v := nI 8) (n := 8) (by decide) (by decide) (dc_le rfl) (dc_le rfl) (dc_le rfl) (dc_le rfl) ?_
  refine dx_nm (fun s20 e20 => ?_)
  replace h := dc_lt e20 h
  refine dx_aload_n (pc := 23) hx dX6_copyFrom_23 rfl ?_
  refine dx_getR (r := 9) (pc := 24) hx dX6_copyFrom_24 f_X6_15 rfl rfl ?_
  refine dx_iconst (pc := 27) hx dX6_copyFrom_27 kc_0 ?_
  refine dx_aload_n (pc := 28) hx dX6_copyFrom_28 rfl ?_
  refine dx_getR (r := 52) (pc := 29) hx dX6_copyFrom_29 f_X6_15 rfl rfl ?_
  refine dx_iconst (pc := 32) hx dX6_copyFrom_32 kc_0 ?_
  refine dx_bipush (pc := 33) hx dX6_copyFrom_33 kb_8 ?_
  refine dx_copy (pc := 35) hx dX6_copyFrom_35 k_X6_28 rfl rfl (v := nI 8) (n := 8) (by decide) (by decide) (dc_le rfl) (dc_le rfl) (dc_le rfl) (dc_le rfl) ?_
  obtain rfl := Option.some.inj h
  exact dx_vret hO (pc := 38) dX6_copyFrom_38 rfl ⟨rfl, rfl⟩
set_option maxHeartbeats 4000000 in
set_option maxRecDepth 100000 in
theorem th_X0_copyFrom_1_32 {σ : dc_HP} {r : dc_HP} (h : fn_X0_copyFrom σ 32 1 = some r) : dc_G mX0_copyFrom [.ref 32, .ref 1] σ (dc_qv (fun τ => τ = r)) := by
  intro κ hO
  have hx : dc_Cx κ RX0 cX0_copyFrom 2 1 48 := hO.1
  show dc_X κ 0 [some (.ref 32), some (.ref 1)] [] σ
  unfold fn_X0_copyFrom at h
  refine dx_aload_n (pc := 0) hx dX0_copyFrom_0 rfl ?_
  refine dx_aload_n (pc := 1) hx dX0_copyFrom_1 rfl ?_
  refine dx_getI (pc := 2) hx dX0_copyFrom_2 f_X0_27 rfl rfl ?_
  refine dx_putI (pc := 5) hx dX0_copyFrom_5 f_X0_27 rfl rfl tyX0_ok rfl (Or.inl ⟨rfl, rfl⟩) ?_
  refine dx_nm (fun s5 e5 => ?_)
  replace h := dc_lt e5 h
  refine dx_aload_n (pc := 8) hx dX0_copyFrom_8 rfl ?_
  refine dx_aload_n (pc := 9) hx dX0_copyFrom_9 rfl ?_
  refine dx_getI (pc := 10) hx dX0_copyFrom_10 f_X0_31 rfl rfl ?_
  refine dx_putI (pc := 13) hx dX0_copyFrom_13 f_X0_31 rfl rfl tyX0_ok rfl (Or.inl ⟨rfl, rfl⟩) ?_
  refine dx_nm (fun s13 e13 => ?_)
  replace h := dc_lt e13 h
  refine dx_aload_n (pc := 16) hx dX0_copyFrom_16 rfl ?_
  refine dx_aload_n (pc := 17) hx dX0_copyFrom_17 rfl ?_
  refine dx_getI (pc := 18) hx dX0_copyFrom_18 f_X0_34 rfl rfl ?_
  refine dx_putI (pc := 21) hx dX0_copyFrom_21 f_X0_34 rfl rfl tyX0_ok rfl (Or.inl ⟨rfl, rfl⟩) ?_
  refine dx_nm (fun s21 e21 => ?_)
  replace h := dc_lt e21 h
  refine dx_aload_n (pc := 24) hx dX0_copyFrom_24 rfl ?_
  refine dx_aload_n (pc := 25) hx dX0_copyFrom_25 rfl ?_
  refine dx_getI (pc := 26) hx dX0_copyFrom_26 f_X0_37 rfl rfl ?_
  refine dx_putI (pc := 29) hx dX0_copyFrom_29 f_X0_37 rfl rfl tyX0_ok rfl (Or.inl ⟨rfl, rfl⟩) ?_
  refine dx_nm (fun s29 e29 => ?_)
  replace h := dc_lt e29 h
  refine dx_aload_n (pc := 32) hx dX0_copyFrom_32 rfl ?_
  refine dx_iconst (pc := 33) hx dX0_copyFrom_33 kc_0 ?_
  refine dx_putI (pc := 34) hx dX0_copyFrom_34 f_X0_40 rfl rfl tyX0_ok rfl (Or.inl ⟨rfl, rfl⟩) ?_
  refine dx_nm (fun s34 e34 => ?_)
  replace h := dc_lt e34 h
  refine dx_aload_n (pc := 37) hx dX0_copyFrom_37 rfl ?_
  refine dx_getR (r := 2) (pc := 38) hx dX0_copyFrom_38 f_X0_9 rfl rfl ?_
  refine dx_iconst (pc := 41) hx dX0_copyFrom_41 kc_0 ?_
  refine dx_aload_n (pc := 42) hx dX0_copyFrom_42 rfl ?_
  refine dx_getR (r := 33) (pc := 43) hx dX0_copyFrom_43 f_X0_9 rfl rfl ?_
  refine dx_iconst (pc := 46) hx dX0_copyFrom_46 kc_0 ?_
  refine dx_bipush (pc := 47) hx dX0_copyFrom_47 kb_8 ?_
  refine dx_copy (pc := 49) hx dX0_copyFrom_49 k_X0_43 rfl rfl (v := nI 8) (n := 8) (by decide) (by decide) (dc_le rfl) (dc_le rfl) (dc_le rfl) (dc_le rfl) ?_
  refine dx_nm (fun s49 e49 => ?_)
  replace h := dc_lt e49 h
  refine dx_aload_n (pc := 52) hx dX0_copyFrom_52 rfl ?_
  refine dx_getR (r := 3) (pc := 53) hx dX0_copyFrom_53 f_X0_15 rfl rfl ?_
  refine dx_iconst (pc := 56) hx dX0_copyFrom_56 kc_0 ?_
  refine dx_aload_n (pc := 57) hx dX0_copyFrom_57 rfl ?_
  refine dx_getR (r := 34) (pc := 58) hx dX0_copyFrom_58 f_X0_15 rfl rfl ?_
  refine dx_iconst (pc := 61) hx dX0_copyFrom_61 kc_0 ?_
  refine dx_bipush (pc := 62) hx dX0_copyFrom_62 kb_8 ?_
  refine dx_copy (pc := 64) hx dX0_copyFrom_64 k_X0_43 rfl rfl (v := nI 8) (n := 8) (by decide) (by decide) (dc_le rfl) (dc_le rfl) (dc_le rfl) (dc_le rfl) ?_
  refine dx_nm (fun s64 e64 => ?_)
  replace h := dc_lt e64 h
  refine dx_aload_n (pc := 67) hx dX0_copyFrom_67 rfl ?_
  refine dx_getR (r := 4) (pc := 68) hx dX0_copyFrom_68 f_X0_18 rfl rfl ?_
  refine dx_iconst (pc := 71) hx dX0_copyFrom_71 kc_0 ?_
  refine dx_aload_n (pc := 72) hx dX0_copyFrom_72 rfl ?_
  refine dx_getR (r := 35) (pc := 73) hx dX0_copyFrom_73 f_X0_18 rfl rfl ?_
  refine dx_iconst (pc := 76) hx dX0_copyFrom_76 kc_0 ?_
  refine dx_bipush (pc := 77) hx dX0_copyFrom_77 kb_24 ?_
  refine dx_copy (pc := 79) hx dX0_copyFrom_79 k_X0_43 rfl rfl (v := nI 24) (n := 24) (by decide) (by decide) (dc_le rfl) (dc_le rfl) (dc_le rfl) (dc_le rfl) ?_
  refine dx_nm (fun s79 e79 => ?_)
  replace h := dc_lt e79 h
  refine dx_aload_n (pc := 82) hx dX0_copyFrom_82 rfl ?_
  refine dx_getR (r := 5) (pc := 83) hx dX0_copyFrom_83 f_X0_21 rfl rfl ?_
  refine dx_iconst (pc := 86) hx dX0_copyFrom_86 kc_0 ?_
  refine dx_aload_n (pc := 87) hx dX0_copyFrom_87 rfl ?_
  refine dx_getR (r := 36) (pc := 88) hx dX0_copyFrom_88 f_X0_21 rfl rfl ?_
  refine dx_iconst (pc := 91) hx dX0_copyFrom_91 kc_0 ?_
  refine dx_bipush (pc := 92) hx dX0_copyFrom_92 kb_6 ?_
  refine dx_copy (pc := 94) hx dX0_copyFrom_94 k_X0_43 rfl rfl (v := nI 6) (n := 6) (by decide) (by decide) (dc_le rfl) (dc_le rfl) (dc_le rfl) (dc_le rfl) ?_
  refine dx_nm (fun s94 e94 => ?_)
  replace h := dc_lt e94 h
  refine dx_aload_n (pc := 97) hx dX0_copyFrom_97 rfl ?_
  refine dx_getR (r := 6) (pc := 98) hx dX0_copyFrom_98 f_X0_24 rfl rfl ?_
  refine dx_iconst (pc := 101) hx dX0_copyFrom_101 kc_0 ?_
  refine dx_aload_n (pc := 102) hx dX0_copyFrom_102 rfl ?_
  refine dx_getR (r := 37) (pc := 103) hx dX0_copyFrom_103 f_X0_24 rfl rfl ?_
  refine dx_iconst (pc := 106) hx dX0_copyFrom_106 kc_0 ?_
  refine dx_bipush (pc := 107) hx dX0_copyFrom_107 kb_6 ?_
  refine dx_copy (pc := 109) hx dX0_copyFrom_109 k_X0_43 rfl rfl (v := nI 6) (n := 6) (by decide) (by decide) (dc_le rfl) (dc_le rfl) (dc_le rfl) (dc_le rfl) ?_
  obtain rfl := Option.some.inj h
  exact dx_vret hO (pc := 112) dX0_copyFrom_112 rfl ⟨rfl, rfl⟩
set_option maxHeartbeats 4000000 in
set_option maxRecDepth 100000 in
theorem th_X6_copyFrom_7_38 {σ : dc_HP} {r : dc_HP} (h : fn_X6_copyFrom σ 38 7 = some r) : dc_G mX6_copyFrom [.ref 38, .ref 7] σ (dc_qv (fun τ => τ = r)) := by
  intro κ hO
  have hx : dc_Cx κ RX6 cX6_copyFrom 2 1 48 := hO.1
  show dc_X κ 0 [some (.ref 38), some (.ref 7)] [] σ
  unfold fn_X6_copyFrom at h
  refine dx_aload_n (pc := 0) hx dX6_copyFrom_0 rfl ?_
  refine dx_aload_n (pc := 1) hx dX6_copyFrom_1 rfl ?_
  refine dx_getI (pc := 2) hx dX6_copyFrom_2 f_X6_24 rfl rfl ?_
  refine dx_putI (pc := 5) hx dX6_copyFrom_5 f_X6_24 rfl rfl tyX6_ok rfl (Or.inl ⟨rfl, rfl⟩) ?_
  refine dx_nm (fun s5 e5 => ?_)
  replace h := dc_lt e5 h
  refine dx_aload_n (pc := 8) hx dX6_copyFrom_8 rfl ?_
  refine dx_getR (r := 8) (pc := 9) hx dX6_copyFrom_9 f_X6_11 rfl rfl ?_
  refine dx_iconst (pc := 12) hx dX6_copyFrom_12 kc_0 ?_
  refine dx_aload_n (pc := 13) hx dX6_copyFrom_13 rfl ?_
  refine dx_getR (r := 39) (pc := 14) hx dX6_copyFrom_14 f_X6_11 rfl rfl ?_
  refine dx_iconst (pc := 17) hx dX6_copyFrom_17 kc_0 ?_
  refine dx_bipush (pc := 18) hx dX6_copyFrom_18 kb_8 ?_
  refine dx_copy (pc := 20) hx dX6_copyFrom_20 k_X6_28 rfl rfl (v := nI 8) (n := 8) (by decide) (by decide) (dc_le rfl) (dc_le rfl) (dc_le rfl) (dc_le rfl) ?_
  refine dx_nm (fun s20 e20 => ?_)
  replace h := dc_lt e20 h
  refine dx_aload_n (pc := 23) hx dX6_copyFrom_23 rfl ?_
  refine dx_getR (r := 9) (pc := 24) hx dX6_copyFrom_24 f_X6_15 rfl rfl ?_
  refine dx_iconst (pc := 27) hx dX6_copyFrom_27 kc_0 ?_
  refine dx_aload_n (pc := 28) hx dX6_copyFrom_28 rfl ?_
  refine dx_getR (r := 40) (pc := 29) hx dX6_copyFrom_29 f_X6_15 rfl rfl ?_
  refine dx_iconst (pc := 32) hx dX6_copyFrom_32 kc_0 ?_
  refine dx_bipush (pc := 33) hx dX6_copyFrom_33 kb_8 ?_
  refine dx_copy (pc := 35) hx dX6_copyFrom_35 k_X6_28 rfl rfl (v := nI 8) (n := 8) (by decide) (by decide) (dc_le rfl) (dc_le rfl) (dc_le rfl) (dc_le rfl) ?_
  obtain rfl := Option.some.inj h
  exact dx_vret hO (pc := 38) dX6_copyFrom_38 rfl ⟨rfl, rfl⟩
set_option maxHeartbeats 4000000 in
set_option maxRecDepth 100000 in
theorem th_X0_copyFrom_44_1 {σ : dc_HP} {r : dc_HP} (h : fn_X0_copyFrom σ 1 44 = some r) : dc_G mX0_copyFrom [.ref 1, .ref 44] σ (dc_qv (fun τ => τ = r)) := by
  intro κ hO
  have hx : dc_Cx κ RX0 cX0_copyFrom 2 1 48 := hO.1
  show dc_X κ 0 [some (.ref 1), some (.ref 44)] [] σ
  unfold fn_X0_copyFrom at h
  refine dx_aload_n (pc := 0) hx dX0_copyFrom_0 rfl ?_
  refine dx_aload_n (pc := 1) hx dX0_copyFrom_1 rfl ?_
  refine dx_getI (pc := 2) hx dX0_copyFrom_2 f_X0_27 rfl rfl ?_
  refine dx_putI (pc := 5) hx dX0_copyFrom_5 f_X0_27 rfl rfl tyX0_ok rfl (Or.inl ⟨rfl, rfl⟩) ?_
  refine dx_nm (fun s5 e5 => ?_)
  replace h := dc_lt e5 h
  refine dx_aload_n (pc := 8) hx dX0_copyFrom_8 rfl ?_
  refine dx_aload_n (pc := 9) hx dX0_copyFrom_9 rfl ?_
  refine dx_getI (pc := 10) hx dX0_copyFrom_10 f_X0_31 rfl rfl ?_
  refine dx_putI (pc := 13) hx dX0_copyFrom_13 f_X0_31 rfl rfl tyX0_ok rfl (Or.inl ⟨rfl, rfl⟩) ?_
  refine dx_nm (fun s13 e13 => ?_)
  replace h := dc_lt e13 h
  refine dx_aload_n (pc := 16) hx dX0_copyFrom_16 rfl ?_
  refine dx_aload_n (pc := 17) hx dX0_copyFrom_17 rfl ?_
  refine dx_getI (pc := 18) hx dX0_copyFrom_18 f_X0_34 rfl rfl ?_
  refine dx_putI (pc := 21) hx dX0_copyFrom_21 f_X0_34 rfl rfl tyX0_ok rfl (Or.inl ⟨rfl, rfl⟩) ?_
  refine dx_nm (fun s21 e21 => ?_)
  replace h := dc_lt e21 h
  refine dx_aload_n (pc := 24) hx dX0_copyFrom_24 rfl ?_
  refine dx_aload_n (pc := 25) hx dX0_copyFrom_25 rfl ?_
  refine dx_getI (pc := 26) hx dX0_copyFrom_26 f_X0_37 rfl rfl ?_
  refine dx_putI (pc := 29) hx dX0_copyFrom_29 f_X0_37 rfl rfl tyX0_ok rfl (Or.inl ⟨rfl, rfl⟩) ?_
  refine dx_nm (fun s29 e29 => ?_)
  replace h := dc_lt e29 h
  refine dx_aload_n (pc := 32) hx dX0_copyFrom_32 rfl ?_
  refine dx_iconst (pc := 33) hx dX0_copyFrom_33 kc_0 ?_
  refine dx_putI (pc := 34) hx dX0_copyFrom_34 f_X0_40 rfl rfl tyX0_ok rfl (Or.inl ⟨rfl, rfl⟩) ?_
  refine dx_nm (fun s34 e34 => ?_)
  replace h := dc_lt e34 h
  refine dx_aload_n (pc := 37) hx dX0_copyFrom_37 rfl ?_
  refine dx_getR (r := 45) (pc := 38) hx dX0_copyFrom_38 f_X0_9 rfl rfl ?_
  refine dx_iconst (pc := 41) hx dX0_copyFrom_41 kc_0 ?_
  refine dx_aload_n (pc := 42) hx dX0_copyFrom_42 rfl ?_
  refine dx_getR (r := 2) (pc := 43) hx dX0_copyFrom_43 f_X0_9 rfl rfl ?_
  refine dx_iconst (pc := 46) hx dX0_copyFrom_46 kc_0 ?_
  refine dx_bipush (pc := 47) hx dX0_copyFrom_47 kb_8 ?_
  refine dx_copy (pc := 49) hx dX0_copyFrom_49 k_X0_43 rfl rfl (v := nI 8) (n := 8) (by decide) (by decide) (dc_le rfl) (dc_le rfl) (dc_le rfl) (dc_le rfl) ?_
  refine dx_nm (fun s49 e49 => ?_)
  replace h := dc_lt e49 h
  refine dx_aload_n (pc := 52) hx dX0_copyFrom_52 rfl ?_
  refine dx_getR (r := 46) (pc := 53) hx dX0_copyFrom_53 f_X0_15 rfl rfl ?_
  refine dx_iconst (pc := 56) hx dX0_copyFrom_56 kc_0 ?_
  refine dx_aload_n (pc := 57) hx dX0_copyFrom_57 rfl ?_
  refine dx_getR (r := 3) (pc := 58) hx dX0_copyFrom_58 f_X0_15 rfl rfl ?_
  refine dx_iconst (pc := 61) hx dX0_copyFrom_61 kc_0 ?_
  refine dx_bipush (pc := 62) hx dX0_copyFrom_62 kb_8 ?_
  refine dx_copy (pc := 64) hx dX0_copyFrom_64 k_X0_43 rfl rfl (v := nI 8) (n := 8) (by decide) (by decide) (dc_le rfl) (dc_le rfl) (dc_le rfl) (dc_le rfl) ?_
  refine dx_nm (fun s64 e64 => ?_)
  replace h := dc_lt e64 h
  refine dx_aload_n (pc := 67) hx dX0_copyFrom_67 rfl ?_
  refine dx_getR (r := 47) (pc := 68) hx dX0_copyFrom_68 f_X0_18 rfl rfl ?_
  refine dx_iconst (pc := 71) hx dX0_copyFrom_71 kc_0 ?_
  refine dx_aload_n (pc := 72) hx dX0_copyFrom_72 rfl ?_
  refine dx_getR (r := 4) (pc := 73) hx dX0_copyFrom_73 f_X0_18 rfl rfl ?_
  refine dx_iconst (pc := 76) hx dX0_copyFrom_76 kc_0 ?_
  refine dx_bipush (pc := 77) hx dX0_copyFrom_77 kb_24 ?_
  refine dx_copy (pc := 79) hx dX0_copyFrom_79 k_X0_43 rfl rfl (v := nI 24) (n := 24) (by decide) (by decide) (dc_le rfl) (dc_le rfl) (dc_le rfl) (dc_le rfl) ?_
  refine dx_nm (fun s79 e79 => ?_)
  replace h := dc_lt e79 h
  refine dx_aload_n (pc := 82) hx dX0_copyFrom_82 rfl ?_
  refine dx_getR (r := 48) (pc := 83) hx dX0_copyFrom_83 f_X0_21 rfl rfl ?_
  refine dx_iconst (pc := 86) hx dX0_copyFrom_86 kc_0 ?_
  refine dx_aload_n (pc := 87) hx dX0_copyFrom_87 rfl ?_
  refine dx_getR (r := 5) (pc := 88) hx dX0_copyFrom_88 f_X0_21 rfl rfl ?_
  refine dx_iconst (pc := 91) hx dX0_copyFrom_91 kc_0 ?_
  refine dx_bipush (pc := 92) hx dX0_copyFrom_92 kb_6 ?_
  refine dx_copy (pc := 94) hx dX0_copyFrom_94 k_X0_43 rfl rfl (v := nI 6) (n := 6) (by decide) (by decide) (dc_le rfl) (dc_le rfl) (dc_le rfl) (dc_le rfl) ?_
  refine dx_nm (fun s94 e94 => ?_)
  replace h := dc_lt e94 h
  refine dx_aload_n (pc := 97) hx dX0_copyFrom_97 rfl ?_
  refine dx_getR (r := 49) (pc := 98) hx dX0_copyFrom_98 f_X0_24 rfl rfl ?_
  refine dx_iconst (pc := 101) hx dX0_copyFrom_101 kc_0 ?_
  refine dx_aload_n (pc := 102) hx dX0_copyFrom_102 rfl ?_
  refine dx_getR (r := 6) (pc := 103) hx dX0_copyFrom_103 f_X0_24 rfl rfl ?_
  refine dx_iconst (pc := 106) hx dX0_copyFrom_106 kc_0 ?_
  refine dx_bipush (pc := 107) hx dX0_copyFrom_107 kb_6 ?_
  refine dx_copy (pc := 109) hx dX0_copyFrom_109 k_X0_43 rfl rfl (v := nI 6) (n := 6) (by decide) (by decide) (dc_le rfl) (dc_le rfl) (dc_le rfl) (dc_le rfl) ?_
  obtain rfl := Option.some.inj h
  exact dx_vret hO (pc := 112) dX0_copyFrom_112 rfl ⟨rfl, rfl⟩
set_option maxHeartbeats 4000000 in
set_option maxRecDepth 100000 in
theorem th_X6_copyFrom_50_7 {σ : dc_HP} {r : dc_HP} (h : fn_X6_copyFrom σ 7 50 = some r) : dc_G mX6_copyFrom [.ref 7, .ref 50] σ (dc_qv (fun τ => τ = r)) := by
  intro κ hO
  have hx : dc_Cx κ RX6 cX6_copyFrom 2 1 48 := hO.1
  show dc_X κ 0 [some (.ref 7), some (.ref 50)] [] σ
  unfold fn_X6_copyFrom at h
  refine dx_aload_n (pc := 0) hx dX6_copyFrom_0 rfl ?_
  refine dx_aload_n (pc := 1) hx dX6_copyFrom_1 rfl ?_
  refine dx_getI (pc := 2) hx dX6_copyFrom_2 f_X6_24 rfl rfl ?_
  refine dx_putI (pc := 5) hx dX6_copyFrom_5 f_X6_24 rfl rfl tyX6_ok rfl (Or.inl ⟨rfl, rfl⟩) ?_
  refine dx_nm (fun s5 e5 => ?_)
  replace h := dc_lt e5 h
  refine dx_aload_n (pc := 8) hx dX6_copyFrom_8 rfl ?_
  refine dx_getR (r := 51) (pc := 9) hx dX6_copyFrom_9 f_X6_11 rfl rfl ?_
  refine dx_iconst (pc := 12) hx dX6_copyFrom_12 kc_0 ?_
  refine dx_aload_n (pc := 13) hx dX6_copyFrom_13 rfl ?_
  refine dx_getR (r := 8) (pc := 14) hx dX6_copyFrom_14 f_X6_11 rfl rfl ?_
  refine dx_iconst (pc := 17) hx dX6_copyFrom_17 kc_0 ?_
  refine dx_bipush (pc := 18) hx dX6_copyFrom_18 kb_8 ?_
  refine dx_copy (pc := 20) hx dX6_copyFrom_20 k_X6_28 rfl rfl (v := nI 8) (n := 8) (by decide) (by decide) (dc_le rfl) (dc_le rfl) (dc_le rfl) (dc_le rfl) ?_
  refine dx_nm (fun s20 e20 => ?_)
  replace h := dc_lt e20 h
  refine dx_aload_n (pc := 23) hx dX6_copyFrom_23 rfl ?_
  refine dx_getR (r := 52) (pc := 24) hx dX6_copyFrom_24 f_X6_15 rfl rfl ?_
  refine dx_iconst (pc := 27) hx dX6_copyFrom_27 kc_0 ?_
  refine dx_aload_n (pc := 28) hx dX6_copyFrom_28 rfl ?_
  refine dx_getR (r := 9) (pc := 29) hx dX6_copyFrom_29 f_X6_15 rfl rfl ?_
  refine dx_iconst (pc := 32) hx dX6_copyFrom_32 kc_0 ?_
  refine dx_bipush (pc := 33) hx dX6_copyFrom_33 kb_8 ?_
  refine dx_copy (pc := 35) hx dX6_copyFrom_35 k_X6_28 rfl rfl (v := nI 8) (n := 8) (by decide) (by decide) (dc_le rfl) (dc_le rfl) (dc_le rfl) (dc_le rfl) ?_
  obtain rfl := Option.some.inj h
  exact dx_vret hO (pc := 38) dX6_copyFrom_38 rfl ⟨rfl, rfl⟩
set_option maxHeartbeats 4000000 in
set_option maxRecDepth 100000 in
theorem th_X0_copyFrom_32_1 {σ : dc_HP} {r : dc_HP} (h : fn_X0_copyFrom σ 1 32 = some r) : dc_G mX0_copyFrom [.ref 1, .ref 32] σ (dc_qv (fun τ => τ = r)) := by
  intro κ hO
  have hx : dc_Cx κ RX0 cX0_copyFrom 2 1 48 := hO.1
  show dc_X κ 0 [some (.ref 1), some (.ref 32)] [] σ
  unfold fn_X0_copyFrom at h
  refine dx_aload_n (pc := 0) hx dX0_copyFrom_0 rfl ?_
  refine dx_aload_n (pc := 1) hx dX0_copyFrom_1 rfl ?_
  refine dx_getI (pc := 2) hx dX0_copyFrom_2 f_X0_27 rfl rfl ?_
  refine dx_putI (pc := 5) hx dX0_copyFrom_5 f_X0_27 rfl rfl tyX0_ok rfl (Or.inl ⟨rfl, rfl⟩) ?_
  refine dx_nm (fun s5 e5 => ?_)
  replace h := dc_lt e5 h
  refine dx_aload_n (pc := 8) hx dX0_copyFrom_8 rfl ?_
  refine dx_aload_n (pc := 9) hx dX0_copyFrom_9 rfl ?_
  refine dx_getI (pc := 10) hx dX0_copyFrom_10 f_X0_31 rfl rfl ?_
  refine dx_putI (pc := 13) hx dX0_copyFrom_13 f_X0_31 rfl rfl tyX0_ok rfl (Or.inl ⟨rfl, rfl⟩) ?_
  refine dx_nm (fun s13 e13 => ?_)
  replace h := dc_lt e13 h
  refine dx_aload_n (pc := 16) hx dX0_copyFrom_16 rfl ?_
  refine dx_aload_n (pc := 17) hx dX0_copyFrom_17 rfl ?_
  refine dx_getI (pc := 18) hx dX0_copyFrom_18 f_X0_34 rfl rfl ?_
  refine dx_putI (pc := 21) hx dX0_copyFrom_21 f_X0_34 rfl rfl tyX0_ok rfl (Or.inl ⟨rfl, rfl⟩) ?_
  refine dx_nm (fun s21 e21 => ?_)
  replace h := dc_lt e21 h
  refine dx_aload_n (pc := 24) hx dX0_copyFrom_24 rfl ?_
  refine dx_aload_n (pc := 25) hx dX0_copyFrom_25 rfl ?_
  refine dx_getI (pc := 26) hx dX0_copyFrom_26 f_X0_37 rfl rfl ?_
  refine dx_putI (pc := 29) hx dX0_copyFrom_29 f_X0_37 rfl rfl tyX0_ok rfl (Or.inl ⟨rfl, rfl⟩) ?_
  refine dx_nm (fun s29 e29 => ?_)
  replace h := dc_lt e29 h
  refine dx_aload_n (pc := 32) hx dX0_copyFrom_32 rfl ?_
  refine dx_iconst (pc := 33) hx dX0_copyFrom_33 kc_0 ?_
  refine dx_putI (pc := 34) hx dX0_copyFrom_34 f_X0_40 rfl rfl tyX0_ok rfl (Or.inl ⟨rfl, rfl⟩) ?_
  refine dx_nm (fun s34 e34 => ?_)
  replace h := dc_lt e34 h
  refine dx_aload_n (pc := 37) hx dX0_copyFrom_37 rfl ?_
  refine dx_getR (r := 33) (pc := 38) hx dX0_copyFrom_38 f_X0_9 rfl rfl ?_
  refine dx_iconst (pc := 41) hx dX0_copyFrom_41 kc_0 ?_
  refine dx_aload_n (pc := 42) hx dX0_copyFrom_42 rfl ?_
  refine dx_getR (r := 2) (pc := 43) hx dX0_copyFrom_43 f_X0_9 rfl rfl ?_
  refine dx_iconst (pc := 46) hx dX0_copyFrom_46 kc_0 ?_
  refine dx_bipush (pc := 47) hx dX0_copyFrom_47 kb_8 ?_
  refine dx_copy (pc := 49) hx dX0_copyFrom_49 k_X0_43 rfl rfl (v := nI 8) (n := 8) (by decide) (by decide) (dc_le rfl) (dc_le rfl) (dc_le rfl) (dc_le rfl) ?_
  refine dx_nm (fun s49 e49 => ?_)
  replace h := dc_lt e49 h
  refine dx_aload_n (pc := 52) hx dX0_copyFrom_52 rfl ?_
  refine dx_getR (r := 34) (pc := 53) hx dX0_copyFrom_53 f_X0_15 rfl rfl ?_
  refine dx_iconst (pc := 56) hx dX0_copyFrom_56 kc_0 ?_
  refine dx_aload_n (pc := 57) hx dX0_copyFrom_57 rfl ?_
  refine dx_getR (r := 3) (pc := 58) hx dX0_copyFrom_58 f_X0_15 rfl rfl ?_
  refine dx_iconst (pc := 61) hx dX0_copyFrom_61 kc_0 ?_
  refine dx_bipush (pc := 62) hx dX0_copyFrom_62 kb_8 ?_
  refine dx_copy (pc := 64) hx dX0_copyFrom_64 k_X0_43 rfl rfl (v := nI 8) (n := 8) (by decide) (by decide) (dc_le rfl) (dc_le rfl) (dc_le rfl) (dc_le rfl) ?_
  refine dx_nm (fun s64 e64 => ?_)
  replace h := dc_lt e64 h
  refine dx_aload_n (pc := 67) hx dX0_copyFrom_67 rfl ?_
  refine dx_getR (r := 35) (pc := 68) hx dX0_copyFrom_68 f_X0_18 rfl rfl ?_
  refine dx_iconst (pc := 71) hx dX0_copyFrom_71 kc_0 ?_
  refine dx_aload_n (pc := 72) hx dX0_copyFrom_72 rfl ?_
  refine dx_getR (r := 4) (pc := 73) hx dX0_copyFrom_73 f_X0_18 rfl rfl ?_
  refine dx_iconst (pc := 76) hx dX0_copyFrom_76 kc_0 ?_
  refine dx_bipush (pc := 77) hx dX0_copyFrom_77 kb_24 ?_
  refine dx_copy (pc := 79) hx dX0_copyFrom_79 k_X0_43 rfl rfl (v := nI 24) (n := 24) (by decide) (by decide) (dc_le rfl) (dc_le rfl) (dc_le rfl) (dc_le rfl) ?_
  refine dx_nm (fun s79 e79 => ?_)
  replace h := dc_lt e79 h
  refine dx_aload_n (pc := 82) hx dX0_copyFrom_82 rfl ?_
  refine dx_getR (r := 36) (pc := 83) hx dX0_copyFrom_83 f_X0_21 rfl rfl ?_
  refine dx_iconst (pc := 86) hx dX0_copyFrom_86 kc_0 ?_
  refine dx_aload_n (pc := 87) hx dX0_copyFrom_87 rfl ?_
  refine dx_getR (r := 5) (pc := 88) hx dX0_copyFrom_88 f_X0_21 rfl rfl ?_
  refine dx_iconst (pc := 91) hx dX0_copyFrom_91 kc_0 ?_
  refine dx_bipush (pc := 92) hx dX0_copyFrom_92 kb_6 ?_
  refine dx_copy (pc := 94) hx dX0_copyFrom_94 k_X0_43 rfl rfl (v := nI 6) (n := 6) (by decide) (by decide) (dc_le rfl) (dc_le rfl) (dc_le rfl) (dc_le rfl) ?_
  refine dx_nm (fun s94 e94 => ?_)
  replace h := dc_lt e94 h
  refine dx_aload_n (pc := 97) hx dX0_copyFrom_97 rfl ?_
  refine dx_getR (r := 37) (pc := 98) hx dX0_copyFrom_98 f_X0_24 rfl rfl ?_
  refine dx_iconst (pc := 101) hx dX0_copyFrom_101 kc_0 ?_
  refine dx_aload_n (pc := 102) hx dX0_copyFrom_102 rfl ?_
  refine dx_getR (r := 6) (pc := 103) hx dX0_copyFrom_103 f_X0_24 rfl rfl ?_
  refine dx_iconst (pc := 106) hx dX0_copyFrom_106 kc_0 ?_
  refine dx_bipush (pc := 107) hx dX0_copyFrom_107 kb_6 ?_
  refine dx_copy (pc := 109) hx dX0_copyFrom_109 k_X0_43 rfl rfl (v := nI 6) (n := 6) (by decide) (by decide) (dc_le rfl) (dc_le rfl) (dc_le rfl) (dc_le rfl) ?_
  obtain rfl := Option.some.inj h
  exact dx_vret hO (pc := 112) dX0_copyFrom_112 rfl ⟨rfl, rfl⟩
set_option maxHeartbeats 4000000 in
set_option maxRecDepth 100000 in
theorem th_X6_copyFrom_38_7 {σ : dc_HP} {r : dc_HP} (h : fn_X6_copyFrom σ 7 38 = some r) : dc_G mX6_copyFrom [.ref 7, .ref 38] σ (dc_qv (fun τ => τ = r)) := by
  intro κ hO
  have hx : dc_Cx κ RX6 cX6_copyFrom 2 1 48 := hO.1
  show dc_X κ 0 [some (.ref 7), some (.ref 38)] [] σ
  unfold fn_X6_copyFrom at h
  refine dx_aload_n (pc := 0) hx dX6_copyFrom_0 rfl ?_
  refine dx_aload_n (pc := 1) hx dX6_copyFrom_1 rfl ?_
  refine dx_getI (pc := 2) hx dX6_copyFrom_2 f_X6_24 rfl rfl ?_
  refine dx_putI (pc := 5) hx dX6_copyFrom_5 f_X6_24 rfl rfl tyX6_ok rfl (Or.inl ⟨rfl, rfl⟩) ?_
  refine dx_nm (fun s5 e5 => ?_)
  replace h := dc_lt e5 h
  refine dx_aload_n (pc := 8) hx dX6_copyFrom_8 rfl ?_
  refine dx_getR (r := 39) (pc := 9) hx dX6_copyFrom_9 f_X6_11 rfl rfl ?_
  refine dx_iconst (pc := 12) hx dX6_copyFrom_12 kc_0 ?_
  refine dx_aload_n (pc := 13) hx dX6_copyFrom_13 rfl ?_
  refine dx_getR (r := 8) (pc := 14) hx dX6_copyFrom_14 f_X6_11 rfl rfl ?_
  refine dx_iconst (pc := 17) hx dX6_copyFrom_17 kc_0 ?_
  refine dx_bipush (pc := 18) hx dX6_copyFrom_18 kb_8 ?_
  refine dx_copy (pc := 20) hx dX6_copyFrom_20 k_X6_28 rfl rfl (v := nI 8) (n := 8) (by decide) (by decide) (dc_le rfl) (dc_le rfl) (dc_le rfl) (dc_le rfl) ?_
  refine dx_nm (fun s20 e20 => ?_)
  replace h := dc_lt e20 h
  refine dx_aload_n (pc := 23) hx dX6_copyFrom_23 rfl ?_
  refine dx_getR (r := 40) (pc := 24) hx dX6_copyFrom_24 f_X6_15 rfl rfl ?_
  refine dx_iconst (pc := 27) hx dX6_copyFrom_27 kc_0 ?_
  refine dx_aload_n (pc := 28) hx dX6_copyFrom_28 rfl ?_
  refine dx_getR (r := 9) (pc := 29) hx dX6_copyFrom_29 f_X6_15 rfl rfl ?_
  refine dx_iconst (pc := 32) hx dX6_copyFrom_32 kc_0 ?_
  refine dx_bipush (pc := 33) hx dX6_copyFrom_33 kb_8 ?_
  refine dx_copy (pc := 35) hx dX6_copyFrom_35 k_X6_28 rfl rfl (v := nI 8) (n := 8) (by decide) (by decide) (dc_le rfl) (dc_le rfl) (dc_le rfl) (dc_le rfl) ?_
  obtain rfl := Option.some.inj h
  exact dx_vret hO (pc := 38) dX6_copyFrom_38 rfl ⟨rfl, rfl⟩
