set_option maxHeartbeats 4000000 in
set_option maxRecDepth 100000 in
theorem ct_Picture_ofScan (l : Launch) (dC : Nat → ClassId) (dI : Nat → Nat → Nat) (cI cB cJ cZ : ClassId) (a : Nat → Nat) (n : Nat) (x1 : Int32) (x2 : Int32) (t : St) {z : Int32 × St} (h : m_Picture_ofScan n x1 x2 t = some z) : jMi l y_Picture_ofScan w_Picture_ofScan ({ frames := 3, cells := 0, slots := 0, locals := 69 }) (dC, dI) vwCl (tyA cI cB cJ cZ) [.ref (a 3), .int x1, .int x2] (wO cI cB cJ cZ a t) z.1 (fun _ : Unit => wO cI cB cJ cZ a z.2) := by
  refine jMi.of (cc := c_Picture_ofScan) (maxL := 7) (ret := (some .int)) (by decide) rfl (Nat.le_of_ble_eq_true rfl) ?_
  intro p e s m args below meth c A X hr hlk hnm
  refine J_lv [0, 1, 2] [(0, .ref (a 3)), (1, .int x1), (2, .int x2)] rfl ?_
  unfold m_Picture_ofScan at h
  refine J_iload_n X d_Picture_ofScan_0 1 rfl rfl ?_
  refine J_if_lt X 12 d_Picture_ofScan_1 (by decide) (fun c1 => ?_) (fun c1 => ?_)
  · rw [if_pos c1] at h
    refine J_iconst (v := (-1 : Int32)) X d_Picture_ofScan_12 (by decide) ?_
    exact J_iret X hr hlk () (Nat.le_of_ble_eq_true rfl) (Nat.le_of_ble_eq_true rfl) (j_r1 h) (congrArg (fun q => wO cI cB cJ cZ a q) (j_r2 h)) d_Picture_ofScan_13
  · rw [if_neg c1] at h
    refine J_iload_n X d_Picture_ofScan_4 1 rfl rfl ?_
    refine J_aload_n X d_Picture_ofScan_5 0 rfl rfl ?_
    obtain ⟨z6, hz6, h⟩ := j_bind h
    refine J_callVi0 (n := 0) (wc := (wO cI cB cJ cZ a t)) (r := z6.1) (w1 := fun _ : Unit => wO cI cB cJ cZ a z6.2) X isO (hCO cI cB cJ cZ a t) (hDO cI cB cJ cZ a t) rfl [] [.int x1] (ct_Picture_scanCount l dC dI cI cB cJ cZ a n t hz6) (aw_V (fun w h => mm h) k_ml_Picture_93 k_im_Picture_scanCount k_se_Picture_scanCount k_in_Picture k_cd_Picture_scanCount) rfl (by decide +kernel) ⟨(Nat.le_of_ble_eq_true rfl), (Nat.le_of_ble_eq_true rfl)⟩ (q0 := 3) rfl rfl rfl rfl (Nat.le_of_ble_eq_true rfl) d_Picture_ofScan_6 ⟨(Nat.le_of_ble_eq_true rfl), (Nat.le_of_ble_eq_true rfl)⟩ (fun _ => ?_)
    refine J_icmp_lt X 14 d_Picture_ofScan_9 (by decide) (fun c9 => ?_) (fun c9 => ?_)
    · rw [if_pos c9] at h
      refine J_iload_n X d_Picture_ofScan_14 1 rfl rfl ?_
      refine J_iconst (v := (5 : Int32)) X d_Picture_ofScan_15 (by decide) ?_
      refine J_imul X d_Picture_ofScan_16 ?_
      refine J_istore_n X [(3, .int (x1 * (5 : Int32))), (0, .ref (a 3)), (1, .int x1), (2, .int x2)] d_Picture_ofScan_17 rfl (by decide) rfl ?_
      refine J_aload_n X d_Picture_ofScan_18 1 rfl rfl ?_
      refine J_get (v := .ref (a 6)) X (fun w h => mm (in_Picture w h)) 3 rfl rfl 2 (by decide) (mm k_fl_Picture_18) rfl rfl d_Picture_ofScan_19 ?_
      refine J_iload_n X d_Picture_ofScan_22 0 rfl rfl ?_
      obtain ⟨z23, hz23, h⟩ := j_bind h
      refine J_callVi0 (n := 1) (wc := (wO cI cB cJ cZ a z6.2)) (r := z23.1) (w1 := fun _ : Unit => wO cI cB cJ cZ a z23.2) X isO (hCO cI cB cJ cZ a z6.2) (hDO cI cB cJ cZ a z6.2) rfl [.int (x1 * (5 : Int32))] [] (ct_Numbers_at_6 l dC dI cI cB cJ cZ a n (x1 * (5 : Int32)) z6.2 hz23) (aw_V (fun w h => mm h) k_ml_Picture_74 k_im_Numbers_at k_se_Numbers_at k_in_Numbers k_cd_Numbers_at) rfl (by decide +kernel) ⟨(Nat.le_of_ble_eq_true rfl), (Nat.le_of_ble_eq_true rfl)⟩ (q0 := 6) rfl rfl rfl rfl (Nat.le_of_ble_eq_true rfl) d_Picture_ofScan_23 ⟨(Nat.le_of_ble_eq_true rfl), (Nat.le_of_ble_eq_true rfl)⟩ (fun _ => ?_)
      refine J_istore X [(4, .int z23.1), (3, .int (x1 * (5 : Int32))), (0, .ref (a 3)), (1, .int x1), (2, .int x2)] d_Picture_ofScan_26 (by decide) rfl ?_
      refine J_aload_n X d_Picture_ofScan_28 2 rfl rfl ?_
      refine J_get (v := .ref (a 1)) X (fun w h => mm (in_Picture w h)) 3 rfl rfl 0 (by decide) (mm k_fl_Picture_31) rfl rfl d_Picture_ofScan_29 ?_
      refine J_iload X d_Picture_ofScan_32 0 rfl ?_
      obtain ⟨z34, hz34, h⟩ := j_bind h
      refine J_callVi0 (n := 1) (wc := (wO cI cB cJ cZ a z23.2)) (r := z34.1) (w1 := fun _ : Unit => wO cI cB cJ cZ a z34.2) X isO (hCO cI cB cJ cZ a z23.2) (hDO cI cB cJ cZ a z23.2) rfl [.int z23.1] [] (ct_Bytes_at l dC dI cI cB cJ cZ a n z23.1 z23.2 hz34) (aw_V (fun w h => mm h) k_ml_Picture_78 k_im_Bytes_at k_se_Bytes_at k_in_Bytes k_cd_Bytes_at) rfl (by decide +kernel) ⟨(Nat.le_of_ble_eq_true rfl), (Nat.le_of_ble_eq_true rfl)⟩ (q0 := 1) rfl rfl rfl rfl (Nat.le_of_ble_eq_true rfl) d_Picture_ofScan_34 ⟨(Nat.le_of_ble_eq_true rfl), (Nat.le_of_ble_eq_true rfl)⟩ (fun _ => ?_)
      refine J_istore X [(5, .int z34.1), (4, .int z23.1), (3, .int (x1 * (5 : Int32))), (0, .ref (a 3)), (1, .int x1), (2, .int x2)] d_Picture_ofScan_37 (by decide) rfl ?_
      refine J_iload X d_Picture_ofScan_39 1 rfl ?_
      refine J_iconst (v := (1 : Int32)) X d_Picture_ofScan_41 (by decide) ?_
      refine J_iadd X d_Picture_ofScan_42 ?_
      refine J_iconst (v := (2 : Int32)) X d_Picture_ofScan_43 (by decide) ?_
      refine J_iload X d_Picture_ofScan_44 0 rfl ?_
      refine J_imul X d_Picture_ofScan_46 ?_
      refine J_iadd X d_Picture_ofScan_47 ?_
      refine J_istore X [(6, .int ((z23.1 + (1 : Int32)) + ((2 : Int32) * z34.1))), (5, .int z34.1), (4, .int z23.1), (3, .int (x1 * (5 : Int32))), (0, .ref (a 3)), (1, .int x1), (2, .int x2)] d_Picture_ofScan_48 (by decide) rfl ?_
      refine J_iload_n X d_Picture_ofScan_50 6 rfl rfl ?_
      by_cases c51_0 : x2 = (0 : Int32)
      · rw [if_pos c51_0] at h
        refine J_tableIn X 100 d_Picture_ofScan_51 (by rw [c51_0]; decide) (by rw [c51_0]; decide) (by rw [c51_0] <;> rfl) (by decide) ?_
        refine J_iload X d_Picture_ofScan_100 1 rfl ?_
        exact J_iret X hr hlk () (Nat.le_of_ble_eq_true rfl) (Nat.le_of_ble_eq_true rfl) (j_r1 h) (congrArg (fun q => wO cI cB cJ cZ a q) (j_r2 h)) d_Picture_ofScan_102
      rw [if_neg c51_0] at h
      by_cases c51_1 : x2 = (1 : Int32)
      · rw [if_pos c51_1] at h
        refine J_tableIn X 103 d_Picture_ofScan_51 (by rw [c51_1]; decide) (by rw [c51_1]; decide) (by rw [c51_1] <;> rfl) (by decide) ?_
        refine J_aload_n X d_Picture_ofScan_103 4 rfl rfl ?_
        refine J_get (v := .ref (a 1)) X (fun w h => mm (in_Picture w h)) 3 rfl rfl 0 (by decide) (mm k_fl_Picture_31) rfl rfl d_Picture_ofScan_104 ?_
        refine J_iload X d_Picture_ofScan_107 0 rfl ?_
        obtain ⟨z109, hz109, h⟩ := j_bind h
        refine J_callVi0 (n := 1) (wc := (wO cI cB cJ cZ a z34.2)) (r := z109.1) (w1 := fun _ : Unit => wO cI cB cJ cZ a z109.2) X isO (hCO cI cB cJ cZ a z34.2) (hDO cI cB cJ cZ a z34.2) rfl [.int ((z23.1 + (1 : Int32)) + ((2 : Int32) * z34.1))] [] (ct_Bytes_at l dC dI cI cB cJ cZ a n ((z23.1 + (1 : Int32)) + ((2 : Int32) * z34.1)) z34.2 hz109) (aw_V (fun w h => mm h) k_ml_Picture_78 k_im_Bytes_at k_se_Bytes_at k_in_Bytes k_cd_Bytes_at) rfl (by decide +kernel) ⟨(Nat.le_of_ble_eq_true rfl), (Nat.le_of_ble_eq_true rfl)⟩ (q0 := 1) rfl rfl rfl rfl (Nat.le_of_ble_eq_true rfl) d_Picture_ofScan_109 ⟨(Nat.le_of_ble_eq_true rfl), (Nat.le_of_ble_eq_true rfl)⟩ (fun _ => ?_)
        exact J_iret X hr hlk () (Nat.le_of_ble_eq_true rfl) (Nat.le_of_ble_eq_true rfl) (j_r1 h) (congrArg (fun q => wO cI cB cJ cZ a q) (j_r2 h)) d_Picture_ofScan_112
      rw [if_neg c51_1] at h
      by_cases c51_2 : x2 = (2 : Int32)
      · rw [if_pos c51_2] at h
        refine J_tableIn X 113 d_Picture_ofScan_51 (by rw [c51_2]; decide) (by rw [c51_2]; decide) (by rw [c51_2] <;> rfl) (by decide) ?_
        refine J_aload_n X d_Picture_ofScan_113 4 rfl rfl ?_
        refine J_get (v := .ref (a 1)) X (fun w h => mm (in_Picture w h)) 3 rfl rfl 0 (by decide) (mm k_fl_Picture_31) rfl rfl d_Picture_ofScan_114 ?_
        refine J_iload X d_Picture_ofScan_117 0 rfl ?_
        refine J_iconst (v := (1 : Int32)) X d_Picture_ofScan_119 (by decide) ?_
        refine J_iadd X d_Picture_ofScan_120 ?_
        obtain ⟨z121, hz121, h⟩ := j_bind h
        refine J_callVi0 (n := 1) (wc := (wO cI cB cJ cZ a z34.2)) (r := z121.1) (w1 := fun _ : Unit => wO cI cB cJ cZ a z121.2) X isO (hCO cI cB cJ cZ a z34.2) (hDO cI cB cJ cZ a z34.2) rfl [.int (((z23.1 + (1 : Int32)) + ((2 : Int32) * z34.1)) + (1 : Int32))] [] (ct_Bytes_at l dC dI cI cB cJ cZ a n (((z23.1 + (1 : Int32)) + ((2 : Int32) * z34.1)) + (1 : Int32)) z34.2 hz121) (aw_V (fun w h => mm h) k_ml_Picture_78 k_im_Bytes_at k_se_Bytes_at k_in_Bytes k_cd_Bytes_at) rfl (by decide +kernel) ⟨(Nat.le_of_ble_eq_true rfl), (Nat.le_of_ble_eq_true rfl)⟩ (q0 := 1) rfl rfl rfl rfl (Nat.le_of_ble_eq_true rfl) d_Picture_ofScan_121 ⟨(Nat.le_of_ble_eq_true rfl), (Nat.le_of_ble_eq_true rfl)⟩ (fun _ => ?_)
        exact J_iret X hr hlk () (Nat.le_of_ble_eq_true rfl) (Nat.le_of_ble_eq_true rfl) (j_r1 h) (congrArg (fun q => wO cI cB cJ cZ a q) (j_r2 h)) d_Picture_ofScan_124
      rw [if_neg c51_2] at h
      by_cases c51_3 : x2 = (3 : Int32)
      · rw [if_pos c51_3] at h
        refine J_tableIn X 125 d_Picture_ofScan_51 (by rw [c51_3]; decide) (by rw [c51_3]; decide) (by rw [c51_3] <;> rfl) (by decide) ?_
        refine J_aload_n X d_Picture_ofScan_125 4 rfl rfl ?_
        refine J_get (v := .ref (a 1)) X (fun w h => mm (in_Picture w h)) 3 rfl rfl 0 (by decide) (mm k_fl_Picture_31) rfl rfl d_Picture_ofScan_126 ?_
        refine J_iload X d_Picture_ofScan_129 0 rfl ?_
        refine J_iconst (v := (2 : Int32)) X d_Picture_ofScan_131 (by decide) ?_
        refine J_iadd X d_Picture_ofScan_132 ?_
        obtain ⟨z133, hz133, h⟩ := j_bind h
        refine J_callVi0 (n := 1) (wc := (wO cI cB cJ cZ a z34.2)) (r := z133.1) (w1 := fun _ : Unit => wO cI cB cJ cZ a z133.2) X isO (hCO cI cB cJ cZ a z34.2) (hDO cI cB cJ cZ a z34.2) rfl [.int (((z23.1 + (1 : Int32)) + ((2 : Int32) * z34.1)) + (2 : Int32))] [] (ct_Bytes_at l dC dI cI cB cJ cZ a n (((z23.1 + (1 : Int32)) + ((2 : Int32) * z34.1)) + (2 : Int32)) z34.2 hz133) (aw_V (fun w h => mm h) k_ml_Picture_78 k_im_Bytes_at k_se_Bytes_at k_in_Bytes k_cd_Bytes_at) rfl (by decide +kernel) ⟨(Nat.le_of_ble_eq_true rfl), (Nat.le_of_ble_eq_true rfl)⟩ (q0 := 1) rfl rfl rfl rfl (Nat.le_of_ble_eq_true rfl) d_Picture_ofScan_133 ⟨(Nat.le_of_ble_eq_true rfl), (Nat.le_of_ble_eq_true rfl)⟩ (fun _ => ?_)
        refine J_iconst (v := (4 : Int32)) X d_Picture_ofScan_136 (by decide) ?_
        refine J_ishr X d_Picture_ofScan_137 ?_
        exact J_iret X hr hlk () (Nat.le_of_ble_eq_true rfl) (Nat.le_of_ble_eq_true rfl) (j_r1 h) (congrArg (fun q => wO cI cB cJ cZ a q) (j_r2 h)) d_Picture_ofScan_138
      rw [if_neg c51_3] at h
      by_cases c51_4 : x2 = (4 : Int32)
      · rw [if_pos c51_4] at h
        refine J_tableIn X 139 d_Picture_ofScan_51 (by rw [c51_4]; decide) (by rw [c51_4]; decide) (by rw [c51_4] <;> rfl) (by decide) ?_
        refine J_aload_n X d_Picture_ofScan_139 4 rfl rfl ?_
        refine J_get (v := .ref (a 1)) X (fun w h => mm (in_Picture w h)) 3 rfl rfl 0 (by decide) (mm k_fl_Picture_31) rfl rfl d_Picture_ofScan_140 ?_
        refine J_iload X d_Picture_ofScan_143 0 rfl ?_
        refine J_iconst (v := (2 : Int32)) X d_Picture_ofScan_145 (by decide) ?_
        refine J_iadd X d_Picture_ofScan_146 ?_
        obtain ⟨z147, hz147, h⟩ := j_bind h
        refine J_callVi0 (n := 1) (wc := (wO cI cB cJ cZ a z34.2)) (r := z147.1) (w1 := fun _ : Unit => wO cI cB cJ cZ a z147.2) X isO (hCO cI cB cJ cZ a z34.2) (hDO cI cB cJ cZ a z34.2) rfl [.int (((z23.1 + (1 : Int32)) + ((2 : Int32) * z34.1)) + (2 : Int32))] [] (ct_Bytes_at l dC dI cI cB cJ cZ a n (((z23.1 + (1 : Int32)) + ((2 : Int32) * z34.1)) + (2 : Int32)) z34.2 hz147) (aw_V (fun w h => mm h) k_ml_Picture_78 k_im_Bytes_at k_se_Bytes_at k_in_Bytes k_cd_Bytes_at) rfl (by decide +kernel) ⟨(Nat.le_of_ble_eq_true rfl), (Nat.le_of_ble_eq_true rfl)⟩ (q0 := 1) rfl rfl rfl rfl (Nat.le_of_ble_eq_true rfl) d_Picture_ofScan_147 ⟨(Nat.le_of_ble_eq_true rfl), (Nat.le_of_ble_eq_true rfl)⟩ (fun _ => ?_)
        refine J_bipush (v := (15 : Int32)) X d_Picture_ofScan_150 (by decide) ?_
        refine J_iand X d_Picture_ofScan_152 ?_
        exact J_iret X hr hlk () (Nat.le_of_ble_eq_true rfl) (Nat.le_of_ble_eq_true rfl) (j_r1 h) (congrArg (fun q => wO cI cB cJ cZ a q) (j_r2 h)) d_Picture_ofScan_153
      rw [if_neg c51_4] at h
      by_cases c51_5 : x2 = (5 : Int32)
      · rw [if_pos c51_5] at h
        refine J_tableIn X 154 d_Picture_ofScan_51 (by rw [c51_5]; decide) (by rw [c51_5]; decide) (by rw [c51_5] <;> rfl) (by decide) ?_
        refine J_aload_n X d_Picture_ofScan_154 4 rfl rfl ?_
        refine J_get (v := .ref (a 6)) X (fun w h => mm (in_Picture w h)) 3 rfl rfl 2 (by decide) (mm k_fl_Picture_18) rfl rfl d_Picture_ofScan_155 ?_
        refine J_iload_n X d_Picture_ofScan_158 3 rfl rfl ?_
        refine J_iconst (v := (1 : Int32)) X d_Picture_ofScan_159 (by decide) ?_
        refine J_iadd X d_Picture_ofScan_160 ?_
        obtain ⟨z161, hz161, h⟩ := j_bind h
        refine J_callVi0 (n := 1) (wc := (wO cI cB cJ cZ a z34.2)) (r := z161.1) (w1 := fun _ : Unit => wO cI cB cJ cZ a z161.2) X isO (hCO cI cB cJ cZ a z34.2) (hDO cI cB cJ cZ a z34.2) rfl [.int ((x1 * (5 : Int32)) + (1 : Int32))] [] (ct_Numbers_at_6 l dC dI cI cB cJ cZ a n ((x1 * (5 : Int32)) + (1 : Int32)) z34.2 hz161) (aw_V (fun w h => mm h) k_ml_Picture_74 k_im_Numbers_at k_se_Numbers_at k_in_Numbers k_cd_Numbers_at) rfl (by decide +kernel) ⟨(Nat.le_of_ble_eq_true rfl), (Nat.le_of_ble_eq_true rfl)⟩ (q0 := 6) rfl rfl rfl rfl (Nat.le_of_ble_eq_true rfl) d_Picture_ofScan_161 ⟨(Nat.le_of_ble_eq_true rfl), (Nat.le_of_ble_eq_true rfl)⟩ (fun _ => ?_)
        exact J_iret X hr hlk () (Nat.le_of_ble_eq_true rfl) (Nat.le_of_ble_eq_true rfl) (j_r1 h) (congrArg (fun q => wO cI cB cJ cZ a q) (j_r2 h)) d_Picture_ofScan_164
      rw [if_neg c51_5] at h
      by_cases c51_6 : x2 = (6 : Int32)
      · rw [if_pos c51_6] at h
        refine J_tableIn X 165 d_Picture_ofScan_51 (by rw [c51_6]; decide) (by rw [c51_6]; decide) (by rw [c51_6] <;> rfl) (by decide) ?_
        refine J_aload_n X d_Picture_ofScan_165 4 rfl rfl ?_
        refine J_get (v := .ref (a 6)) X (fun w h => mm (in_Picture w h)) 3 rfl rfl 2 (by decide) (mm k_fl_Picture_18) rfl rfl d_Picture_ofScan_166 ?_
        refine J_iload_n X d_Picture_ofScan_169 3 rfl rfl ?_
        refine J_iconst (v := (2 : Int32)) X d_Picture_ofScan_170 (by decide) ?_
        refine J_iadd X d_Picture_ofScan_171 ?_
        obtain ⟨z172, hz172, h⟩ := j_bind h
        refine J_callVi0 (n := 1) (wc := (wO cI cB cJ cZ a z34.2)) (r := z172.1) (w1 := fun _ : Unit => wO cI cB cJ cZ a z172.2) X isO (hCO cI cB cJ cZ a z34.2) (hDO cI cB cJ cZ a z34.2) rfl [.int ((x1 * (5 : Int32)) + (2 : Int32))] [] (ct_Numbers_at_6 l dC dI cI cB cJ cZ a n ((x1 * (5 : Int32)) + (2 : Int32)) z34.2 hz172) (aw_V (fun w h => mm h) k_ml_Picture_74 k_im_Numbers_at k_se_Numbers_at k_in_Numbers k_cd_Numbers_at) rfl (by decide +kernel) ⟨(Nat.le_of_ble_eq_true rfl), (Nat.le_of_ble_eq_true rfl)⟩ (q0 := 6) rfl rfl rfl rfl (Nat.le_of_ble_eq_true rfl) d_Picture_ofScan_172 ⟨(Nat.le_of_ble_eq_true rfl), (Nat.le_of_ble_eq_true rfl)⟩ (fun _ => ?_)
        exact J_iret X hr hlk () (Nat.le_of_ble_eq_true rfl) (Nat.le_of_ble_eq_true rfl) (j_r1 h) (congrArg (fun q => wO cI cB cJ cZ a q) (j_r2 h)) d_Picture_ofScan_175
      rw [if_neg c51_6] at h
      by_cases c51_7 : x2 = (7 : Int32)
      · rw [if_pos c51_7] at h
        refine J_tableIn X 176 d_Picture_ofScan_51 (by rw [c51_7]; decide) (by rw [c51_7]; decide) (by rw [c51_7] <;> rfl) (by decide) ?_
        refine J_aload_n X d_Picture_ofScan_176 4 rfl rfl ?_
        refine J_get (v := .ref (a 6)) X (fun w h => mm (in_Picture w h)) 3 rfl rfl 2 (by decide) (mm k_fl_Picture_18) rfl rfl d_Picture_ofScan_177 ?_
        refine J_iload_n X d_Picture_ofScan_180 3 rfl rfl ?_
        refine J_iconst (v := (3 : Int32)) X d_Picture_ofScan_181 (by decide) ?_
        refine J_iadd X d_Picture_ofScan_182 ?_
        obtain ⟨z183, hz183, h⟩ := j_bind h
        refine J_callVi0 (n := 1) (wc := (wO cI cB cJ cZ a z34.2)) (r := z183.1) (w1 := fun _ : Unit => wO cI cB cJ cZ a z183.2) X isO (hCO cI cB cJ cZ a z34.2) (hDO cI cB cJ cZ a z34.2) rfl [.int ((x1 * (5 : Int32)) + (3 : Int32))] [] (ct_Numbers_at_6 l dC dI cI cB cJ cZ a n ((x1 * (5 : Int32)) + (3 : Int32)) z34.2 hz183) (aw_V (fun w h => mm h) k_ml_Picture_74 k_im_Numbers_at k_se_Numbers_at k_in_Numbers k_cd_Numbers_at) rfl (by decide +kernel) ⟨(Nat.le_of_ble_eq_true rfl), (Nat.le_of_ble_eq_true rfl)⟩ (q0 := 6) rfl rfl rfl rfl (Nat.le_of_ble_eq_true rfl) d_Picture_ofScan_183 ⟨(Nat.le_of_ble_eq_true rfl), (Nat.le_of_ble_eq_true rfl)⟩ (fun _ => ?_)
        exact J_iret X hr hlk () (Nat.le_of_ble_eq_true rfl) (Nat.le_of_ble_eq_true rfl) (j_r1 h) (congrArg (fun q => wO cI cB cJ cZ a q) (j_r2 h)) d_Picture_ofScan_186
      rw [if_neg c51_7] at h
      by_cases c51_8 : x2 = (8 : Int32)
      · rw [if_pos c51_8] at h
        refine J_tableIn X 187 d_Picture_ofScan_51 (by rw [c51_8]; decide) (by rw [c51_8]; decide) (by rw [c51_8] <;> rfl) (by decide) ?_
        refine J_aload_n X d_Picture_ofScan_187 4 rfl rfl ?_
        refine J_get (v := .ref (a 6)) X (fun w h => mm (in_Picture w h)) 3 rfl rfl 2 (by decide) (mm k_fl_Picture_18) rfl rfl d_Picture_ofScan_188 ?_
        refine J_iload_n X d_Picture_ofScan_191 3 rfl rfl ?_
        refine J_iconst (v := (4 : Int32)) X d_Picture_ofScan_192 (by decide) ?_
        refine J_iadd X d_Picture_ofScan_193 ?_
        obtain ⟨z194, hz194, h⟩ := j_bind h
        refine J_callVi0 (n := 1) (wc := (wO cI cB cJ cZ a z34.2)) (r := z194.1) (w1 := fun _ : Unit => wO cI cB cJ cZ a z194.2) X isO (hCO cI cB cJ cZ a z34.2) (hDO cI cB cJ cZ a z34.2) rfl [.int ((x1 * (5 : Int32)) + (4 : Int32))] [] (ct_Numbers_at_6 l dC dI cI cB cJ cZ a n ((x1 * (5 : Int32)) + (4 : Int32)) z34.2 hz194) (aw_V (fun w h => mm h) k_ml_Picture_74 k_im_Numbers_at k_se_Numbers_at k_in_Numbers k_cd_Numbers_at) rfl (by decide +kernel) ⟨(Nat.le_of_ble_eq_true rfl), (Nat.le_of_ble_eq_true rfl)⟩ (q0 := 6) rfl rfl rfl rfl (Nat.le_of_ble_eq_true rfl) d_Picture_ofScan_194 ⟨(Nat.le_of_ble_eq_true rfl), (Nat.le_of_ble_eq_true rfl)⟩ (fun _ => ?_)
        exact J_iret X hr hlk () (Nat.le_of_ble_eq_true rfl) (Nat.le_of_ble_eq_true rfl) (j_r1 h) (congrArg (fun q => wO cI cB cJ cZ a q) (j_r2 h)) d_Picture_ofScan_197
      rw [if_neg c51_8] at h
      refine J_tableOut X 198 d_Picture_ofScan_51 (by have g0 := lv_neT (a := 0) c51_0 rfl; have g1 := lv_neT (a := 1) c51_1 rfl; have g2 := lv_neT (a := 2) c51_2 rfl; have g3 := lv_neT (a := 3) c51_3 rfl; have g4 := lv_neT (a := 4) c51_4 rfl; have g5 := lv_neT (a := 5) c51_5 rfl; have g6 := lv_neT (a := 6) c51_6 rfl; have g7 := lv_neT (a := 7) c51_7 rfl; have g8 := lv_neT (a := 8) c51_8 rfl; omega) (by decide) ?_
      refine J_iload_n X d_Picture_ofScan_198 6 rfl rfl ?_
      refine J_bipush (v := (16 : Int32)) X d_Picture_ofScan_199 (by decide) ?_
      refine J_icmp_ge X 208 d_Picture_ofScan_201 (by decide) (fun c201 => ?_) (fun c201 => ?_)
      · rw [if_pos c201] at h
        refine J_aload_n X d_Picture_ofScan_208 4 rfl rfl ?_
        refine J_iload X d_Picture_ofScan_209 2 rfl ?_
        refine J_iload X d_Picture_ofScan_211 1 rfl ?_
        refine J_iload_n X d_Picture_ofScan_213 6 rfl rfl ?_
        refine J_bipush (v := (16 : Int32)) X d_Picture_ofScan_214 (by decide) ?_
        refine J_isub X d_Picture_ofScan_216 ?_
        obtain ⟨z217, hz217, h⟩ := j_bind h
        refine J_callVi0 (n := 3) (wc := (wO cI cB cJ cZ a z34.2)) (r := z217.1) (w1 := fun _ : Unit => wO cI cB cJ cZ a z217.2) X isO (hCO cI cB cJ cZ a z34.2) (hDO cI cB cJ cZ a z34.2) rfl [.int z23.1, .int z34.1, .int (x2 - (16 : Int32))] [] (ct_Picture_ofScanComponent l dC dI cI cB cJ cZ a n z23.1 z34.1 (x2 - (16 : Int32)) z34.2 hz217) (aw_V (fun w h => mm h) k_ml_Picture_96 k_im_Picture_ofScanComponent k_se_Picture_ofScanComponent k_in_Picture k_cd_Picture_ofScanComponent) rfl (by decide +kernel) ⟨(Nat.le_of_ble_eq_true rfl), (Nat.le_of_ble_eq_true rfl)⟩ (q0 := 3) rfl rfl rfl rfl (Nat.le_of_ble_eq_true rfl) d_Picture_ofScan_217 ⟨(Nat.le_of_ble_eq_true rfl), (Nat.le_of_ble_eq_true rfl)⟩ (fun _ => ?_)
        exact J_iret X hr hlk () (Nat.le_of_ble_eq_true rfl) (Nat.le_of_ble_eq_true rfl) (j_r1 h) (congrArg (fun q => wO cI cB cJ cZ a q) (j_r2 h)) d_Picture_ofScan_220
      · rw [if_neg c201] at h
        refine J_iconst (v := (-1 : Int32)) X d_Picture_ofScan_204 (by decide) ?_
        refine J_goto X 220 d_Picture_ofScan_205 (by decide) ?_
        exact J_iret X hr hlk () (Nat.le_of_ble_eq_true rfl) (Nat.le_of_ble_eq_true rfl) (j_r1 h) (congrArg (fun q => wO cI cB cJ cZ a q) (j_r2 h)) d_Picture_ofScan_220
    · rw [if_neg c9] at h
      refine J_iconst (v := (-1 : Int32)) X d_Picture_ofScan_12 (by decide) ?_
      exact J_iret X hr hlk () (Nat.le_of_ble_eq_true rfl) (Nat.le_of_ble_eq_true rfl) (j_r1 h) (congrArg (fun q => wO cI cB cJ cZ a q) (j_r2 h)) d_Picture_ofScan_13
set_option maxHeartbeats 4000000 in
set_option maxRecDepth 100000 in
theorem ct_Reader_scan (l : Launch) (dC : Nat → ClassId) (dI : Nat → Nat → Nat) (cI cB cJ cZ : ClassId) (a : Nat → Nat) (n : Nat) (x1 : Int32) (x2 : Int32) (t : St) {z : Int32 × St} (h : m_Reader_scan n x1 x2 t = some z) : jMi l y_Reader_scan w_Reader_scan ({ frames := 4, cells := 0, slots := 0, locals := 95 }) (dC, dI) vwCl (tyA cI cB cJ cZ) [.ref (a 0), .int x1, .int x2] (wO cI cB cJ cZ a t) z.1 (fun _ : Unit => wO cI cB cJ cZ a z.2) := by
  refine jMi.of (cc := c_Reader_scan) (maxL := 3) (ret := (some .int)) (by decide) rfl (Nat.le_of_ble_eq_true rfl) ?_
  intro p e s m args below meth c A X hr hlk hnm
  refine J_lv [0, 1, 2] [(0, .ref (a 0)), (1, .int x1), (2, .int x2)] rfl ?_
  unfold m_Reader_scan at h
  refine J_aload_n X d_Reader_scan_0 0 rfl rfl ?_
  refine J_get (v := .ref (a 3)) X (fun w h => mm (in_Reader w h)) 0 rfl rfl 1 (by decide) (mm k_fl_Reader_21) rfl rfl d_Reader_scan_1 ?_
  refine J_iload_n X d_Reader_scan_4 1 rfl rfl ?_
  refine J_iload_n X d_Reader_scan_5 2 rfl rfl ?_
  obtain ⟨z6, hz6, h⟩ := j_bind h
  refine J_callVi0 (n := 2) (wc := (wO cI cB cJ cZ a t)) (r := z6.1) (w1 := fun _ : Unit => wO cI cB cJ cZ a z6.2) X isO (hCO cI cB cJ cZ a t) (hDO cI cB cJ cZ a t) rfl [.int x1, .int x2] [] (ct_Picture_ofScan l dC dI cI cB cJ cZ a n x1 x2 t hz6) (aw_V (fun w h => mm h) k_ml_Reader_70 k_im_Picture_ofScan k_se_Picture_ofScan k_in_Picture k_cd_Picture_ofScan) rfl (by decide +kernel) ⟨(Nat.le_of_ble_eq_true rfl), (Nat.le_of_ble_eq_true rfl)⟩ (q0 := 3) rfl rfl rfl rfl (Nat.le_of_ble_eq_true rfl) d_Reader_scan_6 ⟨(Nat.le_of_ble_eq_true rfl), (Nat.le_of_ble_eq_true rfl)⟩ (fun _ => ?_)
  exact J_iret X hr hlk () (Nat.le_of_ble_eq_true rfl) (Nat.le_of_ble_eq_true rfl) (j_r1 h) (congrArg (fun q => wO cI cB cJ cZ a q) (j_r2 h)) d_Reader_scan_9
set_option maxHeartbeats 4000000 in
set_option maxRecDepth 100000 in
theorem ct_Picture_dataByte (l : Launch) (dC : Nat → ClassId) (dI : Nat → Nat → Nat) (cI cB cJ cZ : ClassId) (a : Nat → Nat) (n : Nat) (x1 : Int32) (x2 : Int32) (t : St) {z : Int32 × St} (h : m_Picture_dataByte n x1 x2 t = some z) : jMi l y_Picture_dataByte w_Picture_dataByte ({ frames := 1, cells := 0, slots := 0, locals := 21 }) (dC, dI) vwCl (tyA cI cB cJ cZ) [.ref (a 3), .int x1, .int x2] (wO cI cB cJ cZ a t) z.1 (fun _ : Unit => wO cI cB cJ cZ a z.2) := by
  refine jMi.of (cc := c_Picture_dataByte) (maxL := 8) (ret := (some .int)) (by decide) rfl (Nat.le_of_ble_eq_true rfl) ?_
  intro p e s m args below meth c A X hr hlk hnm
  have L136 : ∀ (K50 : Int32 → Int32 → Int32 → St → Option (Int32 × St)) (hK50 : ∀ (x3 : Int32) (x4 : Int32) (x5 : Int32) (t : St), K50 x3 x4 x5 t = some z → J p l e { frames := 1, cells := 0, slots := 0, locals := 21 } s m args below meth c 8 (dC, dI) vwCl A (MQ below (jQi (dC, dI) vwCl (tyA cI cB cJ cZ) z.1 (fun _ : Unit => wO cI cB cJ cZ a z.2) A) args s 0 0 A) 0 0 50 [(0, .ref (a 3)), (3, .int x3), (4, .int x4), (5, .int x5)] [] (wO cI cB cJ cZ a t)) (x4 : Int32) (x5 : Int32) (y0 : Int32) (y1 : Int32) (t : St), m_Picture_dataByte_136 n K50 x4 x5 y0 y1 t = some z → J p l e { frames := 1, cells := 0, slots := 0, locals := 21 } s m args below meth c 8 (dC, dI) vwCl A (MQ below (jQi (dC, dI) vwCl (tyA cI cB cJ cZ) z.1 (fun _ : Unit => wO cI cB cJ cZ a z.2) A) args s 0 0 A) 0 0 136 [(0, .ref (a 3)), (4, .int x4), (5, .int x5)] [.int y1, .int y0] (wO cI cB cJ cZ a t) := by
    intro K50 hK50 x4 x5 y0 y1 t h
    unfold m_Picture_dataByte_136 at h
    refine J_iadd X d_Picture_dataByte_136 ?_
    refine J_istore_n X [(3, .int (y0 + y1)), (0, .ref (a 3)), (4, .int x4), (5, .int x5)] d_Picture_dataByte_137 rfl (by decide) rfl ?_
    refine J_goto X 50 d_Picture_dataByte_138 (by decide) ?_
    refine J_lv [1, 0, 2, 3] [(0, .ref (a 3)), (3, .int (y0 + y1)), (4, .int x4), (5, .int x5)] rfl ?_
    exact hK50 (y0 + y1) x4 x5 t h
  have L119 : ∀ (K50 : Int32 → Int32 → Int32 → St → Option (Int32 × St)) (hK50 : ∀ (x3 : Int32) (x4 : Int32) (x5 : Int32) (t : St), K50 x3 x4 x5 t = some z → J p l e { frames := 1, cells := 0, slots := 0, locals := 21 } s m args below meth c 8 (dC, dI) vwCl A (MQ below (jQi (dC, dI) vwCl (tyA cI cB cJ cZ) z.1 (fun _ : Unit => wO cI cB cJ cZ a z.2) A) args s 0 0 A) 0 0 50 [(0, .ref (a 3)), (3, .int x3), (4, .int x4), (5, .int x5)] [] (wO cI cB cJ cZ a t)) (x3 : Int32) (x4 : Int32) (x6 : Int32) (y0 : Int32) (y1 : Int32) (t : St), m_Picture_dataByte_119 n K50 x3 x4 x6 y0 y1 t = some z → J p l e { frames := 1, cells := 0, slots := 0, locals := 21 } s m args below meth c 8 (dC, dI) vwCl A (MQ below (jQi (dC, dI) vwCl (tyA cI cB cJ cZ) z.1 (fun _ : Unit => wO cI cB cJ cZ a z.2) A) args s 0 0 A) 0 0 119 [(0, .ref (a 3)), (3, .int x3), (4, .int x4), (6, .int x6)] [.int y1, .int y0] (wO cI cB cJ cZ a t) := by
    intro K50 hK50 x3 x4 x6 y0 y1 t h
    unfold m_Picture_dataByte_119 at h
    refine J_isub X d_Picture_dataByte_119 ?_
    refine J_istore X [(5, .int (y0 - y1)), (0, .ref (a 3)), (3, .int x3), (4, .int x4), (6, .int x6)] d_Picture_dataByte_120 (by decide) rfl ?_
    refine J_iload_n X d_Picture_dataByte_122 2 rfl rfl ?_
    refine J_iload X d_Picture_dataByte_123 4 rfl ?_
    refine J_sipush (v := (255 : Int32)) X d_Picture_dataByte_125 (by decide) ?_
    refine J_icmp_ne X 135 d_Picture_dataByte_128 (by decide) (fun c128 => ?_) (fun c128 => ?_)
    · rw [if_neg c128] at h
      refine J_iconst (v := (1 : Int32)) X d_Picture_dataByte_135 (by decide) ?_
      refine J_lv [1, 3, 0] [(0, .ref (a 3)), (4, .int x4), (5, .int (y0 - y1))] rfl ?_
      exact L136 K50 hK50 x4 (y0 - y1) x3 (1 : Int32) t h
    · rw [if_pos c128] at h
      refine J_iconst (v := (2 : Int32)) X d_Picture_dataByte_131 (by decide) ?_
      refine J_goto X 136 d_Picture_dataByte_132 (by decide) ?_
      refine J_lv [1, 3, 0] [(0, .ref (a 3)), (4, .int x4), (5, .int (y0 - y1))] rfl ?_
      exact L136 K50 hK50 x4 (y0 - y1) x3 (2 : Int32) t h
  have L107 : ∀ (K50 : Int32 → Int32 → Int32 → St → Option (Int32 × St)) (hK50 : ∀ (x3 : Int32) (x4 : Int32) (x5 : Int32) (t : St), K50 x3 x4 x5 t = some z → J p l e { frames := 1, cells := 0, slots := 0, locals := 21 } s m args below meth c 8 (dC, dI) vwCl A (MQ below (jQi (dC, dI) vwCl (tyA cI cB cJ cZ) z.1 (fun _ : Unit => wO cI cB cJ cZ a z.2) A) args s 0 0 A) 0 0 50 [(0, .ref (a 3)), (3, .int x3), (4, .int x4), (5, .int x5)] [] (wO cI cB cJ cZ a t)) (x3 : Int32) (x4 : Int32) (x5 : Int32) (x6 : Int32) (x7 : Int32) (t : St), m_Picture_dataByte_107 n K50 x3 x4 x5 x6 x7 t = some z → J p l e { frames := 1, cells := 0, slots := 0, locals := 21 } s m args below meth c 8 (dC, dI) vwCl A (MQ below (jQi (dC, dI) vwCl (tyA cI cB cJ cZ) z.1 (fun _ : Unit => wO cI cB cJ cZ a z.2) A) args s 0 0 A) 0 0 107 [(0, .ref (a 3)), (3, .int x3), (4, .int x4), (5, .int x5), (6, .int x6), (7, .int x7)] [] (wO cI cB cJ cZ a t) := by
    intro K50 hK50 x3 x4 x5 x6 x7 t h
    unfold m_Picture_dataByte_107 at h
    refine J_iload X d_Picture_dataByte_107 3 rfl ?_
    refine J_iload X d_Picture_dataByte_109 5 rfl ?_
    refine J_if_eq X 118 d_Picture_dataByte_111 (by decide) (fun c111 => ?_) (fun c111 => ?_)
    · rw [if_pos c111] at h
      refine J_iconst (v := (1 : Int32)) X d_Picture_dataByte_118 (by decide) ?_
      refine J_lv [0, 1, 2, 4] [(0, .ref (a 3)), (3, .int x3), (4, .int x4), (6, .int x6)] rfl ?_
      exact L119 K50 hK50 x3 x4 x6 x5 (1 : Int32) t h
    · rw [if_neg c111] at h
      refine J_iconst (v := (0 : Int32)) X d_Picture_dataByte_114 (by decide) ?_
      refine J_goto X 119 d_Picture_dataByte_115 (by decide) ?_
      refine J_lv [0, 1, 2, 4] [(0, .ref (a 3)), (3, .int x3), (4, .int x4), (6, .int x6)] rfl ?_
      exact L119 K50 hK50 x3 x4 x6 x5 (0 : Int32) t h
  have L92 : ∀ (K50 : Int32 → Int32 → Int32 → St → Option (Int32 × St)) (hK50 : ∀ (x3 : Int32) (x4 : Int32) (x5 : Int32) (t : St), K50 x3 x4 x5 t = some z → J p l e { frames := 1, cells := 0, slots := 0, locals := 21 } s m args below meth c 8 (dC, dI) vwCl A (MQ below (jQi (dC, dI) vwCl (tyA cI cB cJ cZ) z.1 (fun _ : Unit => wO cI cB cJ cZ a z.2) A) args s 0 0 A) 0 0 50 [(0, .ref (a 3)), (3, .int x3), (4, .int x4), (5, .int x5)] [] (wO cI cB cJ cZ a t)) (x3 : Int32) (x4 : Int32) (x5 : Int32) (x6 : Int32) (y0 : Int32) (t : St), m_Picture_dataByte_92 n K50 x3 x4 x5 x6 y0 t = some z → J p l e { frames := 1, cells := 0, slots := 0, locals := 21 } s m args below meth c 8 (dC, dI) vwCl A (MQ below (jQi (dC, dI) vwCl (tyA cI cB cJ cZ) z.1 (fun _ : Unit => wO cI cB cJ cZ a z.2) A) args s 0 0 A) 0 0 92 [(0, .ref (a 3)), (3, .int x3), (4, .int x4), (5, .int x5), (6, .int x6)] [.int y0] (wO cI cB cJ cZ a t) := by
    intro K50 hK50 x3 x4 x5 x6 y0 t h
    unfold m_Picture_dataByte_92 at h
    refine J_istore X [(7, .int y0), (0, .ref (a 3)), (3, .int x3), (4, .int x4), (5, .int x5), (6, .int x6)] d_Picture_dataByte_92 (by decide) rfl ?_
    refine J_iload X d_Picture_dataByte_94 0 rfl ?_
    refine J_if_ne X 107 d_Picture_dataByte_96 (by decide) (fun c96 => ?_) (fun c96 => ?_)
    · rw [if_neg c96] at h
      refine J_lv [1, 2, 3, 4, 5, 0] [(0, .ref (a 3)), (3, .int x3), (4, .int x4), (5, .int x5), (6, .int x6), (7, .int y0)] rfl ?_
      exact L107 K50 hK50 x3 x4 x5 x6 y0 t h
    · rw [if_pos c96] at h
      refine J_iload X d_Picture_dataByte_99 4 rfl ?_
      refine J_if_ne X 107 d_Picture_dataByte_101 (by decide) (fun c101 => ?_) (fun c101 => ?_)
      · rw [if_neg c101] at h
        refine J_lv [1, 2, 3, 4, 5, 0] [(0, .ref (a 3)), (3, .int x3), (4, .int x4), (5, .int x5), (6, .int x6), (7, .int y0)] rfl ?_
        exact L107 K50 hK50 x3 x4 x5 x6 y0 t h
      · rw [if_pos c101] at h
        refine J_iload X d_Picture_dataByte_104 5 rfl ?_
        exact J_iret X hr hlk () (Nat.le_of_ble_eq_true rfl) (Nat.le_of_ble_eq_true rfl) (j_r1 h) (congrArg (fun q => wO cI cB cJ cZ a q) (j_r2 h)) d_Picture_dataByte_106
  have L91 : ∀ (K50 : Int32 → Int32 → Int32 → St → Option (Int32 × St)) (hK50 : ∀ (x3 : Int32) (x4 : Int32) (x5 : Int32) (t : St), K50 x3 x4 x5 t = some z → J p l e { frames := 1, cells := 0, slots := 0, locals := 21 } s m args below meth c 8 (dC, dI) vwCl A (MQ below (jQi (dC, dI) vwCl (tyA cI cB cJ cZ) z.1 (fun _ : Unit => wO cI cB cJ cZ a z.2) A) args s 0 0 A) 0 0 50 [(0, .ref (a 3)), (3, .int x3), (4, .int x4), (5, .int x5)] [] (wO cI cB cJ cZ a t)) (x3 : Int32) (x4 : Int32) (x5 : Int32) (x6 : Int32) (t : St), m_Picture_dataByte_91 n K50 x3 x4 x5 x6 t = some z → J p l e { frames := 1, cells := 0, slots := 0, locals := 21 } s m args below meth c 8 (dC, dI) vwCl A (MQ below (jQi (dC, dI) vwCl (tyA cI cB cJ cZ) z.1 (fun _ : Unit => wO cI cB cJ cZ a z.2) A) args s 0 0 A) 0 0 91 [(0, .ref (a 3)), (3, .int x3), (4, .int x4), (5, .int x5), (6, .int x6)] [] (wO cI cB cJ cZ a t) := by
    intro K50 hK50 x3 x4 x5 x6 t h
    unfold m_Picture_dataByte_91 at h
    refine J_iconst (v := (0 : Int32)) X d_Picture_dataByte_91 (by decide) ?_
    refine J_lv [0, 1, 2, 3, 4] [(0, .ref (a 3)), (3, .int x3), (4, .int x4), (5, .int x5), (6, .int x6)] rfl ?_
    exact L92 K50 hK50 x3 x4 x5 x6 (0 : Int32) t h
  have L50 : ∀ (k : Nat) (x3 : Int32) (x4 : Int32) (x5 : Int32) (t : St), m_Picture_dataByte_50 n  k x3 x4 x5 t = some z → J p l e { frames := 1, cells := 0, slots := 0, locals := 21 } s m args below meth c 8 (dC, dI) vwCl A (MQ below (jQi (dC, dI) vwCl (tyA cI cB cJ cZ) z.1 (fun _ : Unit => wO cI cB cJ cZ a z.2) A) args s 0 0 A) 0 0 50 [(0, .ref (a 3)), (3, .int x3), (4, .int x4), (5, .int x5)] [] (wO cI cB cJ cZ a t) := by
    intro k
    induction k with
    | zero => intro x3 x4 x5 t h; exact absurd (show none = some z from h) (by simp)
    | succ k ih =>
      intro x3 x4 x5 t h
      change m_Picture_dataByte_50b n  (m_Picture_dataByte_50 n  k) x3 x4 x5 t = some z at h
      unfold m_Picture_dataByte_50b at h
      refine J_iload_n X d_Picture_dataByte_50 1 rfl rfl ?_
      refine J_iload X d_Picture_dataByte_51 2 rfl ?_
      refine J_icmp_ge X 141 d_Picture_dataByte_53 (by decide) (fun c53 => ?_) (fun c53 => ?_)
      · rw [if_pos c53] at h
        refine J_iconst (v := (-1 : Int32)) X d_Picture_dataByte_141 (by decide) ?_
        exact J_iret X hr hlk () (Nat.le_of_ble_eq_true rfl) (Nat.le_of_ble_eq_true rfl) (j_r1 h) (congrArg (fun q => wO cI cB cJ cZ a q) (j_r2 h)) d_Picture_dataByte_142
      · rw [if_neg c53] at h
        refine J_aload_n X d_Picture_dataByte_56 0 rfl rfl ?_
        refine J_get (v := .ref (a 1)) X (fun w h => mm (in_Picture w h)) 3 rfl rfl 0 (by decide) (mm k_fl_Picture_31) rfl rfl d_Picture_dataByte_57 ?_
        refine J_iload_n X d_Picture_dataByte_60 1 rfl rfl ?_
        obtain ⟨z61, hz61, h⟩ := j_bind h
        refine J_callVi0 (n := 1) (wc := (wO cI cB cJ cZ a t)) (r := z61.1) (w1 := fun _ : Unit => wO cI cB cJ cZ a z61.2) X isO (hCO cI cB cJ cZ a t) (hDO cI cB cJ cZ a t) rfl [.int x3] [] (ct_Bytes_at l dC dI cI cB cJ cZ a n x3 t hz61) (aw_V (fun w h => mm h) k_ml_Picture_78 k_im_Bytes_at k_se_Bytes_at k_in_Bytes k_cd_Bytes_at) rfl (by decide +kernel) ⟨(Nat.le_of_ble_eq_true rfl), (Nat.le_of_ble_eq_true rfl)⟩ (q0 := 1) rfl rfl rfl rfl (Nat.le_of_ble_eq_true rfl) d_Picture_dataByte_61 ⟨(Nat.le_of_ble_eq_true rfl), (Nat.le_of_ble_eq_true rfl)⟩ (fun _ => ?_)
        refine J_istore X [(6, .int z61.1), (0, .ref (a 3)), (3, .int x3), (4, .int x4), (5, .int x5)] d_Picture_dataByte_64 (by decide) rfl ?_
        refine J_iload X d_Picture_dataByte_66 0 rfl ?_
        refine J_sipush (v := (255 : Int32)) X d_Picture_dataByte_68 (by decide) ?_
        refine J_icmp_ne X 91 d_Picture_dataByte_71 (by decide) (fun c71 => ?_) (fun c71 => ?_)
        · rw [if_neg c71] at h
          refine J_lv [1, 2, 3, 4, 0] [(0, .ref (a 3)), (3, .int x3), (4, .int x4), (5, .int x5), (6, .int z61.1)] rfl ?_
          exact L91 (m_Picture_dataByte_50 n  k) ih x3 x4 x5 z61.1 z61.2 h
        · rw [if_pos c71] at h
          refine J_aload_n X d_Picture_dataByte_74 1 rfl rfl ?_
          refine J_get (v := .ref (a 1)) X (fun w h => mm (in_Picture w h)) 3 rfl rfl 0 (by decide) (mm k_fl_Picture_31) rfl rfl d_Picture_dataByte_75 ?_
          refine J_iload_n X d_Picture_dataByte_78 2 rfl rfl ?_
          refine J_iconst (v := (1 : Int32)) X d_Picture_dataByte_79 (by decide) ?_
          refine J_iadd X d_Picture_dataByte_80 ?_
          obtain ⟨z81, hz81, h⟩ := j_bind h
          refine J_callVi0 (n := 1) (wc := (wO cI cB cJ cZ a z61.2)) (r := z81.1) (w1 := fun _ : Unit => wO cI cB cJ cZ a z81.2) X isO (hCO cI cB cJ cZ a z61.2) (hDO cI cB cJ cZ a z61.2) rfl [.int (x3 + (1 : Int32))] [] (ct_Bytes_at l dC dI cI cB cJ cZ a n (x3 + (1 : Int32)) z61.2 hz81) (aw_V (fun w h => mm h) k_ml_Picture_78 k_im_Bytes_at k_se_Bytes_at k_in_Bytes k_cd_Bytes_at) rfl (by decide +kernel) ⟨(Nat.le_of_ble_eq_true rfl), (Nat.le_of_ble_eq_true rfl)⟩ (q0 := 1) rfl rfl rfl rfl (Nat.le_of_ble_eq_true rfl) d_Picture_dataByte_81 ⟨(Nat.le_of_ble_eq_true rfl), (Nat.le_of_ble_eq_true rfl)⟩ (fun _ => ?_)
          refine J_if_eq X 91 d_Picture_dataByte_84 (by decide) (fun c84 => ?_) (fun c84 => ?_)
          · rw [if_pos c84] at h
            refine J_lv [1, 2, 3, 4, 0] [(0, .ref (a 3)), (3, .int x3), (4, .int x4), (5, .int x5), (6, .int z61.1)] rfl ?_
            exact L91 (m_Picture_dataByte_50 n  k) ih x3 x4 x5 z61.1 z81.2 h
          · rw [if_neg c84] at h
            refine J_iconst (v := (1 : Int32)) X d_Picture_dataByte_87 (by decide) ?_
            refine J_goto X 92 d_Picture_dataByte_88 (by decide) ?_
            refine J_lv [1, 2, 3, 4, 0] [(0, .ref (a 3)), (3, .int x3), (4, .int x4), (5, .int x5), (6, .int z61.1)] rfl ?_
            exact L92 (m_Picture_dataByte_50 n  k) ih x3 x4 x5 z61.1 (1 : Int32) z81.2 h
  refine J_lv [0, 1, 2] [(0, .ref (a 3)), (1, .int x1), (2, .int x2)] rfl ?_
  unfold m_Picture_dataByte at h
  refine J_iload_n X d_Picture_dataByte_0 1 rfl rfl ?_
  refine J_if_lt X 16 d_Picture_dataByte_1 (by decide) (fun c1 => ?_) (fun c1 => ?_)
  · rw [if_pos c1] at h
    refine J_iconst (v := (-1 : Int32)) X d_Picture_dataByte_16 (by decide) ?_
    exact J_iret X hr hlk () (Nat.le_of_ble_eq_true rfl) (Nat.le_of_ble_eq_true rfl) (j_r1 h) (congrArg (fun q => wO cI cB cJ cZ a q) (j_r2 h)) d_Picture_dataByte_17
  · rw [if_neg c1] at h
    refine J_iload_n X d_Picture_dataByte_4 1 rfl rfl ?_
    refine J_aload_n X d_Picture_dataByte_5 0 rfl rfl ?_
    obtain ⟨z6, hz6, h⟩ := j_bind h
    refine J_callVi0 (n := 0) (wc := (wO cI cB cJ cZ a t)) (r := z6.1) (w1 := fun _ : Unit => wO cI cB cJ cZ a z6.2) X isO (hCO cI cB cJ cZ a t) (hDO cI cB cJ cZ a t) rfl [] [.int x1] (ct_Picture_scanCount l dC dI cI cB cJ cZ a n t hz6) (aw_V (fun w h => mm h) k_ml_Picture_93 k_im_Picture_scanCount k_se_Picture_scanCount k_in_Picture k_cd_Picture_scanCount) rfl (by decide +kernel) ⟨(Nat.le_of_ble_eq_true rfl), (Nat.le_of_ble_eq_true rfl)⟩ (q0 := 3) rfl rfl rfl rfl (Nat.le_of_ble_eq_true rfl) d_Picture_dataByte_6 ⟨(Nat.le_of_ble_eq_true rfl), (Nat.le_of_ble_eq_true rfl)⟩ (fun _ => ?_)
    refine J_icmp_ge X 16 d_Picture_dataByte_9 (by decide) (fun c9 => ?_) (fun c9 => ?_)
    · rw [if_pos c9] at h
      refine J_iconst (v := (-1 : Int32)) X d_Picture_dataByte_16 (by decide) ?_
      exact J_iret X hr hlk () (Nat.le_of_ble_eq_true rfl) (Nat.le_of_ble_eq_true rfl) (j_r1 h) (congrArg (fun q => wO cI cB cJ cZ a q) (j_r2 h)) d_Picture_dataByte_17
    · rw [if_neg c9] at h
      refine J_iload_n X d_Picture_dataByte_12 2 rfl rfl ?_
      refine J_if_ge X 18 d_Picture_dataByte_13 (by decide) (fun c13 => ?_) (fun c13 => ?_)
      · rw [if_pos c13] at h
        refine J_aload_n X d_Picture_dataByte_18 0 rfl rfl ?_
        refine J_get (v := .ref (a 6)) X (fun w h => mm (in_Picture w h)) 3 rfl rfl 2 (by decide) (mm k_fl_Picture_18) rfl rfl d_Picture_dataByte_19 ?_
        refine J_iload_n X d_Picture_dataByte_22 1 rfl rfl ?_
        refine J_iconst (v := (5 : Int32)) X d_Picture_dataByte_23 (by decide) ?_
        refine J_imul X d_Picture_dataByte_24 ?_
        refine J_iconst (v := (1 : Int32)) X d_Picture_dataByte_25 (by decide) ?_
        refine J_iadd X d_Picture_dataByte_26 ?_
        obtain ⟨z27, hz27, h⟩ := j_bind h
        refine J_callVi0 (n := 1) (wc := (wO cI cB cJ cZ a z6.2)) (r := z27.1) (w1 := fun _ : Unit => wO cI cB cJ cZ a z27.2) X isO (hCO cI cB cJ cZ a z6.2) (hDO cI cB cJ cZ a z6.2) rfl [.int ((x1 * (5 : Int32)) + (1 : Int32))] [] (ct_Numbers_at_6 l dC dI cI cB cJ cZ a n ((x1 * (5 : Int32)) + (1 : Int32)) z6.2 hz27) (aw_V (fun w h => mm h) k_ml_Picture_74 k_im_Numbers_at k_se_Numbers_at k_in_Numbers k_cd_Numbers_at) rfl (by decide +kernel) ⟨(Nat.le_of_ble_eq_true rfl), (Nat.le_of_ble_eq_true rfl)⟩ (q0 := 6) rfl rfl rfl rfl (Nat.le_of_ble_eq_true rfl) d_Picture_dataByte_27 ⟨(Nat.le_of_ble_eq_true rfl), (Nat.le_of_ble_eq_true rfl)⟩ (fun _ => ?_)
        refine J_istore_n X [(3, .int z27.1), (0, .ref (a 3)), (1, .int x1), (2, .int x2)] d_Picture_dataByte_30 rfl (by decide) rfl ?_
        refine J_iload_n X d_Picture_dataByte_31 0 rfl rfl ?_
        refine J_aload_n X d_Picture_dataByte_32 1 rfl rfl ?_
        refine J_get (v := .ref (a 6)) X (fun w h => mm (in_Picture w h)) 3 rfl rfl 2 (by decide) (mm k_fl_Picture_18) rfl rfl d_Picture_dataByte_33 ?_
        refine J_iload_n X d_Picture_dataByte_36 2 rfl rfl ?_
        refine J_iconst (v := (5 : Int32)) X d_Picture_dataByte_37 (by decide) ?_
        refine J_imul X d_Picture_dataByte_38 ?_
        refine J_iconst (v := (2 : Int32)) X d_Picture_dataByte_39 (by decide) ?_
        refine J_iadd X d_Picture_dataByte_40 ?_
        obtain ⟨z41, hz41, h⟩ := j_bind h
        refine J_callVi0 (n := 1) (wc := (wO cI cB cJ cZ a z27.2)) (r := z41.1) (w1 := fun _ : Unit => wO cI cB cJ cZ a z41.2) X isO (hCO cI cB cJ cZ a z27.2) (hDO cI cB cJ cZ a z27.2) rfl [.int ((x1 * (5 : Int32)) + (2 : Int32))] [.int z27.1] (ct_Numbers_at_6 l dC dI cI cB cJ cZ a n ((x1 * (5 : Int32)) + (2 : Int32)) z27.2 hz41) (aw_V (fun w h => mm h) k_ml_Picture_74 k_im_Numbers_at k_se_Numbers_at k_in_Numbers k_cd_Numbers_at) rfl (by decide +kernel) ⟨(Nat.le_of_ble_eq_true rfl), (Nat.le_of_ble_eq_true rfl)⟩ (q0 := 6) rfl rfl rfl rfl (Nat.le_of_ble_eq_true rfl) d_Picture_dataByte_41 ⟨(Nat.le_of_ble_eq_true rfl), (Nat.le_of_ble_eq_true rfl)⟩ (fun _ => ?_)
        refine J_iadd X d_Picture_dataByte_44 ?_
        refine J_istore X [(4, .int (z27.1 + z41.1)), (3, .int z27.1), (0, .ref (a 3)), (1, .int x1), (2, .int x2)] d_Picture_dataByte_45 (by decide) rfl ?_
        refine J_iload_n X d_Picture_dataByte_47 4 rfl rfl ?_
        refine J_istore X [(5, .int x2), (4, .int (z27.1 + z41.1)), (3, .int z27.1), (0, .ref (a 3)), (1, .int x1), (2, .int x2)] d_Picture_dataByte_48 (by decide) rfl ?_
        refine J_lv [3, 2, 1, 0] [(0, .ref (a 3)), (3, .int z27.1), (4, .int (z27.1 + z41.1)), (5, .int x2)] rfl ?_
        exact L50  n z27.1 (z27.1 + z41.1) x2 z41.2 h
      · rw [if_neg c13] at h
        refine J_iconst (v := (-1 : Int32)) X d_Picture_dataByte_16 (by decide) ?_
        exact J_iret X hr hlk () (Nat.le_of_ble_eq_true rfl) (Nat.le_of_ble_eq_true rfl) (j_r1 h) (congrArg (fun q => wO cI cB cJ cZ a q) (j_r2 h)) d_Picture_dataByte_17
set_option maxHeartbeats 4000000 in
set_option maxRecDepth 100000 in
theorem ct_Reader_data (l : Launch) (dC : Nat → ClassId) (dI : Nat → Nat → Nat) (cI cB cJ cZ : ClassId) (a : Nat → Nat) (n : Nat) (x1 : Int32) (x2 : Int32) (t : St) {z : Int32 × St} (h : m_Reader_data n x1 x2 t = some z) : jMi l y_Reader_data w_Reader_data ({ frames := 2, cells := 0, slots := 0, locals := 48 }) (dC, dI) vwCl (tyA cI cB cJ cZ) [.ref (a 0), .int x1, .int x2] (wO cI cB cJ cZ a t) z.1 (fun _ : Unit => wO cI cB cJ cZ a z.2) := by
  refine jMi.of (cc := c_Reader_data) (maxL := 3) (ret := (some .int)) (by decide) rfl (Nat.le_of_ble_eq_true rfl) ?_
  intro p e s m args below meth c A X hr hlk hnm
  refine J_lv [0, 1, 2] [(0, .ref (a 0)), (1, .int x1), (2, .int x2)] rfl ?_
  unfold m_Reader_data at h
  refine J_aload_n X d_Reader_data_0 0 rfl rfl ?_
  refine J_get (v := .ref (a 3)) X (fun w h => mm (in_Reader w h)) 0 rfl rfl 1 (by decide) (mm k_fl_Reader_21) rfl rfl d_Reader_data_1 ?_
  refine J_iload_n X d_Reader_data_4 1 rfl rfl ?_
  refine J_iload_n X d_Reader_data_5 2 rfl rfl ?_
  obtain ⟨z6, hz6, h⟩ := j_bind h
  refine J_callVi0 (n := 2) (wc := (wO cI cB cJ cZ a t)) (r := z6.1) (w1 := fun _ : Unit => wO cI cB cJ cZ a z6.2) X isO (hCO cI cB cJ cZ a t) (hDO cI cB cJ cZ a t) rfl [.int x1, .int x2] [] (ct_Picture_dataByte l dC dI cI cB cJ cZ a n x1 x2 t hz6) (aw_V (fun w h => mm h) k_ml_Reader_73 k_im_Picture_dataByte k_se_Picture_dataByte k_in_Picture k_cd_Picture_dataByte) rfl (by decide +kernel) ⟨(Nat.le_of_ble_eq_true rfl), (Nat.le_of_ble_eq_true rfl)⟩ (q0 := 3) rfl rfl rfl rfl (Nat.le_of_ble_eq_true rfl) d_Reader_data_6 ⟨(Nat.le_of_ble_eq_true rfl), (Nat.le_of_ble_eq_true rfl)⟩ (fun _ => ?_)
  exact J_iret X hr hlk () (Nat.le_of_ble_eq_true rfl) (Nat.le_of_ble_eq_true rfl) (j_r1 h) (congrArg (fun q => wO cI cB cJ cZ a q) (j_r2 h)) d_Reader_data_9
set_option maxHeartbeats 4000000 in
set_option maxRecDepth 100000 in
theorem ct_Picture_quantiserValue (l : Launch) (dC : Nat → ClassId) (dI : Nat → Nat → Nat) (cI cB cJ cZ : ClassId) (a : Nat → Nat) (n : Nat) (x1 : Int32) (x2 : Int32) (t : St) {z : Int32 × St} (h : m_Picture_quantiserValue n x1 x2 t = some z) : jMi l y_Picture_quantiserValue w_Picture_quantiserValue ({ frames := 1, cells := 0, slots := 0, locals := 21 }) (dC, dI) vwCl (tyA cI cB cJ cZ) [.ref (a 3), .int x1, .int x2] (wO cI cB cJ cZ a t) z.1 (fun _ : Unit => wO cI cB cJ cZ a z.2) := by
  refine jMi.of (cc := c_Picture_quantiserValue) (maxL := 3) (ret := (some .int)) (by decide) rfl (Nat.le_of_ble_eq_true rfl) ?_
  intro p e s m args below meth c A X hr hlk hnm
  refine J_lv [0, 1, 2] [(0, .ref (a 3)), (1, .int x1), (2, .int x2)] rfl ?_
  unfold m_Picture_quantiserValue at h
  refine J_aload_n X d_Picture_quantiserValue_0 0 rfl rfl ?_
  refine J_iload_n X d_Picture_quantiserValue_1 1 rfl rfl ?_
  obtain ⟨z2, hz2, h⟩ := j_bind h
  refine J_callVi0 (n := 1) (wc := (wO cI cB cJ cZ a t)) (r := z2.1) (w1 := fun _ : Unit => wO cI cB cJ cZ a z2.2) X isO (hCO cI cB cJ cZ a t) (hDO cI cB cJ cZ a t) rfl [.int x1] [] (ct_Picture_hasQuantisers l dC dI cI cB cJ cZ a n x1 t hz2) (aw_V (fun w h => mm h) k_ml_Picture_103 k_im_Picture_hasQuantisers k_se_Picture_hasQuantisers k_in_Picture k_cd_Picture_hasQuantisers) rfl (by decide +kernel) ⟨(Nat.le_of_ble_eq_true rfl), (Nat.le_of_ble_eq_true rfl)⟩ (q0 := 3) rfl rfl rfl rfl (Nat.le_of_ble_eq_true rfl) d_Picture_quantiserValue_2 ⟨(Nat.le_of_ble_eq_true rfl), (Nat.le_of_ble_eq_true rfl)⟩ (fun _ => ?_)
  refine J_if_eq X 18 d_Picture_quantiserValue_5 (by decide) (fun c5 => ?_) (fun c5 => ?_)
  · rw [if_pos c5] at h
    refine J_iconst (v := (-1 : Int32)) X d_Picture_quantiserValue_18 (by decide) ?_
    exact J_iret X hr hlk () (Nat.le_of_ble_eq_true rfl) (Nat.le_of_ble_eq_true rfl) (j_r1 h) (congrArg (fun q => wO cI cB cJ cZ a q) (j_r2 h)) d_Picture_quantiserValue_19
  · rw [if_neg c5] at h
    refine J_iload_n X d_Picture_quantiserValue_8 2 rfl rfl ?_
    refine J_if_lt X 18 d_Picture_quantiserValue_9 (by decide) (fun c9 => ?_) (fun c9 => ?_)
    · rw [if_pos c9] at h
      refine J_iconst (v := (-1 : Int32)) X d_Picture_quantiserValue_18 (by decide) ?_
      exact J_iret X hr hlk () (Nat.le_of_ble_eq_true rfl) (Nat.le_of_ble_eq_true rfl) (j_r1 h) (congrArg (fun q => wO cI cB cJ cZ a q) (j_r2 h)) d_Picture_quantiserValue_19
    · rw [if_neg c9] at h
      refine J_iload_n X d_Picture_quantiserValue_12 2 rfl rfl ?_
      refine J_bipush (v := (64 : Int32)) X d_Picture_quantiserValue_13 (by decide) ?_
      refine J_icmp_lt X 20 d_Picture_quantiserValue_15 (by decide) (fun c15 => ?_) (fun c15 => ?_)
      · rw [if_pos c15] at h
        refine J_aload_n X d_Picture_quantiserValue_20 0 rfl rfl ?_
        refine J_get (v := .ref (a 1)) X (fun w h => mm (in_Picture w h)) 3 rfl rfl 0 (by decide) (mm k_fl_Picture_31) rfl rfl d_Picture_quantiserValue_21 ?_
        refine J_aload_n X d_Picture_quantiserValue_24 0 rfl rfl ?_
        refine J_get (v := .ref (a 9)) X (fun w h => mm (in_Picture w h)) 3 rfl rfl 4 (by decide) (mm k_fl_Picture_25) rfl rfl d_Picture_quantiserValue_25 ?_
        refine J_iload_n X d_Picture_quantiserValue_28 1 rfl rfl ?_
        obtain ⟨b29, h⟩ := j_ifn h
        refine J_iald (f := (z2.2.2.1 4)) X 9 0 rfl rfl b29 d_Picture_quantiserValue_29 ?_
        refine J_iload_n X d_Picture_quantiserValue_30 2 rfl rfl ?_
        refine J_iadd X d_Picture_quantiserValue_31 ?_
        obtain ⟨z32, hz32, h⟩ := j_bind h
        refine J_callVi0 (n := 1) (wc := (wO cI cB cJ cZ a z2.2)) (r := z32.1) (w1 := fun _ : Unit => wO cI cB cJ cZ a z32.2) X isO (hCO cI cB cJ cZ a z2.2) (hDO cI cB cJ cZ a z2.2) rfl [.int (((z2.2.2.1 4) (x1).toNatClampNeg) + x2)] [] (ct_Bytes_at l dC dI cI cB cJ cZ a n (((z2.2.2.1 4) (x1).toNatClampNeg) + x2) z2.2 hz32) (aw_V (fun w h => mm h) k_ml_Picture_78 k_im_Bytes_at k_se_Bytes_at k_in_Bytes k_cd_Bytes_at) rfl (by decide +kernel) ⟨(Nat.le_of_ble_eq_true rfl), (Nat.le_of_ble_eq_true rfl)⟩ (q0 := 1) rfl rfl rfl rfl (Nat.le_of_ble_eq_true rfl) d_Picture_quantiserValue_32 ⟨(Nat.le_of_ble_eq_true rfl), (Nat.le_of_ble_eq_true rfl)⟩ (fun _ => ?_)
        exact J_iret X hr hlk () (Nat.le_of_ble_eq_true rfl) (Nat.le_of_ble_eq_true rfl) (j_r1 h) (congrArg (fun q => wO cI cB cJ cZ a q) (j_r2 h)) d_Picture_quantiserValue_35
      · rw [if_neg c15] at h
        refine J_iconst (v := (-1 : Int32)) X d_Picture_quantiserValue_18 (by decide) ?_
        exact J_iret X hr hlk () (Nat.le_of_ble_eq_true rfl) (Nat.le_of_ble_eq_true rfl) (j_r1 h) (congrArg (fun q => wO cI cB cJ cZ a q) (j_r2 h)) d_Picture_quantiserValue_19
set_option maxHeartbeats 4000000 in
set_option maxRecDepth 100000 in
theorem ct_Reader_quantiser (l : Launch) (dC : Nat → ClassId) (dI : Nat → Nat → Nat) (cI cB cJ cZ : ClassId) (a : Nat → Nat) (n : Nat) (x1 : Int32) (x2 : Int32) (t : St) {z : Int32 × St} (h : m_Reader_quantiser n x1 x2 t = some z) : jMi l y_Reader_quantiser w_Reader_quantiser ({ frames := 2, cells := 0, slots := 0, locals := 43 }) (dC, dI) vwCl (tyA cI cB cJ cZ) [.ref (a 0), .int x1, .int x2] (wO cI cB cJ cZ a t) z.1 (fun _ : Unit => wO cI cB cJ cZ a z.2) := by
  refine jMi.of (cc := c_Reader_quantiser) (maxL := 3) (ret := (some .int)) (by decide) rfl (Nat.le_of_ble_eq_true rfl) ?_
  intro p e s m args below meth c A X hr hlk hnm
  refine J_lv [0, 1, 2] [(0, .ref (a 0)), (1, .int x1), (2, .int x2)] rfl ?_
  unfold m_Reader_quantiser at h
  refine J_aload_n X d_Reader_quantiser_0 0 rfl rfl ?_
  refine J_get (v := .ref (a 3)) X (fun w h => mm (in_Reader w h)) 0 rfl rfl 1 (by decide) (mm k_fl_Reader_21) rfl rfl d_Reader_quantiser_1 ?_
  refine J_iload_n X d_Reader_quantiser_4 1 rfl rfl ?_
  refine J_iload_n X d_Reader_quantiser_5 2 rfl rfl ?_
  obtain ⟨z6, hz6, h⟩ := j_bind h
  refine J_callVi0 (n := 2) (wc := (wO cI cB cJ cZ a t)) (r := z6.1) (w1 := fun _ : Unit => wO cI cB cJ cZ a z6.2) X isO (hCO cI cB cJ cZ a t) (hDO cI cB cJ cZ a t) rfl [.int x1, .int x2] [] (ct_Picture_quantiserValue l dC dI cI cB cJ cZ a n x1 x2 t hz6) (aw_V (fun w h => mm h) k_ml_Reader_76 k_im_Picture_quantiserValue k_se_Picture_quantiserValue k_in_Picture k_cd_Picture_quantiserValue) rfl (by decide +kernel) ⟨(Nat.le_of_ble_eq_true rfl), (Nat.le_of_ble_eq_true rfl)⟩ (q0 := 3) rfl rfl rfl rfl (Nat.le_of_ble_eq_true rfl) d_Reader_quantiser_6 ⟨(Nat.le_of_ble_eq_true rfl), (Nat.le_of_ble_eq_true rfl)⟩ (fun _ => ?_)
  exact J_iret X hr hlk () (Nat.le_of_ble_eq_true rfl) (Nat.le_of_ble_eq_true rfl) (j_r1 h) (congrArg (fun q => wO cI cB cJ cZ a q) (j_r2 h)) d_Reader_quantiser_9
set_option maxHeartbeats 4000000 in
set_option maxRecDepth 100000 in
theorem ct_Picture_wordCount (l : Launch) (dC : Nat → ClassId) (dI : Nat → Nat → Nat) (cI cB cJ cZ : ClassId) (a : Nat → Nat) (n : Nat) (x1 : Int32) (t : St) {z : Int32 × St} (h : m_Picture_wordCount n x1 t = some z) : jMi l y_Picture_wordCount w_Picture_wordCount ({ frames := 1, cells := 0, slots := 0, locals := 21 }) (dC, dI) vwCl (tyA cI cB cJ cZ) [.ref (a 3), .int x1] (wO cI cB cJ cZ a t) z.1 (fun _ : Unit => wO cI cB cJ cZ a z.2) := by
  refine jMi.of (cc := c_Picture_wordCount) (maxL := 4) (ret := (some .int)) (by decide) rfl (Nat.le_of_ble_eq_true rfl) ?_
  intro p e s m args below meth c A X hr hlk hnm
  have L4 : ∀ (k : Nat) (x1 : Int32) (x2 : Int32) (x3 : Int32) (t : St), m_Picture_wordCount_4 n  k x1 x2 x3 t = some z → J p l e { frames := 1, cells := 0, slots := 0, locals := 21 } s m args below meth c 4 (dC, dI) vwCl A (MQ below (jQi (dC, dI) vwCl (tyA cI cB cJ cZ) z.1 (fun _ : Unit => wO cI cB cJ cZ a z.2) A) args s 0 0 A) 0 0 4 [(0, .ref (a 3)), (1, .int x1), (2, .int x2), (3, .int x3)] [] (wO cI cB cJ cZ a t) := by
    intro k
    induction k with
    | zero => intro x1 x2 x3 t h; exact absurd (show none = some z from h) (by simp)
    | succ k ih =>
      intro x1 x2 x3 t h
      change m_Picture_wordCount_4b n  (m_Picture_wordCount_4 n  k) x1 x2 x3 t = some z at h
      unfold m_Picture_wordCount_4b at h
      refine J_iload_n X d_Picture_wordCount_4 3 rfl rfl ?_
      refine J_bipush (v := (16 : Int32)) X d_Picture_wordCount_5 (by decide) ?_
      refine J_icmp_gt X 31 d_Picture_wordCount_7 (by decide) (fun c7 => ?_) (fun c7 => ?_)
      · rw [if_pos c7] at h
        refine J_iload_n X d_Picture_wordCount_31 2 rfl rfl ?_
        exact J_iret X hr hlk () (Nat.le_of_ble_eq_true rfl) (Nat.le_of_ble_eq_true rfl) (j_r1 h) (congrArg (fun q => wO cI cB cJ cZ a q) (j_r2 h)) d_Picture_wordCount_32
      · rw [if_neg c7] at h
        refine J_iload_n X d_Picture_wordCount_10 2 rfl rfl ?_
        refine J_aload_n X d_Picture_wordCount_11 0 rfl rfl ?_
        refine J_get (v := .ref (a 1)) X (fun w h => mm (in_Picture w h)) 3 rfl rfl 0 (by decide) (mm k_fl_Picture_31) rfl rfl d_Picture_wordCount_12 ?_
        refine J_iload_n X d_Picture_wordCount_15 1 rfl rfl ?_
        refine J_iload_n X d_Picture_wordCount_16 3 rfl rfl ?_
        refine J_iadd X d_Picture_wordCount_17 ?_
        refine J_iconst (v := (1 : Int32)) X d_Picture_wordCount_18 (by decide) ?_
        refine J_isub X d_Picture_wordCount_19 ?_
        obtain ⟨z20, hz20, h⟩ := j_bind h
        refine J_callVi0 (n := 1) (wc := (wO cI cB cJ cZ a t)) (r := z20.1) (w1 := fun _ : Unit => wO cI cB cJ cZ a z20.2) X isO (hCO cI cB cJ cZ a t) (hDO cI cB cJ cZ a t) rfl [.int ((x1 + x3) - (1 : Int32))] [.int x2] (ct_Bytes_at l dC dI cI cB cJ cZ a n ((x1 + x3) - (1 : Int32)) t hz20) (aw_V (fun w h => mm h) k_ml_Picture_78 k_im_Bytes_at k_se_Bytes_at k_in_Bytes k_cd_Bytes_at) rfl (by decide +kernel) ⟨(Nat.le_of_ble_eq_true rfl), (Nat.le_of_ble_eq_true rfl)⟩ (q0 := 1) rfl rfl rfl rfl (Nat.le_of_ble_eq_true rfl) d_Picture_wordCount_20 ⟨(Nat.le_of_ble_eq_true rfl), (Nat.le_of_ble_eq_true rfl)⟩ (fun _ => ?_)
        refine J_iadd X d_Picture_wordCount_23 ?_
        refine J_istore_n X [(2, .int (x2 + z20.1)), (0, .ref (a 3)), (1, .int x1), (3, .int x3)] d_Picture_wordCount_24 rfl (by decide) rfl ?_
        refine J_iinc (v := (x3 + 1)) X [(3, .int (x3 + 1)), (2, .int (x2 + z20.1)), (0, .ref (a 3)), (1, .int x1)] d_Picture_wordCount_25 3 rfl rfl (by decide) rfl ?_
        refine J_goto X 4 d_Picture_wordCount_28 (by decide) ?_
        refine J_lv [2, 3, 1, 0] [(0, .ref (a 3)), (1, .int x1), (2, .int (x2 + z20.1)), (3, .int (x3 + 1))] rfl ?_
        exact ih x1 (x2 + z20.1) (x3 + 1) z20.2 h
  refine J_lv [0, 1] [(0, .ref (a 3)), (1, .int x1)] rfl ?_
  unfold m_Picture_wordCount at h
  refine J_iconst (v := (0 : Int32)) X d_Picture_wordCount_0 (by decide) ?_
  refine J_istore_n X [(2, .int (0 : Int32)), (0, .ref (a 3)), (1, .int x1)] d_Picture_wordCount_1 rfl (by decide) rfl ?_
  refine J_iconst (v := (1 : Int32)) X d_Picture_wordCount_2 (by decide) ?_
  refine J_istore_n X [(3, .int (1 : Int32)), (2, .int (0 : Int32)), (0, .ref (a 3)), (1, .int x1)] d_Picture_wordCount_3 rfl (by decide) rfl ?_
  refine J_lv [2, 3, 1, 0] [(0, .ref (a 3)), (1, .int x1), (2, .int (0 : Int32)), (3, .int (1 : Int32))] rfl ?_
  exact L4  n x1 (0 : Int32) (1 : Int32) t h
set_option maxHeartbeats 4000000 in
set_option maxRecDepth 100000 in
theorem ct_Picture_ofWords (l : Launch) (dC : Nat → ClassId) (dI : Nat → Nat → Nat) (cI cB cJ cZ : ClassId) (a : Nat → Nat) (n : Nat) (x1 : Int32) (x2 : Int32) (x3 : Int32) (t : St) {z : Int32 × St} (h : m_Picture_ofWords n x1 x2 x3 t = some z) : jMi l y_Picture_ofWords w_Picture_ofWords ({ frames := 2, cells := 0, slots := 0, locals := 44 }) (dC, dI) vwCl (tyA cI cB cJ cZ) [.ref (a 3), .int x1, .int x2, .int x3] (wO cI cB cJ cZ a t) z.1 (fun _ : Unit => wO cI cB cJ cZ a z.2) := by
  refine jMi.of (cc := c_Picture_ofWords) (maxL := 5) (ret := (some .int)) (by decide) rfl (Nat.le_of_ble_eq_true rfl) ?_
  intro p e s m args below meth c A X hr hlk hnm
  have L44 : ∀ (x2 : Int32) (x3 : Int32) (x4 : Int32) (t : St), m_Picture_ofWords_44 n  x2 x3 x4 t = some z → J p l e { frames := 2, cells := 0, slots := 0, locals := 44 } s m args below meth c 5 (dC, dI) vwCl A (MQ below (jQi (dC, dI) vwCl (tyA cI cB cJ cZ) z.1 (fun _ : Unit => wO cI cB cJ cZ a z.2) A) args s 0 0 A) 0 0 44 [(0, .ref (a 3)), (2, .int x2), (3, .int x3), (4, .int x4)] [] (wO cI cB cJ cZ a t) := by
    intro x2 x3 x4 t h
    unfold m_Picture_ofWords_44 at h
    refine J_iload_n X d_Picture_ofWords_44 1 rfl rfl ?_
    refine J_iconst (v := (1 : Int32)) X d_Picture_ofWords_45 (by decide) ?_
    refine J_icmp_ne X 78 d_Picture_ofWords_46 (by decide) (fun c46 => ?_) (fun c46 => ?_)
    · rw [if_neg c46] at h
      refine J_iconst (v := (-1 : Int32)) X d_Picture_ofWords_78 (by decide) ?_
      exact J_iret X hr hlk () (Nat.le_of_ble_eq_true rfl) (Nat.le_of_ble_eq_true rfl) (j_r1 h) (congrArg (fun q => wO cI cB cJ cZ a q) (j_r2 h)) d_Picture_ofWords_79
    · rw [if_pos c46] at h
      refine J_iload_n X d_Picture_ofWords_49 2 rfl rfl ?_
      refine J_if_lt X 78 d_Picture_ofWords_50 (by decide) (fun c50 => ?_) (fun c50 => ?_)
      · rw [if_pos c50] at h
        refine J_iconst (v := (-1 : Int32)) X d_Picture_ofWords_78 (by decide) ?_
        exact J_iret X hr hlk () (Nat.le_of_ble_eq_true rfl) (Nat.le_of_ble_eq_true rfl) (j_r1 h) (congrArg (fun q => wO cI cB cJ cZ a q) (j_r2 h)) d_Picture_ofWords_79
      · rw [if_neg c50] at h
        refine J_iload_n X d_Picture_ofWords_53 2 rfl rfl ?_
        refine J_aload_n X d_Picture_ofWords_54 0 rfl rfl ?_
        refine J_iload X d_Picture_ofWords_55 3 rfl ?_
        obtain ⟨z57, hz57, h⟩ := j_bind h
        refine J_callVi0 (n := 1) (wc := (wO cI cB cJ cZ a t)) (r := z57.1) (w1 := fun _ : Unit => wO cI cB cJ cZ a z57.2) X isO (hCO cI cB cJ cZ a t) (hDO cI cB cJ cZ a t) rfl [.int x4] [.int x3] (ct_Picture_wordCount l dC dI cI cB cJ cZ a n x4 t hz57) (aw_V (fun w h => mm h) k_ml_Picture_110 k_im_Picture_wordCount k_se_Picture_wordCount k_in_Picture k_cd_Picture_wordCount) rfl (by decide +kernel) ⟨(Nat.le_of_ble_eq_true rfl), (Nat.le_of_ble_eq_true rfl)⟩ (q0 := 3) rfl rfl rfl rfl (Nat.le_of_ble_eq_true rfl) d_Picture_ofWords_57 ⟨(Nat.le_of_ble_eq_true rfl), (Nat.le_of_ble_eq_true rfl)⟩ (fun _ => ?_)
        refine J_icmp_ge X 78 d_Picture_ofWords_60 (by decide) (fun c60 => ?_) (fun c60 => ?_)
        · rw [if_pos c60] at h
          refine J_iconst (v := (-1 : Int32)) X d_Picture_ofWords_78 (by decide) ?_
          exact J_iret X hr hlk () (Nat.le_of_ble_eq_true rfl) (Nat.le_of_ble_eq_true rfl) (j_r1 h) (congrArg (fun q => wO cI cB cJ cZ a q) (j_r2 h)) d_Picture_ofWords_79
        · rw [if_neg c60] at h
          refine J_aload_n X d_Picture_ofWords_63 0 rfl rfl ?_
          refine J_get (v := .ref (a 1)) X (fun w h => mm (in_Picture w h)) 3 rfl rfl 0 (by decide) (mm k_fl_Picture_31) rfl rfl d_Picture_ofWords_64 ?_
          refine J_iload X d_Picture_ofWords_67 3 rfl ?_
          refine J_bipush (v := (16 : Int32)) X d_Picture_ofWords_69 (by decide) ?_
          refine J_iadd X d_Picture_ofWords_71 ?_
          refine J_iload_n X d_Picture_ofWords_72 2 rfl rfl ?_
          refine J_iadd X d_Picture_ofWords_73 ?_
          obtain ⟨z74, hz74, h⟩ := j_bind h
          refine J_callVi0 (n := 1) (wc := (wO cI cB cJ cZ a z57.2)) (r := z74.1) (w1 := fun _ : Unit => wO cI cB cJ cZ a z74.2) X isO (hCO cI cB cJ cZ a z57.2) (hDO cI cB cJ cZ a z57.2) rfl [.int ((x4 + (16 : Int32)) + x3)] [] (ct_Bytes_at l dC dI cI cB cJ cZ a n ((x4 + (16 : Int32)) + x3) z57.2 hz74) (aw_V (fun w h => mm h) k_ml_Picture_78 k_im_Bytes_at k_se_Bytes_at k_in_Bytes k_cd_Bytes_at) rfl (by decide +kernel) ⟨(Nat.le_of_ble_eq_true rfl), (Nat.le_of_ble_eq_true rfl)⟩ (q0 := 1) rfl rfl rfl rfl (Nat.le_of_ble_eq_true rfl) d_Picture_ofWords_74 ⟨(Nat.le_of_ble_eq_true rfl), (Nat.le_of_ble_eq_true rfl)⟩ (fun _ => ?_)
          exact J_iret X hr hlk () (Nat.le_of_ble_eq_true rfl) (Nat.le_of_ble_eq_true rfl) (j_r1 h) (congrArg (fun q => wO cI cB cJ cZ a q) (j_r2 h)) d_Picture_ofWords_77
  refine J_lv [0, 1, 2, 3] [(0, .ref (a 3)), (1, .int x1), (2, .int x2), (3, .int x3)] rfl ?_
  unfold m_Picture_ofWords at h
  refine J_aload_n X d_Picture_ofWords_0 0 rfl rfl ?_
  refine J_iload_n X d_Picture_ofWords_1 1 rfl rfl ?_
  obtain ⟨z2, hz2, h⟩ := j_bind h
  refine J_callVi0 (n := 1) (wc := (wO cI cB cJ cZ a t)) (r := z2.1) (w1 := fun _ : Unit => wO cI cB cJ cZ a z2.2) X isO (hCO cI cB cJ cZ a t) (hDO cI cB cJ cZ a t) rfl [.int x1] [] (ct_Picture_placeOfWords l dC dI cI cB cJ cZ a n x1 t hz2) (aw_V (fun w h => mm h) k_ml_Picture_107 k_im_Picture_placeOfWords k_se_Picture_placeOfWords k_in_Picture k_cd_Picture_placeOfWords) rfl (by decide +kernel) ⟨(Nat.le_of_ble_eq_true rfl), (Nat.le_of_ble_eq_true rfl)⟩ (q0 := 3) rfl rfl rfl rfl (Nat.le_of_ble_eq_true rfl) d_Picture_ofWords_2 ⟨(Nat.le_of_ble_eq_true rfl), (Nat.le_of_ble_eq_true rfl)⟩ (fun _ => ?_)
  refine J_istore X [(4, .int z2.1), (0, .ref (a 3)), (1, .int x1), (2, .int x2), (3, .int x3)] d_Picture_ofWords_5 (by decide) rfl ?_
  refine J_iload X d_Picture_ofWords_7 0 rfl ?_
  refine J_iconst (v := (-1 : Int32)) X d_Picture_ofWords_9 (by decide) ?_
  refine J_icmp_ne X 15 d_Picture_ofWords_10 (by decide) (fun c10 => ?_) (fun c10 => ?_)
  · rw [if_neg c10] at h
    refine J_iload_n X d_Picture_ofWords_15 3 rfl rfl ?_
    refine J_if_ne X 44 d_Picture_ofWords_16 (by decide) (fun c16 => ?_) (fun c16 => ?_)
    · rw [if_neg c16] at h
      refine J_lv [1, 3, 4, 0] [(0, .ref (a 3)), (2, .int x2), (3, .int x3), (4, .int z2.1)] rfl ?_
      exact L44  x2 x3 z2.1 z2.2 h
    · rw [if_pos c16] at h
      refine J_iload_n X d_Picture_ofWords_19 4 rfl rfl ?_
      refine J_iconst (v := (1 : Int32)) X d_Picture_ofWords_20 (by decide) ?_
      refine J_icmp_lt X 44 d_Picture_ofWords_21 (by decide) (fun c21 => ?_) (fun c21 => ?_)
      · rw [if_pos c21] at h
        refine J_lv [1, 3, 4, 0] [(0, .ref (a 3)), (2, .int x2), (3, .int x3), (4, .int z2.1)] rfl ?_
        exact L44  x2 x3 z2.1 z2.2 h
      · rw [if_neg c21] at h
        refine J_iload_n X d_Picture_ofWords_24 4 rfl rfl ?_
        refine J_bipush (v := (16 : Int32)) X d_Picture_ofWords_25 (by decide) ?_
        refine J_icmp_gt X 44 d_Picture_ofWords_27 (by decide) (fun c27 => ?_) (fun c27 => ?_)
        · rw [if_pos c27] at h
          refine J_lv [1, 3, 4, 0] [(0, .ref (a 3)), (2, .int x2), (3, .int x3), (4, .int z2.1)] rfl ?_
          exact L44  x2 x3 z2.1 z2.2 h
        · rw [if_neg c27] at h
          refine J_aload_n X d_Picture_ofWords_30 1 rfl rfl ?_
          refine J_get (v := .ref (a 1)) X (fun w h => mm (in_Picture w h)) 3 rfl rfl 0 (by decide) (mm k_fl_Picture_31) rfl rfl d_Picture_ofWords_31 ?_
          refine J_iload X d_Picture_ofWords_34 0 rfl ?_
          refine J_iload_n X d_Picture_ofWords_36 4 rfl rfl ?_
          refine J_iadd X d_Picture_ofWords_37 ?_
          refine J_iconst (v := (1 : Int32)) X d_Picture_ofWords_38 (by decide) ?_
          refine J_isub X d_Picture_ofWords_39 ?_
          obtain ⟨z40, hz40, h⟩ := j_bind h
          refine J_callVi0 (n := 1) (wc := (wO cI cB cJ cZ a z2.2)) (r := z40.1) (w1 := fun _ : Unit => wO cI cB cJ cZ a z40.2) X isO (hCO cI cB cJ cZ a z2.2) (hDO cI cB cJ cZ a z2.2) rfl [.int ((z2.1 + x3) - (1 : Int32))] [] (ct_Bytes_at l dC dI cI cB cJ cZ a n ((z2.1 + x3) - (1 : Int32)) z2.2 hz40) (aw_V (fun w h => mm h) k_ml_Picture_78 k_im_Bytes_at k_se_Bytes_at k_in_Bytes k_cd_Bytes_at) rfl (by decide +kernel) ⟨(Nat.le_of_ble_eq_true rfl), (Nat.le_of_ble_eq_true rfl)⟩ (q0 := 1) rfl rfl rfl rfl (Nat.le_of_ble_eq_true rfl) d_Picture_ofWords_40 ⟨(Nat.le_of_ble_eq_true rfl), (Nat.le_of_ble_eq_true rfl)⟩ (fun _ => ?_)
          exact J_iret X hr hlk () (Nat.le_of_ble_eq_true rfl) (Nat.le_of_ble_eq_true rfl) (j_r1 h) (congrArg (fun q => wO cI cB cJ cZ a q) (j_r2 h)) d_Picture_ofWords_43
  · rw [if_pos c10] at h
    refine J_iconst (v := (-1 : Int32)) X d_Picture_ofWords_13 (by decide) ?_
    exact J_iret X hr hlk () (Nat.le_of_ble_eq_true rfl) (Nat.le_of_ble_eq_true rfl) (j_r1 h) (congrArg (fun q => wO cI cB cJ cZ a q) (j_r2 h)) d_Picture_ofWords_14
