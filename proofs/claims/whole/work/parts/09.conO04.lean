set_option maxHeartbeats 4000000 in
set_option maxRecDepth 100000 in
theorem ct_Picture_hasQuantisers (l : Launch) (dC : Nat → ClassId) (dI : Nat → Nat → Nat) (cI cB cJ cZ : ClassId) (a : Nat → Nat) (n : Nat) (x1 : Int32) (t : St) {z : Int32 × St} (h : m_Picture_hasQuantisers n x1 t = some z) : jMi l y_Picture_hasQuantisers w_Picture_hasQuantisers ({ frames := 0, cells := 0, slots := 0, locals := 0 }) (dC, dI) vwCl (tyA cI cB cJ cZ) [.ref (a 3), .int x1] (wO cI cB cJ cZ a t) z.1 (fun _ : Unit => wO cI cB cJ cZ a z.2) := by
  refine jMi.of (cc := c_Picture_hasQuantisers) (maxL := 2) (ret := (some .boolean)) (by decide) rfl (Nat.le_of_ble_eq_true rfl) ?_
  intro p e s m args below meth c A X hr hlk hnm
  have L27 : ∀  (t : St), m_Picture_hasQuantisers_27 n   t = some z → J p l e { frames := 0, cells := 0, slots := 0, locals := 0 } s m args below meth c 2 (dC, dI) vwCl A (MQ below (jQi (dC, dI) vwCl (tyA cI cB cJ cZ) z.1 (fun _ : Unit => wO cI cB cJ cZ a z.2) A) args s 0 0 A) 0 0 27 [] [] (wO cI cB cJ cZ a t) := by
    intro  t h
    unfold m_Picture_hasQuantisers_27 at h
    refine J_iconst (v := (0 : Int32)) X d_Picture_hasQuantisers_27 (by decide) ?_
    exact J_zret X hr hlk () rfl (Nat.le_of_ble_eq_true rfl) (Nat.le_of_ble_eq_true rfl) (j_r1 h) (congrArg (fun q => wO cI cB cJ cZ a q) (j_r2 h)) d_Picture_hasQuantisers_28
  refine J_lv [0, 1] [(0, .ref (a 3)), (1, .int x1)] rfl ?_
  unfold m_Picture_hasQuantisers at h
  refine J_iload_n X d_Picture_hasQuantisers_0 1 rfl rfl ?_
  refine J_if_lt X 27 d_Picture_hasQuantisers_1 (by decide) (fun c1 => ?_) (fun c1 => ?_)
  · rw [if_pos c1] at h
    refine J_lv [] [] rfl ?_
    exact L27  t h
  · rw [if_neg c1] at h
    refine J_iload_n X d_Picture_hasQuantisers_4 1 rfl rfl ?_
    refine J_aload_n X d_Picture_hasQuantisers_5 0 rfl rfl ?_
    refine J_get (v := .ref (a 9)) X (fun w h => mm (in_Picture w h)) 3 rfl rfl 4 (by decide) (mm k_fl_Picture_25) rfl rfl d_Picture_hasQuantisers_6 ?_
    refine J_alen X 9 0 rfl rfl (v := (Int32.ofNat 4)) rfl d_Picture_hasQuantisers_9 ?_
    refine J_icmp_ge X 27 d_Picture_hasQuantisers_10 (by decide) (fun c10 => ?_) (fun c10 => ?_)
    · rw [if_pos c10] at h
      refine J_lv [] [] rfl ?_
      exact L27  t h
    · rw [if_neg c10] at h
      refine J_aload_n X d_Picture_hasQuantisers_13 0 rfl rfl ?_
      refine J_get (v := .ref (a 9)) X (fun w h => mm (in_Picture w h)) 3 rfl rfl 4 (by decide) (mm k_fl_Picture_25) rfl rfl d_Picture_hasQuantisers_14 ?_
      refine J_iload_n X d_Picture_hasQuantisers_17 1 rfl rfl ?_
      obtain ⟨b18, h⟩ := j_ifn h
      refine J_iald (f := (t.2.1 4)) X 9 0 rfl rfl b18 d_Picture_hasQuantisers_18 ?_
      refine J_iconst (v := (-1 : Int32)) X d_Picture_hasQuantisers_19 (by decide) ?_
      refine J_icmp_eq X 27 d_Picture_hasQuantisers_20 (by decide) (fun c20 => ?_) (fun c20 => ?_)
      · rw [if_pos c20] at h
        refine J_lv [] [] rfl ?_
        exact L27  t h
      · rw [if_neg c20] at h
        refine J_iconst (v := (1 : Int32)) X d_Picture_hasQuantisers_23 (by decide) ?_
        refine J_goto X 28 d_Picture_hasQuantisers_24 (by decide) ?_
        exact J_zret X hr hlk () rfl (Nat.le_of_ble_eq_true rfl) (Nat.le_of_ble_eq_true rfl) (j_r1 h) (congrArg (fun q => wO cI cB cJ cZ a q) (j_r2 h)) d_Picture_hasQuantisers_28
set_option maxHeartbeats 4000000 in
set_option maxRecDepth 100000 in
theorem ct_Picture_placeOfWords (l : Launch) (dC : Nat → ClassId) (dI : Nat → Nat → Nat) (cI cB cJ cZ : ClassId) (a : Nat → Nat) (n : Nat) (x1 : Int32) (t : St) {z : Int32 × St} (h : m_Picture_placeOfWords n x1 t = some z) : jMi l y_Picture_placeOfWords w_Picture_placeOfWords ({ frames := 1, cells := 0, slots := 0, locals := 21 }) (dC, dI) vwCl (tyA cI cB cJ cZ) [.ref (a 3), .int x1] (wO cI cB cJ cZ a t) z.1 (fun _ : Unit => wO cI cB cJ cZ a z.2) := by
  refine jMi.of (cc := c_Picture_placeOfWords) (maxL := 3) (ret := (some .int)) (by decide) rfl (Nat.le_of_ble_eq_true rfl) ?_
  intro p e s m args below meth c A X hr hlk hnm
  have L28 : ∀  (t : St), m_Picture_placeOfWords_28 n   t = some z → J p l e { frames := 1, cells := 0, slots := 0, locals := 21 } s m args below meth c 3 (dC, dI) vwCl A (MQ below (jQi (dC, dI) vwCl (tyA cI cB cJ cZ) z.1 (fun _ : Unit => wO cI cB cJ cZ a z.2) A) args s 0 0 A) 0 0 28 [] [] (wO cI cB cJ cZ a t) := by
    intro  t h
    unfold m_Picture_placeOfWords_28 at h
    refine J_iconst (v := (-1 : Int32)) X d_Picture_placeOfWords_28 (by decide) ?_
    exact J_iret X hr hlk () (Nat.le_of_ble_eq_true rfl) (Nat.le_of_ble_eq_true rfl) (j_r1 h) (congrArg (fun q => wO cI cB cJ cZ a q) (j_r2 h)) d_Picture_placeOfWords_29
  refine J_lv [0, 1] [(0, .ref (a 3)), (1, .int x1)] rfl ?_
  unfold m_Picture_placeOfWords at h
  refine J_aload_n X d_Picture_placeOfWords_0 0 rfl rfl ?_
  refine J_iload_n X d_Picture_placeOfWords_1 1 rfl rfl ?_
  obtain ⟨z2, hz2, h⟩ := j_bind h
  refine J_callVi0 (n := 1) (wc := (wO cI cB cJ cZ a t)) (r := z2.1) (w1 := fun _ : Unit => wO cI cB cJ cZ a z2.2) X isO (hCO cI cB cJ cZ a t) (hDO cI cB cJ cZ a t) rfl [.int x1] [] (ct_Picture_rowOfWords l dC dI cI cB cJ cZ a n x1 t hz2) (aw_V (fun w h => mm h) k_ml_Picture_113 k_im_Picture_rowOfWords k_se_Picture_rowOfWords k_in_Picture k_cd_Picture_rowOfWords) rfl (by decide +kernel) ⟨(Nat.le_of_ble_eq_true rfl), (Nat.le_of_ble_eq_true rfl)⟩ (q0 := 3) rfl rfl rfl rfl (Nat.le_of_ble_eq_true rfl) d_Picture_placeOfWords_2 ⟨(Nat.le_of_ble_eq_true rfl), (Nat.le_of_ble_eq_true rfl)⟩ (fun _ => ?_)
  refine J_istore_n X [(2, .int z2.1), (0, .ref (a 3)), (1, .int x1)] d_Picture_placeOfWords_5 rfl (by decide) rfl ?_
  refine J_iload_n X d_Picture_placeOfWords_6 0 rfl rfl ?_
  refine J_if_lt X 28 d_Picture_placeOfWords_7 (by decide) (fun c7 => ?_) (fun c7 => ?_)
  · rw [if_pos c7] at h
    refine J_lv [] [] rfl ?_
    exact L28  z2.2 h
  · rw [if_neg c7] at h
    refine J_iload_n X d_Picture_placeOfWords_10 0 rfl rfl ?_
    refine J_aload_n X d_Picture_placeOfWords_11 1 rfl rfl ?_
    refine J_get (v := .ref (a 10)) X (fun w h => mm (in_Picture w h)) 3 rfl rfl 5 (by decide) (mm k_fl_Picture_28) rfl rfl d_Picture_placeOfWords_12 ?_
    refine J_alen X 10 0 rfl rfl (v := (Int32.ofNat 8)) rfl d_Picture_placeOfWords_15 ?_
    refine J_icmp_ge X 28 d_Picture_placeOfWords_16 (by decide) (fun c16 => ?_) (fun c16 => ?_)
    · rw [if_pos c16] at h
      refine J_lv [] [] rfl ?_
      exact L28  z2.2 h
    · rw [if_neg c16] at h
      refine J_aload_n X d_Picture_placeOfWords_19 1 rfl rfl ?_
      refine J_get (v := .ref (a 10)) X (fun w h => mm (in_Picture w h)) 3 rfl rfl 5 (by decide) (mm k_fl_Picture_28) rfl rfl d_Picture_placeOfWords_20 ?_
      refine J_iload_n X d_Picture_placeOfWords_23 0 rfl rfl ?_
      obtain ⟨b24, h⟩ := j_ifn h
      refine J_iald (f := (z2.2.2.1 5)) X 10 0 rfl rfl b24 d_Picture_placeOfWords_24 ?_
      refine J_goto X 29 d_Picture_placeOfWords_25 (by decide) ?_
      exact J_iret X hr hlk () (Nat.le_of_ble_eq_true rfl) (Nat.le_of_ble_eq_true rfl) (j_r1 h) (congrArg (fun q => wO cI cB cJ cZ a q) (j_r2 h)) d_Picture_placeOfWords_29
set_option maxHeartbeats 4000000 in
set_option maxRecDepth 100000 in
theorem ct_Parser_checkTables (l : Launch) (dC : Nat → ClassId) (dI : Nat → Nat → Nat) (cI cB cJ cZ : ClassId) (a : Nat → Nat) (n : Nat)  (t : St) {z : St} (h : m_Parser_checkTables n t = some z) : jMv l y_Parser_checkTables w_Parser_checkTables ({ frames := 2, cells := 0, slots := 0, locals := 43 }) (dC, dI) vwCl (tyA cI cB cJ cZ) [.ref (a 11)] (wO cI cB cJ cZ a t) (fun _ : Unit => wO cI cB cJ cZ a z) := by
  refine jMv.of (cc := c_Parser_checkTables) (maxL := 5) (ret := none) (by decide) rfl (Nat.le_of_ble_eq_true rfl) ?_
  intro p e s m args below meth c A X hr hlk hnm
  have L168 : ∀ (K2 : Int32 → St → Option (St)) (hK2 : ∀ (x1 : Int32) (t : St), K2 x1 t = some z → J p l e { frames := 2, cells := 0, slots := 0, locals := 43 } s m args below meth c 5 (dC, dI) vwCl A (MQ below (jQv (dC, dI) vwCl (tyA cI cB cJ cZ) (fun _ : Unit => wO cI cB cJ cZ a z) A) args s 0 0 A) 0 0 2 [(0, .ref (a 11)), (1, .int x1)] [] (wO cI cB cJ cZ a t)) (x1 : Int32) (t : St), m_Parser_checkTables_168 n K2 x1 t = some z → J p l e { frames := 2, cells := 0, slots := 0, locals := 43 } s m args below meth c 5 (dC, dI) vwCl A (MQ below (jQv (dC, dI) vwCl (tyA cI cB cJ cZ) (fun _ : Unit => wO cI cB cJ cZ a z) A) args s 0 0 A) 0 0 168 [(0, .ref (a 11)), (1, .int x1)] [] (wO cI cB cJ cZ a t) := by
    intro K2 hK2 x1 t h
    unfold m_Parser_checkTables_168 at h
    refine J_iinc (v := (x1 + 1)) X [(1, .int (x1 + 1)), (0, .ref (a 11))] d_Parser_checkTables_168 1 rfl rfl (by decide) rfl ?_
    refine J_goto X 2 d_Parser_checkTables_171 (by decide) ?_
    refine J_lv [1, 0] [(0, .ref (a 11)), (1, .int (x1 + 1))] rfl ?_
    exact hK2 (x1 + 1) t h
  have L130 : ∀ (K2 : Int32 → St → Option (St)) (hK2 : ∀ (x1 : Int32) (t : St), K2 x1 t = some z → J p l e { frames := 2, cells := 0, slots := 0, locals := 43 } s m args below meth c 5 (dC, dI) vwCl A (MQ below (jQv (dC, dI) vwCl (tyA cI cB cJ cZ) (fun _ : Unit => wO cI cB cJ cZ a z) A) args s 0 0 A) 0 0 2 [(0, .ref (a 11)), (1, .int x1)] [] (wO cI cB cJ cZ a t)) (x1 : Int32) (x2 : Int32) (x3 : Int32) (t : St), m_Parser_checkTables_130 n K2 x1 x2 x3 t = some z → J p l e { frames := 2, cells := 0, slots := 0, locals := 43 } s m args below meth c 5 (dC, dI) vwCl A (MQ below (jQv (dC, dI) vwCl (tyA cI cB cJ cZ) (fun _ : Unit => wO cI cB cJ cZ a z) A) args s 0 0 A) 0 0 130 [(0, .ref (a 11)), (1, .int x1), (2, .int x2), (3, .int x3)] [] (wO cI cB cJ cZ a t) := by
    intro K2 hK2 x1 x2 x3 t h
    unfold m_Parser_checkTables_130 at h
    refine J_aload_n X d_Parser_checkTables_130 0 rfl rfl ?_
    refine J_get (v := .ref (a 12)) X (fun w h => mm (in_Parser w h)) 11 rfl rfl 2 (by decide) (mm k_fl_Parser_12) rfl rfl d_Parser_checkTables_131 ?_
    refine J_getN (v := .int (t.1 18)) X (fun w h => mm (in_Scan w h)) 12 rfl rfl 3 (by decide) k_fln_Parser_196 rfl rfl d_Parser_checkTables_134 ?_
    refine J_if_le X 168 d_Parser_checkTables_137 (by decide) (fun c137 => ?_) (fun c137 => ?_)
    · rw [if_pos c137] at h
      refine J_lv [0, 1] [(0, .ref (a 11)), (1, .int x1)] rfl ?_
      exact L168 K2 hK2 x1 t h
    · rw [if_neg c137] at h
      refine J_aload_n X d_Parser_checkTables_140 0 rfl rfl ?_
      refine J_get (v := .ref (a 3)) X (fun w h => mm (in_Parser w h)) 11 rfl rfl 1 (by decide) (mm k_fl_Parser_50) rfl rfl d_Parser_checkTables_141 ?_
      refine J_bipush (v := (16 : Int32)) X d_Parser_checkTables_144 (by decide) ?_
      refine J_iload_n X d_Parser_checkTables_146 3 rfl rfl ?_
      refine J_bipush (v := (15 : Int32)) X d_Parser_checkTables_147 (by decide) ?_
      refine J_iand X d_Parser_checkTables_149 ?_
      refine J_iadd X d_Parser_checkTables_150 ?_
      obtain ⟨z151, hz151, h⟩ := j_bind h
      refine J_callVi0 (n := 1) (wc := (wO cI cB cJ cZ a t)) (r := z151.1) (w1 := fun _ : Unit => wO cI cB cJ cZ a z151.2) X isO (hCO cI cB cJ cZ a t) (hDO cI cB cJ cZ a t) rfl [.int ((16 : Int32) + (x3 &&& (15 : Int32)))] [] (ct_Picture_placeOfWords l dC dI cI cB cJ cZ a n ((16 : Int32) + (x3 &&& (15 : Int32))) t hz151) (aw_V (fun w h => mm h) k_ml_Parser_232 k_im_Picture_placeOfWords k_se_Picture_placeOfWords k_in_Picture k_cd_Picture_placeOfWords) rfl (by decide +kernel) ⟨(Nat.le_of_ble_eq_true rfl), (Nat.le_of_ble_eq_true rfl)⟩ (q0 := 3) rfl rfl rfl rfl (Nat.le_of_ble_eq_true rfl) d_Parser_checkTables_151 ⟨(Nat.le_of_ble_eq_true rfl), (Nat.le_of_ble_eq_true rfl)⟩ (fun _ => ?_)
      refine J_iconst (v := (-1 : Int32)) X d_Parser_checkTables_154 (by decide) ?_
      refine J_icmp_ne X 168 d_Parser_checkTables_155 (by decide) (fun c155 => ?_) (fun c155 => ?_)
      · rw [if_neg c155] at h
        refine J_lv [0, 1] [(0, .ref (a 11)), (1, .int x1)] rfl ?_
        exact L168 K2 hK2 x1 z151.2 h
      · rw [if_pos c155] at h
        refine J_aload_n X d_Parser_checkTables_158 0 rfl rfl ?_
        refine J_bipush (v := (8 : Int32)) X d_Parser_checkTables_159 (by decide) ?_
        refine J_iload_n X d_Parser_checkTables_161 2 rfl rfl ?_
        refine J_iconst (v := (1 : Int32)) X d_Parser_checkTables_162 (by decide) ?_
        refine J_iadd X d_Parser_checkTables_163 ?_
        obtain ⟨z164, hz164, h⟩ := j_bind h
        refine J_callVi0 (n := 2) (wc := (wO cI cB cJ cZ a z151.2)) (r := z164.1) (w1 := fun _ : Unit => wO cI cB cJ cZ a z164.2) X isO (hCO cI cB cJ cZ a z151.2) (hDO cI cB cJ cZ a z151.2) rfl [.int (8 : Int32), .int (x2 + (1 : Int32))] [] (ct_Parser_fail l dC dI cI cB cJ cZ a n (8 : Int32) (x2 + (1 : Int32)) z151.2 hz164) (aw_V (fun w h => mm h) k_ml_Parser_77 k_im_Parser_fail k_se_Parser_fail k_in_Parser k_cd_Parser_fail) rfl (by decide +kernel) ⟨(Nat.le_of_ble_eq_true rfl), (Nat.le_of_ble_eq_true rfl)⟩ (q0 := 11) rfl rfl rfl rfl (Nat.le_of_ble_eq_true rfl) d_Parser_checkTables_164 ⟨(Nat.le_of_ble_eq_true rfl), (Nat.le_of_ble_eq_true rfl)⟩ (fun _ => ?_)
        refine J_pop X d_Parser_checkTables_167 rfl ?_
        refine J_lv [0, 1] [(0, .ref (a 11)), (1, .int x1)] rfl ?_
        exact L168 K2 hK2 x1 z164.2 h
  have L99 : ∀ (K2 : Int32 → St → Option (St)) (hK2 : ∀ (x1 : Int32) (t : St), K2 x1 t = some z → J p l e { frames := 2, cells := 0, slots := 0, locals := 43 } s m args below meth c 5 (dC, dI) vwCl A (MQ below (jQv (dC, dI) vwCl (tyA cI cB cJ cZ) (fun _ : Unit => wO cI cB cJ cZ a z) A) args s 0 0 A) 0 0 2 [(0, .ref (a 11)), (1, .int x1)] [] (wO cI cB cJ cZ a t)) (x1 : Int32) (x2 : Int32) (x3 : Int32) (y0 : Int32) (t : St), m_Parser_checkTables_99 n K2 x1 x2 x3 y0 t = some z → J p l e { frames := 2, cells := 0, slots := 0, locals := 43 } s m args below meth c 5 (dC, dI) vwCl A (MQ below (jQv (dC, dI) vwCl (tyA cI cB cJ cZ) (fun _ : Unit => wO cI cB cJ cZ a z) A) args s 0 0 A) 0 0 99 [(0, .ref (a 11)), (1, .int x1), (2, .int x2), (3, .int x3)] [.int y0] (wO cI cB cJ cZ a t) := by
    intro K2 hK2 x1 x2 x3 y0 t h
    unfold m_Parser_checkTables_99 at h
    refine J_istore X [(4, .int y0), (0, .ref (a 11)), (1, .int x1), (2, .int x2), (3, .int x3)] d_Parser_checkTables_99 (by decide) rfl ?_
    refine J_iload X d_Parser_checkTables_101 0 rfl ?_
    refine J_if_eq X 130 d_Parser_checkTables_103 (by decide) (fun c103 => ?_) (fun c103 => ?_)
    · rw [if_pos c103] at h
      refine J_lv [1, 2, 3, 4] [(0, .ref (a 11)), (1, .int x1), (2, .int x2), (3, .int x3)] rfl ?_
      exact L130 K2 hK2 x1 x2 x3 t h
    · rw [if_neg c103] at h
      refine J_aload_n X d_Parser_checkTables_106 1 rfl rfl ?_
      refine J_get (v := .ref (a 3)) X (fun w h => mm (in_Parser w h)) 11 rfl rfl 1 (by decide) (mm k_fl_Parser_50) rfl rfl d_Parser_checkTables_107 ?_
      refine J_iload_n X d_Parser_checkTables_110 4 rfl rfl ?_
      refine J_iconst (v := (4 : Int32)) X d_Parser_checkTables_111 (by decide) ?_
      refine J_ishr X d_Parser_checkTables_112 ?_
      obtain ⟨z113, hz113, h⟩ := j_bind h
      refine J_callVi0 (n := 1) (wc := (wO cI cB cJ cZ a t)) (r := z113.1) (w1 := fun _ : Unit => wO cI cB cJ cZ a z113.2) X isO (hCO cI cB cJ cZ a t) (hDO cI cB cJ cZ a t) rfl [.int (x3 >>> ((4 : Int32) &&& 31))] [] (ct_Picture_placeOfWords l dC dI cI cB cJ cZ a n (x3 >>> ((4 : Int32) &&& 31)) t hz113) (aw_V (fun w h => mm h) k_ml_Parser_232 k_im_Picture_placeOfWords k_se_Picture_placeOfWords k_in_Picture k_cd_Picture_placeOfWords) rfl (by decide +kernel) ⟨(Nat.le_of_ble_eq_true rfl), (Nat.le_of_ble_eq_true rfl)⟩ (q0 := 3) rfl rfl rfl rfl (Nat.le_of_ble_eq_true rfl) d_Parser_checkTables_113 ⟨(Nat.le_of_ble_eq_true rfl), (Nat.le_of_ble_eq_true rfl)⟩ (fun _ => ?_)
      refine J_iconst (v := (-1 : Int32)) X d_Parser_checkTables_116 (by decide) ?_
      refine J_icmp_ne X 130 d_Parser_checkTables_117 (by decide) (fun c117 => ?_) (fun c117 => ?_)
      · rw [if_neg c117] at h
        refine J_lv [1, 2, 3, 4] [(0, .ref (a 11)), (1, .int x1), (2, .int x2), (3, .int x3)] rfl ?_
        exact L130 K2 hK2 x1 x2 x3 z113.2 h
      · rw [if_pos c117] at h
        refine J_aload_n X d_Parser_checkTables_120 1 rfl rfl ?_
        refine J_bipush (v := (8 : Int32)) X d_Parser_checkTables_121 (by decide) ?_
        refine J_iload_n X d_Parser_checkTables_123 3 rfl rfl ?_
        refine J_iconst (v := (1 : Int32)) X d_Parser_checkTables_124 (by decide) ?_
        refine J_iadd X d_Parser_checkTables_125 ?_
        obtain ⟨z126, hz126, h⟩ := j_bind h
        refine J_callVi0 (n := 2) (wc := (wO cI cB cJ cZ a z113.2)) (r := z126.1) (w1 := fun _ : Unit => wO cI cB cJ cZ a z126.2) X isO (hCO cI cB cJ cZ a z113.2) (hDO cI cB cJ cZ a z113.2) rfl [.int (8 : Int32), .int (x2 + (1 : Int32))] [] (ct_Parser_fail l dC dI cI cB cJ cZ a n (8 : Int32) (x2 + (1 : Int32)) z113.2 hz126) (aw_V (fun w h => mm h) k_ml_Parser_77 k_im_Parser_fail k_se_Parser_fail k_in_Parser k_cd_Parser_fail) rfl (by decide +kernel) ⟨(Nat.le_of_ble_eq_true rfl), (Nat.le_of_ble_eq_true rfl)⟩ (q0 := 11) rfl rfl rfl rfl (Nat.le_of_ble_eq_true rfl) d_Parser_checkTables_126 ⟨(Nat.le_of_ble_eq_true rfl), (Nat.le_of_ble_eq_true rfl)⟩ (fun _ => ?_)
        refine J_pop X d_Parser_checkTables_129 rfl ?_
        refine J_lv [1, 2, 3, 4] [(0, .ref (a 11)), (1, .int x1), (2, .int x2), (3, .int x3)] rfl ?_
        exact L130 K2 hK2 x1 x2 x3 z126.2 h
  have L98 : ∀ (K2 : Int32 → St → Option (St)) (hK2 : ∀ (x1 : Int32) (t : St), K2 x1 t = some z → J p l e { frames := 2, cells := 0, slots := 0, locals := 43 } s m args below meth c 5 (dC, dI) vwCl A (MQ below (jQv (dC, dI) vwCl (tyA cI cB cJ cZ) (fun _ : Unit => wO cI cB cJ cZ a z) A) args s 0 0 A) 0 0 2 [(0, .ref (a 11)), (1, .int x1)] [] (wO cI cB cJ cZ a t)) (x1 : Int32) (x2 : Int32) (x3 : Int32) (t : St), m_Parser_checkTables_98 n K2 x1 x2 x3 t = some z → J p l e { frames := 2, cells := 0, slots := 0, locals := 43 } s m args below meth c 5 (dC, dI) vwCl A (MQ below (jQv (dC, dI) vwCl (tyA cI cB cJ cZ) (fun _ : Unit => wO cI cB cJ cZ a z) A) args s 0 0 A) 0 0 98 [(0, .ref (a 11)), (1, .int x1), (2, .int x2), (3, .int x3)] [] (wO cI cB cJ cZ a t) := by
    intro K2 hK2 x1 x2 x3 t h
    unfold m_Parser_checkTables_98 at h
    refine J_iconst (v := (0 : Int32)) X d_Parser_checkTables_98 (by decide) ?_
    refine J_lv [0, 1, 2, 3] [(0, .ref (a 11)), (1, .int x1), (2, .int x2), (3, .int x3)] rfl ?_
    exact L99 K2 hK2 x1 x2 x3 (0 : Int32) t h
  have L74 : ∀ (K2 : Int32 → St → Option (St)) (hK2 : ∀ (x1 : Int32) (t : St), K2 x1 t = some z → J p l e { frames := 2, cells := 0, slots := 0, locals := 43 } s m args below meth c 5 (dC, dI) vwCl A (MQ below (jQv (dC, dI) vwCl (tyA cI cB cJ cZ) (fun _ : Unit => wO cI cB cJ cZ a z) A) args s 0 0 A) 0 0 2 [(0, .ref (a 11)), (1, .int x1)] [] (wO cI cB cJ cZ a t)) (x1 : Int32) (x2 : Int32) (x3 : Int32) (t : St), m_Parser_checkTables_74 n K2 x1 x2 x3 t = some z → J p l e { frames := 2, cells := 0, slots := 0, locals := 43 } s m args below meth c 5 (dC, dI) vwCl A (MQ below (jQv (dC, dI) vwCl (tyA cI cB cJ cZ) (fun _ : Unit => wO cI cB cJ cZ a z) A) args s 0 0 A) 0 0 74 [(0, .ref (a 11)), (1, .int x1), (2, .int x2), (3, .int x3)] [] (wO cI cB cJ cZ a t) := by
    intro K2 hK2 x1 x2 x3 t h
    unfold m_Parser_checkTables_74 at h
    refine J_aload_n X d_Parser_checkTables_74 0 rfl rfl ?_
    refine J_get (v := .ref (a 12)) X (fun w h => mm (in_Parser w h)) 11 rfl rfl 2 (by decide) (mm k_fl_Parser_12) rfl rfl d_Parser_checkTables_75 ?_
    refine J_getN (v := .int (t.1 17)) X (fun w h => mm (in_Scan w h)) 12 rfl rfl 2 (by decide) k_fln_Parser_193 rfl rfl d_Parser_checkTables_78 ?_
    refine J_if_ne X 98 d_Parser_checkTables_81 (by decide) (fun c81 => ?_) (fun c81 => ?_)
    · rw [if_neg c81] at h
      refine J_lv [0, 1, 2, 3] [(0, .ref (a 11)), (1, .int x1), (2, .int x2), (3, .int x3)] rfl ?_
      exact L98 K2 hK2 x1 x2 x3 t h
    · rw [if_pos c81] at h
      refine J_aload_n X d_Parser_checkTables_84 0 rfl rfl ?_
      refine J_get (v := .ref (a 12)) X (fun w h => mm (in_Parser w h)) 11 rfl rfl 2 (by decide) (mm k_fl_Parser_12) rfl rfl d_Parser_checkTables_85 ?_
      refine J_getN (v := .int (t.1 19)) X (fun w h => mm (in_Scan w h)) 12 rfl rfl 4 (by decide) k_fln_Parser_217 rfl rfl d_Parser_checkTables_88 ?_
      refine J_if_ne X 98 d_Parser_checkTables_91 (by decide) (fun c91 => ?_) (fun c91 => ?_)
      · rw [if_neg c91] at h
        refine J_lv [0, 1, 2, 3] [(0, .ref (a 11)), (1, .int x1), (2, .int x2), (3, .int x3)] rfl ?_
        exact L98 K2 hK2 x1 x2 x3 t h
      · rw [if_pos c91] at h
        refine J_iconst (v := (1 : Int32)) X d_Parser_checkTables_94 (by decide) ?_
        refine J_goto X 99 d_Parser_checkTables_95 (by decide) ?_
        refine J_lv [0, 1, 2, 3] [(0, .ref (a 11)), (1, .int x1), (2, .int x2), (3, .int x3)] rfl ?_
        exact L99 K2 hK2 x1 x2 x3 (1 : Int32) t h
  have L2 : ∀ (k : Nat) (x1 : Int32) (t : St), m_Parser_checkTables_2 n  k x1 t = some z → J p l e { frames := 2, cells := 0, slots := 0, locals := 43 } s m args below meth c 5 (dC, dI) vwCl A (MQ below (jQv (dC, dI) vwCl (tyA cI cB cJ cZ) (fun _ : Unit => wO cI cB cJ cZ a z) A) args s 0 0 A) 0 0 2 [(0, .ref (a 11)), (1, .int x1)] [] (wO cI cB cJ cZ a t) := by
    intro k
    induction k with
    | zero => intro x1 t h; exact absurd (show none = some z from h) (by simp)
    | succ k ih =>
      intro x1 t h
      change m_Parser_checkTables_2b n  (m_Parser_checkTables_2 n  k) x1 t = some z at h
      unfold m_Parser_checkTables_2b at h
      refine J_iload_n X d_Parser_checkTables_2 1 rfl rfl ?_
      refine J_aload_n X d_Parser_checkTables_3 0 rfl rfl ?_
      refine J_get (v := .ref (a 12)) X (fun w h => mm (in_Parser w h)) 11 rfl rfl 2 (by decide) (mm k_fl_Parser_12) rfl rfl d_Parser_checkTables_4 ?_
      refine J_getN (v := .int (t.1 16)) X (fun w h => mm (in_Scan w h)) 12 rfl rfl 1 (by decide) k_fln_Parser_187 rfl rfl d_Parser_checkTables_7 ?_
      refine J_icmp_ge X 174 d_Parser_checkTables_10 (by decide) (fun c10 => ?_) (fun c10 => ?_)
      · rw [if_pos c10] at h
        exact J_vret X hr hlk () (Nat.le_of_ble_eq_true rfl) (Nat.le_of_ble_eq_true rfl) (congrArg (fun q => wO cI cB cJ cZ a q) (j_s h)) d_Parser_checkTables_174
      · rw [if_neg c10] at h
        refine J_aload_n X d_Parser_checkTables_13 0 rfl rfl ?_
        refine J_get (v := .int (t.1 13)) X (fun w h => mm (in_Parser w h)) 11 rfl rfl 9 (by decide) (mm k_fl_Parser_40) rfl rfl d_Parser_checkTables_14 ?_
        refine J_if_ne X 174 d_Parser_checkTables_17 (by decide) (fun c17 => ?_) (fun c17 => ?_)
        · rw [if_neg c17] at h
          exact J_vret X hr hlk () (Nat.le_of_ble_eq_true rfl) (Nat.le_of_ble_eq_true rfl) (congrArg (fun q => wO cI cB cJ cZ a q) (j_s h)) d_Parser_checkTables_174
        · rw [if_pos c17] at h
          refine J_aload_n X d_Parser_checkTables_20 0 rfl rfl ?_
          refine J_get (v := .ref (a 12)) X (fun w h => mm (in_Parser w h)) 11 rfl rfl 2 (by decide) (mm k_fl_Parser_12) rfl rfl d_Parser_checkTables_21 ?_
          refine J_iload_n X d_Parser_checkTables_24 1 rfl rfl ?_
          obtain ⟨z25, hz25, h⟩ := j_bind h
          refine J_callVi0 (n := 1) (wc := (wO cI cB cJ cZ a t)) (r := z25.1) (w1 := fun _ : Unit => wO cI cB cJ cZ a z25.2) X isO (hCO cI cB cJ cZ a t) (hDO cI cB cJ cZ a t) rfl [.int x1] [] (ct_Scan_nameAt l dC dI cI cB cJ cZ a n x1 t hz25) (aw_V (fun w h => mm h) k_ml_Parser_226 k_im_Scan_nameAt k_se_Scan_nameAt k_in_Scan k_cd_Scan_nameAt) rfl (by decide +kernel) ⟨(Nat.le_of_ble_eq_true rfl), (Nat.le_of_ble_eq_true rfl)⟩ (q0 := 12) rfl rfl rfl rfl (Nat.le_of_ble_eq_true rfl) d_Parser_checkTables_25 ⟨(Nat.le_of_ble_eq_true rfl), (Nat.le_of_ble_eq_true rfl)⟩ (fun _ => ?_)
          refine J_istore_n X [(2, .int z25.1), (0, .ref (a 11)), (1, .int x1)] d_Parser_checkTables_28 rfl (by decide) rfl ?_
          refine J_aload_n X d_Parser_checkTables_29 1 rfl rfl ?_
          refine J_get (v := .ref (a 1)) X (fun w h => mm (in_Parser w h)) 11 rfl rfl 0 (by decide) (mm k_fl_Parser_46) rfl rfl d_Parser_checkTables_30 ?_
          refine J_iload_n X d_Parser_checkTables_33 0 rfl rfl ?_
          refine J_iconst (v := (1 : Int32)) X d_Parser_checkTables_34 (by decide) ?_
          refine J_iadd X d_Parser_checkTables_35 ?_
          obtain ⟨z36, hz36, h⟩ := j_bind h
          refine J_callVi0 (n := 1) (wc := (wO cI cB cJ cZ a z25.2)) (r := z36.1) (w1 := fun _ : Unit => wO cI cB cJ cZ a z36.2) X isO (hCO cI cB cJ cZ a z25.2) (hDO cI cB cJ cZ a z25.2) rfl [.int (z25.1 + (1 : Int32))] [] (ct_Bytes_at l dC dI cI cB cJ cZ a n (z25.1 + (1 : Int32)) z25.2 hz36) (aw_V (fun w h => mm h) k_ml_Parser_73 k_im_Bytes_at k_se_Bytes_at k_in_Bytes k_cd_Bytes_at) rfl (by decide +kernel) ⟨(Nat.le_of_ble_eq_true rfl), (Nat.le_of_ble_eq_true rfl)⟩ (q0 := 1) rfl rfl rfl rfl (Nat.le_of_ble_eq_true rfl) d_Parser_checkTables_36 ⟨(Nat.le_of_ble_eq_true rfl), (Nat.le_of_ble_eq_true rfl)⟩ (fun _ => ?_)
          refine J_istore_n X [(3, .int z36.1), (2, .int z25.1), (0, .ref (a 11)), (1, .int x1)] d_Parser_checkTables_39 rfl (by decide) rfl ?_
          refine J_aload_n X d_Parser_checkTables_40 2 rfl rfl ?_
          refine J_get (v := .ref (a 3)) X (fun w h => mm (in_Parser w h)) 11 rfl rfl 1 (by decide) (mm k_fl_Parser_50) rfl rfl d_Parser_checkTables_41 ?_
          refine J_aload_n X d_Parser_checkTables_44 2 rfl rfl ?_
          refine J_get (v := .ref (a 3)) X (fun w h => mm (in_Parser w h)) 11 rfl rfl 1 (by decide) (mm k_fl_Parser_50) rfl rfl d_Parser_checkTables_45 ?_
          refine J_aload_n X d_Parser_checkTables_48 2 rfl rfl ?_
          refine J_get (v := .ref (a 12)) X (fun w h => mm (in_Parser w h)) 11 rfl rfl 2 (by decide) (mm k_fl_Parser_12) rfl rfl d_Parser_checkTables_49 ?_
          refine J_iload_n X d_Parser_checkTables_52 3 rfl rfl ?_
          obtain ⟨z53, hz53, h⟩ := j_bind h
          refine J_callVi0 (n := 1) (wc := (wO cI cB cJ cZ a z36.2)) (r := z53.1) (w1 := fun _ : Unit => wO cI cB cJ cZ a z53.2) X isO (hCO cI cB cJ cZ a z36.2) (hDO cI cB cJ cZ a z36.2) rfl [.int x1] [.ref (a 3), .ref (a 3)] (ct_Scan_placeAt l dC dI cI cB cJ cZ a n x1 z36.2 hz53) (aw_V (fun w h => mm h) k_ml_Parser_223 k_im_Scan_placeAt k_se_Scan_placeAt k_in_Scan k_cd_Scan_placeAt) rfl (by decide +kernel) ⟨(Nat.le_of_ble_eq_true rfl), (Nat.le_of_ble_eq_true rfl)⟩ (q0 := 12) rfl rfl rfl rfl (Nat.le_of_ble_eq_true rfl) d_Parser_checkTables_53 ⟨(Nat.le_of_ble_eq_true rfl), (Nat.le_of_ble_eq_true rfl)⟩ (fun _ => ?_)
          refine J_iconst (v := (3 : Int32)) X d_Parser_checkTables_56 (by decide) ?_
          obtain ⟨z57, hz57, h⟩ := j_bind h
          refine J_callVi0 (n := 2) (wc := (wO cI cB cJ cZ a z53.2)) (r := z57.1) (w1 := fun _ : Unit => wO cI cB cJ cZ a z57.2) X isO (hCO cI cB cJ cZ a z53.2) (hDO cI cB cJ cZ a z53.2) rfl [.int z53.1, .int (3 : Int32)] [.ref (a 3)] (ct_Picture_ofComponent l dC dI cI cB cJ cZ a n z53.1 (3 : Int32) z53.2 hz57) (aw_V (fun w h => mm h) k_ml_Parser_211 k_im_Picture_ofComponent k_se_Picture_ofComponent k_in_Picture k_cd_Picture_ofComponent) rfl (by decide +kernel) ⟨(Nat.le_of_ble_eq_true rfl), (Nat.le_of_ble_eq_true rfl)⟩ (q0 := 3) rfl rfl rfl rfl (Nat.le_of_ble_eq_true rfl) d_Parser_checkTables_57 ⟨(Nat.le_of_ble_eq_true rfl), (Nat.le_of_ble_eq_true rfl)⟩ (fun _ => ?_)
          obtain ⟨z60, hz60, h⟩ := j_bind h
          refine J_callVi0 (n := 1) (wc := (wO cI cB cJ cZ a z57.2)) (r := z60.1) (w1 := fun _ : Unit => wO cI cB cJ cZ a z60.2) X isO (hCO cI cB cJ cZ a z57.2) (hDO cI cB cJ cZ a z57.2) rfl [.int z57.1] [] (ct_Picture_hasQuantisers l dC dI cI cB cJ cZ a n z57.1 z57.2 hz60) (aw_V (fun w h => mm h) k_ml_Parser_229 k_im_Picture_hasQuantisers k_se_Picture_hasQuantisers k_in_Picture k_cd_Picture_hasQuantisers) rfl (by decide +kernel) ⟨(Nat.le_of_ble_eq_true rfl), (Nat.le_of_ble_eq_true rfl)⟩ (q0 := 3) rfl rfl rfl rfl (Nat.le_of_ble_eq_true rfl) d_Parser_checkTables_60 ⟨(Nat.le_of_ble_eq_true rfl), (Nat.le_of_ble_eq_true rfl)⟩ (fun _ => ?_)
          refine J_if_ne X 74 d_Parser_checkTables_63 (by decide) (fun c63 => ?_) (fun c63 => ?_)
          · rw [if_neg c63] at h
            refine J_lv [2, 3, 1, 0] [(0, .ref (a 11)), (1, .int x1), (2, .int z25.1), (3, .int z36.1)] rfl ?_
            exact L74 (m_Parser_checkTables_2 n  k) ih x1 z25.1 z36.1 z60.2 h
          · rw [if_pos c63] at h
            refine J_aload_n X d_Parser_checkTables_66 2 rfl rfl ?_
            refine J_bipush (v := (8 : Int32)) X d_Parser_checkTables_67 (by decide) ?_
            refine J_iload_n X d_Parser_checkTables_69 1 rfl rfl ?_
            obtain ⟨z70, hz70, h⟩ := j_bind h
            refine J_callVi0 (n := 2) (wc := (wO cI cB cJ cZ a z60.2)) (r := z70.1) (w1 := fun _ : Unit => wO cI cB cJ cZ a z70.2) X isO (hCO cI cB cJ cZ a z60.2) (hDO cI cB cJ cZ a z60.2) rfl [.int (8 : Int32), .int z25.1] [] (ct_Parser_fail l dC dI cI cB cJ cZ a n (8 : Int32) z25.1 z60.2 hz70) (aw_V (fun w h => mm h) k_ml_Parser_77 k_im_Parser_fail k_se_Parser_fail k_in_Parser k_cd_Parser_fail) rfl (by decide +kernel) ⟨(Nat.le_of_ble_eq_true rfl), (Nat.le_of_ble_eq_true rfl)⟩ (q0 := 11) rfl rfl rfl rfl (Nat.le_of_ble_eq_true rfl) d_Parser_checkTables_70 ⟨(Nat.le_of_ble_eq_true rfl), (Nat.le_of_ble_eq_true rfl)⟩ (fun _ => ?_)
            refine J_pop X d_Parser_checkTables_73 rfl ?_
            refine J_lv [2, 3, 1, 0] [(0, .ref (a 11)), (1, .int x1), (2, .int z25.1), (3, .int z36.1)] rfl ?_
            exact L74 (m_Parser_checkTables_2 n  k) ih x1 z25.1 z36.1 z70.2 h
  refine J_lv [0] [(0, .ref (a 11))] rfl ?_
  unfold m_Parser_checkTables at h
  refine J_iconst (v := (0 : Int32)) X d_Parser_checkTables_0 (by decide) ?_
  refine J_istore_n X [(1, .int (0 : Int32)), (0, .ref (a 11))] d_Parser_checkTables_1 rfl (by decide) rfl ?_
  refine J_lv [1, 0] [(0, .ref (a 11)), (1, .int (0 : Int32))] rfl ?_
  exact L2  n (0 : Int32) t h
set_option maxHeartbeats 4000000 in
set_option maxRecDepth 100000 in
theorem ct_Parser_noteSent (l : Launch) (dC : Nat → ClassId) (dI : Nat → Nat → Nat) (cI cB cJ cZ : ClassId) (a : Nat → Nat) (n : Nat)  (t : St) {z : St} (h : m_Parser_noteSent n t = some z) : jMv l y_Parser_noteSent w_Parser_noteSent ({ frames := 1, cells := 0, slots := 0, locals := 21 }) (dC, dI) vwCl (tyA cI cB cJ cZ) [.ref (a 11)] (wO cI cB cJ cZ a t) (fun _ : Unit => wO cI cB cJ cZ a z) := by
  refine jMv.of (cc := c_Parser_noteSent) (maxL := 5) (ret := none) (by decide) rfl (Nat.le_of_ble_eq_true rfl) ?_
  intro p e s m args below meth c A X hr hlk hnm
  have L85 : ∀ (K2 : Int32 → St → Option (St)) (hK2 : ∀ (x1 : Int32) (t : St), K2 x1 t = some z → J p l e { frames := 1, cells := 0, slots := 0, locals := 21 } s m args below meth c 5 (dC, dI) vwCl A (MQ below (jQv (dC, dI) vwCl (tyA cI cB cJ cZ) (fun _ : Unit => wO cI cB cJ cZ a z) A) args s 0 0 A) 0 0 2 [(0, .ref (a 11)), (1, .int x1)] [] (wO cI cB cJ cZ a t)) (K40 : Int32 → Int32 → Int32 → St → Option (St)) (hK40 : ∀ (x1 : Int32) (x2 : Int32) (x3 : Int32) (t : St), K40 x1 x2 x3 t = some z → J p l e { frames := 1, cells := 0, slots := 0, locals := 21 } s m args below meth c 5 (dC, dI) vwCl A (MQ below (jQv (dC, dI) vwCl (tyA cI cB cJ cZ) (fun _ : Unit => wO cI cB cJ cZ a z) A) args s 0 0 A) 0 0 40 [(0, .ref (a 11)), (1, .int x1), (2, .int x2), (3, .int x3)] [] (wO cI cB cJ cZ a t)) (x1 : Int32) (x2 : Int32) (x3 : Int32) (t : St), m_Parser_noteSent_85 n K2 K40 x1 x2 x3 t = some z → J p l e { frames := 1, cells := 0, slots := 0, locals := 21 } s m args below meth c 5 (dC, dI) vwCl A (MQ below (jQv (dC, dI) vwCl (tyA cI cB cJ cZ) (fun _ : Unit => wO cI cB cJ cZ a z) A) args s 0 0 A) 0 0 85 [(0, .ref (a 11)), (1, .int x1), (2, .int x2), (3, .int x3)] [] (wO cI cB cJ cZ a t) := by
    intro K2 hK2 K40 hK40 x1 x2 x3 t h
    unfold m_Parser_noteSent_85 at h
    refine J_iinc (v := (x3 + 1)) X [(3, .int (x3 + 1)), (0, .ref (a 11)), (1, .int x1), (2, .int x2)] d_Parser_noteSent_85 3 rfl rfl (by decide) rfl ?_
    refine J_goto X 40 d_Parser_noteSent_88 (by decide) ?_
    refine J_lv [1, 2, 3, 0] [(0, .ref (a 11)), (1, .int x1), (2, .int x2), (3, .int (x3 + 1))] rfl ?_
    exact hK40 x1 x2 (x3 + 1) t h
  have L40 : ∀ (K2 : Int32 → St → Option (St)) (hK2 : ∀ (x1 : Int32) (t : St), K2 x1 t = some z → J p l e { frames := 1, cells := 0, slots := 0, locals := 21 } s m args below meth c 5 (dC, dI) vwCl A (MQ below (jQv (dC, dI) vwCl (tyA cI cB cJ cZ) (fun _ : Unit => wO cI cB cJ cZ a z) A) args s 0 0 A) 0 0 2 [(0, .ref (a 11)), (1, .int x1)] [] (wO cI cB cJ cZ a t)) (k : Nat) (x1 : Int32) (x2 : Int32) (x3 : Int32) (t : St), m_Parser_noteSent_40 n K2 k x1 x2 x3 t = some z → J p l e { frames := 1, cells := 0, slots := 0, locals := 21 } s m args below meth c 5 (dC, dI) vwCl A (MQ below (jQv (dC, dI) vwCl (tyA cI cB cJ cZ) (fun _ : Unit => wO cI cB cJ cZ a z) A) args s 0 0 A) 0 0 40 [(0, .ref (a 11)), (1, .int x1), (2, .int x2), (3, .int x3)] [] (wO cI cB cJ cZ a t) := by
    intro K2 hK2 k
    induction k with
    | zero => intro x1 x2 x3 t h; exact absurd (show none = some z from h) (by simp)
    | succ k ih =>
      intro x1 x2 x3 t h
      change m_Parser_noteSent_40b n K2 (m_Parser_noteSent_40 n K2 k) x1 x2 x3 t = some z at h
      unfold m_Parser_noteSent_40b at h
      refine J_iload_n X d_Parser_noteSent_40 3 rfl rfl ?_
      refine J_aload_n X d_Parser_noteSent_41 0 rfl rfl ?_
      refine J_get (v := .ref (a 12)) X (fun w h => mm (in_Parser w h)) 11 rfl rfl 2 (by decide) (mm k_fl_Parser_12) rfl rfl d_Parser_noteSent_42 ?_
      refine J_getN (v := .int (t.1 18)) X (fun w h => mm (in_Scan w h)) 12 rfl rfl 3 (by decide) k_fln_Parser_196 rfl rfl d_Parser_noteSent_45 ?_
      refine J_icmp_gt X 91 d_Parser_noteSent_48 (by decide) (fun c48 => ?_) (fun c48 => ?_)
      · rw [if_pos c48] at h
        refine J_iinc (v := (x1 + 1)) X [(1, .int (x1 + 1)), (0, .ref (a 11)), (2, .int x2), (3, .int x3)] d_Parser_noteSent_91 1 rfl rfl (by decide) rfl ?_
        refine J_goto X 2 d_Parser_noteSent_94 (by decide) ?_
        refine J_lv [1, 0] [(0, .ref (a 11)), (1, .int (x1 + 1))] rfl ?_
        exact hK2 (x1 + 1) t h
      · rw [if_neg c48] at h
        refine J_iload_n X d_Parser_noteSent_51 2 rfl rfl ?_
        refine J_iload_n X d_Parser_noteSent_52 3 rfl rfl ?_
        refine J_iadd X d_Parser_noteSent_53 ?_
        refine J_istore X [(4, .int (x2 + x3)), (0, .ref (a 11)), (1, .int x1), (2, .int x2), (3, .int x3)] d_Parser_noteSent_54 (by decide) rfl ?_
        refine J_iload X d_Parser_noteSent_56 0 rfl ?_
        refine J_if_lt X 85 d_Parser_noteSent_58 (by decide) (fun c58 => ?_) (fun c58 => ?_)
        · rw [if_pos c58] at h
          refine J_lv [1, 2, 3, 4] [(0, .ref (a 11)), (1, .int x1), (2, .int x2), (3, .int x3)] rfl ?_
          exact L85 K2 hK2 (m_Parser_noteSent_40 n K2 k) ih x1 x2 x3 t h
        · rw [if_neg c58] at h
          refine J_iload X d_Parser_noteSent_61 0 rfl ?_
          refine J_aload_n X d_Parser_noteSent_63 1 rfl rfl ?_
          refine J_get (v := .ref (a 14)) X (fun w h => mm (in_Parser w h)) 11 rfl rfl 3 (by decide) (mm k_fl_Parser_18) rfl rfl d_Parser_noteSent_64 ?_
          refine J_alen X 14 0 rfl rfl (v := (Int32.ofNat 256)) rfl d_Parser_noteSent_67 ?_
          refine J_icmp_ge X 85 d_Parser_noteSent_68 (by decide) (fun c68 => ?_) (fun c68 => ?_)
          · rw [if_pos c68] at h
            refine J_lv [1, 2, 3, 4] [(0, .ref (a 11)), (1, .int x1), (2, .int x2), (3, .int x3)] rfl ?_
            exact L85 K2 hK2 (m_Parser_noteSent_40 n K2 k) ih x1 x2 x3 t h
          · rw [if_neg c68] at h
            refine J_aload_n X d_Parser_noteSent_71 1 rfl rfl ?_
            refine J_get (v := .ref (a 14)) X (fun w h => mm (in_Parser w h)) 11 rfl rfl 3 (by decide) (mm k_fl_Parser_18) rfl rfl d_Parser_noteSent_72 ?_
            refine J_iload X d_Parser_noteSent_75 0 rfl ?_
            refine J_aload_n X d_Parser_noteSent_77 1 rfl rfl ?_
            refine J_get (v := .ref (a 12)) X (fun w h => mm (in_Parser w h)) 11 rfl rfl 2 (by decide) (mm k_fl_Parser_12) rfl rfl d_Parser_noteSent_78 ?_
            refine J_getN (v := .int (t.1 20)) X (fun w h => mm (in_Scan w h)) 12 rfl rfl 5 (by decide) k_fln_Parser_220 rfl rfl d_Parser_noteSent_81 ?_
            obtain ⟨b84, h⟩ := j_ifn h
            refine J_iast (f := (t.2.1 7)) X 14 0 rfl rfl b84 d_Parser_noteSent_84 (wO cI cB cJ cZ a (sH t 7 ((x2 + x3)).toNatClampNeg (t.1 20))) rfl ?_
            refine J_lv [1, 2, 3, 4] [(0, .ref (a 11)), (1, .int x1), (2, .int x2), (3, .int x3)] rfl ?_
            exact L85 K2 hK2 (m_Parser_noteSent_40 n K2 k) ih x1 x2 x3 (sH t 7 ((x2 + x3)).toNatClampNeg (t.1 20)) h
  have L2 : ∀ (k : Nat) (x1 : Int32) (t : St), m_Parser_noteSent_2 n  k x1 t = some z → J p l e { frames := 1, cells := 0, slots := 0, locals := 21 } s m args below meth c 5 (dC, dI) vwCl A (MQ below (jQv (dC, dI) vwCl (tyA cI cB cJ cZ) (fun _ : Unit => wO cI cB cJ cZ a z) A) args s 0 0 A) 0 0 2 [(0, .ref (a 11)), (1, .int x1)] [] (wO cI cB cJ cZ a t) := by
    intro k
    induction k with
    | zero => intro x1 t h; exact absurd (show none = some z from h) (by simp)
    | succ k ih =>
      intro x1 t h
      change m_Parser_noteSent_2b n  (m_Parser_noteSent_2 n  k) x1 t = some z at h
      unfold m_Parser_noteSent_2b at h
      refine J_iload_n X d_Parser_noteSent_2 1 rfl rfl ?_
      refine J_aload_n X d_Parser_noteSent_3 0 rfl rfl ?_
      refine J_get (v := .ref (a 12)) X (fun w h => mm (in_Parser w h)) 11 rfl rfl 2 (by decide) (mm k_fl_Parser_12) rfl rfl d_Parser_noteSent_4 ?_
      refine J_getN (v := .int (t.1 16)) X (fun w h => mm (in_Scan w h)) 12 rfl rfl 1 (by decide) k_fln_Parser_187 rfl rfl d_Parser_noteSent_7 ?_
      refine J_icmp_ge X 97 d_Parser_noteSent_10 (by decide) (fun c10 => ?_) (fun c10 => ?_)
      · rw [if_pos c10] at h
        exact J_vret X hr hlk () (Nat.le_of_ble_eq_true rfl) (Nat.le_of_ble_eq_true rfl) (congrArg (fun q => wO cI cB cJ cZ a q) (j_s h)) d_Parser_noteSent_97
      · rw [if_neg c10] at h
        refine J_aload_n X d_Parser_noteSent_13 0 rfl rfl ?_
        refine J_get (v := .int (t.1 13)) X (fun w h => mm (in_Parser w h)) 11 rfl rfl 9 (by decide) (mm k_fl_Parser_40) rfl rfl d_Parser_noteSent_14 ?_
        refine J_if_ne X 97 d_Parser_noteSent_17 (by decide) (fun c17 => ?_) (fun c17 => ?_)
        · rw [if_neg c17] at h
          exact J_vret X hr hlk () (Nat.le_of_ble_eq_true rfl) (Nat.le_of_ble_eq_true rfl) (congrArg (fun q => wO cI cB cJ cZ a q) (j_s h)) d_Parser_noteSent_97
        · rw [if_pos c17] at h
          refine J_aload_n X d_Parser_noteSent_20 0 rfl rfl ?_
          refine J_get (v := .ref (a 12)) X (fun w h => mm (in_Parser w h)) 11 rfl rfl 2 (by decide) (mm k_fl_Parser_12) rfl rfl d_Parser_noteSent_21 ?_
          refine J_iload_n X d_Parser_noteSent_24 1 rfl rfl ?_
          obtain ⟨z25, hz25, h⟩ := j_bind h
          refine J_callVi0 (n := 1) (wc := (wO cI cB cJ cZ a t)) (r := z25.1) (w1 := fun _ : Unit => wO cI cB cJ cZ a z25.2) X isO (hCO cI cB cJ cZ a t) (hDO cI cB cJ cZ a t) rfl [.int x1] [] (ct_Scan_placeAt l dC dI cI cB cJ cZ a n x1 t hz25) (aw_V (fun w h => mm h) k_ml_Parser_223 k_im_Scan_placeAt k_se_Scan_placeAt k_in_Scan k_cd_Scan_placeAt) rfl (by decide +kernel) ⟨(Nat.le_of_ble_eq_true rfl), (Nat.le_of_ble_eq_true rfl)⟩ (q0 := 12) rfl rfl rfl rfl (Nat.le_of_ble_eq_true rfl) d_Parser_noteSent_25 ⟨(Nat.le_of_ble_eq_true rfl), (Nat.le_of_ble_eq_true rfl)⟩ (fun _ => ?_)
          refine J_bipush (v := (64 : Int32)) X d_Parser_noteSent_28 (by decide) ?_
          refine J_imul X d_Parser_noteSent_30 ?_
          refine J_istore_n X [(2, .int (z25.1 * (64 : Int32))), (0, .ref (a 11)), (1, .int x1)] d_Parser_noteSent_31 rfl (by decide) rfl ?_
          refine J_aload_n X d_Parser_noteSent_32 1 rfl rfl ?_
          refine J_get (v := .ref (a 12)) X (fun w h => mm (in_Parser w h)) 11 rfl rfl 2 (by decide) (mm k_fl_Parser_12) rfl rfl d_Parser_noteSent_33 ?_
          refine J_getN (v := .int (z25.2.1 17)) X (fun w h => mm (in_Scan w h)) 12 rfl rfl 2 (by decide) k_fln_Parser_193 rfl rfl d_Parser_noteSent_36 ?_
          refine J_istore_n X [(3, .int (z25.2.1 17)), (2, .int (z25.1 * (64 : Int32))), (0, .ref (a 11)), (1, .int x1)] d_Parser_noteSent_39 rfl (by decide) rfl ?_
          refine J_lv [2, 3, 1, 0] [(0, .ref (a 11)), (1, .int x1), (2, .int (z25.1 * (64 : Int32))), (3, .int (z25.2.1 17))] rfl ?_
          exact L40 (m_Parser_noteSent_2 n  k) ih n x1 (z25.1 * (64 : Int32)) (z25.2.1 17) z25.2 h
  refine J_lv [0] [(0, .ref (a 11))] rfl ?_
  unfold m_Parser_noteSent at h
  refine J_iconst (v := (0 : Int32)) X d_Parser_noteSent_0 (by decide) ?_
  refine J_istore_n X [(1, .int (0 : Int32)), (0, .ref (a 11))] d_Parser_noteSent_1 rfl (by decide) rfl ?_
  refine J_lv [1, 0] [(0, .ref (a 11)), (1, .int (0 : Int32))] rfl ?_
  exact L2  n (0 : Int32) t h
set_option maxHeartbeats 4000000 in
set_option maxRecDepth 100000 in
theorem ct_Parser_readScan (l : Launch) (dC : Nat → ClassId) (dI : Nat → Nat → Nat) (cI cB cJ cZ : ClassId) (a : Nat → Nat) (n : Nat)  (t : St) {z : St} (h : m_Parser_readScan n t = some z) : jMv l y_Parser_readScan w_Parser_readScan ({ frames := 3, cells := 0, slots := 0, locals := 70 }) (dC, dI) vwCl (tyA cI cB cJ cZ) [.ref (a 11)] (wO cI cB cJ cZ a t) (fun _ : Unit => wO cI cB cJ cZ a z) := by
  refine jMv.of (cc := c_Parser_readScan) (maxL := 1) (ret := none) (by decide) rfl (Nat.le_of_ble_eq_true rfl) ?_
  intro p e s m args below meth c A X hr hlk hnm
  have L147 : ∀  (t : St), m_Parser_readScan_147 n   t = some z → J p l e { frames := 3, cells := 0, slots := 0, locals := 70 } s m args below meth c 1 (dC, dI) vwCl A (MQ below (jQv (dC, dI) vwCl (tyA cI cB cJ cZ) (fun _ : Unit => wO cI cB cJ cZ a z) A) args s 0 0 A) 0 0 147 [(0, .ref (a 11))] [] (wO cI cB cJ cZ a t) := by
    intro  t h
    unfold m_Parser_readScan_147 at h
    refine J_aload_n X d_Parser_readScan_147 0 rfl rfl ?_
    obtain ⟨z148, hz148, h⟩ := j_bind h
    refine J_callVv0 (n := 0) (wc := (wO cI cB cJ cZ a t)) (w1 := fun _ : Unit => wO cI cB cJ cZ a z148) X isO (hCO cI cB cJ cZ a t) (hDO cI cB cJ cZ a t) rfl [] [] (ct_Parser_checkSent l dC dI cI cB cJ cZ a n t hz148) (aw_V (fun w h => mm h) k_ml_Parser_202 k_im_Parser_checkSent k_se_Parser_checkSent k_in_Parser k_cd_Parser_checkSent) rfl (by decide +kernel) ⟨(Nat.le_of_ble_eq_true rfl), (Nat.le_of_ble_eq_true rfl)⟩ (q0 := 11) rfl rfl rfl rfl (Nat.le_of_ble_eq_true rfl) d_Parser_readScan_148 ⟨(Nat.le_of_ble_eq_true rfl), (Nat.le_of_ble_eq_true rfl)⟩ (fun _ => ?_)
    refine J_aload_n X d_Parser_readScan_151 0 rfl rfl ?_
    obtain ⟨z152, hz152, h⟩ := j_bind h
    refine J_callVv0 (n := 0) (wc := (wO cI cB cJ cZ a z148)) (w1 := fun _ : Unit => wO cI cB cJ cZ a z152) X isO (hCO cI cB cJ cZ a z148) (hDO cI cB cJ cZ a z148) rfl [] [] (ct_Parser_checkTables l dC dI cI cB cJ cZ a n z148 hz152) (aw_V (fun w h => mm h) k_ml_Parser_205 k_im_Parser_checkTables k_se_Parser_checkTables k_in_Parser k_cd_Parser_checkTables) rfl (by decide +kernel) ⟨(Nat.le_of_ble_eq_true rfl), (Nat.le_of_ble_eq_true rfl)⟩ (q0 := 11) rfl rfl rfl rfl (Nat.le_of_ble_eq_true rfl) d_Parser_readScan_152 ⟨(Nat.le_of_ble_eq_true rfl), (Nat.le_of_ble_eq_true rfl)⟩ (fun _ => ?_)
    refine J_aload_n X d_Parser_readScan_155 0 rfl rfl ?_
    obtain ⟨z156, hz156, h⟩ := j_bind h
    refine J_callVv0 (n := 0) (wc := (wO cI cB cJ cZ a z152)) (w1 := fun _ : Unit => wO cI cB cJ cZ a z156) X isO (hCO cI cB cJ cZ a z152) (hDO cI cB cJ cZ a z152) rfl [] [] (ct_Parser_noteSent l dC dI cI cB cJ cZ a n z152 hz156) (aw_V (fun w h => mm h) k_ml_Parser_208 k_im_Parser_noteSent k_se_Parser_noteSent k_in_Parser k_cd_Parser_noteSent) rfl (by decide +kernel) ⟨(Nat.le_of_ble_eq_true rfl), (Nat.le_of_ble_eq_true rfl)⟩ (q0 := 11) rfl rfl rfl rfl (Nat.le_of_ble_eq_true rfl) d_Parser_readScan_156 ⟨(Nat.le_of_ble_eq_true rfl), (Nat.le_of_ble_eq_true rfl)⟩ (fun _ => ?_)
    exact J_vret X hr hlk () (Nat.le_of_ble_eq_true rfl) (Nat.le_of_ble_eq_true rfl) (congrArg (fun q => wO cI cB cJ cZ a q) (j_s h)) d_Parser_readScan_159
  have L134 : ∀ (y2 : Int32) (y3 : Int32) (t : St), m_Parser_readScan_134 n  y2 y3 t = some z → J p l e { frames := 3, cells := 0, slots := 0, locals := 70 } s m args below meth c 1 (dC, dI) vwCl A (MQ below (jQv (dC, dI) vwCl (tyA cI cB cJ cZ) (fun _ : Unit => wO cI cB cJ cZ a z) A) args s 0 0 A) 0 0 134 [(0, .ref (a 11))] [.int y3, .int y2, .ref (a 11), .ref (a 12)] (wO cI cB cJ cZ a t) := by
    intro y2 y3 t h
    unfold m_Parser_readScan_134 at h
    obtain ⟨z134, hz134, h⟩ := j_bind h
    refine J_callVi0 (n := 2) (wc := (wO cI cB cJ cZ a t)) (r := z134.1) (w1 := fun _ : Unit => wO cI cB cJ cZ a z134.2) X isO (hCO cI cB cJ cZ a t) (hDO cI cB cJ cZ a t) rfl [.int y2, .int y3] [.ref (a 12)] (ct_Parser_take l dC dI cI cB cJ cZ a n y2 y3 t hz134) (aw_V (fun w h => mm h) k_ml_Parser_147 k_im_Parser_take k_se_Parser_take k_in_Parser k_cd_Parser_take) rfl (by decide +kernel) ⟨(Nat.le_of_ble_eq_true rfl), (Nat.le_of_ble_eq_true rfl)⟩ (q0 := 11) rfl rfl rfl rfl (Nat.le_of_ble_eq_true rfl) d_Parser_readScan_134 ⟨(Nat.le_of_ble_eq_true rfl), (Nat.le_of_ble_eq_true rfl)⟩ (fun _ => ?_)
    refine J_putN (ty := .int) (v := .int z134.1) X (fun w h => mm (in_Scan w h)) ty_Scan tyk_Scan nm_Scan 12 rfl rfl 3 (by decide) k_fln_Parser_196 rfl rfl (by decide +kernel) rfl rfl (Nat.le_of_ble_eq_true rfl) d_Parser_readScan_137 (wO cI cB cJ cZ a (sG z134.2 18 z134.1)) rfl ?_
    refine J_aload_n X d_Parser_readScan_140 0 rfl rfl ?_
    refine J_sipush (v := (255 : Int32)) X d_Parser_readScan_141 (by decide) ?_
    obtain ⟨z144, hz144, h⟩ := j_bind h
    refine J_callVv0 (n := 1) (wc := (wO cI cB cJ cZ a (sG z134.2 18 z134.1))) (w1 := fun _ : Unit => wO cI cB cJ cZ a z144) X isO (hCO cI cB cJ cZ a (sG z134.2 18 z134.1)) (hDO cI cB cJ cZ a (sG z134.2 18 z134.1)) rfl [.int (255 : Int32)] [] (ct_Parser_takeBits l dC dI cI cB cJ cZ a n (255 : Int32) (sG z134.2 18 z134.1) hz144) (aw_V (fun w h => mm h) k_ml_Parser_199 k_im_Parser_takeBits k_se_Parser_takeBits k_in_Parser k_cd_Parser_takeBits) rfl (by decide +kernel) ⟨(Nat.le_of_ble_eq_true rfl), (Nat.le_of_ble_eq_true rfl)⟩ (q0 := 11) rfl rfl rfl rfl (Nat.le_of_ble_eq_true rfl) d_Parser_readScan_144 ⟨(Nat.le_of_ble_eq_true rfl), (Nat.le_of_ble_eq_true rfl)⟩ (fun _ => ?_)
    refine J_lv [0] [(0, .ref (a 11))] rfl ?_
    exact L147  z144 h
  have L100 : ∀ (y2 : Int32) (y3 : Int32) (t : St), m_Parser_readScan_100 n  y2 y3 t = some z → J p l e { frames := 3, cells := 0, slots := 0, locals := 70 } s m args below meth c 1 (dC, dI) vwCl A (MQ below (jQv (dC, dI) vwCl (tyA cI cB cJ cZ) (fun _ : Unit => wO cI cB cJ cZ a z) A) args s 0 0 A) 0 0 100 [(0, .ref (a 11))] [.int y3, .int y2, .ref (a 11), .ref (a 12)] (wO cI cB cJ cZ a t) := by
    intro y2 y3 t h
    unfold m_Parser_readScan_100 at h
    obtain ⟨z100, hz100, h⟩ := j_bind h
    refine J_callVi0 (n := 2) (wc := (wO cI cB cJ cZ a t)) (r := z100.1) (w1 := fun _ : Unit => wO cI cB cJ cZ a z100.2) X isO (hCO cI cB cJ cZ a t) (hDO cI cB cJ cZ a t) rfl [.int y2, .int y3] [.ref (a 12)] (ct_Parser_take l dC dI cI cB cJ cZ a n y2 y3 t hz100) (aw_V (fun w h => mm h) k_ml_Parser_147 k_im_Parser_take k_se_Parser_take k_in_Parser k_cd_Parser_take) rfl (by decide +kernel) ⟨(Nat.le_of_ble_eq_true rfl), (Nat.le_of_ble_eq_true rfl)⟩ (q0 := 11) rfl rfl rfl rfl (Nat.le_of_ble_eq_true rfl) d_Parser_readScan_100 ⟨(Nat.le_of_ble_eq_true rfl), (Nat.le_of_ble_eq_true rfl)⟩ (fun _ => ?_)
    refine J_putN (ty := .int) (v := .int z100.1) X (fun w h => mm (in_Scan w h)) ty_Scan tyk_Scan nm_Scan 12 rfl rfl 2 (by decide) k_fln_Parser_193 rfl rfl (by decide +kernel) rfl rfl (Nat.le_of_ble_eq_true rfl) d_Parser_readScan_103 (wO cI cB cJ cZ a (sG z100.2 17 z100.1)) rfl ?_
    refine J_aload_n X d_Parser_readScan_106 0 rfl rfl ?_
    refine J_get (v := .ref (a 12)) X (fun w h => mm (in_Parser w h)) 11 rfl rfl 2 (by decide) (mm k_fl_Parser_12) rfl rfl d_Parser_readScan_107 ?_
    refine J_aload_n X d_Parser_readScan_110 0 rfl rfl ?_
    refine J_aload_n X d_Parser_readScan_111 0 rfl rfl ?_
    refine J_get (v := .ref (a 12)) X (fun w h => mm (in_Parser w h)) 11 rfl rfl 2 (by decide) (mm k_fl_Parser_12) rfl rfl d_Parser_readScan_112 ?_
    refine J_getN (v := .int z100.1) X (fun w h => mm (in_Scan w h)) 12 rfl rfl 2 (by decide) k_fln_Parser_193 rfl rfl d_Parser_readScan_115 ?_
    refine J_aload_n X d_Parser_readScan_118 0 rfl rfl ?_
    refine J_get (v := .ref (a 12)) X (fun w h => mm (in_Parser w h)) 11 rfl rfl 2 (by decide) (mm k_fl_Parser_12) rfl rfl d_Parser_readScan_119 ?_
    refine J_getN (v := .int z100.1) X (fun w h => mm (in_Scan w h)) 12 rfl rfl 2 (by decide) k_fln_Parser_193 rfl rfl d_Parser_readScan_122 ?_
    refine J_if_ne X 132 d_Parser_readScan_125 (by decide) (fun c125 => ?_) (fun c125 => ?_)
    · rw [if_neg c125] at h
      refine J_bipush (v := (63 : Int32)) X d_Parser_readScan_132 (by decide) ?_
      refine J_lv [0] [(0, .ref (a 11))] rfl ?_
      exact L134  z100.1 (63 : Int32) (sG z100.2 17 z100.1) h
    · rw [if_pos c125] at h
      refine J_iconst (v := (0 : Int32)) X d_Parser_readScan_128 (by decide) ?_
      refine J_goto X 134 d_Parser_readScan_129 (by decide) ?_
      refine J_lv [0] [(0, .ref (a 11))] rfl ?_
      exact L134  z100.1 (0 : Int32) (sG z100.2 17 z100.1) h
  refine J_lv [0] [(0, .ref (a 11))] rfl ?_
  unfold m_Parser_readScan at h
  refine J_aload_n X d_Parser_readScan_0 0 rfl rfl ?_
  refine J_get (v := .ref (a 12)) X (fun w h => mm (in_Parser w h)) 11 rfl rfl 2 (by decide) (mm k_fl_Parser_12) rfl rfl d_Parser_readScan_1 ?_
  refine J_aload_n X d_Parser_readScan_4 0 rfl rfl ?_
  refine J_get (v := .int (t.1 9)) X (fun w h => mm (in_Parser w h)) 11 rfl rfl 5 (by decide) (mm k_fl_Parser_26) rfl rfl d_Parser_readScan_5 ?_
  refine J_putN (ty := .int) (v := .int (t.1 9)) X (fun w h => mm (in_Scan w h)) ty_Scan tyk_Scan nm_Scan 12 rfl rfl 0 (by decide) k_fln_Parser_184 rfl rfl (by decide +kernel) rfl rfl (Nat.le_of_ble_eq_true rfl) d_Parser_readScan_8 (wO cI cB cJ cZ a (sG t 15 (t.1 9))) rfl ?_
  refine J_aload_n X d_Parser_readScan_11 0 rfl rfl ?_
  refine J_get (v := .ref (a 12)) X (fun w h => mm (in_Parser w h)) 11 rfl rfl 2 (by decide) (mm k_fl_Parser_12) rfl rfl d_Parser_readScan_12 ?_
  refine J_aload_n X d_Parser_readScan_15 0 rfl rfl ?_
  refine J_iconst (v := (1 : Int32)) X d_Parser_readScan_16 (by decide) ?_
  refine J_iconst (v := (4 : Int32)) X d_Parser_readScan_17 (by decide) ?_
  obtain ⟨z18, hz18, h⟩ := j_bind h
  refine J_callVi0 (n := 2) (wc := (wO cI cB cJ cZ a (sG t 15 (t.1 9)))) (r := z18.1) (w1 := fun _ : Unit => wO cI cB cJ cZ a z18.2) X isO (hCO cI cB cJ cZ a (sG t 15 (t.1 9))) (hDO cI cB cJ cZ a (sG t 15 (t.1 9))) rfl [.int (1 : Int32), .int (4 : Int32)] [.ref (a 12)] (ct_Parser_take l dC dI cI cB cJ cZ a n (1 : Int32) (4 : Int32) (sG t 15 (t.1 9)) hz18) (aw_V (fun w h => mm h) k_ml_Parser_147 k_im_Parser_take k_se_Parser_take k_in_Parser k_cd_Parser_take) rfl (by decide +kernel) ⟨(Nat.le_of_ble_eq_true rfl), (Nat.le_of_ble_eq_true rfl)⟩ (q0 := 11) rfl rfl rfl rfl (Nat.le_of_ble_eq_true rfl) d_Parser_readScan_18 ⟨(Nat.le_of_ble_eq_true rfl), (Nat.le_of_ble_eq_true rfl)⟩ (fun _ => ?_)
  refine J_putN (ty := .int) (v := .int z18.1) X (fun w h => mm (in_Scan w h)) ty_Scan tyk_Scan nm_Scan 12 rfl rfl 1 (by decide) k_fln_Parser_187 rfl rfl (by decide +kernel) rfl rfl (Nat.le_of_ble_eq_true rfl) d_Parser_readScan_21 (wO cI cB cJ cZ a (sG z18.2 16 z18.1)) rfl ?_
  refine J_aload_n X d_Parser_readScan_24 0 rfl rfl ?_
  obtain ⟨z25, hz25, h⟩ := j_bind h
  refine J_callVv0 (n := 0) (wc := (wO cI cB cJ cZ a (sG z18.2 16 z18.1))) (w1 := fun _ : Unit => wO cI cB cJ cZ a z25) X isO (hCO cI cB cJ cZ a (sG z18.2 16 z18.1)) (hDO cI cB cJ cZ a (sG z18.2 16 z18.1)) rfl [] [] (ct_Parser_takeScanComponents l dC dI cI cB cJ cZ a n (sG z18.2 16 z18.1) hz25) (aw_V (fun w h => mm h) k_ml_Parser_190 k_im_Parser_takeScanComponents k_se_Parser_takeScanComponents k_in_Parser k_cd_Parser_takeScanComponents) rfl (by decide +kernel) ⟨(Nat.le_of_ble_eq_true rfl), (Nat.le_of_ble_eq_true rfl)⟩ (q0 := 11) rfl rfl rfl rfl (Nat.le_of_ble_eq_true rfl) d_Parser_readScan_25 ⟨(Nat.le_of_ble_eq_true rfl), (Nat.le_of_ble_eq_true rfl)⟩ (fun _ => ?_)
  refine J_aload_n X d_Parser_readScan_28 0 rfl rfl ?_
  refine J_get (v := .ref (a 3)) X (fun w h => mm (in_Parser w h)) 11 rfl rfl 1 (by decide) (mm k_fl_Parser_50) rfl rfl d_Parser_readScan_29 ?_
  refine J_getN (v := .int (z25.1 1)) X (fun w h => mm (in_Picture w h)) 3 rfl rfl 6 (by decide) k_fln_Parser_106 rfl rfl d_Parser_readScan_32 ?_
  refine J_sipush (v := (192 : Int32)) X d_Parser_readScan_35 (by decide) ?_
  refine J_icmp_ne X 77 d_Parser_readScan_38 (by decide) (fun c38 => ?_) (fun c38 => ?_)
  · rw [if_neg c38] at h
    refine J_aload_n X d_Parser_readScan_77 0 rfl rfl ?_
    refine J_get (v := .ref (a 12)) X (fun w h => mm (in_Parser w h)) 11 rfl rfl 2 (by decide) (mm k_fl_Parser_12) rfl rfl d_Parser_readScan_78 ?_
    refine J_aload_n X d_Parser_readScan_81 0 rfl rfl ?_
    refine J_iconst (v := (0 : Int32)) X d_Parser_readScan_82 (by decide) ?_
    refine J_aload_n X d_Parser_readScan_83 0 rfl rfl ?_
    refine J_get (v := .ref (a 12)) X (fun w h => mm (in_Parser w h)) 11 rfl rfl 2 (by decide) (mm k_fl_Parser_12) rfl rfl d_Parser_readScan_84 ?_
    refine J_getN (v := .int (z25.1 16)) X (fun w h => mm (in_Scan w h)) 12 rfl rfl 1 (by decide) k_fln_Parser_187 rfl rfl d_Parser_readScan_87 ?_
    refine J_iconst (v := (1 : Int32)) X d_Parser_readScan_90 (by decide) ?_
    refine J_icmp_ne X 99 d_Parser_readScan_91 (by decide) (fun c91 => ?_) (fun c91 => ?_)
    · rw [if_neg c91] at h
      refine J_iconst (v := (0 : Int32)) X d_Parser_readScan_99 (by decide) ?_
      refine J_lv [0] [(0, .ref (a 11))] rfl ?_
      exact L100  (0 : Int32) (0 : Int32) z25 h
    · rw [if_pos c91] at h
      refine J_bipush (v := (63 : Int32)) X d_Parser_readScan_94 (by decide) ?_
      refine J_goto X 100 d_Parser_readScan_96 (by decide) ?_
      refine J_lv [0] [(0, .ref (a 11))] rfl ?_
      exact L100  (0 : Int32) (63 : Int32) z25 h
  · rw [if_pos c38] at h
    refine J_aload_n X d_Parser_readScan_41 0 rfl rfl ?_
    refine J_get (v := .ref (a 12)) X (fun w h => mm (in_Parser w h)) 11 rfl rfl 2 (by decide) (mm k_fl_Parser_12) rfl rfl d_Parser_readScan_42 ?_
    refine J_aload_n X d_Parser_readScan_45 0 rfl rfl ?_
    refine J_iconst (v := (0 : Int32)) X d_Parser_readScan_46 (by decide) ?_
    refine J_iconst (v := (0 : Int32)) X d_Parser_readScan_47 (by decide) ?_
    obtain ⟨z48, hz48, h⟩ := j_bind h
    refine J_callVi0 (n := 2) (wc := (wO cI cB cJ cZ a z25)) (r := z48.1) (w1 := fun _ : Unit => wO cI cB cJ cZ a z48.2) X isO (hCO cI cB cJ cZ a z25) (hDO cI cB cJ cZ a z25) rfl [.int (0 : Int32), .int (0 : Int32)] [.ref (a 12)] (ct_Parser_take l dC dI cI cB cJ cZ a n (0 : Int32) (0 : Int32) z25 hz48) (aw_V (fun w h => mm h) k_ml_Parser_147 k_im_Parser_take k_se_Parser_take k_in_Parser k_cd_Parser_take) rfl (by decide +kernel) ⟨(Nat.le_of_ble_eq_true rfl), (Nat.le_of_ble_eq_true rfl)⟩ (q0 := 11) rfl rfl rfl rfl (Nat.le_of_ble_eq_true rfl) d_Parser_readScan_48 ⟨(Nat.le_of_ble_eq_true rfl), (Nat.le_of_ble_eq_true rfl)⟩ (fun _ => ?_)
    refine J_putN (ty := .int) (v := .int z48.1) X (fun w h => mm (in_Scan w h)) ty_Scan tyk_Scan nm_Scan 12 rfl rfl 2 (by decide) k_fln_Parser_193 rfl rfl (by decide +kernel) rfl rfl (Nat.le_of_ble_eq_true rfl) d_Parser_readScan_51 (wO cI cB cJ cZ a (sG z48.2 17 z48.1)) rfl ?_
    refine J_aload_n X d_Parser_readScan_54 0 rfl rfl ?_
    refine J_get (v := .ref (a 12)) X (fun w h => mm (in_Parser w h)) 11 rfl rfl 2 (by decide) (mm k_fl_Parser_12) rfl rfl d_Parser_readScan_55 ?_
    refine J_aload_n X d_Parser_readScan_58 0 rfl rfl ?_
    refine J_bipush (v := (63 : Int32)) X d_Parser_readScan_59 (by decide) ?_
    refine J_bipush (v := (63 : Int32)) X d_Parser_readScan_61 (by decide) ?_
    obtain ⟨z63, hz63, h⟩ := j_bind h
    refine J_callVi0 (n := 2) (wc := (wO cI cB cJ cZ a (sG z48.2 17 z48.1))) (r := z63.1) (w1 := fun _ : Unit => wO cI cB cJ cZ a z63.2) X isO (hCO cI cB cJ cZ a (sG z48.2 17 z48.1)) (hDO cI cB cJ cZ a (sG z48.2 17 z48.1)) rfl [.int (63 : Int32), .int (63 : Int32)] [.ref (a 12)] (ct_Parser_take l dC dI cI cB cJ cZ a n (63 : Int32) (63 : Int32) (sG z48.2 17 z48.1) hz63) (aw_V (fun w h => mm h) k_ml_Parser_147 k_im_Parser_take k_se_Parser_take k_in_Parser k_cd_Parser_take) rfl (by decide +kernel) ⟨(Nat.le_of_ble_eq_true rfl), (Nat.le_of_ble_eq_true rfl)⟩ (q0 := 11) rfl rfl rfl rfl (Nat.le_of_ble_eq_true rfl) d_Parser_readScan_63 ⟨(Nat.le_of_ble_eq_true rfl), (Nat.le_of_ble_eq_true rfl)⟩ (fun _ => ?_)
    refine J_putN (ty := .int) (v := .int z63.1) X (fun w h => mm (in_Scan w h)) ty_Scan tyk_Scan nm_Scan 12 rfl rfl 3 (by decide) k_fln_Parser_196 rfl rfl (by decide +kernel) rfl rfl (Nat.le_of_ble_eq_true rfl) d_Parser_readScan_66 (wO cI cB cJ cZ a (sG z63.2 18 z63.1)) rfl ?_
    refine J_aload_n X d_Parser_readScan_69 0 rfl rfl ?_
    refine J_iconst (v := (0 : Int32)) X d_Parser_readScan_70 (by decide) ?_
    obtain ⟨z71, hz71, h⟩ := j_bind h
    refine J_callVv0 (n := 1) (wc := (wO cI cB cJ cZ a (sG z63.2 18 z63.1))) (w1 := fun _ : Unit => wO cI cB cJ cZ a z71) X isO (hCO cI cB cJ cZ a (sG z63.2 18 z63.1)) (hDO cI cB cJ cZ a (sG z63.2 18 z63.1)) rfl [.int (0 : Int32)] [] (ct_Parser_takeBits l dC dI cI cB cJ cZ a n (0 : Int32) (sG z63.2 18 z63.1) hz71) (aw_V (fun w h => mm h) k_ml_Parser_199 k_im_Parser_takeBits k_se_Parser_takeBits k_in_Parser k_cd_Parser_takeBits) rfl (by decide +kernel) ⟨(Nat.le_of_ble_eq_true rfl), (Nat.le_of_ble_eq_true rfl)⟩ (q0 := 11) rfl rfl rfl rfl (Nat.le_of_ble_eq_true rfl) d_Parser_readScan_71 ⟨(Nat.le_of_ble_eq_true rfl), (Nat.le_of_ble_eq_true rfl)⟩ (fun _ => ?_)
    refine J_goto X 147 d_Parser_readScan_74 (by decide) ?_
    refine J_lv [0] [(0, .ref (a 11))] rfl ?_
    exact L147  z71 h
set_option maxHeartbeats 4000000 in
set_option maxRecDepth 100000 in
theorem ct_Parser_skipContents (l : Launch) (dC : Nat → ClassId) (dI : Nat → Nat → Nat) (cI cB cJ cZ : ClassId) (a : Nat → Nat) (n : Nat)  (t : St) {z : St} (h : m_Parser_skipContents n t = some z) : jMv l y_Parser_skipContents w_Parser_skipContents ({ frames := 1, cells := 0, slots := 0, locals := 22 }) (dC, dI) vwCl (tyA cI cB cJ cZ) [.ref (a 11)] (wO cI cB cJ cZ a t) (fun _ : Unit => wO cI cB cJ cZ a z) := by
  refine jMv.of (cc := c_Parser_skipContents) (maxL := 1) (ret := none) (by decide) rfl (Nat.le_of_ble_eq_true rfl) ?_
  intro p e s m args below meth c A X hr hlk hnm
  have L27 : ∀  (t : St), m_Parser_skipContents_27 n   t = some z → J p l e { frames := 1, cells := 0, slots := 0, locals := 22 } s m args below meth c 1 (dC, dI) vwCl A (MQ below (jQv (dC, dI) vwCl (tyA cI cB cJ cZ) (fun _ : Unit => wO cI cB cJ cZ a z) A) args s 0 0 A) 0 0 27 [(0, .ref (a 11))] [] (wO cI cB cJ cZ a t) := by
    intro  t h
    unfold m_Parser_skipContents_27 at h
    refine J_aload_n X d_Parser_skipContents_27 0 rfl rfl ?_
    refine J_aload_n X d_Parser_skipContents_28 0 rfl rfl ?_
    refine J_get (v := .int (t.1 11)) X (fun w h => mm (in_Parser w h)) 11 rfl rfl 7 (by decide) (mm k_fl_Parser_33) rfl rfl d_Parser_skipContents_29 ?_
    refine J_put (ty := .int) (v := .int (t.1 11)) X (fun w h => mm (in_Parser w h)) ty_Parser tyk_Parser nm_Parser 11 rfl rfl 5 (by decide) (mm k_fl_Parser_26) rfl rfl (by decide +kernel) rfl rfl (Nat.le_of_ble_eq_true rfl) d_Parser_skipContents_32 (wO cI cB cJ cZ a (sG t 9 (t.1 11))) rfl ?_
    exact J_vret X hr hlk () (Nat.le_of_ble_eq_true rfl) (Nat.le_of_ble_eq_true rfl) (congrArg (fun q => wO cI cB cJ cZ a q) (j_s h)) d_Parser_skipContents_35
  refine J_lv [0] [(0, .ref (a 11))] rfl ?_
  unfold m_Parser_skipContents at h
  refine J_aload_n X d_Parser_skipContents_0 0 rfl rfl ?_
  refine J_get (v := .int (t.1 11)) X (fun w h => mm (in_Parser w h)) 11 rfl rfl 7 (by decide) (mm k_fl_Parser_33) rfl rfl d_Parser_skipContents_1 ?_
  refine J_aload_n X d_Parser_skipContents_4 0 rfl rfl ?_
  refine J_get (v := .ref (a 1)) X (fun w h => mm (in_Parser w h)) 11 rfl rfl 0 (by decide) (mm k_fl_Parser_46) rfl rfl d_Parser_skipContents_5 ?_
  refine J_getN (v := .int (t.1 0)) X (fun w h => mm (in_Bytes w h)) 1 rfl rfl 1 (by decide) k_fln_Parser_68 rfl rfl d_Parser_skipContents_8 ?_
  refine J_icmp_le X 27 d_Parser_skipContents_11 (by decide) (fun c11 => ?_) (fun c11 => ?_)
  · rw [if_pos c11] at h
    refine J_lv [0] [(0, .ref (a 11))] rfl ?_
    exact L27  t h
  · rw [if_neg c11] at h
    refine J_aload_n X d_Parser_skipContents_14 0 rfl rfl ?_
    refine J_iconst (v := (1 : Int32)) X d_Parser_skipContents_15 (by decide) ?_
    refine J_aload_n X d_Parser_skipContents_16 0 rfl rfl ?_
    refine J_get (v := .ref (a 1)) X (fun w h => mm (in_Parser w h)) 11 rfl rfl 0 (by decide) (mm k_fl_Parser_46) rfl rfl d_Parser_skipContents_17 ?_
    refine J_getN (v := .int (t.1 0)) X (fun w h => mm (in_Bytes w h)) 1 rfl rfl 1 (by decide) k_fln_Parser_68 rfl rfl d_Parser_skipContents_20 ?_
    obtain ⟨z23, hz23, h⟩ := j_bind h
    refine J_callVi0 (n := 2) (wc := (wO cI cB cJ cZ a t)) (r := z23.1) (w1 := fun _ : Unit => wO cI cB cJ cZ a z23.2) X isO (hCO cI cB cJ cZ a t) (hDO cI cB cJ cZ a t) rfl [.int (1 : Int32), .int (t.1 0)] [] (ct_Parser_fail l dC dI cI cB cJ cZ a n (1 : Int32) (t.1 0) t hz23) (aw_V (fun w h => mm h) k_ml_Parser_77 k_im_Parser_fail k_se_Parser_fail k_in_Parser k_cd_Parser_fail) rfl (by decide +kernel) ⟨(Nat.le_of_ble_eq_true rfl), (Nat.le_of_ble_eq_true rfl)⟩ (q0 := 11) rfl rfl rfl rfl (Nat.le_of_ble_eq_true rfl) d_Parser_skipContents_23 ⟨(Nat.le_of_ble_eq_true rfl), (Nat.le_of_ble_eq_true rfl)⟩ (fun _ => ?_)
    refine J_pop X d_Parser_skipContents_26 rfl ?_
    refine J_lv [0] [(0, .ref (a 11))] rfl ?_
    exact L27  z23.2 h
