set_option maxHeartbeats 4000000 in
set_option maxRecDepth 100000 in
theorem ct_Parser_readFrame (l : Launch) (dC : Nat → ClassId) (dI : Nat → Nat → Nat) (cI cB cJ cZ : ClassId) (a : Nat → Nat) (n : Nat) (x1 : Int32) (t : St) {z : St} (h : m_Parser_readFrame n x1 t = some z) : jMv l y_Parser_readFrame w_Parser_readFrame ({ frames := 3, cells := 0, slots := 0, locals := 70 }) (dC, dI) vwCl (tyA cI cB cJ cZ) [.ref (a 11), .int x1] (wO cI cB cJ cZ a t) (fun _ : Unit => wO cI cB cJ cZ a z) := by
  refine jMv.of (cc := c_Parser_readFrame) (maxL := 4) (ret := none) (by decide) rfl (Nat.le_of_ble_eq_true rfl) ?_
  intro p e s m args below meth c A X hr hlk hnm
  have L46 : ∀ (k : Nat) (x1 : Int32) (x2 : Int32) (x3 : Int32) (t : St), m_Parser_readFrame_46 n  k x1 x2 x3 t = some z → J p l e { frames := 3, cells := 0, slots := 0, locals := 70 } s m args below meth c 4 (dC, dI) vwCl A (MQ below (jQv (dC, dI) vwCl (tyA cI cB cJ cZ) (fun _ : Unit => wO cI cB cJ cZ a z) A) args s 0 0 A) 0 0 46 [(0, .ref (a 11)), (1, .int x1), (2, .int x2), (3, .int x3)] [] (wO cI cB cJ cZ a t) := by
    intro k
    induction k with
    | zero => intro x1 x2 x3 t h; exact absurd (show none = some z from h) (by simp)
    | succ k ih =>
      intro x1 x2 x3 t h
      change m_Parser_readFrame_46b n  (m_Parser_readFrame_46 n  k) x1 x2 x3 t = some z at h
      unfold m_Parser_readFrame_46b at h
      refine J_iload_n X d_Parser_readFrame_46 3 rfl rfl ?_
      refine J_iload_n X d_Parser_readFrame_47 2 rfl rfl ?_
      refine J_icmp_ge X 61 d_Parser_readFrame_48 (by decide) (fun c48 => ?_) (fun c48 => ?_)
      · rw [if_pos c48] at h
        refine J_aload_n X d_Parser_readFrame_61 0 rfl rfl ?_
        refine J_get (v := .ref (a 3)) X (fun w h => mm (in_Parser w h)) 11 rfl rfl 1 (by decide) (mm k_fl_Parser_50) rfl rfl d_Parser_readFrame_62 ?_
        refine J_iload_n X d_Parser_readFrame_65 1 rfl rfl ?_
        refine J_putN (ty := .int) (v := .int x1) X (fun w h => mm (in_Picture w h)) ty_Picture tyk_Picture nm_Picture 3 rfl rfl 6 (by decide) k_fln_Parser_106 rfl rfl (by decide +kernel) rfl rfl (Nat.le_of_ble_eq_true rfl) d_Parser_readFrame_66 (wO cI cB cJ cZ a (sG t 1 x1)) rfl ?_
        exact J_vret X hr hlk () (Nat.le_of_ble_eq_true rfl) (Nat.le_of_ble_eq_true rfl) (congrArg (fun q => wO cI cB cJ cZ a q) (j_s h)) d_Parser_readFrame_69
      · rw [if_neg c48] at h
        refine J_aload_n X d_Parser_readFrame_51 0 rfl rfl ?_
        obtain ⟨z52, hz52, h⟩ := j_bind h
        refine J_callVv0 (n := 0) (wc := (wO cI cB cJ cZ a t)) (w1 := fun _ : Unit => wO cI cB cJ cZ a z52) X isO (hCO cI cB cJ cZ a t) (hDO cI cB cJ cZ a t) rfl [] [] (ct_Parser_readComponent l dC dI cI cB cJ cZ a n t hz52) (aw_V (fun w h => mm h) k_ml_Parser_174 k_im_Parser_readComponent k_se_Parser_readComponent k_in_Parser k_cd_Parser_readComponent) rfl (by decide +kernel) ⟨(Nat.le_of_ble_eq_true rfl), (Nat.le_of_ble_eq_true rfl)⟩ (q0 := 11) rfl rfl rfl rfl (Nat.le_of_ble_eq_true rfl) d_Parser_readFrame_52 ⟨(Nat.le_of_ble_eq_true rfl), (Nat.le_of_ble_eq_true rfl)⟩ (fun _ => ?_)
        refine J_iinc (v := (x3 + 1)) X [(3, .int (x3 + 1)), (0, .ref (a 11)), (1, .int x1), (2, .int x2)] d_Parser_readFrame_55 3 rfl rfl (by decide) rfl ?_
        refine J_goto X 46 d_Parser_readFrame_58 (by decide) ?_
        refine J_lv [1, 2, 3, 0] [(0, .ref (a 11)), (1, .int x1), (2, .int x2), (3, .int (x3 + 1))] rfl ?_
        exact ih x1 x2 (x3 + 1) z52 h
  refine J_lv [0, 1] [(0, .ref (a 11)), (1, .int x1)] rfl ?_
  unfold m_Parser_readFrame at h
  refine J_aload_n X d_Parser_readFrame_0 0 rfl rfl ?_
  refine J_bipush (v := (8 : Int32)) X d_Parser_readFrame_1 (by decide) ?_
  refine J_bipush (v := (8 : Int32)) X d_Parser_readFrame_3 (by decide) ?_
  obtain ⟨z5, hz5, h⟩ := j_bind h
  refine J_callVi0 (n := 2) (wc := (wO cI cB cJ cZ a t)) (r := z5.1) (w1 := fun _ : Unit => wO cI cB cJ cZ a z5.2) X isO (hCO cI cB cJ cZ a t) (hDO cI cB cJ cZ a t) rfl [.int (8 : Int32), .int (8 : Int32)] [] (ct_Parser_take l dC dI cI cB cJ cZ a n (8 : Int32) (8 : Int32) t hz5) (aw_V (fun w h => mm h) k_ml_Parser_147 k_im_Parser_take k_se_Parser_take k_in_Parser k_cd_Parser_take) rfl (by decide +kernel) ⟨(Nat.le_of_ble_eq_true rfl), (Nat.le_of_ble_eq_true rfl)⟩ (q0 := 11) rfl rfl rfl rfl (Nat.le_of_ble_eq_true rfl) d_Parser_readFrame_5 ⟨(Nat.le_of_ble_eq_true rfl), (Nat.le_of_ble_eq_true rfl)⟩ (fun _ => ?_)
  refine J_pop X d_Parser_readFrame_8 rfl ?_
  refine J_aload_n X d_Parser_readFrame_9 0 rfl rfl ?_
  refine J_get (v := .ref (a 3)) X (fun w h => mm (in_Parser w h)) 11 rfl rfl 1 (by decide) (mm k_fl_Parser_50) rfl rfl d_Parser_readFrame_10 ?_
  refine J_aload_n X d_Parser_readFrame_13 0 rfl rfl ?_
  refine J_iconst (v := (0 : Int32)) X d_Parser_readFrame_14 (by decide) ?_
  refine J_bipush (v := (64 : Int32)) X d_Parser_readFrame_15 (by decide) ?_
  obtain ⟨z17, hz17, h⟩ := j_bind h
  refine J_callVi0 (n := 2) (wc := (wO cI cB cJ cZ a z5.2)) (r := z17.1) (w1 := fun _ : Unit => wO cI cB cJ cZ a z17.2) X isO (hCO cI cB cJ cZ a z5.2) (hDO cI cB cJ cZ a z5.2) rfl [.int (0 : Int32), .int (64 : Int32)] [.ref (a 3)] (ct_Parser_takePair l dC dI cI cB cJ cZ a n (0 : Int32) (64 : Int32) z5.2 hz17) (aw_V (fun w h => mm h) k_ml_Parser_123 k_im_Parser_takePair k_se_Parser_takePair k_in_Parser k_cd_Parser_takePair) rfl (by decide +kernel) ⟨(Nat.le_of_ble_eq_true rfl), (Nat.le_of_ble_eq_true rfl)⟩ (q0 := 11) rfl rfl rfl rfl (Nat.le_of_ble_eq_true rfl) d_Parser_readFrame_17 ⟨(Nat.le_of_ble_eq_true rfl), (Nat.le_of_ble_eq_true rfl)⟩ (fun _ => ?_)
  refine J_putN (ty := .int) (v := .int z17.1) X (fun w h => mm (in_Picture w h)) ty_Picture tyk_Picture nm_Picture 3 rfl rfl 8 (by decide) k_fln_Parser_141 rfl rfl (by decide +kernel) rfl rfl (Nat.le_of_ble_eq_true rfl) d_Parser_readFrame_20 (wO cI cB cJ cZ a (sG z17.2 3 z17.1)) rfl ?_
  refine J_aload_n X d_Parser_readFrame_23 0 rfl rfl ?_
  refine J_get (v := .ref (a 3)) X (fun w h => mm (in_Parser w h)) 11 rfl rfl 1 (by decide) (mm k_fl_Parser_50) rfl rfl d_Parser_readFrame_24 ?_
  refine J_aload_n X d_Parser_readFrame_27 0 rfl rfl ?_
  refine J_iconst (v := (1 : Int32)) X d_Parser_readFrame_28 (by decide) ?_
  refine J_bipush (v := (64 : Int32)) X d_Parser_readFrame_29 (by decide) ?_
  obtain ⟨z31, hz31, h⟩ := j_bind h
  refine J_callVi0 (n := 2) (wc := (wO cI cB cJ cZ a (sG z17.2 3 z17.1))) (r := z31.1) (w1 := fun _ : Unit => wO cI cB cJ cZ a z31.2) X isO (hCO cI cB cJ cZ a (sG z17.2 3 z17.1)) (hDO cI cB cJ cZ a (sG z17.2 3 z17.1)) rfl [.int (1 : Int32), .int (64 : Int32)] [.ref (a 3)] (ct_Parser_takePair l dC dI cI cB cJ cZ a n (1 : Int32) (64 : Int32) (sG z17.2 3 z17.1) hz31) (aw_V (fun w h => mm h) k_ml_Parser_123 k_im_Parser_takePair k_se_Parser_takePair k_in_Parser k_cd_Parser_takePair) rfl (by decide +kernel) ⟨(Nat.le_of_ble_eq_true rfl), (Nat.le_of_ble_eq_true rfl)⟩ (q0 := 11) rfl rfl rfl rfl (Nat.le_of_ble_eq_true rfl) d_Parser_readFrame_31 ⟨(Nat.le_of_ble_eq_true rfl), (Nat.le_of_ble_eq_true rfl)⟩ (fun _ => ?_)
  refine J_putN (ty := .int) (v := .int z31.1) X (fun w h => mm (in_Picture w h)) ty_Picture tyk_Picture nm_Picture 3 rfl rfl 7 (by decide) k_fln_Parser_171 rfl rfl (by decide +kernel) rfl rfl (Nat.le_of_ble_eq_true rfl) d_Parser_readFrame_34 (wO cI cB cJ cZ a (sG z31.2 2 z31.1)) rfl ?_
  refine J_aload_n X d_Parser_readFrame_37 0 rfl rfl ?_
  refine J_iconst (v := (1 : Int32)) X d_Parser_readFrame_38 (by decide) ?_
  refine J_iconst (v := (4 : Int32)) X d_Parser_readFrame_39 (by decide) ?_
  obtain ⟨z40, hz40, h⟩ := j_bind h
  refine J_callVi0 (n := 2) (wc := (wO cI cB cJ cZ a (sG z31.2 2 z31.1))) (r := z40.1) (w1 := fun _ : Unit => wO cI cB cJ cZ a z40.2) X isO (hCO cI cB cJ cZ a (sG z31.2 2 z31.1)) (hDO cI cB cJ cZ a (sG z31.2 2 z31.1)) rfl [.int (1 : Int32), .int (4 : Int32)] [] (ct_Parser_take l dC dI cI cB cJ cZ a n (1 : Int32) (4 : Int32) (sG z31.2 2 z31.1) hz40) (aw_V (fun w h => mm h) k_ml_Parser_147 k_im_Parser_take k_se_Parser_take k_in_Parser k_cd_Parser_take) rfl (by decide +kernel) ⟨(Nat.le_of_ble_eq_true rfl), (Nat.le_of_ble_eq_true rfl)⟩ (q0 := 11) rfl rfl rfl rfl (Nat.le_of_ble_eq_true rfl) d_Parser_readFrame_40 ⟨(Nat.le_of_ble_eq_true rfl), (Nat.le_of_ble_eq_true rfl)⟩ (fun _ => ?_)
  refine J_istore_n X [(2, .int z40.1), (0, .ref (a 11)), (1, .int x1)] d_Parser_readFrame_43 rfl (by decide) rfl ?_
  refine J_iconst (v := (0 : Int32)) X d_Parser_readFrame_44 (by decide) ?_
  refine J_istore_n X [(3, .int (0 : Int32)), (2, .int z40.1), (0, .ref (a 11)), (1, .int x1)] d_Parser_readFrame_45 rfl (by decide) rfl ?_
  refine J_lv [2, 3, 1, 0] [(0, .ref (a 11)), (1, .int x1), (2, .int z40.1), (3, .int (0 : Int32))] rfl ?_
  exact L46  n x1 z40.1 (0 : Int32) z40.2 h
set_option maxHeartbeats 4000000 in
set_option maxRecDepth 100000 in
theorem ct_Parser_takeScanComponents (l : Launch) (dC : Nat → ClassId) (dI : Nat → Nat → Nat) (cI cB cJ cZ : ClassId) (a : Nat → Nat) (n : Nat)  (t : St) {z : St} (h : m_Parser_takeScanComponents n t = some z) : jMv l y_Parser_takeScanComponents w_Parser_takeScanComponents ({ frames := 2, cells := 0, slots := 0, locals := 45 }) (dC, dI) vwCl (tyA cI cB cJ cZ) [.ref (a 11)] (wO cI cB cJ cZ a t) (fun _ : Unit => wO cI cB cJ cZ a z) := by
  refine jMv.of (cc := c_Parser_takeScanComponents) (maxL := 6) (ret := none) (by decide) rfl (Nat.le_of_ble_eq_true rfl) ?_
  intro p e s m args below meth c A X hr hlk hnm
  have L128 : ∀ (K6 : Int32 → Int32 → Int32 → St → Option (St)) (hK6 : ∀ (x1 : Int32) (x2 : Int32) (x3 : Int32) (t : St), K6 x1 x2 x3 t = some z → J p l e { frames := 2, cells := 0, slots := 0, locals := 45 } s m args below meth c 6 (dC, dI) vwCl A (MQ below (jQv (dC, dI) vwCl (tyA cI cB cJ cZ) (fun _ : Unit => wO cI cB cJ cZ a z) A) args s 0 0 A) 0 0 6 [(0, .ref (a 11)), (1, .int x1), (2, .int x2), (3, .int x3)] [] (wO cI cB cJ cZ a t)) (x1 : Int32) (x2 : Int32) (x3 : Int32) (t : St), m_Parser_takeScanComponents_128 n K6 x1 x2 x3 t = some z → J p l e { frames := 2, cells := 0, slots := 0, locals := 45 } s m args below meth c 6 (dC, dI) vwCl A (MQ below (jQv (dC, dI) vwCl (tyA cI cB cJ cZ) (fun _ : Unit => wO cI cB cJ cZ a z) A) args s 0 0 A) 0 0 128 [(0, .ref (a 11)), (1, .int x1), (2, .int x2), (3, .int x3)] [] (wO cI cB cJ cZ a t) := by
    intro K6 hK6 x1 x2 x3 t h
    unfold m_Parser_takeScanComponents_128 at h
    refine J_iinc (v := (x3 + 1)) X [(3, .int (x3 + 1)), (0, .ref (a 11)), (1, .int x1), (2, .int x2)] d_Parser_takeScanComponents_128 3 rfl rfl (by decide) rfl ?_
    refine J_goto X 6 d_Parser_takeScanComponents_131 (by decide) ?_
    refine J_lv [1, 2, 3, 0] [(0, .ref (a 11)), (1, .int x1), (2, .int x2), (3, .int (x3 + 1))] rfl ?_
    exact hK6 x1 x2 (x3 + 1) t h
  have L92 : ∀ (K6 : Int32 → Int32 → Int32 → St → Option (St)) (hK6 : ∀ (x1 : Int32) (x2 : Int32) (x3 : Int32) (t : St), K6 x1 x2 x3 t = some z → J p l e { frames := 2, cells := 0, slots := 0, locals := 45 } s m args below meth c 6 (dC, dI) vwCl A (MQ below (jQv (dC, dI) vwCl (tyA cI cB cJ cZ) (fun _ : Unit => wO cI cB cJ cZ a z) A) args s 0 0 A) 0 0 6 [(0, .ref (a 11)), (1, .int x1), (2, .int x2), (3, .int x3)] [] (wO cI cB cJ cZ a t)) (x2 : Int32) (x3 : Int32) (x4 : Int32) (t : St), m_Parser_takeScanComponents_92 n K6 x2 x3 x4 t = some z → J p l e { frames := 2, cells := 0, slots := 0, locals := 45 } s m args below meth c 6 (dC, dI) vwCl A (MQ below (jQv (dC, dI) vwCl (tyA cI cB cJ cZ) (fun _ : Unit => wO cI cB cJ cZ a z) A) args s 0 0 A) 0 0 92 [(0, .ref (a 11)), (2, .int x2), (3, .int x3), (4, .int x4)] [] (wO cI cB cJ cZ a t) := by
    intro K6 hK6 x2 x3 x4 t h
    unfold m_Parser_takeScanComponents_92 at h
    refine J_aload_n X d_Parser_takeScanComponents_92 0 rfl rfl ?_
    refine J_get (v := .ref (a 12)) X (fun w h => mm (in_Parser w h)) 11 rfl rfl 2 (by decide) (mm k_fl_Parser_12) rfl rfl d_Parser_takeScanComponents_93 ?_
    refine J_getN (v := .ref (a 13)) X (fun w h => mm (in_Scan w h)) 12 rfl rfl 6 (by decide) k_fln_Parser_214 rfl rfl d_Parser_takeScanComponents_96 ?_
    refine J_iload_n X d_Parser_takeScanComponents_99 2 rfl rfl ?_
    refine J_iload X d_Parser_takeScanComponents_100 3 rfl ?_
    obtain ⟨b102, h⟩ := j_ifn h
    refine J_iast (f := (t.2.1 6)) X 13 0 rfl rfl b102 d_Parser_takeScanComponents_102 (wO cI cB cJ cZ a (sH t 6 (x3).toNatClampNeg x4)) rfl ?_
    refine J_iload X d_Parser_takeScanComponents_103 3 rfl ?_
    refine J_istore_n X [(1, .int x4), (0, .ref (a 11)), (2, .int x2), (3, .int x3), (4, .int x4)] d_Parser_takeScanComponents_105 rfl (by decide) rfl ?_
    refine J_aload_n X d_Parser_takeScanComponents_106 1 rfl rfl ?_
    refine J_iconst (v := (0 : Int32)) X d_Parser_takeScanComponents_107 (by decide) ?_
    refine J_bipush (v := (51 : Int32)) X d_Parser_takeScanComponents_108 (by decide) ?_
    obtain ⟨z110, hz110, h⟩ := j_bind h
    refine J_callVi0 (n := 2) (wc := (wO cI cB cJ cZ a (sH t 6 (x3).toNatClampNeg x4))) (r := z110.1) (w1 := fun _ : Unit => wO cI cB cJ cZ a z110.2) X isO (hCO cI cB cJ cZ a (sH t 6 (x3).toNatClampNeg x4)) (hDO cI cB cJ cZ a (sH t 6 (x3).toNatClampNeg x4)) rfl [.int (0 : Int32), .int (51 : Int32)] [] (ct_Parser_take l dC dI cI cB cJ cZ a n (0 : Int32) (51 : Int32) (sH t 6 (x3).toNatClampNeg x4) hz110) (aw_V (fun w h => mm h) k_ml_Parser_147 k_im_Parser_take k_se_Parser_take k_in_Parser k_cd_Parser_take) rfl (by decide +kernel) ⟨(Nat.le_of_ble_eq_true rfl), (Nat.le_of_ble_eq_true rfl)⟩ (q0 := 11) rfl rfl rfl rfl (Nat.le_of_ble_eq_true rfl) d_Parser_takeScanComponents_110 ⟨(Nat.le_of_ble_eq_true rfl), (Nat.le_of_ble_eq_true rfl)⟩ (fun _ => ?_)
    refine J_istore X [(5, .int z110.1), (1, .int x4), (0, .ref (a 11)), (2, .int x2), (3, .int x3), (4, .int x4)] d_Parser_takeScanComponents_113 (by decide) rfl ?_
    refine J_iload X d_Parser_takeScanComponents_115 0 rfl ?_
    refine J_bipush (v := (15 : Int32)) X d_Parser_takeScanComponents_117 (by decide) ?_
    refine J_iand X d_Parser_takeScanComponents_119 ?_
    refine J_iconst (v := (3 : Int32)) X d_Parser_takeScanComponents_120 (by decide) ?_
    refine J_icmp_le X 128 d_Parser_takeScanComponents_121 (by decide) (fun c121 => ?_) (fun c121 => ?_)
    · rw [if_pos c121] at h
      refine J_lv [2, 1, 3, 4] [(0, .ref (a 11)), (1, .int x4), (2, .int x2), (3, .int x3)] rfl ?_
      exact L128 K6 hK6 x4 x2 x3 z110.2 h
    · rw [if_neg c121] at h
      refine J_aload_n X d_Parser_takeScanComponents_124 2 rfl rfl ?_
      obtain ⟨z125, hz125, h⟩ := j_bind h
      refine J_callVv0 (n := 0) (wc := (wO cI cB cJ cZ a z110.2)) (w1 := fun _ : Unit => wO cI cB cJ cZ a z125) X isO (hCO cI cB cJ cZ a z110.2) (hDO cI cB cJ cZ a z110.2) rfl [] [] (ct_Parser_refuseTaken l dC dI cI cB cJ cZ a n z110.2 hz125) (aw_V (fun w h => mm h) k_ml_Parser_150 k_im_Parser_refuseTaken k_se_Parser_refuseTaken k_in_Parser k_cd_Parser_refuseTaken) rfl (by decide +kernel) ⟨(Nat.le_of_ble_eq_true rfl), (Nat.le_of_ble_eq_true rfl)⟩ (q0 := 11) rfl rfl rfl rfl (Nat.le_of_ble_eq_true rfl) d_Parser_takeScanComponents_125 ⟨(Nat.le_of_ble_eq_true rfl), (Nat.le_of_ble_eq_true rfl)⟩ (fun _ => ?_)
      refine J_lv [2, 1, 3, 4] [(0, .ref (a 11)), (1, .int x4), (2, .int x2), (3, .int x3)] rfl ?_
      exact L128 K6 hK6 x4 x2 x3 z125 h
  have L58 : ∀ (K6 : Int32 → Int32 → Int32 → St → Option (St)) (hK6 : ∀ (x1 : Int32) (x2 : Int32) (x3 : Int32) (t : St), K6 x1 x2 x3 t = some z → J p l e { frames := 2, cells := 0, slots := 0, locals := 45 } s m args below meth c 6 (dC, dI) vwCl A (MQ below (jQv (dC, dI) vwCl (tyA cI cB cJ cZ) (fun _ : Unit => wO cI cB cJ cZ a z) A) args s 0 0 A) 0 0 6 [(0, .ref (a 11)), (1, .int x1), (2, .int x2), (3, .int x3)] [] (wO cI cB cJ cZ a t)) (x2 : Int32) (x3 : Int32) (x4 : Int32) (t : St), m_Parser_takeScanComponents_58 n K6 x2 x3 x4 t = some z → J p l e { frames := 2, cells := 0, slots := 0, locals := 45 } s m args below meth c 6 (dC, dI) vwCl A (MQ below (jQv (dC, dI) vwCl (tyA cI cB cJ cZ) (fun _ : Unit => wO cI cB cJ cZ a z) A) args s 0 0 A) 0 0 58 [(0, .ref (a 11)), (2, .int x2), (3, .int x3), (4, .int x4)] [] (wO cI cB cJ cZ a t) := by
    intro K6 hK6 x2 x3 x4 t h
    unfold m_Parser_takeScanComponents_58 at h
    refine J_iload_n X d_Parser_takeScanComponents_58 1 rfl rfl ?_
    refine J_aload_n X d_Parser_takeScanComponents_59 0 rfl rfl ?_
    refine J_get (v := .ref (a 3)) X (fun w h => mm (in_Parser w h)) 11 rfl rfl 1 (by decide) (mm k_fl_Parser_50) rfl rfl d_Parser_takeScanComponents_60 ?_
    refine J_iload X d_Parser_takeScanComponents_63 3 rfl ?_
    refine J_iconst (v := (1 : Int32)) X d_Parser_takeScanComponents_65 (by decide) ?_
    obtain ⟨z66, hz66, h⟩ := j_bind h
    refine J_callVi0 (n := 2) (wc := (wO cI cB cJ cZ a t)) (r := z66.1) (w1 := fun _ : Unit => wO cI cB cJ cZ a z66.2) X isO (hCO cI cB cJ cZ a t) (hDO cI cB cJ cZ a t) rfl [.int x4, .int (1 : Int32)] [.int x2] (ct_Picture_ofComponent l dC dI cI cB cJ cZ a n x4 (1 : Int32) t hz66) (aw_V (fun w h => mm h) k_ml_Parser_211 k_im_Picture_ofComponent k_se_Picture_ofComponent k_in_Picture k_cd_Picture_ofComponent) rfl (by decide +kernel) ⟨(Nat.le_of_ble_eq_true rfl), (Nat.le_of_ble_eq_true rfl)⟩ (q0 := 3) rfl rfl rfl rfl (Nat.le_of_ble_eq_true rfl) d_Parser_takeScanComponents_66 ⟨(Nat.le_of_ble_eq_true rfl), (Nat.le_of_ble_eq_true rfl)⟩ (fun _ => ?_)
    refine J_aload_n X d_Parser_takeScanComponents_69 0 rfl rfl ?_
    refine J_get (v := .ref (a 3)) X (fun w h => mm (in_Parser w h)) 11 rfl rfl 1 (by decide) (mm k_fl_Parser_50) rfl rfl d_Parser_takeScanComponents_70 ?_
    refine J_iload X d_Parser_takeScanComponents_73 3 rfl ?_
    refine J_iconst (v := (2 : Int32)) X d_Parser_takeScanComponents_75 (by decide) ?_
    obtain ⟨z76, hz76, h⟩ := j_bind h
    refine J_callVi0 (n := 2) (wc := (wO cI cB cJ cZ a z66.2)) (r := z76.1) (w1 := fun _ : Unit => wO cI cB cJ cZ a z76.2) X isO (hCO cI cB cJ cZ a z66.2) (hDO cI cB cJ cZ a z66.2) rfl [.int x4, .int (2 : Int32)] [.int z66.1, .int x2] (ct_Picture_ofComponent l dC dI cI cB cJ cZ a n x4 (2 : Int32) z66.2 hz76) (aw_V (fun w h => mm h) k_ml_Parser_211 k_im_Picture_ofComponent k_se_Picture_ofComponent k_in_Picture k_cd_Picture_ofComponent) rfl (by decide +kernel) ⟨(Nat.le_of_ble_eq_true rfl), (Nat.le_of_ble_eq_true rfl)⟩ (q0 := 3) rfl rfl rfl rfl (Nat.le_of_ble_eq_true rfl) d_Parser_takeScanComponents_76 ⟨(Nat.le_of_ble_eq_true rfl), (Nat.le_of_ble_eq_true rfl)⟩ (fun _ => ?_)
    refine J_imul X d_Parser_takeScanComponents_79 ?_
    refine J_iadd X d_Parser_takeScanComponents_80 ?_
    refine J_istore_n X [(2, .int (x2 + (z66.1 * z76.1))), (0, .ref (a 11)), (3, .int x3), (4, .int x4)] d_Parser_takeScanComponents_81 rfl (by decide) rfl ?_
    refine J_iload_n X d_Parser_takeScanComponents_82 0 rfl rfl ?_
    refine J_bipush (v := (10 : Int32)) X d_Parser_takeScanComponents_83 (by decide) ?_
    refine J_icmp_le X 92 d_Parser_takeScanComponents_85 (by decide) (fun c85 => ?_) (fun c85 => ?_)
    · rw [if_pos c85] at h
      refine J_lv [1, 0, 2, 3] [(0, .ref (a 11)), (2, .int (x2 + (z66.1 * z76.1))), (3, .int x3), (4, .int x4)] rfl ?_
      exact L92 K6 hK6 (x2 + (z66.1 * z76.1)) x3 x4 z76.2 h
    · rw [if_neg c85] at h
      refine J_aload_n X d_Parser_takeScanComponents_88 1 rfl rfl ?_
      obtain ⟨z89, hz89, h⟩ := j_bind h
      refine J_callVv0 (n := 0) (wc := (wO cI cB cJ cZ a z76.2)) (w1 := fun _ : Unit => wO cI cB cJ cZ a z89) X isO (hCO cI cB cJ cZ a z76.2) (hDO cI cB cJ cZ a z76.2) rfl [] [] (ct_Parser_refuseTaken l dC dI cI cB cJ cZ a n z76.2 hz89) (aw_V (fun w h => mm h) k_ml_Parser_150 k_im_Parser_refuseTaken k_se_Parser_refuseTaken k_in_Parser k_cd_Parser_refuseTaken) rfl (by decide +kernel) ⟨(Nat.le_of_ble_eq_true rfl), (Nat.le_of_ble_eq_true rfl)⟩ (q0 := 11) rfl rfl rfl rfl (Nat.le_of_ble_eq_true rfl) d_Parser_takeScanComponents_89 ⟨(Nat.le_of_ble_eq_true rfl), (Nat.le_of_ble_eq_true rfl)⟩ (fun _ => ?_)
      refine J_lv [1, 0, 2, 3] [(0, .ref (a 11)), (2, .int (x2 + (z66.1 * z76.1))), (3, .int x3), (4, .int x4)] rfl ?_
      exact L92 K6 hK6 (x2 + (z66.1 * z76.1)) x3 x4 z89 h
  have L6 : ∀ (k : Nat) (x1 : Int32) (x2 : Int32) (x3 : Int32) (t : St), m_Parser_takeScanComponents_6 n  k x1 x2 x3 t = some z → J p l e { frames := 2, cells := 0, slots := 0, locals := 45 } s m args below meth c 6 (dC, dI) vwCl A (MQ below (jQv (dC, dI) vwCl (tyA cI cB cJ cZ) (fun _ : Unit => wO cI cB cJ cZ a z) A) args s 0 0 A) 0 0 6 [(0, .ref (a 11)), (1, .int x1), (2, .int x2), (3, .int x3)] [] (wO cI cB cJ cZ a t) := by
    intro k
    induction k with
    | zero => intro x1 x2 x3 t h; exact absurd (show none = some z from h) (by simp)
    | succ k ih =>
      intro x1 x2 x3 t h
      change m_Parser_takeScanComponents_6b n  (m_Parser_takeScanComponents_6 n  k) x1 x2 x3 t = some z at h
      unfold m_Parser_takeScanComponents_6b at h
      refine J_iload_n X d_Parser_takeScanComponents_6 3 rfl rfl ?_
      refine J_aload_n X d_Parser_takeScanComponents_7 0 rfl rfl ?_
      refine J_get (v := .ref (a 12)) X (fun w h => mm (in_Parser w h)) 11 rfl rfl 2 (by decide) (mm k_fl_Parser_12) rfl rfl d_Parser_takeScanComponents_8 ?_
      refine J_getN (v := .int (t.1 16)) X (fun w h => mm (in_Scan w h)) 12 rfl rfl 1 (by decide) k_fln_Parser_187 rfl rfl d_Parser_takeScanComponents_11 ?_
      refine J_icmp_ge X 134 d_Parser_takeScanComponents_14 (by decide) (fun c14 => ?_) (fun c14 => ?_)
      · rw [if_pos c14] at h
        exact J_vret X hr hlk () (Nat.le_of_ble_eq_true rfl) (Nat.le_of_ble_eq_true rfl) (congrArg (fun q => wO cI cB cJ cZ a q) (j_s h)) d_Parser_takeScanComponents_134
      · rw [if_neg c14] at h
        refine J_iload_n X d_Parser_takeScanComponents_17 3 rfl rfl ?_
        refine J_iconst (v := (4 : Int32)) X d_Parser_takeScanComponents_18 (by decide) ?_
        refine J_icmp_ge X 134 d_Parser_takeScanComponents_19 (by decide) (fun c19 => ?_) (fun c19 => ?_)
        · rw [if_pos c19] at h
          exact J_vret X hr hlk () (Nat.le_of_ble_eq_true rfl) (Nat.le_of_ble_eq_true rfl) (congrArg (fun q => wO cI cB cJ cZ a q) (j_s h)) d_Parser_takeScanComponents_134
        · rw [if_neg c19] at h
          refine J_aload_n X d_Parser_takeScanComponents_22 0 rfl rfl ?_
          refine J_get (v := .ref (a 3)) X (fun w h => mm (in_Parser w h)) 11 rfl rfl 1 (by decide) (mm k_fl_Parser_50) rfl rfl d_Parser_takeScanComponents_23 ?_
          refine J_aload_n X d_Parser_takeScanComponents_26 0 rfl rfl ?_
          refine J_iconst (v := (0 : Int32)) X d_Parser_takeScanComponents_27 (by decide) ?_
          refine J_sipush (v := (255 : Int32)) X d_Parser_takeScanComponents_28 (by decide) ?_
          obtain ⟨z31, hz31, h⟩ := j_bind h
          refine J_callVi0 (n := 2) (wc := (wO cI cB cJ cZ a t)) (r := z31.1) (w1 := fun _ : Unit => wO cI cB cJ cZ a z31.2) X isO (hCO cI cB cJ cZ a t) (hDO cI cB cJ cZ a t) rfl [.int (0 : Int32), .int (255 : Int32)] [.ref (a 3)] (ct_Parser_take l dC dI cI cB cJ cZ a n (0 : Int32) (255 : Int32) t hz31) (aw_V (fun w h => mm h) k_ml_Parser_147 k_im_Parser_take k_se_Parser_take k_in_Parser k_cd_Parser_take) rfl (by decide +kernel) ⟨(Nat.le_of_ble_eq_true rfl), (Nat.le_of_ble_eq_true rfl)⟩ (q0 := 11) rfl rfl rfl rfl (Nat.le_of_ble_eq_true rfl) d_Parser_takeScanComponents_31 ⟨(Nat.le_of_ble_eq_true rfl), (Nat.le_of_ble_eq_true rfl)⟩ (fun _ => ?_)
          obtain ⟨z34, hz34, h⟩ := j_bind h
          refine J_callVi0 (n := 1) (wc := (wO cI cB cJ cZ a z31.2)) (r := z34.1) (w1 := fun _ : Unit => wO cI cB cJ cZ a z34.2) X isO (hCO cI cB cJ cZ a z31.2) (hDO cI cB cJ cZ a z31.2) rfl [.int z31.1] [] (ct_Picture_placeOfName l dC dI cI cB cJ cZ a n z31.1 z31.2 hz34) (aw_V (fun w h => mm h) k_ml_Parser_177 k_im_Picture_placeOfName k_se_Picture_placeOfName k_in_Picture k_cd_Picture_placeOfName) rfl (by decide +kernel) ⟨(Nat.le_of_ble_eq_true rfl), (Nat.le_of_ble_eq_true rfl)⟩ (q0 := 3) rfl rfl rfl rfl (Nat.le_of_ble_eq_true rfl) d_Parser_takeScanComponents_34 ⟨(Nat.le_of_ble_eq_true rfl), (Nat.le_of_ble_eq_true rfl)⟩ (fun _ => ?_)
          refine J_istore X [(4, .int z34.1), (0, .ref (a 11)), (1, .int x1), (2, .int x2), (3, .int x3)] d_Parser_takeScanComponents_37 (by decide) rfl ?_
          refine J_iload X d_Parser_takeScanComponents_39 0 rfl ?_
          refine J_iload_n X d_Parser_takeScanComponents_41 2 rfl rfl ?_
          refine J_icmp_gt X 58 d_Parser_takeScanComponents_42 (by decide) (fun c42 => ?_) (fun c42 => ?_)
          · rw [if_pos c42] at h
            refine J_lv [1, 3, 4, 0] [(0, .ref (a 11)), (2, .int x2), (3, .int x3), (4, .int z34.1)] rfl ?_
            exact L58 (m_Parser_takeScanComponents_6 n  k) ih x2 x3 z34.1 z34.2 h
          · rw [if_neg c42] at h
            refine J_aload_n X d_Parser_takeScanComponents_45 1 rfl rfl ?_
            refine J_bipush (v := (7 : Int32)) X d_Parser_takeScanComponents_46 (by decide) ?_
            refine J_aload_n X d_Parser_takeScanComponents_48 1 rfl rfl ?_
            refine J_get (v := .int (z34.2.1 9)) X (fun w h => mm (in_Parser w h)) 11 rfl rfl 5 (by decide) (mm k_fl_Parser_26) rfl rfl d_Parser_takeScanComponents_49 ?_
            refine J_iconst (v := (1 : Int32)) X d_Parser_takeScanComponents_52 (by decide) ?_
            refine J_isub X d_Parser_takeScanComponents_53 ?_
            obtain ⟨z54, hz54, h⟩ := j_bind h
            refine J_callVi0 (n := 2) (wc := (wO cI cB cJ cZ a z34.2)) (r := z54.1) (w1 := fun _ : Unit => wO cI cB cJ cZ a z54.2) X isO (hCO cI cB cJ cZ a z34.2) (hDO cI cB cJ cZ a z34.2) rfl [.int (7 : Int32), .int ((z34.2.1 9) - (1 : Int32))] [] (ct_Parser_fail l dC dI cI cB cJ cZ a n (7 : Int32) ((z34.2.1 9) - (1 : Int32)) z34.2 hz54) (aw_V (fun w h => mm h) k_ml_Parser_77 k_im_Parser_fail k_se_Parser_fail k_in_Parser k_cd_Parser_fail) rfl (by decide +kernel) ⟨(Nat.le_of_ble_eq_true rfl), (Nat.le_of_ble_eq_true rfl)⟩ (q0 := 11) rfl rfl rfl rfl (Nat.le_of_ble_eq_true rfl) d_Parser_takeScanComponents_54 ⟨(Nat.le_of_ble_eq_true rfl), (Nat.le_of_ble_eq_true rfl)⟩ (fun _ => ?_)
            refine J_pop X d_Parser_takeScanComponents_57 rfl ?_
            refine J_lv [1, 3, 4, 0] [(0, .ref (a 11)), (2, .int x2), (3, .int x3), (4, .int z34.1)] rfl ?_
            exact L58 (m_Parser_takeScanComponents_6 n  k) ih x2 x3 z34.1 z54.2 h
  refine J_lv [0] [(0, .ref (a 11))] rfl ?_
  unfold m_Parser_takeScanComponents at h
  refine J_iconst (v := (-1 : Int32)) X d_Parser_takeScanComponents_0 (by decide) ?_
  refine J_istore_n X [(1, .int (-1 : Int32)), (0, .ref (a 11))] d_Parser_takeScanComponents_1 rfl (by decide) rfl ?_
  refine J_iconst (v := (0 : Int32)) X d_Parser_takeScanComponents_2 (by decide) ?_
  refine J_istore_n X [(2, .int (0 : Int32)), (1, .int (-1 : Int32)), (0, .ref (a 11))] d_Parser_takeScanComponents_3 rfl (by decide) rfl ?_
  refine J_iconst (v := (0 : Int32)) X d_Parser_takeScanComponents_4 (by decide) ?_
  refine J_istore_n X [(3, .int (0 : Int32)), (2, .int (0 : Int32)), (1, .int (-1 : Int32)), (0, .ref (a 11))] d_Parser_takeScanComponents_5 rfl (by decide) rfl ?_
  refine J_lv [3, 2, 1, 0] [(0, .ref (a 11)), (1, .int (-1 : Int32)), (2, .int (0 : Int32)), (3, .int (0 : Int32))] rfl ?_
  exact L6  n (-1 : Int32) (0 : Int32) (0 : Int32) t h
set_option maxHeartbeats 4000000 in
set_option maxRecDepth 100000 in
theorem ct_Parser_takeBits (l : Launch) (dC : Nat → ClassId) (dI : Nat → Nat → Nat) (cI cB cJ cZ : ClassId) (a : Nat → Nat) (n : Nat) (x1 : Int32) (t : St) {z : St} (h : m_Parser_takeBits n x1 t = some z) : jMv l y_Parser_takeBits w_Parser_takeBits ({ frames := 2, cells := 0, slots := 0, locals := 45 }) (dC, dI) vwCl (tyA cI cB cJ cZ) [.ref (a 11), .int x1] (wO cI cB cJ cZ a t) (fun _ : Unit => wO cI cB cJ cZ a z) := by
  refine jMv.of (cc := c_Parser_takeBits) (maxL := 3) (ret := none) (by decide) rfl (Nat.le_of_ble_eq_true rfl) ?_
  intro p e s m args below meth c A X hr hlk hnm
  have L69 : ∀  (t : St), m_Parser_takeBits_69 n   t = some z → J p l e { frames := 2, cells := 0, slots := 0, locals := 45 } s m args below meth c 3 (dC, dI) vwCl A (MQ below (jQv (dC, dI) vwCl (tyA cI cB cJ cZ) (fun _ : Unit => wO cI cB cJ cZ a z) A) args s 0 0 A) 0 0 69 [(0, .ref (a 11))] [] (wO cI cB cJ cZ a t) := by
    intro  t h
    unfold m_Parser_takeBits_69 at h
    refine J_aload_n X d_Parser_takeBits_69 0 rfl rfl ?_
    obtain ⟨z70, hz70, h⟩ := j_bind h
    refine J_callVv0 (n := 0) (wc := (wO cI cB cJ cZ a t)) (w1 := fun _ : Unit => wO cI cB cJ cZ a z70) X isO (hCO cI cB cJ cZ a t) (hDO cI cB cJ cZ a t) rfl [] [] (ct_Parser_refuseTaken l dC dI cI cB cJ cZ a n t hz70) (aw_V (fun w h => mm h) k_ml_Parser_150 k_im_Parser_refuseTaken k_se_Parser_refuseTaken k_in_Parser k_cd_Parser_refuseTaken) rfl (by decide +kernel) ⟨(Nat.le_of_ble_eq_true rfl), (Nat.le_of_ble_eq_true rfl)⟩ (q0 := 11) rfl rfl rfl rfl (Nat.le_of_ble_eq_true rfl) d_Parser_takeBits_70 ⟨(Nat.le_of_ble_eq_true rfl), (Nat.le_of_ble_eq_true rfl)⟩ (fun _ => ?_)
    exact J_vret X hr hlk () (Nat.le_of_ble_eq_true rfl) (Nat.le_of_ble_eq_true rfl) (congrArg (fun q => wO cI cB cJ cZ a q) (j_s h)) d_Parser_takeBits_73
  refine J_lv [0, 1] [(0, .ref (a 11)), (1, .int x1)] rfl ?_
  unfold m_Parser_takeBits at h
  refine J_aload_n X d_Parser_takeBits_0 0 rfl rfl ?_
  refine J_iconst (v := (0 : Int32)) X d_Parser_takeBits_1 (by decide) ?_
  refine J_iload_n X d_Parser_takeBits_2 1 rfl rfl ?_
  obtain ⟨z3, hz3, h⟩ := j_bind h
  refine J_callVi0 (n := 2) (wc := (wO cI cB cJ cZ a t)) (r := z3.1) (w1 := fun _ : Unit => wO cI cB cJ cZ a z3.2) X isO (hCO cI cB cJ cZ a t) (hDO cI cB cJ cZ a t) rfl [.int (0 : Int32), .int x1] [] (ct_Parser_take l dC dI cI cB cJ cZ a n (0 : Int32) x1 t hz3) (aw_V (fun w h => mm h) k_ml_Parser_147 k_im_Parser_take k_se_Parser_take k_in_Parser k_cd_Parser_take) rfl (by decide +kernel) ⟨(Nat.le_of_ble_eq_true rfl), (Nat.le_of_ble_eq_true rfl)⟩ (q0 := 11) rfl rfl rfl rfl (Nat.le_of_ble_eq_true rfl) d_Parser_takeBits_3 ⟨(Nat.le_of_ble_eq_true rfl), (Nat.le_of_ble_eq_true rfl)⟩ (fun _ => ?_)
  refine J_istore_n X [(2, .int z3.1), (0, .ref (a 11)), (1, .int x1)] d_Parser_takeBits_6 rfl (by decide) rfl ?_
  refine J_aload_n X d_Parser_takeBits_7 1 rfl rfl ?_
  refine J_get (v := .ref (a 12)) X (fun w h => mm (in_Parser w h)) 11 rfl rfl 2 (by decide) (mm k_fl_Parser_12) rfl rfl d_Parser_takeBits_8 ?_
  refine J_iload_n X d_Parser_takeBits_11 0 rfl rfl ?_
  refine J_iconst (v := (4 : Int32)) X d_Parser_takeBits_12 (by decide) ?_
  refine J_ishr X d_Parser_takeBits_13 ?_
  refine J_putN (ty := .int) (v := .int (z3.1 >>> ((4 : Int32) &&& 31))) X (fun w h => mm (in_Scan w h)) ty_Scan tyk_Scan nm_Scan 12 rfl rfl 4 (by decide) k_fln_Parser_217 rfl rfl (by decide +kernel) rfl rfl (Nat.le_of_ble_eq_true rfl) d_Parser_takeBits_14 (wO cI cB cJ cZ a (sG z3.2 19 (z3.1 >>> ((4 : Int32) &&& 31)))) rfl ?_
  refine J_aload_n X d_Parser_takeBits_17 1 rfl rfl ?_
  refine J_get (v := .ref (a 12)) X (fun w h => mm (in_Parser w h)) 11 rfl rfl 2 (by decide) (mm k_fl_Parser_12) rfl rfl d_Parser_takeBits_18 ?_
  refine J_iload_n X d_Parser_takeBits_21 0 rfl rfl ?_
  refine J_bipush (v := (15 : Int32)) X d_Parser_takeBits_22 (by decide) ?_
  refine J_iand X d_Parser_takeBits_24 ?_
  refine J_putN (ty := .int) (v := .int (z3.1 &&& (15 : Int32))) X (fun w h => mm (in_Scan w h)) ty_Scan tyk_Scan nm_Scan 12 rfl rfl 5 (by decide) k_fln_Parser_220 rfl rfl (by decide +kernel) rfl rfl (Nat.le_of_ble_eq_true rfl) d_Parser_takeBits_25 (wO cI cB cJ cZ a (sG (sG z3.2 19 (z3.1 >>> ((4 : Int32) &&& 31))) 20 (z3.1 &&& (15 : Int32)))) rfl ?_
  refine J_aload_n X d_Parser_takeBits_28 1 rfl rfl ?_
  refine J_get (v := .ref (a 12)) X (fun w h => mm (in_Parser w h)) 11 rfl rfl 2 (by decide) (mm k_fl_Parser_12) rfl rfl d_Parser_takeBits_29 ?_
  refine J_getN (v := .int (z3.1 &&& (15 : Int32))) X (fun w h => mm (in_Scan w h)) 12 rfl rfl 5 (by decide) k_fln_Parser_220 rfl rfl d_Parser_takeBits_32 ?_
  refine J_bipush (v := (13 : Int32)) X d_Parser_takeBits_35 (by decide) ?_
  refine J_icmp_gt X 69 d_Parser_takeBits_37 (by decide) (fun c37 => ?_) (fun c37 => ?_)
  · rw [if_pos c37] at h
    refine J_lv [1] [(0, .ref (a 11))] rfl ?_
    exact L69  (sG (sG z3.2 19 (z3.1 >>> ((4 : Int32) &&& 31))) 20 (z3.1 &&& (15 : Int32))) h
  · rw [if_neg c37] at h
    refine J_aload_n X d_Parser_takeBits_40 1 rfl rfl ?_
    refine J_get (v := .ref (a 12)) X (fun w h => mm (in_Parser w h)) 11 rfl rfl 2 (by decide) (mm k_fl_Parser_12) rfl rfl d_Parser_takeBits_41 ?_
    refine J_getN (v := .int (z3.1 >>> ((4 : Int32) &&& 31))) X (fun w h => mm (in_Scan w h)) 12 rfl rfl 4 (by decide) k_fln_Parser_217 rfl rfl d_Parser_takeBits_44 ?_
    refine J_if_eq X 73 d_Parser_takeBits_47 (by decide) (fun c47 => ?_) (fun c47 => ?_)
    · rw [if_pos c47] at h
      exact J_vret X hr hlk () (Nat.le_of_ble_eq_true rfl) (Nat.le_of_ble_eq_true rfl) (congrArg (fun q => wO cI cB cJ cZ a q) (j_s h)) d_Parser_takeBits_73
    · rw [if_neg c47] at h
      refine J_aload_n X d_Parser_takeBits_50 1 rfl rfl ?_
      refine J_get (v := .ref (a 12)) X (fun w h => mm (in_Parser w h)) 11 rfl rfl 2 (by decide) (mm k_fl_Parser_12) rfl rfl d_Parser_takeBits_51 ?_
      refine J_getN (v := .int (z3.1 >>> ((4 : Int32) &&& 31))) X (fun w h => mm (in_Scan w h)) 12 rfl rfl 4 (by decide) k_fln_Parser_217 rfl rfl d_Parser_takeBits_54 ?_
      refine J_aload_n X d_Parser_takeBits_57 1 rfl rfl ?_
      refine J_get (v := .ref (a 12)) X (fun w h => mm (in_Parser w h)) 11 rfl rfl 2 (by decide) (mm k_fl_Parser_12) rfl rfl d_Parser_takeBits_58 ?_
      refine J_getN (v := .int (z3.1 &&& (15 : Int32))) X (fun w h => mm (in_Scan w h)) 12 rfl rfl 5 (by decide) k_fln_Parser_220 rfl rfl d_Parser_takeBits_61 ?_
      refine J_iconst (v := (1 : Int32)) X d_Parser_takeBits_64 (by decide) ?_
      refine J_iadd X d_Parser_takeBits_65 ?_
      refine J_icmp_eq X 73 d_Parser_takeBits_66 (by decide) (fun c66 => ?_) (fun c66 => ?_)
      · rw [if_pos c66] at h
        exact J_vret X hr hlk () (Nat.le_of_ble_eq_true rfl) (Nat.le_of_ble_eq_true rfl) (congrArg (fun q => wO cI cB cJ cZ a q) (j_s h)) d_Parser_takeBits_73
      · rw [if_neg c66] at h
        refine J_lv [1] [(0, .ref (a 11))] rfl ?_
        exact L69  (sG (sG z3.2 19 (z3.1 >>> ((4 : Int32) &&& 31))) 20 (z3.1 &&& (15 : Int32))) h
set_option maxHeartbeats 4000000 in
set_option maxRecDepth 100000 in
theorem ct_Scan_placeAt (l : Launch) (dC : Nat → ClassId) (dI : Nat → Nat → Nat) (cI cB cJ cZ : ClassId) (a : Nat → Nat) (n : Nat) (x1 : Int32) (t : St) {z : Int32 × St} (h : m_Scan_placeAt n x1 t = some z) : jMi l y_Scan_placeAt w_Scan_placeAt ({ frames := 0, cells := 0, slots := 0, locals := 0 }) (dC, dI) vwCl (tyA cI cB cJ cZ) [.ref (a 12), .int x1] (wO cI cB cJ cZ a t) z.1 (fun _ : Unit => wO cI cB cJ cZ a z.2) := by
  refine jMi.of (cc := c_Scan_placeAt) (maxL := 2) (ret := (some .int)) (by decide) rfl (Nat.le_of_ble_eq_true rfl) ?_
  intro p e s m args below meth c A X hr hlk hnm
  have L22 : ∀  (t : St), m_Scan_placeAt_22 n   t = some z → J p l e { frames := 0, cells := 0, slots := 0, locals := 0 } s m args below meth c 2 (dC, dI) vwCl A (MQ below (jQi (dC, dI) vwCl (tyA cI cB cJ cZ) z.1 (fun _ : Unit => wO cI cB cJ cZ a z.2) A) args s 0 0 A) 0 0 22 [] [] (wO cI cB cJ cZ a t) := by
    intro  t h
    unfold m_Scan_placeAt_22 at h
    refine J_iconst (v := (-1 : Int32)) X d_Scan_placeAt_22 (by decide) ?_
    exact J_iret X hr hlk () (Nat.le_of_ble_eq_true rfl) (Nat.le_of_ble_eq_true rfl) (j_r1 h) (congrArg (fun q => wO cI cB cJ cZ a q) (j_r2 h)) d_Scan_placeAt_23
  refine J_lv [0, 1] [(0, .ref (a 12)), (1, .int x1)] rfl ?_
  unfold m_Scan_placeAt at h
  refine J_iload_n X d_Scan_placeAt_0 1 rfl rfl ?_
  refine J_if_lt X 22 d_Scan_placeAt_1 (by decide) (fun c1 => ?_) (fun c1 => ?_)
  · rw [if_pos c1] at h
    refine J_lv [] [] rfl ?_
    exact L22  t h
  · rw [if_neg c1] at h
    refine J_iload_n X d_Scan_placeAt_4 1 rfl rfl ?_
    refine J_aload_n X d_Scan_placeAt_5 0 rfl rfl ?_
    refine J_get (v := .ref (a 13)) X (fun w h => mm (in_Scan w h)) 12 rfl rfl 6 (by decide) (mm k_fl_Scan_9) rfl rfl d_Scan_placeAt_6 ?_
    refine J_alen X 13 0 rfl rfl (v := (Int32.ofNat 4)) rfl d_Scan_placeAt_9 ?_
    refine J_icmp_ge X 22 d_Scan_placeAt_10 (by decide) (fun c10 => ?_) (fun c10 => ?_)
    · rw [if_pos c10] at h
      refine J_lv [] [] rfl ?_
      exact L22  t h
    · rw [if_neg c10] at h
      refine J_aload_n X d_Scan_placeAt_13 0 rfl rfl ?_
      refine J_get (v := .ref (a 13)) X (fun w h => mm (in_Scan w h)) 12 rfl rfl 6 (by decide) (mm k_fl_Scan_9) rfl rfl d_Scan_placeAt_14 ?_
      refine J_iload_n X d_Scan_placeAt_17 1 rfl rfl ?_
      obtain ⟨b18, h⟩ := j_ifn h
      refine J_iald (f := (t.2.1 6)) X 13 0 rfl rfl b18 d_Scan_placeAt_18 ?_
      refine J_goto X 23 d_Scan_placeAt_19 (by decide) ?_
      exact J_iret X hr hlk () (Nat.le_of_ble_eq_true rfl) (Nat.le_of_ble_eq_true rfl) (j_r1 h) (congrArg (fun q => wO cI cB cJ cZ a q) (j_r2 h)) d_Scan_placeAt_23
set_option maxHeartbeats 4000000 in
set_option maxRecDepth 100000 in
theorem ct_Scan_nameAt (l : Launch) (dC : Nat → ClassId) (dI : Nat → Nat → Nat) (cI cB cJ cZ : ClassId) (a : Nat → Nat) (n : Nat) (x1 : Int32) (t : St) {z : Int32 × St} (h : m_Scan_nameAt n x1 t = some z) : jMi l y_Scan_nameAt w_Scan_nameAt ({ frames := 0, cells := 0, slots := 0, locals := 0 }) (dC, dI) vwCl (tyA cI cB cJ cZ) [.ref (a 12), .int x1] (wO cI cB cJ cZ a t) z.1 (fun _ : Unit => wO cI cB cJ cZ a z.2) := by
  refine jMi.of (cc := c_Scan_nameAt) (maxL := 2) (ret := (some .int)) (by decide) rfl (Nat.le_of_ble_eq_true rfl) ?_
  intro p e s m args below meth c A X hr hlk hnm
  refine J_lv [0, 1] [(0, .ref (a 12)), (1, .int x1)] rfl ?_
  unfold m_Scan_nameAt at h
  refine J_aload_n X d_Scan_nameAt_0 0 rfl rfl ?_
  refine J_get (v := .int (t.1 15)) X (fun w h => mm (in_Scan w h)) 12 rfl rfl 0 (by decide) (mm k_fl_Scan_15) rfl rfl d_Scan_nameAt_1 ?_
  refine J_iconst (v := (1 : Int32)) X d_Scan_nameAt_4 (by decide) ?_
  refine J_iadd X d_Scan_nameAt_5 ?_
  refine J_iconst (v := (2 : Int32)) X d_Scan_nameAt_6 (by decide) ?_
  refine J_iload_n X d_Scan_nameAt_7 1 rfl rfl ?_
  refine J_imul X d_Scan_nameAt_8 ?_
  refine J_iadd X d_Scan_nameAt_9 ?_
  exact J_iret X hr hlk () (Nat.le_of_ble_eq_true rfl) (Nat.le_of_ble_eq_true rfl) (j_r1 h) (congrArg (fun q => wO cI cB cJ cZ a q) (j_r2 h)) d_Scan_nameAt_10
set_option maxHeartbeats 4000000 in
set_option maxRecDepth 100000 in
theorem ct_Parser_checkSent (l : Launch) (dC : Nat → ClassId) (dI : Nat → Nat → Nat) (cI cB cJ cZ : ClassId) (a : Nat → Nat) (n : Nat)  (t : St) {z : St} (h : m_Parser_checkSent n t = some z) : jMv l y_Parser_checkSent w_Parser_checkSent ({ frames := 2, cells := 0, slots := 0, locals := 42 }) (dC, dI) vwCl (tyA cI cB cJ cZ) [.ref (a 11)] (wO cI cB cJ cZ a t) (fun _ : Unit => wO cI cB cJ cZ a z) := by
  refine jMv.of (cc := c_Parser_checkSent) (maxL := 7) (ret := none) (by decide) rfl (Nat.le_of_ble_eq_true rfl) ?_
  intro p e s m args below meth c A X hr hlk hnm
  have L163 : ∀ (K2 : Int32 → St → Option (St)) (hK2 : ∀ (x1 : Int32) (t : St), K2 x1 t = some z → J p l e { frames := 2, cells := 0, slots := 0, locals := 42 } s m args below meth c 7 (dC, dI) vwCl A (MQ below (jQv (dC, dI) vwCl (tyA cI cB cJ cZ) (fun _ : Unit => wO cI cB cJ cZ a z) A) args s 0 0 A) 0 0 2 [(0, .ref (a 11)), (1, .int x1)] [] (wO cI cB cJ cZ a t)) (K135 : Int32 → Int32 → Int32 → Int32 → St → Option (St)) (hK135 : ∀ (x1 : Int32) (x2 : Int32) (x5 : Int32) (x6 : Int32) (t : St), K135 x1 x2 x5 x6 t = some z → J p l e { frames := 2, cells := 0, slots := 0, locals := 42 } s m args below meth c 7 (dC, dI) vwCl A (MQ below (jQv (dC, dI) vwCl (tyA cI cB cJ cZ) (fun _ : Unit => wO cI cB cJ cZ a z) A) args s 0 0 A) 0 0 135 [(0, .ref (a 11)), (1, .int x1), (2, .int x2), (5, .int x5), (6, .int x6)] [] (wO cI cB cJ cZ a t)) (x1 : Int32) (x2 : Int32) (x5 : Int32) (x6 : Int32) (t : St), m_Parser_checkSent_163 n K2 K135 x1 x2 x5 x6 t = some z → J p l e { frames := 2, cells := 0, slots := 0, locals := 42 } s m args below meth c 7 (dC, dI) vwCl A (MQ below (jQv (dC, dI) vwCl (tyA cI cB cJ cZ) (fun _ : Unit => wO cI cB cJ cZ a z) A) args s 0 0 A) 0 0 163 [(0, .ref (a 11)), (1, .int x1), (2, .int x2), (5, .int x5), (6, .int x6)] [] (wO cI cB cJ cZ a t) := by
    intro K2 hK2 K135 hK135 x1 x2 x5 x6 t h
    unfold m_Parser_checkSent_163 at h
    refine J_iinc (v := (x6 + 1)) X [(6, .int (x6 + 1)), (0, .ref (a 11)), (1, .int x1), (2, .int x2), (5, .int x5)] d_Parser_checkSent_163 4 rfl rfl (by decide) rfl ?_
    refine J_goto X 135 d_Parser_checkSent_166 (by decide) ?_
    refine J_lv [1, 2, 3, 4, 0] [(0, .ref (a 11)), (1, .int x1), (2, .int x2), (5, .int x5), (6, .int (x6 + 1))] rfl ?_
    exact hK135 x1 x2 x5 (x6 + 1) t h
  have L135 : ∀ (K2 : Int32 → St → Option (St)) (hK2 : ∀ (x1 : Int32) (t : St), K2 x1 t = some z → J p l e { frames := 2, cells := 0, slots := 0, locals := 42 } s m args below meth c 7 (dC, dI) vwCl A (MQ below (jQv (dC, dI) vwCl (tyA cI cB cJ cZ) (fun _ : Unit => wO cI cB cJ cZ a z) A) args s 0 0 A) 0 0 2 [(0, .ref (a 11)), (1, .int x1)] [] (wO cI cB cJ cZ a t)) (k : Nat) (x1 : Int32) (x2 : Int32) (x5 : Int32) (x6 : Int32) (t : St), m_Parser_checkSent_135 n K2 k x1 x2 x5 x6 t = some z → J p l e { frames := 2, cells := 0, slots := 0, locals := 42 } s m args below meth c 7 (dC, dI) vwCl A (MQ below (jQv (dC, dI) vwCl (tyA cI cB cJ cZ) (fun _ : Unit => wO cI cB cJ cZ a z) A) args s 0 0 A) 0 0 135 [(0, .ref (a 11)), (1, .int x1), (2, .int x2), (5, .int x5), (6, .int x6)] [] (wO cI cB cJ cZ a t) := by
    intro K2 hK2 k
    induction k with
    | zero => intro x1 x2 x5 x6 t h; exact absurd (show none = some z from h) (by simp)
    | succ k ih =>
      intro x1 x2 x5 x6 t h
      change m_Parser_checkSent_135b n K2 (m_Parser_checkSent_135 n K2 k) x1 x2 x5 x6 t = some z at h
      unfold m_Parser_checkSent_135b at h
      refine J_iload X d_Parser_checkSent_135 4 rfl ?_
      refine J_aload_n X d_Parser_checkSent_137 0 rfl rfl ?_
      refine J_get (v := .ref (a 12)) X (fun w h => mm (in_Parser w h)) 11 rfl rfl 2 (by decide) (mm k_fl_Parser_12) rfl rfl d_Parser_checkSent_138 ?_
      refine J_getN (v := .int (t.1 18)) X (fun w h => mm (in_Scan w h)) 12 rfl rfl 3 (by decide) k_fln_Parser_196 rfl rfl d_Parser_checkSent_141 ?_
      refine J_icmp_gt X 169 d_Parser_checkSent_144 (by decide) (fun c144 => ?_) (fun c144 => ?_)
      · rw [if_pos c144] at h
        refine J_iinc (v := (x1 + 1)) X [(1, .int (x1 + 1)), (0, .ref (a 11)), (2, .int x2), (5, .int x5), (6, .int x6)] d_Parser_checkSent_169 1 rfl rfl (by decide) rfl ?_
        refine J_goto X 2 d_Parser_checkSent_172 (by decide) ?_
        refine J_lv [1, 0] [(0, .ref (a 11)), (1, .int (x1 + 1))] rfl ?_
        exact hK2 (x1 + 1) t h
      · rw [if_neg c144] at h
        refine J_aload_n X d_Parser_checkSent_147 0 rfl rfl ?_
        refine J_iload_n X d_Parser_checkSent_148 2 rfl rfl ?_
        refine J_iload X d_Parser_checkSent_149 4 rfl ?_
        obtain ⟨z151, hz151, h⟩ := j_bind h
        refine J_callVi0 (n := 2) (wc := (wO cI cB cJ cZ a t)) (r := z151.1) (w1 := fun _ : Unit => wO cI cB cJ cZ a z151.2) X isO (hCO cI cB cJ cZ a t) (hDO cI cB cJ cZ a t) rfl [.int x2, .int x6] [] (ct_Parser_latestOf l dC dI cI cB cJ cZ a n x2 x6 t hz151) (aw_V (fun w h => mm h) k_ml_Parser_119 k_im_Parser_latestOf k_se_Parser_latestOf k_in_Parser k_cd_Parser_latestOf) rfl (by decide +kernel) ⟨(Nat.le_of_ble_eq_true rfl), (Nat.le_of_ble_eq_true rfl)⟩ (q0 := 11) rfl rfl rfl rfl (Nat.le_of_ble_eq_true rfl) d_Parser_checkSent_151 ⟨(Nat.le_of_ble_eq_true rfl), (Nat.le_of_ble_eq_true rfl)⟩ (fun _ => ?_)
        refine J_iload X d_Parser_checkSent_154 3 rfl ?_
        refine J_icmp_eq X 163 d_Parser_checkSent_156 (by decide) (fun c156 => ?_) (fun c156 => ?_)
        · rw [if_pos c156] at h
          refine J_lv [0, 1, 2, 3, 4] [(0, .ref (a 11)), (1, .int x1), (2, .int x2), (5, .int x5), (6, .int x6)] rfl ?_
          exact L163 K2 hK2 (m_Parser_checkSent_135 n K2 k) ih x1 x2 x5 x6 z151.2 h
        · rw [if_neg c156] at h
          refine J_aload_n X d_Parser_checkSent_159 0 rfl rfl ?_
          obtain ⟨z160, hz160, h⟩ := j_bind h
          refine J_callVv0 (n := 0) (wc := (wO cI cB cJ cZ a z151.2)) (w1 := fun _ : Unit => wO cI cB cJ cZ a z160) X isO (hCO cI cB cJ cZ a z151.2) (hDO cI cB cJ cZ a z151.2) rfl [] [] (ct_Parser_refuseTaken l dC dI cI cB cJ cZ a n z151.2 hz160) (aw_V (fun w h => mm h) k_ml_Parser_150 k_im_Parser_refuseTaken k_se_Parser_refuseTaken k_in_Parser k_cd_Parser_refuseTaken) rfl (by decide +kernel) ⟨(Nat.le_of_ble_eq_true rfl), (Nat.le_of_ble_eq_true rfl)⟩ (q0 := 11) rfl rfl rfl rfl (Nat.le_of_ble_eq_true rfl) d_Parser_checkSent_160 ⟨(Nat.le_of_ble_eq_true rfl), (Nat.le_of_ble_eq_true rfl)⟩ (fun _ => ?_)
          refine J_lv [0, 1, 2, 3, 4] [(0, .ref (a 11)), (1, .int x1), (2, .int x2), (5, .int x5), (6, .int x6)] rfl ?_
          exact L163 K2 hK2 (m_Parser_checkSent_135 n K2 k) ih x1 x2 x5 x6 z160 h
  have L124 : ∀ (K2 : Int32 → St → Option (St)) (hK2 : ∀ (x1 : Int32) (t : St), K2 x1 t = some z → J p l e { frames := 2, cells := 0, slots := 0, locals := 42 } s m args below meth c 7 (dC, dI) vwCl A (MQ below (jQv (dC, dI) vwCl (tyA cI cB cJ cZ) (fun _ : Unit => wO cI cB cJ cZ a z) A) args s 0 0 A) 0 0 2 [(0, .ref (a 11)), (1, .int x1)] [] (wO cI cB cJ cZ a t)) (x1 : Int32) (x2 : Int32) (y0 : Int32) (t : St), m_Parser_checkSent_124 n K2 x1 x2 y0 t = some z → J p l e { frames := 2, cells := 0, slots := 0, locals := 42 } s m args below meth c 7 (dC, dI) vwCl A (MQ below (jQv (dC, dI) vwCl (tyA cI cB cJ cZ) (fun _ : Unit => wO cI cB cJ cZ a z) A) args s 0 0 A) 0 0 124 [(0, .ref (a 11)), (1, .int x1), (2, .int x2)] [.int y0] (wO cI cB cJ cZ a t) := by
    intro K2 hK2 x1 x2 y0 t h
    unfold m_Parser_checkSent_124 at h
    refine J_istore X [(5, .int y0), (0, .ref (a 11)), (1, .int x1), (2, .int x2)] d_Parser_checkSent_124 (by decide) rfl ?_
    refine J_aload_n X d_Parser_checkSent_126 1 rfl rfl ?_
    refine J_get (v := .ref (a 12)) X (fun w h => mm (in_Parser w h)) 11 rfl rfl 2 (by decide) (mm k_fl_Parser_12) rfl rfl d_Parser_checkSent_127 ?_
    refine J_getN (v := .int (t.1 17)) X (fun w h => mm (in_Scan w h)) 12 rfl rfl 2 (by decide) k_fln_Parser_193 rfl rfl d_Parser_checkSent_130 ?_
    refine J_istore X [(6, .int (t.1 17)), (5, .int y0), (0, .ref (a 11)), (1, .int x1), (2, .int x2)] d_Parser_checkSent_133 (by decide) rfl ?_
    refine J_lv [2, 3, 4, 1, 0] [(0, .ref (a 11)), (1, .int x1), (2, .int x2), (5, .int y0), (6, .int (t.1 17))] rfl ?_
    exact L135 K2 hK2 n x1 x2 y0 (t.1 17) t h
  have L103 : ∀ (K2 : Int32 → St → Option (St)) (hK2 : ∀ (x1 : Int32) (t : St), K2 x1 t = some z → J p l e { frames := 2, cells := 0, slots := 0, locals := 42 } s m args below meth c 7 (dC, dI) vwCl A (MQ below (jQv (dC, dI) vwCl (tyA cI cB cJ cZ) (fun _ : Unit => wO cI cB cJ cZ a z) A) args s 0 0 A) 0 0 2 [(0, .ref (a 11)), (1, .int x1)] [] (wO cI cB cJ cZ a t)) (x1 : Int32) (x2 : Int32) (t : St), m_Parser_checkSent_103 n K2 x1 x2 t = some z → J p l e { frames := 2, cells := 0, slots := 0, locals := 42 } s m args below meth c 7 (dC, dI) vwCl A (MQ below (jQv (dC, dI) vwCl (tyA cI cB cJ cZ) (fun _ : Unit => wO cI cB cJ cZ a z) A) args s 0 0 A) 0 0 103 [(0, .ref (a 11)), (1, .int x1), (2, .int x2)] [] (wO cI cB cJ cZ a t) := by
    intro K2 hK2 x1 x2 t h
    unfold m_Parser_checkSent_103 at h
    refine J_aload_n X d_Parser_checkSent_103 0 rfl rfl ?_
    refine J_get (v := .ref (a 12)) X (fun w h => mm (in_Parser w h)) 11 rfl rfl 2 (by decide) (mm k_fl_Parser_12) rfl rfl d_Parser_checkSent_104 ?_
    refine J_getN (v := .int (t.1 19)) X (fun w h => mm (in_Scan w h)) 12 rfl rfl 4 (by decide) k_fln_Parser_217 rfl rfl d_Parser_checkSent_107 ?_
    refine J_if_ne X 117 d_Parser_checkSent_110 (by decide) (fun c110 => ?_) (fun c110 => ?_)
    · rw [if_neg c110] at h
      refine J_aload_n X d_Parser_checkSent_117 0 rfl rfl ?_
      refine J_get (v := .ref (a 12)) X (fun w h => mm (in_Parser w h)) 11 rfl rfl 2 (by decide) (mm k_fl_Parser_12) rfl rfl d_Parser_checkSent_118 ?_
      refine J_getN (v := .int (t.1 19)) X (fun w h => mm (in_Scan w h)) 12 rfl rfl 4 (by decide) k_fln_Parser_217 rfl rfl d_Parser_checkSent_121 ?_
      refine J_lv [0, 1, 2] [(0, .ref (a 11)), (1, .int x1), (2, .int x2)] rfl ?_
      exact L124 K2 hK2 x1 x2 (t.1 19) t h
    · rw [if_pos c110] at h
      refine J_iconst (v := (-1 : Int32)) X d_Parser_checkSent_113 (by decide) ?_
      refine J_goto X 124 d_Parser_checkSent_114 (by decide) ?_
      refine J_lv [0, 1, 2] [(0, .ref (a 11)), (1, .int x1), (2, .int x2)] rfl ?_
      exact L124 K2 hK2 x1 x2 (-1 : Int32) t h
  have L88 : ∀ (K2 : Int32 → St → Option (St)) (hK2 : ∀ (x1 : Int32) (t : St), K2 x1 t = some z → J p l e { frames := 2, cells := 0, slots := 0, locals := 42 } s m args below meth c 7 (dC, dI) vwCl A (MQ below (jQv (dC, dI) vwCl (tyA cI cB cJ cZ) (fun _ : Unit => wO cI cB cJ cZ a z) A) args s 0 0 A) 0 0 2 [(0, .ref (a 11)), (1, .int x1)] [] (wO cI cB cJ cZ a t)) (x1 : Int32) (x2 : Int32) (t : St), m_Parser_checkSent_88 n K2 x1 x2 t = some z → J p l e { frames := 2, cells := 0, slots := 0, locals := 42 } s m args below meth c 7 (dC, dI) vwCl A (MQ below (jQv (dC, dI) vwCl (tyA cI cB cJ cZ) (fun _ : Unit => wO cI cB cJ cZ a z) A) args s 0 0 A) 0 0 88 [(0, .ref (a 11)), (1, .int x1), (2, .int x2)] [] (wO cI cB cJ cZ a t) := by
    intro K2 hK2 x1 x2 t h
    unfold m_Parser_checkSent_88 at h
    refine J_aload_n X d_Parser_checkSent_88 0 rfl rfl ?_
    refine J_bipush (v := (7 : Int32)) X d_Parser_checkSent_89 (by decide) ?_
    refine J_aload_n X d_Parser_checkSent_91 0 rfl rfl ?_
    refine J_get (v := .ref (a 12)) X (fun w h => mm (in_Parser w h)) 11 rfl rfl 2 (by decide) (mm k_fl_Parser_12) rfl rfl d_Parser_checkSent_92 ?_
    refine J_iload_n X d_Parser_checkSent_95 1 rfl rfl ?_
    obtain ⟨z96, hz96, h⟩ := j_bind h
    refine J_callVi0 (n := 1) (wc := (wO cI cB cJ cZ a t)) (r := z96.1) (w1 := fun _ : Unit => wO cI cB cJ cZ a z96.2) X isO (hCO cI cB cJ cZ a t) (hDO cI cB cJ cZ a t) rfl [.int x1] [.int (7 : Int32), .ref (a 11)] (ct_Scan_nameAt l dC dI cI cB cJ cZ a n x1 t hz96) (aw_V (fun w h => mm h) k_ml_Parser_226 k_im_Scan_nameAt k_se_Scan_nameAt k_in_Scan k_cd_Scan_nameAt) rfl (by decide +kernel) ⟨(Nat.le_of_ble_eq_true rfl), (Nat.le_of_ble_eq_true rfl)⟩ (q0 := 12) rfl rfl rfl rfl (Nat.le_of_ble_eq_true rfl) d_Parser_checkSent_96 ⟨(Nat.le_of_ble_eq_true rfl), (Nat.le_of_ble_eq_true rfl)⟩ (fun _ => ?_)
    obtain ⟨z99, hz99, h⟩ := j_bind h
    refine J_callVi0 (n := 2) (wc := (wO cI cB cJ cZ a z96.2)) (r := z99.1) (w1 := fun _ : Unit => wO cI cB cJ cZ a z99.2) X isO (hCO cI cB cJ cZ a z96.2) (hDO cI cB cJ cZ a z96.2) rfl [.int (7 : Int32), .int z96.1] [] (ct_Parser_fail l dC dI cI cB cJ cZ a n (7 : Int32) z96.1 z96.2 hz99) (aw_V (fun w h => mm h) k_ml_Parser_77 k_im_Parser_fail k_se_Parser_fail k_in_Parser k_cd_Parser_fail) rfl (by decide +kernel) ⟨(Nat.le_of_ble_eq_true rfl), (Nat.le_of_ble_eq_true rfl)⟩ (q0 := 11) rfl rfl rfl rfl (Nat.le_of_ble_eq_true rfl) d_Parser_checkSent_99 ⟨(Nat.le_of_ble_eq_true rfl), (Nat.le_of_ble_eq_true rfl)⟩ (fun _ => ?_)
    refine J_pop X d_Parser_checkSent_102 rfl ?_
    refine J_lv [0, 1, 2] [(0, .ref (a 11)), (1, .int x1), (2, .int x2)] rfl ?_
    exact L103 K2 hK2 x1 x2 z99.2 h
  have L67 : ∀ (K2 : Int32 → St → Option (St)) (hK2 : ∀ (x1 : Int32) (t : St), K2 x1 t = some z → J p l e { frames := 2, cells := 0, slots := 0, locals := 42 } s m args below meth c 7 (dC, dI) vwCl A (MQ below (jQv (dC, dI) vwCl (tyA cI cB cJ cZ) (fun _ : Unit => wO cI cB cJ cZ a z) A) args s 0 0 A) 0 0 2 [(0, .ref (a 11)), (1, .int x1)] [] (wO cI cB cJ cZ a t)) (x1 : Int32) (x2 : Int32) (x3 : Int32) (y0 : Int32) (t : St), m_Parser_checkSent_67 n K2 x1 x2 x3 y0 t = some z → J p l e { frames := 2, cells := 0, slots := 0, locals := 42 } s m args below meth c 7 (dC, dI) vwCl A (MQ below (jQv (dC, dI) vwCl (tyA cI cB cJ cZ) (fun _ : Unit => wO cI cB cJ cZ a z) A) args s 0 0 A) 0 0 67 [(0, .ref (a 11)), (1, .int x1), (2, .int x2), (3, .int x3)] [.int y0] (wO cI cB cJ cZ a t) := by
    intro K2 hK2 x1 x2 x3 y0 t h
    unfold m_Parser_checkSent_67 at h
    refine J_istore X [(4, .int y0), (0, .ref (a 11)), (1, .int x1), (2, .int x2), (3, .int x3)] d_Parser_checkSent_67 (by decide) rfl ?_
    refine J_iload X d_Parser_checkSent_69 0 rfl ?_
    refine J_if_ne X 88 d_Parser_checkSent_71 (by decide) (fun c71 => ?_) (fun c71 => ?_)
    · rw [if_neg c71] at h
      refine J_lv [1, 2, 3] [(0, .ref (a 11)), (1, .int x1), (2, .int x2)] rfl ?_
      exact L88 K2 hK2 x1 x2 t h
    · rw [if_pos c71] at h
      refine J_aload_n X d_Parser_checkSent_74 1 rfl rfl ?_
      refine J_get (v := .ref (a 12)) X (fun w h => mm (in_Parser w h)) 11 rfl rfl 2 (by decide) (mm k_fl_Parser_12) rfl rfl d_Parser_checkSent_75 ?_
      refine J_getN (v := .int (t.1 17)) X (fun w h => mm (in_Scan w h)) 12 rfl rfl 2 (by decide) k_fln_Parser_193 rfl rfl d_Parser_checkSent_78 ?_
      refine J_if_le X 103 d_Parser_checkSent_81 (by decide) (fun c81 => ?_) (fun c81 => ?_)
      · rw [if_pos c81] at h
        refine J_lv [1, 2, 3] [(0, .ref (a 11)), (1, .int x1), (2, .int x2)] rfl ?_
        exact L103 K2 hK2 x1 x2 t h
      · rw [if_neg c81] at h
        refine J_iload_n X d_Parser_checkSent_84 4 rfl rfl ?_
        refine J_if_ne X 103 d_Parser_checkSent_85 (by decide) (fun c85 => ?_) (fun c85 => ?_)
        · rw [if_neg c85] at h
          refine J_lv [1, 2, 3] [(0, .ref (a 11)), (1, .int x1), (2, .int x2)] rfl ?_
          exact L103 K2 hK2 x1 x2 t h
        · rw [if_pos c85] at h
          refine J_lv [1, 2, 3] [(0, .ref (a 11)), (1, .int x1), (2, .int x2)] rfl ?_
          exact L88 K2 hK2 x1 x2 t h
  have L66 : ∀ (K2 : Int32 → St → Option (St)) (hK2 : ∀ (x1 : Int32) (t : St), K2 x1 t = some z → J p l e { frames := 2, cells := 0, slots := 0, locals := 42 } s m args below meth c 7 (dC, dI) vwCl A (MQ below (jQv (dC, dI) vwCl (tyA cI cB cJ cZ) (fun _ : Unit => wO cI cB cJ cZ a z) A) args s 0 0 A) 0 0 2 [(0, .ref (a 11)), (1, .int x1)] [] (wO cI cB cJ cZ a t)) (x1 : Int32) (x2 : Int32) (x3 : Int32) (t : St), m_Parser_checkSent_66 n K2 x1 x2 x3 t = some z → J p l e { frames := 2, cells := 0, slots := 0, locals := 42 } s m args below meth c 7 (dC, dI) vwCl A (MQ below (jQv (dC, dI) vwCl (tyA cI cB cJ cZ) (fun _ : Unit => wO cI cB cJ cZ a z) A) args s 0 0 A) 0 0 66 [(0, .ref (a 11)), (1, .int x1), (2, .int x2), (3, .int x3)] [] (wO cI cB cJ cZ a t) := by
    intro K2 hK2 x1 x2 x3 t h
    unfold m_Parser_checkSent_66 at h
    refine J_iconst (v := (0 : Int32)) X d_Parser_checkSent_66 (by decide) ?_
    refine J_lv [0, 1, 2, 3] [(0, .ref (a 11)), (1, .int x1), (2, .int x2), (3, .int x3)] rfl ?_
    exact L67 K2 hK2 x1 x2 x3 (0 : Int32) t h
  have L44 : ∀ (K2 : Int32 → St → Option (St)) (hK2 : ∀ (x1 : Int32) (t : St), K2 x1 t = some z → J p l e { frames := 2, cells := 0, slots := 0, locals := 42 } s m args below meth c 7 (dC, dI) vwCl A (MQ below (jQv (dC, dI) vwCl (tyA cI cB cJ cZ) (fun _ : Unit => wO cI cB cJ cZ a z) A) args s 0 0 A) 0 0 2 [(0, .ref (a 11)), (1, .int x1)] [] (wO cI cB cJ cZ a t)) (x1 : Int32) (x2 : Int32) (y0 : Int32) (t : St), m_Parser_checkSent_44 n K2 x1 x2 y0 t = some z → J p l e { frames := 2, cells := 0, slots := 0, locals := 42 } s m args below meth c 7 (dC, dI) vwCl A (MQ below (jQv (dC, dI) vwCl (tyA cI cB cJ cZ) (fun _ : Unit => wO cI cB cJ cZ a z) A) args s 0 0 A) 0 0 44 [(0, .ref (a 11)), (1, .int x1), (2, .int x2)] [.int y0] (wO cI cB cJ cZ a t) := by
    intro K2 hK2 x1 x2 y0 t h
    unfold m_Parser_checkSent_44 at h
    refine J_istore_n X [(3, .int y0), (0, .ref (a 11)), (1, .int x1), (2, .int x2)] d_Parser_checkSent_44 rfl (by decide) rfl ?_
    refine J_iload_n X d_Parser_checkSent_45 0 rfl rfl ?_
    refine J_if_eq X 66 d_Parser_checkSent_46 (by decide) (fun c46 => ?_) (fun c46 => ?_)
    · rw [if_pos c46] at h
      refine J_lv [1, 2, 3, 0] [(0, .ref (a 11)), (1, .int x1), (2, .int x2), (3, .int y0)] rfl ?_
      exact L66 K2 hK2 x1 x2 y0 t h
    · rw [if_neg c46] at h
      refine J_aload_n X d_Parser_checkSent_49 1 rfl rfl ?_
      refine J_get (v := .ref (a 3)) X (fun w h => mm (in_Parser w h)) 11 rfl rfl 1 (by decide) (mm k_fl_Parser_50) rfl rfl d_Parser_checkSent_50 ?_
      refine J_getN (v := .int (t.1 1)) X (fun w h => mm (in_Picture w h)) 3 rfl rfl 6 (by decide) k_fln_Parser_106 rfl rfl d_Parser_checkSent_53 ?_
      refine J_sipush (v := (192 : Int32)) X d_Parser_checkSent_56 (by decide) ?_
      refine J_icmp_ne X 66 d_Parser_checkSent_59 (by decide) (fun c59 => ?_) (fun c59 => ?_)
      · rw [if_neg c59] at h
        refine J_lv [1, 2, 3, 0] [(0, .ref (a 11)), (1, .int x1), (2, .int x2), (3, .int y0)] rfl ?_
        exact L66 K2 hK2 x1 x2 y0 t h
      · rw [if_pos c59] at h
        refine J_iconst (v := (1 : Int32)) X d_Parser_checkSent_62 (by decide) ?_
        refine J_goto X 67 d_Parser_checkSent_63 (by decide) ?_
        refine J_lv [1, 2, 3, 0] [(0, .ref (a 11)), (1, .int x1), (2, .int x2), (3, .int y0)] rfl ?_
        exact L67 K2 hK2 x1 x2 y0 (1 : Int32) t h
  have L2 : ∀ (k : Nat) (x1 : Int32) (t : St), m_Parser_checkSent_2 n  k x1 t = some z → J p l e { frames := 2, cells := 0, slots := 0, locals := 42 } s m args below meth c 7 (dC, dI) vwCl A (MQ below (jQv (dC, dI) vwCl (tyA cI cB cJ cZ) (fun _ : Unit => wO cI cB cJ cZ a z) A) args s 0 0 A) 0 0 2 [(0, .ref (a 11)), (1, .int x1)] [] (wO cI cB cJ cZ a t) := by
    intro k
    induction k with
    | zero => intro x1 t h; exact absurd (show none = some z from h) (by simp)
    | succ k ih =>
      intro x1 t h
      change m_Parser_checkSent_2b n  (m_Parser_checkSent_2 n  k) x1 t = some z at h
      unfold m_Parser_checkSent_2b at h
      refine J_iload_n X d_Parser_checkSent_2 1 rfl rfl ?_
      refine J_aload_n X d_Parser_checkSent_3 0 rfl rfl ?_
      refine J_get (v := .ref (a 12)) X (fun w h => mm (in_Parser w h)) 11 rfl rfl 2 (by decide) (mm k_fl_Parser_12) rfl rfl d_Parser_checkSent_4 ?_
      refine J_getN (v := .int (t.1 16)) X (fun w h => mm (in_Scan w h)) 12 rfl rfl 1 (by decide) k_fln_Parser_187 rfl rfl d_Parser_checkSent_7 ?_
      refine J_icmp_ge X 175 d_Parser_checkSent_10 (by decide) (fun c10 => ?_) (fun c10 => ?_)
      · rw [if_pos c10] at h
        exact J_vret X hr hlk () (Nat.le_of_ble_eq_true rfl) (Nat.le_of_ble_eq_true rfl) (congrArg (fun q => wO cI cB cJ cZ a q) (j_s h)) d_Parser_checkSent_175
      · rw [if_neg c10] at h
        refine J_aload_n X d_Parser_checkSent_13 0 rfl rfl ?_
        refine J_get (v := .int (t.1 13)) X (fun w h => mm (in_Parser w h)) 11 rfl rfl 9 (by decide) (mm k_fl_Parser_40) rfl rfl d_Parser_checkSent_14 ?_
        refine J_if_ne X 175 d_Parser_checkSent_17 (by decide) (fun c17 => ?_) (fun c17 => ?_)
        · rw [if_neg c17] at h
          exact J_vret X hr hlk () (Nat.le_of_ble_eq_true rfl) (Nat.le_of_ble_eq_true rfl) (congrArg (fun q => wO cI cB cJ cZ a q) (j_s h)) d_Parser_checkSent_175
        · rw [if_pos c17] at h
          refine J_aload_n X d_Parser_checkSent_20 0 rfl rfl ?_
          refine J_get (v := .ref (a 12)) X (fun w h => mm (in_Parser w h)) 11 rfl rfl 2 (by decide) (mm k_fl_Parser_12) rfl rfl d_Parser_checkSent_21 ?_
          refine J_iload_n X d_Parser_checkSent_24 1 rfl rfl ?_
          obtain ⟨z25, hz25, h⟩ := j_bind h
          refine J_callVi0 (n := 1) (wc := (wO cI cB cJ cZ a t)) (r := z25.1) (w1 := fun _ : Unit => wO cI cB cJ cZ a z25.2) X isO (hCO cI cB cJ cZ a t) (hDO cI cB cJ cZ a t) rfl [.int x1] [] (ct_Scan_placeAt l dC dI cI cB cJ cZ a n x1 t hz25) (aw_V (fun w h => mm h) k_ml_Parser_223 k_im_Scan_placeAt k_se_Scan_placeAt k_in_Scan k_cd_Scan_placeAt) rfl (by decide +kernel) ⟨(Nat.le_of_ble_eq_true rfl), (Nat.le_of_ble_eq_true rfl)⟩ (q0 := 12) rfl rfl rfl rfl (Nat.le_of_ble_eq_true rfl) d_Parser_checkSent_25 ⟨(Nat.le_of_ble_eq_true rfl), (Nat.le_of_ble_eq_true rfl)⟩ (fun _ => ?_)
          refine J_istore_n X [(2, .int z25.1), (0, .ref (a 11)), (1, .int x1)] d_Parser_checkSent_28 rfl (by decide) rfl ?_
          refine J_aload_n X d_Parser_checkSent_29 1 rfl rfl ?_
          refine J_iload_n X d_Parser_checkSent_30 0 rfl rfl ?_
          refine J_iconst (v := (0 : Int32)) X d_Parser_checkSent_31 (by decide) ?_
          obtain ⟨z32, hz32, h⟩ := j_bind h
          refine J_callVi0 (n := 2) (wc := (wO cI cB cJ cZ a z25.2)) (r := z32.1) (w1 := fun _ : Unit => wO cI cB cJ cZ a z32.2) X isO (hCO cI cB cJ cZ a z25.2) (hDO cI cB cJ cZ a z25.2) rfl [.int z25.1, .int (0 : Int32)] [] (ct_Parser_latestOf l dC dI cI cB cJ cZ a n z25.1 (0 : Int32) z25.2 hz32) (aw_V (fun w h => mm h) k_ml_Parser_119 k_im_Parser_latestOf k_se_Parser_latestOf k_in_Parser k_cd_Parser_latestOf) rfl (by decide +kernel) ⟨(Nat.le_of_ble_eq_true rfl), (Nat.le_of_ble_eq_true rfl)⟩ (q0 := 11) rfl rfl rfl rfl (Nat.le_of_ble_eq_true rfl) d_Parser_checkSent_32 ⟨(Nat.le_of_ble_eq_true rfl), (Nat.le_of_ble_eq_true rfl)⟩ (fun _ => ?_)
          refine J_iconst (v := (-1 : Int32)) X d_Parser_checkSent_35 (by decide) ?_
          refine J_icmp_eq X 43 d_Parser_checkSent_36 (by decide) (fun c36 => ?_) (fun c36 => ?_)
          · rw [if_pos c36] at h
            refine J_iconst (v := (0 : Int32)) X d_Parser_checkSent_43 (by decide) ?_
            refine J_lv [1, 2, 0] [(0, .ref (a 11)), (1, .int x1), (2, .int z25.1)] rfl ?_
            exact L44 (m_Parser_checkSent_2 n  k) ih x1 z25.1 (0 : Int32) z32.2 h
          · rw [if_neg c36] at h
            refine J_iconst (v := (1 : Int32)) X d_Parser_checkSent_39 (by decide) ?_
            refine J_goto X 44 d_Parser_checkSent_40 (by decide) ?_
            refine J_lv [1, 2, 0] [(0, .ref (a 11)), (1, .int x1), (2, .int z25.1)] rfl ?_
            exact L44 (m_Parser_checkSent_2 n  k) ih x1 z25.1 (1 : Int32) z32.2 h
  refine J_lv [0] [(0, .ref (a 11))] rfl ?_
  unfold m_Parser_checkSent at h
  refine J_iconst (v := (0 : Int32)) X d_Parser_checkSent_0 (by decide) ?_
  refine J_istore_n X [(1, .int (0 : Int32)), (0, .ref (a 11))] d_Parser_checkSent_1 rfl (by decide) rfl ?_
  refine J_lv [1, 0] [(0, .ref (a 11)), (1, .int (0 : Int32))] rfl ?_
  exact L2  n (0 : Int32) t h
