set_option maxHeartbeats 4000000 in
set_option maxRecDepth 100000 in
theorem ct_Model_scan (l : Launch) (dC : Nat → ClassId) (dI : Nat → Nat → Nat) (cI cB cJ cZ : ClassId) (a : Nat → Nat) (n : Nat) (x1 : Int32) (x2 : Int32) (t : St) {z : Int32 × St} (h : m_Model_scan n x1 x2 t = some z) : jMi l y_Model_scan w_Model_scan ({ frames := 0, cells := 0, slots := 0, locals := 0 }) (dC, dI) vwCl (tyA cI cB cJ cZ) [.ref (a 0), .int x1, .int x2] (wM cI cB cJ cZ a t) z.1 (fun _ : Unit => wM cI cB cJ cZ a z.2) := by
  refine jMi.of (cc := c_Model_scan) (maxL := 4) (ret := (some .int)) (by decide) rfl (Nat.le_of_ble_eq_true rfl) ?_
  intro p e s m args below meth c A X hr hlk hnm
  have L77 : ∀ (x1 : Int32) (x2 : Int32) (y0 : Int32) (t : St), m_Model_scan_77 n  x1 x2 y0 t = some z → J p l e { frames := 0, cells := 0, slots := 0, locals := 0 } s m args below meth c 4 (dC, dI) vwCl A (MQ below (jQi (dC, dI) vwCl (tyA cI cB cJ cZ) z.1 (fun _ : Unit => wM cI cB cJ cZ a z.2) A) args s 0 0 A) 0 0 77 [(0, .ref (a 0)), (1, .int x1), (2, .int x2)] [.int y0] (wM cI cB cJ cZ a t) := by
    intro x1 x2 y0 t h
    unfold m_Model_scan_77 at h
    refine J_istore_n X [(3, .int y0), (0, .ref (a 0)), (1, .int x1), (2, .int x2)] d_Model_scan_77 rfl (by decide) rfl ?_
    refine J_iload_n X d_Model_scan_78 0 rfl rfl ?_
    refine J_if_eq X 102 d_Model_scan_79 (by decide) (fun c79 => ?_) (fun c79 => ?_)
    · rw [if_pos c79] at h
      refine J_iconst (v := (-1 : Int32)) X d_Model_scan_102 (by decide) ?_
      exact J_iret X hr hlk () (Nat.le_of_ble_eq_true rfl) (Nat.le_of_ble_eq_true rfl) (j_r1 h) (congrArg (fun q => wM cI cB cJ cZ a q) (j_r2 h)) d_Model_scan_103
    · rw [if_neg c79] at h
      refine J_aload_n X d_Model_scan_82 1 rfl rfl ?_
      refine J_get (v := .ref (a 13)) X (fun w h => mm (in_Model w h)) 0 rfl rfl 27 (by decide) (mm k_fl_Model_53) rfl rfl d_Model_scan_83 ?_
      refine J_bipush (v := (30 : Int32)) X d_Model_scan_86 (by decide) ?_
      refine J_iload_n X d_Model_scan_88 2 rfl rfl ?_
      refine J_imul X d_Model_scan_89 ?_
      refine J_bipush (v := (10 : Int32)) X d_Model_scan_90 (by decide) ?_
      refine J_iadd X d_Model_scan_92 ?_
      refine J_iload_n X d_Model_scan_93 3 rfl rfl ?_
      refine J_iadd X d_Model_scan_94 ?_
      refine J_bipush (v := (16 : Int32)) X d_Model_scan_95 (by decide) ?_
      refine J_isub X d_Model_scan_97 ?_
      obtain ⟨b98, h⟩ := j_ifn h
      refine J_iald (f := (t.2.1 12)) X 13 0 rfl rfl b98 d_Model_scan_98 ?_
      refine J_goto X 103 d_Model_scan_99 (by decide) ?_
      exact J_iret X hr hlk () (Nat.le_of_ble_eq_true rfl) (Nat.le_of_ble_eq_true rfl) (j_r1 h) (congrArg (fun q => wM cI cB cJ cZ a q) (j_r2 h)) d_Model_scan_103
  have L76 : ∀ (x1 : Int32) (x2 : Int32) (t : St), m_Model_scan_76 n  x1 x2 t = some z → J p l e { frames := 0, cells := 0, slots := 0, locals := 0 } s m args below meth c 4 (dC, dI) vwCl A (MQ below (jQi (dC, dI) vwCl (tyA cI cB cJ cZ) z.1 (fun _ : Unit => wM cI cB cJ cZ a z.2) A) args s 0 0 A) 0 0 76 [(0, .ref (a 0)), (1, .int x1), (2, .int x2)] [] (wM cI cB cJ cZ a t) := by
    intro x1 x2 t h
    unfold m_Model_scan_76 at h
    refine J_iconst (v := (0 : Int32)) X d_Model_scan_76 (by decide) ?_
    refine J_lv [0, 1, 2] [(0, .ref (a 0)), (1, .int x1), (2, .int x2)] rfl ?_
    exact L77  x1 x2 (0 : Int32) t h
  refine J_lv [0, 1, 2] [(0, .ref (a 0)), (1, .int x1), (2, .int x2)] rfl ?_
  unfold m_Model_scan at h
  refine J_aload_n X d_Model_scan_0 0 rfl rfl ?_
  refine J_iconst (v := (0 : Int32)) X d_Model_scan_1 (by decide) ?_
  refine J_put (ty := .int) (v := .int (0 : Int32)) X (fun w h => mm (in_Model w h)) ty_Model tyk_Model nm_Model 0 rfl rfl 0 (by decide) (mm k_fl_Model_77) rfl rfl (by decide +kernel) rfl rfl (Nat.le_of_ble_eq_true rfl) d_Model_scan_2 (wM cI cB cJ cZ a (sG t 0 (0 : Int32))) rfl ?_
  refine J_iload_n X d_Model_scan_5 1 rfl rfl ?_
  refine J_if_lt X 21 d_Model_scan_6 (by decide) (fun c6 => ?_) (fun c6 => ?_)
  · rw [if_pos c6] at h
    refine J_iconst (v := (-1 : Int32)) X d_Model_scan_21 (by decide) ?_
    exact J_iret X hr hlk () (Nat.le_of_ble_eq_true rfl) (Nat.le_of_ble_eq_true rfl) (j_r1 h) (congrArg (fun q => wM cI cB cJ cZ a q) (j_r2 h)) d_Model_scan_22
  · rw [if_neg c6] at h
    refine J_iload_n X d_Model_scan_9 1 rfl rfl ?_
    refine J_aload_n X d_Model_scan_10 0 rfl rfl ?_
    refine J_get (v := .int (t.1 14)) X (fun w h => mm (in_Model w h)) 0 rfl rfl 26 (by decide) (mm k_fl_Model_101) rfl rfl d_Model_scan_11 ?_
    refine J_icmp_ge X 21 d_Model_scan_14 (by decide) (fun c14 => ?_) (fun c14 => ?_)
    · rw [if_pos c14] at h
      refine J_iconst (v := (-1 : Int32)) X d_Model_scan_21 (by decide) ?_
      exact J_iret X hr hlk () (Nat.le_of_ble_eq_true rfl) (Nat.le_of_ble_eq_true rfl) (j_r1 h) (congrArg (fun q => wM cI cB cJ cZ a q) (j_r2 h)) d_Model_scan_22
    · rw [if_neg c14] at h
      refine J_iload_n X d_Model_scan_17 2 rfl rfl ?_
      refine J_if_ge X 23 d_Model_scan_18 (by decide) (fun c18 => ?_) (fun c18 => ?_)
      · rw [if_pos c18] at h
        refine J_iload_n X d_Model_scan_23 2 rfl rfl ?_
        refine J_bipush (v := (9 : Int32)) X d_Model_scan_24 (by decide) ?_
        refine J_icmp_ge X 41 d_Model_scan_26 (by decide) (fun c26 => ?_) (fun c26 => ?_)
        · rw [if_pos c26] at h
          refine J_iload_n X d_Model_scan_41 2 rfl rfl ?_
          refine J_bipush (v := (16 : Int32)) X d_Model_scan_42 (by decide) ?_
          refine J_icmp_lt X 76 d_Model_scan_44 (by decide) (fun c44 => ?_) (fun c44 => ?_)
          · rw [if_pos c44] at h
            refine J_lv [0, 1, 2] [(0, .ref (a 0)), (1, .int x1), (2, .int x2)] rfl ?_
            exact L76  x1 x2 (sG t 0 (0 : Int32)) h
          · rw [if_neg c44] at h
            refine J_iload_n X d_Model_scan_47 2 rfl rfl ?_
            refine J_bipush (v := (16 : Int32)) X d_Model_scan_48 (by decide) ?_
            refine J_isub X d_Model_scan_50 ?_
            refine J_iconst (v := (4 : Int32)) X d_Model_scan_51 (by decide) ?_
            refine J_idiv X d_Model_scan_52 (by decide) ?_
            refine J_aload_n X d_Model_scan_53 0 rfl rfl ?_
            refine J_get (v := .ref (a 13)) X (fun w h => mm (in_Model w h)) 0 rfl rfl 27 (by decide) (mm k_fl_Model_53) rfl rfl d_Model_scan_54 ?_
            refine J_bipush (v := (30 : Int32)) X d_Model_scan_57 (by decide) ?_
            refine J_iload_n X d_Model_scan_59 1 rfl rfl ?_
            refine J_imul X d_Model_scan_60 ?_
            obtain ⟨b61, h⟩ := j_ifn h
            refine J_iald (f := (t.2.1 12)) X 13 0 rfl rfl b61 d_Model_scan_61 ?_
            refine J_icmp_ge X 76 d_Model_scan_62 (by decide) (fun c62 => ?_) (fun c62 => ?_)
            · rw [if_pos c62] at h
              refine J_lv [0, 1, 2] [(0, .ref (a 0)), (1, .int x1), (2, .int x2)] rfl ?_
              exact L76  x1 x2 (sG t 0 (0 : Int32)) h
            · rw [if_neg c62] at h
              refine J_iload_n X d_Model_scan_65 2 rfl rfl ?_
              refine J_iconst (v := (4 : Int32)) X d_Model_scan_66 (by decide) ?_
              refine J_irem X d_Model_scan_67 (by decide) ?_
              refine J_iconst (v := (3 : Int32)) X d_Model_scan_68 (by decide) ?_
              refine J_icmp_ge X 76 d_Model_scan_69 (by decide) (fun c69 => ?_) (fun c69 => ?_)
              · rw [if_pos c69] at h
                refine J_lv [0, 1, 2] [(0, .ref (a 0)), (1, .int x1), (2, .int x2)] rfl ?_
                exact L76  x1 x2 (sG t 0 (0 : Int32)) h
              · rw [if_neg c69] at h
                refine J_iconst (v := (1 : Int32)) X d_Model_scan_72 (by decide) ?_
                refine J_goto X 77 d_Model_scan_73 (by decide) ?_
                refine J_lv [0, 1, 2] [(0, .ref (a 0)), (1, .int x1), (2, .int x2)] rfl ?_
                exact L77  x1 x2 (1 : Int32) (sG t 0 (0 : Int32)) h
        · rw [if_neg c26] at h
          refine J_aload_n X d_Model_scan_29 0 rfl rfl ?_
          refine J_get (v := .ref (a 13)) X (fun w h => mm (in_Model w h)) 0 rfl rfl 27 (by decide) (mm k_fl_Model_53) rfl rfl d_Model_scan_30 ?_
          refine J_bipush (v := (30 : Int32)) X d_Model_scan_33 (by decide) ?_
          refine J_iload_n X d_Model_scan_35 1 rfl rfl ?_
          refine J_imul X d_Model_scan_36 ?_
          refine J_iload_n X d_Model_scan_37 2 rfl rfl ?_
          refine J_iadd X d_Model_scan_38 ?_
          obtain ⟨b39, h⟩ := j_ifn h
          refine J_iald (f := (t.2.1 12)) X 13 0 rfl rfl b39 d_Model_scan_39 ?_
          exact J_iret X hr hlk () (Nat.le_of_ble_eq_true rfl) (Nat.le_of_ble_eq_true rfl) (j_r1 h) (congrArg (fun q => wM cI cB cJ cZ a q) (j_r2 h)) d_Model_scan_40
      · rw [if_neg c18] at h
        refine J_iconst (v := (-1 : Int32)) X d_Model_scan_21 (by decide) ?_
        exact J_iret X hr hlk () (Nat.le_of_ble_eq_true rfl) (Nat.le_of_ble_eq_true rfl) (j_r1 h) (congrArg (fun q => wM cI cB cJ cZ a q) (j_r2 h)) d_Model_scan_22
set_option maxHeartbeats 4000000 in
set_option maxRecDepth 100000 in
theorem ct_Model_data (l : Launch) (dC : Nat → ClassId) (dI : Nat → Nat → Nat) (cI cB cJ cZ : ClassId) (a : Nat → Nat) (n : Nat) (x1 : Int32) (x2 : Int32) (t : St) {z : Int32 × St} (h : m_Model_data n x1 x2 t = some z) : jMi l y_Model_data w_Model_data ({ frames := 1, cells := 0, slots := 0, locals := 21 }) (dC, dI) vwCl (tyA cI cB cJ cZ) [.ref (a 0), .int x1, .int x2] (wM cI cB cJ cZ a t) z.1 (fun _ : Unit => wM cI cB cJ cZ a z.2) := by
  refine jMi.of (cc := c_Model_data) (maxL := 8) (ret := (some .int)) (by decide) rfl (Nat.le_of_ble_eq_true rfl) ?_
  intro p e s m args below meth c A X hr hlk hnm
  have L130 : ∀ (K54 : Int32 → Int32 → Int32 → St → Option (Int32 × St)) (hK54 : ∀ (x3 : Int32) (x4 : Int32) (x5 : Int32) (t : St), K54 x3 x4 x5 t = some z → J p l e { frames := 1, cells := 0, slots := 0, locals := 21 } s m args below meth c 8 (dC, dI) vwCl A (MQ below (jQi (dC, dI) vwCl (tyA cI cB cJ cZ) z.1 (fun _ : Unit => wM cI cB cJ cZ a z.2) A) args s 0 0 A) 0 0 54 [(0, .ref (a 0)), (3, .int x3), (4, .int x4), (5, .int x5)] [] (wM cI cB cJ cZ a t)) (x4 : Int32) (x5 : Int32) (y0 : Int32) (y1 : Int32) (t : St), m_Model_data_130 n K54 x4 x5 y0 y1 t = some z → J p l e { frames := 1, cells := 0, slots := 0, locals := 21 } s m args below meth c 8 (dC, dI) vwCl A (MQ below (jQi (dC, dI) vwCl (tyA cI cB cJ cZ) z.1 (fun _ : Unit => wM cI cB cJ cZ a z.2) A) args s 0 0 A) 0 0 130 [(0, .ref (a 0)), (4, .int x4), (5, .int x5)] [.int y1, .int y0] (wM cI cB cJ cZ a t) := by
    intro K54 hK54 x4 x5 y0 y1 t h
    unfold m_Model_data_130 at h
    refine J_iadd X d_Model_data_130 ?_
    refine J_istore_n X [(3, .int (y0 + y1)), (0, .ref (a 0)), (4, .int x4), (5, .int x5)] d_Model_data_131 rfl (by decide) rfl ?_
    refine J_goto X 54 d_Model_data_132 (by decide) ?_
    refine J_lv [1, 0, 2, 3] [(0, .ref (a 0)), (3, .int (y0 + y1)), (4, .int x4), (5, .int x5)] rfl ?_
    exact hK54 (y0 + y1) x4 x5 t h
  have L119 : ∀ (K54 : Int32 → Int32 → Int32 → St → Option (Int32 × St)) (hK54 : ∀ (x3 : Int32) (x4 : Int32) (x5 : Int32) (t : St), K54 x3 x4 x5 t = some z → J p l e { frames := 1, cells := 0, slots := 0, locals := 21 } s m args below meth c 8 (dC, dI) vwCl A (MQ below (jQi (dC, dI) vwCl (tyA cI cB cJ cZ) z.1 (fun _ : Unit => wM cI cB cJ cZ a z.2) A) args s 0 0 A) 0 0 54 [(0, .ref (a 0)), (3, .int x3), (4, .int x4), (5, .int x5)] [] (wM cI cB cJ cZ a t)) (x3 : Int32) (x4 : Int32) (x5 : Int32) (x6 : Int32) (t : St), m_Model_data_119 n K54 x3 x4 x5 x6 t = some z → J p l e { frames := 1, cells := 0, slots := 0, locals := 21 } s m args below meth c 8 (dC, dI) vwCl A (MQ below (jQi (dC, dI) vwCl (tyA cI cB cJ cZ) z.1 (fun _ : Unit => wM cI cB cJ cZ a z.2) A) args s 0 0 A) 0 0 119 [(0, .ref (a 0)), (3, .int x3), (4, .int x4), (5, .int x5), (6, .int x6)] [] (wM cI cB cJ cZ a t) := by
    intro K54 hK54 x3 x4 x5 x6 t h
    unfold m_Model_data_119 at h
    refine J_iload_n X d_Model_data_119 1 rfl rfl ?_
    refine J_iload X d_Model_data_120 4 rfl ?_
    refine J_if_eq X 129 d_Model_data_122 (by decide) (fun c122 => ?_) (fun c122 => ?_)
    · rw [if_pos c122] at h
      refine J_iconst (v := (1 : Int32)) X d_Model_data_129 (by decide) ?_
      refine J_lv [0, 2, 3] [(0, .ref (a 0)), (4, .int x4), (5, .int x5)] rfl ?_
      exact L130 K54 hK54 x4 x5 x3 (1 : Int32) t h
    · rw [if_neg c122] at h
      refine J_iconst (v := (2 : Int32)) X d_Model_data_125 (by decide) ?_
      refine J_goto X 130 d_Model_data_126 (by decide) ?_
      refine J_lv [0, 2, 3] [(0, .ref (a 0)), (4, .int x4), (5, .int x5)] rfl ?_
      exact L130 K54 hK54 x4 x5 x3 (2 : Int32) t h
  have L98 : ∀ (K54 : Int32 → Int32 → Int32 → St → Option (Int32 × St)) (hK54 : ∀ (x3 : Int32) (x4 : Int32) (x5 : Int32) (t : St), K54 x3 x4 x5 t = some z → J p l e { frames := 1, cells := 0, slots := 0, locals := 21 } s m args below meth c 8 (dC, dI) vwCl A (MQ below (jQi (dC, dI) vwCl (tyA cI cB cJ cZ) z.1 (fun _ : Unit => wM cI cB cJ cZ a z.2) A) args s 0 0 A) 0 0 54 [(0, .ref (a 0)), (3, .int x3), (4, .int x4), (5, .int x5)] [] (wM cI cB cJ cZ a t)) (x3 : Int32) (x4 : Int32) (x5 : Int32) (x6 : Int32) (y0 : Int32) (t : St), m_Model_data_98 n K54 x3 x4 x5 x6 y0 t = some z → J p l e { frames := 1, cells := 0, slots := 0, locals := 21 } s m args below meth c 8 (dC, dI) vwCl A (MQ below (jQi (dC, dI) vwCl (tyA cI cB cJ cZ) z.1 (fun _ : Unit => wM cI cB cJ cZ a z.2) A) args s 0 0 A) 0 0 98 [(0, .ref (a 0)), (3, .int x3), (4, .int x4), (5, .int x5), (6, .int x6)] [.int y0] (wM cI cB cJ cZ a t) := by
    intro K54 hK54 x3 x4 x5 x6 y0 t h
    unfold m_Model_data_98 at h
    refine J_istore X [(7, .int y0), (0, .ref (a 0)), (3, .int x3), (4, .int x4), (5, .int x5), (6, .int x6)] d_Model_data_98 (by decide) rfl ?_
    refine J_iload X d_Model_data_100 0 rfl ?_
    refine J_if_ne X 119 d_Model_data_102 (by decide) (fun c102 => ?_) (fun c102 => ?_)
    · rw [if_neg c102] at h
      refine J_lv [1, 2, 3, 4, 5] [(0, .ref (a 0)), (3, .int x3), (4, .int x4), (5, .int x5), (6, .int x6)] rfl ?_
      exact L119 K54 hK54 x3 x4 x5 x6 t h
    · rw [if_pos c102] at h
      refine J_iload X d_Model_data_105 4 rfl ?_
      refine J_if_ne X 116 d_Model_data_107 (by decide) (fun c107 => ?_) (fun c107 => ?_)
      · rw [if_neg c107] at h
        refine J_iinc (v := (x5 + (-1))) X [(5, .int (x5 + (-1))), (7, .int y0), (0, .ref (a 0)), (3, .int x3), (4, .int x4), (6, .int x6)] d_Model_data_116 4 rfl rfl (by decide) rfl ?_
        refine J_lv [2, 3, 4, 0, 5] [(0, .ref (a 0)), (3, .int x3), (4, .int x4), (5, .int (x5 + (-1))), (6, .int x6)] rfl ?_
        exact L119 K54 hK54 x3 x4 (x5 + (-1)) x6 t h
      · rw [if_pos c107] at h
        refine J_aload_n X d_Model_data_110 1 rfl rfl ?_
        refine J_iload_n X d_Model_data_111 2 rfl rfl ?_
        obtain ⟨z112, hz112, h⟩ := j_bind h
        refine J_callVi0 (n := 1) (wc := (wM cI cB cJ cZ a t)) (r := z112.1) (w1 := fun _ : Unit => wM cI cB cJ cZ a z112.2) X isM (hCM cI cB cJ cZ a t) (hDM cI cB cJ cZ a t) rfl [.int x3] [] (ct_Model_byteAt l dC dI cI cB cJ cZ a n x3 t hz112) (aw_V (fun w h => mm h) k_ml_Model_124 k_im_Model_byteAt k_se_Model_byteAt k_in_Model k_cd_Model_byteAt) rfl (by decide +kernel) ⟨(Nat.le_of_ble_eq_true rfl), (Nat.le_of_ble_eq_true rfl)⟩ (q0 := 0) rfl rfl rfl rfl (Nat.le_of_ble_eq_true rfl) d_Model_data_112 ⟨(Nat.le_of_ble_eq_true rfl), (Nat.le_of_ble_eq_true rfl)⟩ (fun _ => ?_)
        exact J_iret X hr hlk () (Nat.le_of_ble_eq_true rfl) (Nat.le_of_ble_eq_true rfl) (j_r1 h) (congrArg (fun q => wM cI cB cJ cZ a q) (j_r2 h)) d_Model_data_115
  have L97 : ∀ (K54 : Int32 → Int32 → Int32 → St → Option (Int32 × St)) (hK54 : ∀ (x3 : Int32) (x4 : Int32) (x5 : Int32) (t : St), K54 x3 x4 x5 t = some z → J p l e { frames := 1, cells := 0, slots := 0, locals := 21 } s m args below meth c 8 (dC, dI) vwCl A (MQ below (jQi (dC, dI) vwCl (tyA cI cB cJ cZ) z.1 (fun _ : Unit => wM cI cB cJ cZ a z.2) A) args s 0 0 A) 0 0 54 [(0, .ref (a 0)), (3, .int x3), (4, .int x4), (5, .int x5)] [] (wM cI cB cJ cZ a t)) (x3 : Int32) (x4 : Int32) (x5 : Int32) (x6 : Int32) (t : St), m_Model_data_97 n K54 x3 x4 x5 x6 t = some z → J p l e { frames := 1, cells := 0, slots := 0, locals := 21 } s m args below meth c 8 (dC, dI) vwCl A (MQ below (jQi (dC, dI) vwCl (tyA cI cB cJ cZ) z.1 (fun _ : Unit => wM cI cB cJ cZ a z.2) A) args s 0 0 A) 0 0 97 [(0, .ref (a 0)), (3, .int x3), (4, .int x4), (5, .int x5), (6, .int x6)] [] (wM cI cB cJ cZ a t) := by
    intro K54 hK54 x3 x4 x5 x6 t h
    unfold m_Model_data_97 at h
    refine J_iconst (v := (0 : Int32)) X d_Model_data_97 (by decide) ?_
    refine J_lv [0, 1, 2, 3, 4] [(0, .ref (a 0)), (3, .int x3), (4, .int x4), (5, .int x5), (6, .int x6)] rfl ?_
    exact L98 K54 hK54 x3 x4 x5 x6 (0 : Int32) t h
  have L76 : ∀ (K54 : Int32 → Int32 → Int32 → St → Option (Int32 × St)) (hK54 : ∀ (x3 : Int32) (x4 : Int32) (x5 : Int32) (t : St), K54 x3 x4 x5 t = some z → J p l e { frames := 1, cells := 0, slots := 0, locals := 21 } s m args below meth c 8 (dC, dI) vwCl A (MQ below (jQi (dC, dI) vwCl (tyA cI cB cJ cZ) z.1 (fun _ : Unit => wM cI cB cJ cZ a z.2) A) args s 0 0 A) 0 0 54 [(0, .ref (a 0)), (3, .int x3), (4, .int x4), (5, .int x5)] [] (wM cI cB cJ cZ a t)) (x3 : Int32) (x4 : Int32) (x5 : Int32) (y0 : Int32) (t : St), m_Model_data_76 n K54 x3 x4 x5 y0 t = some z → J p l e { frames := 1, cells := 0, slots := 0, locals := 21 } s m args below meth c 8 (dC, dI) vwCl A (MQ below (jQi (dC, dI) vwCl (tyA cI cB cJ cZ) z.1 (fun _ : Unit => wM cI cB cJ cZ a z.2) A) args s 0 0 A) 0 0 76 [(0, .ref (a 0)), (3, .int x3), (4, .int x4), (5, .int x5)] [.int y0] (wM cI cB cJ cZ a t) := by
    intro K54 hK54 x3 x4 x5 y0 t h
    unfold m_Model_data_76 at h
    refine J_istore X [(6, .int y0), (0, .ref (a 0)), (3, .int x3), (4, .int x4), (5, .int x5)] d_Model_data_76 (by decide) rfl ?_
    refine J_iload X d_Model_data_78 0 rfl ?_
    refine J_if_eq X 97 d_Model_data_80 (by decide) (fun c80 => ?_) (fun c80 => ?_)
    · rw [if_pos c80] at h
      refine J_lv [1, 2, 3, 4, 0] [(0, .ref (a 0)), (3, .int x3), (4, .int x4), (5, .int x5), (6, .int y0)] rfl ?_
      exact L97 K54 hK54 x3 x4 x5 y0 t h
    · rw [if_neg c80] at h
      refine J_aload_n X d_Model_data_83 1 rfl rfl ?_
      refine J_iload_n X d_Model_data_84 2 rfl rfl ?_
      refine J_iconst (v := (1 : Int32)) X d_Model_data_85 (by decide) ?_
      refine J_iadd X d_Model_data_86 ?_
      obtain ⟨z87, hz87, h⟩ := j_bind h
      refine J_callVi0 (n := 1) (wc := (wM cI cB cJ cZ a t)) (r := z87.1) (w1 := fun _ : Unit => wM cI cB cJ cZ a z87.2) X isM (hCM cI cB cJ cZ a t) (hDM cI cB cJ cZ a t) rfl [.int (x3 + (1 : Int32))] [] (ct_Model_byteAt l dC dI cI cB cJ cZ a n (x3 + (1 : Int32)) t hz87) (aw_V (fun w h => mm h) k_ml_Model_124 k_im_Model_byteAt k_se_Model_byteAt k_in_Model k_cd_Model_byteAt) rfl (by decide +kernel) ⟨(Nat.le_of_ble_eq_true rfl), (Nat.le_of_ble_eq_true rfl)⟩ (q0 := 0) rfl rfl rfl rfl (Nat.le_of_ble_eq_true rfl) d_Model_data_87 ⟨(Nat.le_of_ble_eq_true rfl), (Nat.le_of_ble_eq_true rfl)⟩ (fun _ => ?_)
      refine J_if_le X 97 d_Model_data_90 (by decide) (fun c90 => ?_) (fun c90 => ?_)
      · rw [if_pos c90] at h
        refine J_lv [1, 2, 3, 4, 0] [(0, .ref (a 0)), (3, .int x3), (4, .int x4), (5, .int x5), (6, .int y0)] rfl ?_
        exact L97 K54 hK54 x3 x4 x5 y0 z87.2 h
      · rw [if_neg c90] at h
        refine J_iconst (v := (1 : Int32)) X d_Model_data_93 (by decide) ?_
        refine J_goto X 98 d_Model_data_94 (by decide) ?_
        refine J_lv [1, 2, 3, 4, 0] [(0, .ref (a 0)), (3, .int x3), (4, .int x4), (5, .int x5), (6, .int y0)] rfl ?_
        exact L98 K54 hK54 x3 x4 x5 y0 (1 : Int32) z87.2 h
  have L54 : ∀ (k : Nat) (x3 : Int32) (x4 : Int32) (x5 : Int32) (t : St), m_Model_data_54 n  k x3 x4 x5 t = some z → J p l e { frames := 1, cells := 0, slots := 0, locals := 21 } s m args below meth c 8 (dC, dI) vwCl A (MQ below (jQi (dC, dI) vwCl (tyA cI cB cJ cZ) z.1 (fun _ : Unit => wM cI cB cJ cZ a z.2) A) args s 0 0 A) 0 0 54 [(0, .ref (a 0)), (3, .int x3), (4, .int x4), (5, .int x5)] [] (wM cI cB cJ cZ a t) := by
    intro k
    induction k with
    | zero => intro x3 x4 x5 t h; exact absurd (show none = some z from h) (by simp)
    | succ k ih =>
      intro x3 x4 x5 t h
      change m_Model_data_54b n  (m_Model_data_54 n  k) x3 x4 x5 t = some z at h
      unfold m_Model_data_54b at h
      refine J_iload_n X d_Model_data_54 1 rfl rfl ?_
      refine J_iload X d_Model_data_55 2 rfl ?_
      refine J_icmp_ge X 135 d_Model_data_57 (by decide) (fun c57 => ?_) (fun c57 => ?_)
      · rw [if_pos c57] at h
        refine J_iconst (v := (-1 : Int32)) X d_Model_data_135 (by decide) ?_
        exact J_iret X hr hlk () (Nat.le_of_ble_eq_true rfl) (Nat.le_of_ble_eq_true rfl) (j_r1 h) (congrArg (fun q => wM cI cB cJ cZ a q) (j_r2 h)) d_Model_data_136
      · rw [if_neg c57] at h
        refine J_aload_n X d_Model_data_60 0 rfl rfl ?_
        refine J_iload_n X d_Model_data_61 1 rfl rfl ?_
        obtain ⟨z62, hz62, h⟩ := j_bind h
        refine J_callVi0 (n := 1) (wc := (wM cI cB cJ cZ a t)) (r := z62.1) (w1 := fun _ : Unit => wM cI cB cJ cZ a z62.2) X isM (hCM cI cB cJ cZ a t) (hDM cI cB cJ cZ a t) rfl [.int x3] [] (ct_Model_byteAt l dC dI cI cB cJ cZ a n x3 t hz62) (aw_V (fun w h => mm h) k_ml_Model_124 k_im_Model_byteAt k_se_Model_byteAt k_in_Model k_cd_Model_byteAt) rfl (by decide +kernel) ⟨(Nat.le_of_ble_eq_true rfl), (Nat.le_of_ble_eq_true rfl)⟩ (q0 := 0) rfl rfl rfl rfl (Nat.le_of_ble_eq_true rfl) d_Model_data_62 ⟨(Nat.le_of_ble_eq_true rfl), (Nat.le_of_ble_eq_true rfl)⟩ (fun _ => ?_)
        refine J_sipush (v := (255 : Int32)) X d_Model_data_65 (by decide) ?_
        refine J_icmp_ne X 75 d_Model_data_68 (by decide) (fun c68 => ?_) (fun c68 => ?_)
        · rw [if_neg c68] at h
          refine J_iconst (v := (0 : Int32)) X d_Model_data_75 (by decide) ?_
          refine J_lv [0, 1, 2, 3] [(0, .ref (a 0)), (3, .int x3), (4, .int x4), (5, .int x5)] rfl ?_
          exact L76 (m_Model_data_54 n  k) ih x3 x4 x5 (0 : Int32) z62.2 h
        · rw [if_pos c68] at h
          refine J_iconst (v := (1 : Int32)) X d_Model_data_71 (by decide) ?_
          refine J_goto X 76 d_Model_data_72 (by decide) ?_
          refine J_lv [0, 1, 2, 3] [(0, .ref (a 0)), (3, .int x3), (4, .int x4), (5, .int x5)] rfl ?_
          exact L76 (m_Model_data_54 n  k) ih x3 x4 x5 (1 : Int32) z62.2 h
  refine J_lv [0, 1, 2] [(0, .ref (a 0)), (1, .int x1), (2, .int x2)] rfl ?_
  unfold m_Model_data at h
  refine J_aload_n X d_Model_data_0 0 rfl rfl ?_
  refine J_iconst (v := (0 : Int32)) X d_Model_data_1 (by decide) ?_
  refine J_put (ty := .int) (v := .int (0 : Int32)) X (fun w h => mm (in_Model w h)) ty_Model tyk_Model nm_Model 0 rfl rfl 0 (by decide) (mm k_fl_Model_77) rfl rfl (by decide +kernel) rfl rfl (Nat.le_of_ble_eq_true rfl) d_Model_data_2 (wM cI cB cJ cZ a (sG t 0 (0 : Int32))) rfl ?_
  refine J_iload_n X d_Model_data_5 1 rfl rfl ?_
  refine J_if_lt X 21 d_Model_data_6 (by decide) (fun c6 => ?_) (fun c6 => ?_)
  · rw [if_pos c6] at h
    refine J_iconst (v := (-1 : Int32)) X d_Model_data_21 (by decide) ?_
    exact J_iret X hr hlk () (Nat.le_of_ble_eq_true rfl) (Nat.le_of_ble_eq_true rfl) (j_r1 h) (congrArg (fun q => wM cI cB cJ cZ a q) (j_r2 h)) d_Model_data_22
  · rw [if_neg c6] at h
    refine J_iload_n X d_Model_data_9 1 rfl rfl ?_
    refine J_aload_n X d_Model_data_10 0 rfl rfl ?_
    refine J_get (v := .int (t.1 14)) X (fun w h => mm (in_Model w h)) 0 rfl rfl 26 (by decide) (mm k_fl_Model_101) rfl rfl d_Model_data_11 ?_
    refine J_icmp_ge X 21 d_Model_data_14 (by decide) (fun c14 => ?_) (fun c14 => ?_)
    · rw [if_pos c14] at h
      refine J_iconst (v := (-1 : Int32)) X d_Model_data_21 (by decide) ?_
      exact J_iret X hr hlk () (Nat.le_of_ble_eq_true rfl) (Nat.le_of_ble_eq_true rfl) (j_r1 h) (congrArg (fun q => wM cI cB cJ cZ a q) (j_r2 h)) d_Model_data_22
    · rw [if_neg c14] at h
      refine J_iload_n X d_Model_data_17 2 rfl rfl ?_
      refine J_if_ge X 23 d_Model_data_18 (by decide) (fun c18 => ?_) (fun c18 => ?_)
      · rw [if_pos c18] at h
        refine J_aload_n X d_Model_data_23 0 rfl rfl ?_
        refine J_get (v := .ref (a 13)) X (fun w h => mm (in_Model w h)) 0 rfl rfl 27 (by decide) (mm k_fl_Model_53) rfl rfl d_Model_data_24 ?_
        refine J_bipush (v := (30 : Int32)) X d_Model_data_27 (by decide) ?_
        refine J_iload_n X d_Model_data_29 1 rfl rfl ?_
        refine J_imul X d_Model_data_30 ?_
        refine J_iconst (v := (5 : Int32)) X d_Model_data_31 (by decide) ?_
        refine J_iadd X d_Model_data_32 ?_
        obtain ⟨b33, h⟩ := j_ifn h
        refine J_iald (f := (t.2.1 12)) X 13 0 rfl rfl b33 d_Model_data_33 ?_
        refine J_istore_n X [(3, .int ((t.2.1 12) ((((30 : Int32) * x1) + (5 : Int32))).toNatClampNeg)), (0, .ref (a 0)), (1, .int x1), (2, .int x2)] d_Model_data_34 rfl (by decide) rfl ?_
        refine J_iload_n X d_Model_data_35 0 rfl rfl ?_
        refine J_aload_n X d_Model_data_36 1 rfl rfl ?_
        refine J_get (v := .ref (a 13)) X (fun w h => mm (in_Model w h)) 0 rfl rfl 27 (by decide) (mm k_fl_Model_53) rfl rfl d_Model_data_37 ?_
        refine J_bipush (v := (30 : Int32)) X d_Model_data_40 (by decide) ?_
        refine J_iload_n X d_Model_data_42 2 rfl rfl ?_
        refine J_imul X d_Model_data_43 ?_
        refine J_bipush (v := (6 : Int32)) X d_Model_data_44 (by decide) ?_
        refine J_iadd X d_Model_data_46 ?_
        obtain ⟨b47, h⟩ := j_ifn h
        refine J_iald (f := (t.2.1 12)) X 13 0 rfl rfl b47 d_Model_data_47 ?_
        refine J_iadd X d_Model_data_48 ?_
        refine J_istore X [(4, .int (((t.2.1 12) ((((30 : Int32) * x1) + (5 : Int32))).toNatClampNeg) + ((t.2.1 12) ((((30 : Int32) * x1) + (6 : Int32))).toNatClampNeg))), (3, .int ((t.2.1 12) ((((30 : Int32) * x1) + (5 : Int32))).toNatClampNeg)), (0, .ref (a 0)), (1, .int x1), (2, .int x2)] d_Model_data_49 (by decide) rfl ?_
        refine J_iload_n X d_Model_data_51 4 rfl rfl ?_
        refine J_istore X [(5, .int x2), (4, .int (((t.2.1 12) ((((30 : Int32) * x1) + (5 : Int32))).toNatClampNeg) + ((t.2.1 12) ((((30 : Int32) * x1) + (6 : Int32))).toNatClampNeg))), (3, .int ((t.2.1 12) ((((30 : Int32) * x1) + (5 : Int32))).toNatClampNeg)), (0, .ref (a 0)), (1, .int x1), (2, .int x2)] d_Model_data_52 (by decide) rfl ?_
        refine J_lv [3, 2, 1, 0] [(0, .ref (a 0)), (3, .int ((t.2.1 12) ((((30 : Int32) * x1) + (5 : Int32))).toNatClampNeg)), (4, .int (((t.2.1 12) ((((30 : Int32) * x1) + (5 : Int32))).toNatClampNeg) + ((t.2.1 12) ((((30 : Int32) * x1) + (6 : Int32))).toNatClampNeg))), (5, .int x2)] rfl ?_
        exact L54  n ((t.2.1 12) ((((30 : Int32) * x1) + (5 : Int32))).toNatClampNeg) (((t.2.1 12) ((((30 : Int32) * x1) + (5 : Int32))).toNatClampNeg) + ((t.2.1 12) ((((30 : Int32) * x1) + (6 : Int32))).toNatClampNeg)) x2 (sG t 0 (0 : Int32)) h
      · rw [if_neg c18] at h
        refine J_iconst (v := (-1 : Int32)) X d_Model_data_21 (by decide) ?_
        exact J_iret X hr hlk () (Nat.le_of_ble_eq_true rfl) (Nat.le_of_ble_eq_true rfl) (j_r1 h) (congrArg (fun q => wM cI cB cJ cZ a q) (j_r2 h)) d_Model_data_22
set_option maxHeartbeats 4000000 in
set_option maxRecDepth 100000 in
theorem ct_Model_quantiser (l : Launch) (dC : Nat → ClassId) (dI : Nat → Nat → Nat) (cI cB cJ cZ : ClassId) (a : Nat → Nat) (n : Nat) (x1 : Int32) (x2 : Int32) (t : St) {z : Int32 × St} (h : m_Model_quantiser n x1 x2 t = some z) : jMi l y_Model_quantiser w_Model_quantiser ({ frames := 0, cells := 0, slots := 0, locals := 0 }) (dC, dI) vwCl (tyA cI cB cJ cZ) [.ref (a 0), .int x1, .int x2] (wM cI cB cJ cZ a t) z.1 (fun _ : Unit => wM cI cB cJ cZ a z.2) := by
  refine jMi.of (cc := c_Model_quantiser) (maxL := 4) (ret := (some .int)) (by decide) rfl (Nat.le_of_ble_eq_true rfl) ?_
  intro p e s m args below meth c A X hr hlk hnm
  have L40 : ∀ (x1 : Int32) (x2 : Int32) (y0 : Int32) (t : St), m_Model_quantiser_40 n  x1 x2 y0 t = some z → J p l e { frames := 0, cells := 0, slots := 0, locals := 0 } s m args below meth c 4 (dC, dI) vwCl A (MQ below (jQi (dC, dI) vwCl (tyA cI cB cJ cZ) z.1 (fun _ : Unit => wM cI cB cJ cZ a z.2) A) args s 0 0 A) 0 0 40 [(0, .ref (a 0)), (1, .int x1), (2, .int x2)] [.int y0] (wM cI cB cJ cZ a t) := by
    intro x1 x2 y0 t h
    unfold m_Model_quantiser_40 at h
    refine J_istore_n X [(3, .int y0), (0, .ref (a 0)), (1, .int x1), (2, .int x2)] d_Model_quantiser_40 rfl (by decide) rfl ?_
    refine J_iload_n X d_Model_quantiser_41 0 rfl rfl ?_
    refine J_if_eq X 59 d_Model_quantiser_42 (by decide) (fun c42 => ?_) (fun c42 => ?_)
    · rw [if_pos c42] at h
      refine J_iconst (v := (-1 : Int32)) X d_Model_quantiser_59 (by decide) ?_
      exact J_iret X hr hlk () (Nat.le_of_ble_eq_true rfl) (Nat.le_of_ble_eq_true rfl) (j_r1 h) (congrArg (fun q => wM cI cB cJ cZ a q) (j_r2 h)) d_Model_quantiser_60
    · rw [if_neg c42] at h
      refine J_aload_n X d_Model_quantiser_45 1 rfl rfl ?_
      refine J_get (v := .ref (a 8)) X (fun w h => mm (in_Model w h)) 0 rfl rfl 21 (by decide) (mm k_fl_Model_37) rfl rfl d_Model_quantiser_46 ?_
      refine J_bipush (v := (64 : Int32)) X d_Model_quantiser_49 (by decide) ?_
      refine J_iload_n X d_Model_quantiser_51 2 rfl rfl ?_
      refine J_imul X d_Model_quantiser_52 ?_
      refine J_iload_n X d_Model_quantiser_53 3 rfl rfl ?_
      refine J_iadd X d_Model_quantiser_54 ?_
      obtain ⟨b55, h⟩ := j_ifn h
      refine J_iald (f := (t.2.1 7)) X 8 0 rfl rfl b55 d_Model_quantiser_55 ?_
      refine J_goto X 60 d_Model_quantiser_56 (by decide) ?_
      exact J_iret X hr hlk () (Nat.le_of_ble_eq_true rfl) (Nat.le_of_ble_eq_true rfl) (j_r1 h) (congrArg (fun q => wM cI cB cJ cZ a q) (j_r2 h)) d_Model_quantiser_60
  have L39 : ∀ (x1 : Int32) (x2 : Int32) (t : St), m_Model_quantiser_39 n  x1 x2 t = some z → J p l e { frames := 0, cells := 0, slots := 0, locals := 0 } s m args below meth c 4 (dC, dI) vwCl A (MQ below (jQi (dC, dI) vwCl (tyA cI cB cJ cZ) z.1 (fun _ : Unit => wM cI cB cJ cZ a z.2) A) args s 0 0 A) 0 0 39 [(0, .ref (a 0)), (1, .int x1), (2, .int x2)] [] (wM cI cB cJ cZ a t) := by
    intro x1 x2 t h
    unfold m_Model_quantiser_39 at h
    refine J_iconst (v := (0 : Int32)) X d_Model_quantiser_39 (by decide) ?_
    refine J_lv [0, 1, 2] [(0, .ref (a 0)), (1, .int x1), (2, .int x2)] rfl ?_
    exact L40  x1 x2 (0 : Int32) t h
  refine J_lv [0, 1, 2] [(0, .ref (a 0)), (1, .int x1), (2, .int x2)] rfl ?_
  unfold m_Model_quantiser at h
  refine J_aload_n X d_Model_quantiser_0 0 rfl rfl ?_
  refine J_iconst (v := (0 : Int32)) X d_Model_quantiser_1 (by decide) ?_
  refine J_put (ty := .int) (v := .int (0 : Int32)) X (fun w h => mm (in_Model w h)) ty_Model tyk_Model nm_Model 0 rfl rfl 0 (by decide) (mm k_fl_Model_77) rfl rfl (by decide +kernel) rfl rfl (Nat.le_of_ble_eq_true rfl) d_Model_quantiser_2 (wM cI cB cJ cZ a (sG t 0 (0 : Int32))) rfl ?_
  refine J_iload_n X d_Model_quantiser_5 1 rfl rfl ?_
  refine J_if_lt X 39 d_Model_quantiser_6 (by decide) (fun c6 => ?_) (fun c6 => ?_)
  · rw [if_pos c6] at h
    refine J_lv [0, 1, 2] [(0, .ref (a 0)), (1, .int x1), (2, .int x2)] rfl ?_
    exact L39  x1 x2 (sG t 0 (0 : Int32)) h
  · rw [if_neg c6] at h
    refine J_iload_n X d_Model_quantiser_9 1 rfl rfl ?_
    refine J_iconst (v := (4 : Int32)) X d_Model_quantiser_10 (by decide) ?_
    refine J_icmp_ge X 39 d_Model_quantiser_11 (by decide) (fun c11 => ?_) (fun c11 => ?_)
    · rw [if_pos c11] at h
      refine J_lv [0, 1, 2] [(0, .ref (a 0)), (1, .int x1), (2, .int x2)] rfl ?_
      exact L39  x1 x2 (sG t 0 (0 : Int32)) h
    · rw [if_neg c11] at h
      refine J_iload_n X d_Model_quantiser_14 2 rfl rfl ?_
      refine J_if_lt X 39 d_Model_quantiser_15 (by decide) (fun c15 => ?_) (fun c15 => ?_)
      · rw [if_pos c15] at h
        refine J_lv [0, 1, 2] [(0, .ref (a 0)), (1, .int x1), (2, .int x2)] rfl ?_
        exact L39  x1 x2 (sG t 0 (0 : Int32)) h
      · rw [if_neg c15] at h
        refine J_iload_n X d_Model_quantiser_18 2 rfl rfl ?_
        refine J_bipush (v := (64 : Int32)) X d_Model_quantiser_19 (by decide) ?_
        refine J_icmp_ge X 39 d_Model_quantiser_21 (by decide) (fun c21 => ?_) (fun c21 => ?_)
        · rw [if_pos c21] at h
          refine J_lv [0, 1, 2] [(0, .ref (a 0)), (1, .int x1), (2, .int x2)] rfl ?_
          exact L39  x1 x2 (sG t 0 (0 : Int32)) h
        · rw [if_neg c21] at h
          refine J_aload_n X d_Model_quantiser_24 0 rfl rfl ?_
          refine J_get (v := .ref (a 7)) X (fun w h => mm (in_Model w h)) 0 rfl rfl 20 (by decide) (mm k_fl_Model_33) rfl rfl d_Model_quantiser_25 ?_
          refine J_iload_n X d_Model_quantiser_28 1 rfl rfl ?_
          refine J_iconst (v := (3 : Int32)) X d_Model_quantiser_29 (by decide) ?_
          refine J_iand X d_Model_quantiser_30 ?_
          obtain ⟨b31, h⟩ := j_ifn h
          refine J_zald (f := (t.2.1 6)) X 7 3 rfl rfl b31 d_Model_quantiser_31 ?_
          refine J_if_eq X 39 d_Model_quantiser_32 (by decide) (fun c32 => ?_) (fun c32 => ?_)
          · rw [if_pos c32] at h
            refine J_lv [0, 1, 2] [(0, .ref (a 0)), (1, .int x1), (2, .int x2)] rfl ?_
            exact L39  x1 x2 (sG t 0 (0 : Int32)) h
          · rw [if_neg c32] at h
            refine J_iconst (v := (1 : Int32)) X d_Model_quantiser_35 (by decide) ?_
            refine J_goto X 40 d_Model_quantiser_36 (by decide) ?_
            refine J_lv [0, 1, 2] [(0, .ref (a 0)), (1, .int x1), (2, .int x2)] rfl ?_
            exact L40  x1 x2 (1 : Int32) (sG t 0 (0 : Int32)) h
set_option maxHeartbeats 4000000 in
set_option maxRecDepth 100000 in
theorem ct_Model_word (l : Launch) (dC : Nat → ClassId) (dI : Nat → Nat → Nat) (cI cB cJ cZ : ClassId) (a : Nat → Nat) (n : Nat) (x1 : Int32) (x2 : Int32) (x3 : Int32) (t : St) {z : Int32 × St} (h : m_Model_word n x1 x2 x3 t = some z) : jMi l y_Model_word w_Model_word ({ frames := 0, cells := 0, slots := 0, locals := 0 }) (dC, dI) vwCl (tyA cI cB cJ cZ) [.ref (a 0), .int x1, .int x2, .int x3] (wM cI cB cJ cZ a t) z.1 (fun _ : Unit => wM cI cB cJ cZ a z.2) := by
  refine jMi.of (cc := c_Model_word) (maxL := 6) (ret := (some .int)) (by decide) rfl (Nat.le_of_ble_eq_true rfl) ?_
  intro p e s m args below meth c A X hr hlk hnm
  have L142 : ∀  (t : St), m_Model_word_142 n   t = some z → J p l e { frames := 0, cells := 0, slots := 0, locals := 0 } s m args below meth c 6 (dC, dI) vwCl A (MQ below (jQi (dC, dI) vwCl (tyA cI cB cJ cZ) z.1 (fun _ : Unit => wM cI cB cJ cZ a z.2) A) args s 0 0 A) 0 0 142 [] [] (wM cI cB cJ cZ a t) := by
    intro  t h
    unfold m_Model_word_142 at h
    refine J_iconst (v := (-1 : Int32)) X d_Model_word_142 (by decide) ?_
    exact J_iret X hr hlk () (Nat.le_of_ble_eq_true rfl) (Nat.le_of_ble_eq_true rfl) (j_r1 h) (congrArg (fun q => wM cI cB cJ cZ a q) (j_r2 h)) d_Model_word_143
  have L104 : ∀  (t : St), m_Model_word_104 n   t = some z → J p l e { frames := 0, cells := 0, slots := 0, locals := 0 } s m args below meth c 6 (dC, dI) vwCl A (MQ below (jQi (dC, dI) vwCl (tyA cI cB cJ cZ) z.1 (fun _ : Unit => wM cI cB cJ cZ a z.2) A) args s 0 0 A) 0 0 104 [] [] (wM cI cB cJ cZ a t) := by
    intro  t h
    unfold m_Model_word_104 at h
    refine J_iconst (v := (-1 : Int32)) X d_Model_word_104 (by decide) ?_
    exact J_iret X hr hlk () (Nat.le_of_ble_eq_true rfl) (Nat.le_of_ble_eq_true rfl) (j_r1 h) (congrArg (fun q => wM cI cB cJ cZ a q) (j_r2 h)) d_Model_word_105
  have L55 : ∀ (x2 : Int32) (x3 : Int32) (x4 : Int32) (y0 : Int32) (t : St), m_Model_word_55 n  x2 x3 x4 y0 t = some z → J p l e { frames := 0, cells := 0, slots := 0, locals := 0 } s m args below meth c 6 (dC, dI) vwCl A (MQ below (jQi (dC, dI) vwCl (tyA cI cB cJ cZ) z.1 (fun _ : Unit => wM cI cB cJ cZ a z.2) A) args s 0 0 A) 0 0 55 [(0, .ref (a 0)), (2, .int x2), (3, .int x3), (4, .int x4)] [.int y0] (wM cI cB cJ cZ a t) := by
    intro x2 x3 x4 y0 t h
    unfold m_Model_word_55 at h
    refine J_istore X [(5, .int y0), (0, .ref (a 0)), (2, .int x2), (3, .int x3), (4, .int x4)] d_Model_word_55 (by decide) rfl ?_
    refine J_iload X d_Model_word_57 4 rfl ?_
    refine J_if_eq X 72 d_Model_word_59 (by decide) (fun c59 => ?_) (fun c59 => ?_)
    · rw [if_pos c59] at h
      refine J_iconst (v := (-1 : Int32)) X d_Model_word_72 (by decide) ?_
      exact J_iret X hr hlk () (Nat.le_of_ble_eq_true rfl) (Nat.le_of_ble_eq_true rfl) (j_r1 h) (congrArg (fun q => wM cI cB cJ cZ a q) (j_r2 h)) d_Model_word_73
    · rw [if_neg c59] at h
      refine J_aload_n X d_Model_word_62 1 rfl rfl ?_
      refine J_get (v := .ref (a 9)) X (fun w h => mm (in_Model w h)) 0 rfl rfl 22 (by decide) (mm k_fl_Model_40) rfl rfl d_Model_word_63 ?_
      refine J_iload X d_Model_word_66 0 rfl ?_
      obtain ⟨b68, h⟩ := j_ifn h
      refine J_zald (f := (t.2.1 8)) X 9 3 rfl rfl b68 d_Model_word_68 ?_
      refine J_if_ne X 74 d_Model_word_69 (by decide) (fun c69 => ?_) (fun c69 => ?_)
      · rw [if_neg c69] at h
        refine J_iload_n X d_Model_word_74 2 rfl rfl ?_
        refine J_if_ne X 106 d_Model_word_75 (by decide) (fun c75 => ?_) (fun c75 => ?_)
        · rw [if_neg c75] at h
          refine J_iload_n X d_Model_word_106 2 rfl rfl ?_
          refine J_iconst (v := (1 : Int32)) X d_Model_word_107 (by decide) ?_
          refine J_icmp_ne X 142 d_Model_word_108 (by decide) (fun c108 => ?_) (fun c108 => ?_)
          · rw [if_neg c108] at h
            refine J_lv [] [] rfl ?_
            exact L142  t h
          · rw [if_pos c108] at h
            refine J_iload_n X d_Model_word_111 3 rfl rfl ?_
            refine J_if_lt X 142 d_Model_word_112 (by decide) (fun c112 => ?_) (fun c112 => ?_)
            · rw [if_pos c112] at h
              refine J_lv [] [] rfl ?_
              exact L142  t h
            · rw [if_neg c112] at h
              refine J_iload_n X d_Model_word_115 3 rfl rfl ?_
              refine J_aload_n X d_Model_word_116 1 rfl rfl ?_
              refine J_get (v := .ref (a 12)) X (fun w h => mm (in_Model w h)) 0 rfl rfl 25 (by decide) (mm k_fl_Model_49) rfl rfl d_Model_word_117 ?_
              refine J_iload X d_Model_word_120 0 rfl ?_
              obtain ⟨b122, h⟩ := j_ifn h
              refine J_iald (f := (t.2.1 11)) X 12 0 rfl rfl b122 d_Model_word_122 ?_
              refine J_icmp_ge X 142 d_Model_word_123 (by decide) (fun c123 => ?_) (fun c123 => ?_)
              · rw [if_pos c123] at h
                refine J_lv [] [] rfl ?_
                exact L142  t h
              · rw [if_neg c123] at h
                refine J_aload_n X d_Model_word_126 1 rfl rfl ?_
                refine J_get (v := .ref (a 11)) X (fun w h => mm (in_Model w h)) 0 rfl rfl 24 (by decide) (mm k_fl_Model_46) rfl rfl d_Model_word_127 ?_
                refine J_sipush (v := (256 : Int32)) X d_Model_word_130 (by decide) ?_
                refine J_iload X d_Model_word_133 0 rfl ?_
                refine J_imul X d_Model_word_135 ?_
                refine J_iload_n X d_Model_word_136 3 rfl rfl ?_
                refine J_iadd X d_Model_word_137 ?_
                obtain ⟨b138, h⟩ := j_ifn h
                refine J_iald (f := (t.2.1 10)) X 11 0 rfl rfl b138 d_Model_word_138 ?_
                refine J_goto X 143 d_Model_word_139 (by decide) ?_
                exact J_iret X hr hlk () (Nat.le_of_ble_eq_true rfl) (Nat.le_of_ble_eq_true rfl) (j_r1 h) (congrArg (fun q => wM cI cB cJ cZ a q) (j_r2 h)) d_Model_word_143
        · rw [if_pos c75] at h
          refine J_iload_n X d_Model_word_78 3 rfl rfl ?_
          refine J_iconst (v := (1 : Int32)) X d_Model_word_79 (by decide) ?_
          refine J_icmp_lt X 104 d_Model_word_80 (by decide) (fun c80 => ?_) (fun c80 => ?_)
          · rw [if_pos c80] at h
            refine J_lv [] [] rfl ?_
            exact L104  t h
          · rw [if_neg c80] at h
            refine J_iload_n X d_Model_word_83 3 rfl rfl ?_
            refine J_bipush (v := (16 : Int32)) X d_Model_word_84 (by decide) ?_
            refine J_icmp_gt X 104 d_Model_word_86 (by decide) (fun c86 => ?_) (fun c86 => ?_)
            · rw [if_pos c86] at h
              refine J_lv [] [] rfl ?_
              exact L104  t h
            · rw [if_neg c86] at h
              refine J_aload_n X d_Model_word_89 1 rfl rfl ?_
              refine J_get (v := .ref (a 10)) X (fun w h => mm (in_Model w h)) 0 rfl rfl 23 (by decide) (mm k_fl_Model_43) rfl rfl d_Model_word_90 ?_
              refine J_bipush (v := (17 : Int32)) X d_Model_word_93 (by decide) ?_
              refine J_iload X d_Model_word_95 0 rfl ?_
              refine J_imul X d_Model_word_97 ?_
              refine J_iload_n X d_Model_word_98 3 rfl rfl ?_
              refine J_iadd X d_Model_word_99 ?_
              obtain ⟨b100, h⟩ := j_ifn h
              refine J_iald (f := (t.2.1 9)) X 10 0 rfl rfl b100 d_Model_word_100 ?_
              refine J_goto X 105 d_Model_word_101 (by decide) ?_
              exact J_iret X hr hlk () (Nat.le_of_ble_eq_true rfl) (Nat.le_of_ble_eq_true rfl) (j_r1 h) (congrArg (fun q => wM cI cB cJ cZ a q) (j_r2 h)) d_Model_word_105
      · rw [if_pos c69] at h
        refine J_iconst (v := (-1 : Int32)) X d_Model_word_72 (by decide) ?_
        exact J_iret X hr hlk () (Nat.le_of_ble_eq_true rfl) (Nat.le_of_ble_eq_true rfl) (j_r1 h) (congrArg (fun q => wM cI cB cJ cZ a q) (j_r2 h)) d_Model_word_73
  have L31 : ∀ (x1 : Int32) (x2 : Int32) (x3 : Int32) (y0 : Int32) (t : St), m_Model_word_31 n  x1 x2 x3 y0 t = some z → J p l e { frames := 0, cells := 0, slots := 0, locals := 0 } s m args below meth c 6 (dC, dI) vwCl A (MQ below (jQi (dC, dI) vwCl (tyA cI cB cJ cZ) z.1 (fun _ : Unit => wM cI cB cJ cZ a z.2) A) args s 0 0 A) 0 0 31 [(0, .ref (a 0)), (1, .int x1), (2, .int x2), (3, .int x3)] [.int y0] (wM cI cB cJ cZ a t) := by
    intro x1 x2 x3 y0 t h
    unfold m_Model_word_31 at h
    refine J_istore X [(4, .int y0), (0, .ref (a 0)), (1, .int x1), (2, .int x2), (3, .int x3)] d_Model_word_31 (by decide) rfl ?_
    refine J_iload X d_Model_word_33 0 rfl ?_
    refine J_if_ne X 42 d_Model_word_35 (by decide) (fun c35 => ?_) (fun c35 => ?_)
    · rw [if_neg c35] at h
      refine J_iload_n X d_Model_word_42 2 rfl rfl ?_
      refine J_iconst (v := (4 : Int32)) X d_Model_word_43 (by decide) ?_
      refine J_icmp_ge X 51 d_Model_word_44 (by decide) (fun c44 => ?_) (fun c44 => ?_)
      · rw [if_pos c44] at h
        refine J_iload_n X d_Model_word_51 2 rfl rfl ?_
        refine J_bipush (v := (12 : Int32)) X d_Model_word_52 (by decide) ?_
        refine J_isub X d_Model_word_54 ?_
        refine J_lv [1, 3, 4, 0] [(0, .ref (a 0)), (2, .int x2), (3, .int x3), (4, .int y0)] rfl ?_
        exact L55  x2 x3 y0 (x1 - (12 : Int32)) t h
      · rw [if_neg c44] at h
        refine J_iload_n X d_Model_word_47 2 rfl rfl ?_
        refine J_goto X 55 d_Model_word_48 (by decide) ?_
        refine J_lv [1, 3, 4, 0] [(0, .ref (a 0)), (2, .int x2), (3, .int x3), (4, .int y0)] rfl ?_
        exact L55  x2 x3 y0 x1 t h
    · rw [if_pos c35] at h
      refine J_iconst (v := (0 : Int32)) X d_Model_word_38 (by decide) ?_
      refine J_goto X 55 d_Model_word_39 (by decide) ?_
      refine J_lv [1, 3, 4, 0] [(0, .ref (a 0)), (2, .int x2), (3, .int x3), (4, .int y0)] rfl ?_
      exact L55  x2 x3 y0 (0 : Int32) t h
  have L30 : ∀ (x1 : Int32) (x2 : Int32) (x3 : Int32) (t : St), m_Model_word_30 n  x1 x2 x3 t = some z → J p l e { frames := 0, cells := 0, slots := 0, locals := 0 } s m args below meth c 6 (dC, dI) vwCl A (MQ below (jQi (dC, dI) vwCl (tyA cI cB cJ cZ) z.1 (fun _ : Unit => wM cI cB cJ cZ a z.2) A) args s 0 0 A) 0 0 30 [(0, .ref (a 0)), (1, .int x1), (2, .int x2), (3, .int x3)] [] (wM cI cB cJ cZ a t) := by
    intro x1 x2 x3 t h
    unfold m_Model_word_30 at h
    refine J_iconst (v := (0 : Int32)) X d_Model_word_30 (by decide) ?_
    refine J_lv [0, 1, 2, 3] [(0, .ref (a 0)), (1, .int x1), (2, .int x2), (3, .int x3)] rfl ?_
    exact L31  x1 x2 x3 (0 : Int32) t h
  have L26 : ∀ (x1 : Int32) (x2 : Int32) (x3 : Int32) (t : St), m_Model_word_26 n  x1 x2 x3 t = some z → J p l e { frames := 0, cells := 0, slots := 0, locals := 0 } s m args below meth c 6 (dC, dI) vwCl A (MQ below (jQi (dC, dI) vwCl (tyA cI cB cJ cZ) z.1 (fun _ : Unit => wM cI cB cJ cZ a z.2) A) args s 0 0 A) 0 0 26 [(0, .ref (a 0)), (1, .int x1), (2, .int x2), (3, .int x3)] [] (wM cI cB cJ cZ a t) := by
    intro x1 x2 x3 t h
    unfold m_Model_word_26 at h
    refine J_iconst (v := (1 : Int32)) X d_Model_word_26 (by decide) ?_
    refine J_goto X 31 d_Model_word_27 (by decide) ?_
    refine J_lv [0, 1, 2, 3] [(0, .ref (a 0)), (1, .int x1), (2, .int x2), (3, .int x3)] rfl ?_
    exact L31  x1 x2 x3 (1 : Int32) t h
  have L14 : ∀ (x1 : Int32) (x2 : Int32) (x3 : Int32) (t : St), m_Model_word_14 n  x1 x2 x3 t = some z → J p l e { frames := 0, cells := 0, slots := 0, locals := 0 } s m args below meth c 6 (dC, dI) vwCl A (MQ below (jQi (dC, dI) vwCl (tyA cI cB cJ cZ) z.1 (fun _ : Unit => wM cI cB cJ cZ a z.2) A) args s 0 0 A) 0 0 14 [(0, .ref (a 0)), (1, .int x1), (2, .int x2), (3, .int x3)] [] (wM cI cB cJ cZ a t) := by
    intro x1 x2 x3 t h
    unfold m_Model_word_14 at h
    refine J_iload_n X d_Model_word_14 1 rfl rfl ?_
    refine J_bipush (v := (16 : Int32)) X d_Model_word_15 (by decide) ?_
    refine J_icmp_lt X 30 d_Model_word_17 (by decide) (fun c17 => ?_) (fun c17 => ?_)
    · rw [if_pos c17] at h
      refine J_lv [0, 1, 2, 3] [(0, .ref (a 0)), (1, .int x1), (2, .int x2), (3, .int x3)] rfl ?_
      exact L30  x1 x2 x3 t h
    · rw [if_neg c17] at h
      refine J_iload_n X d_Model_word_20 1 rfl rfl ?_
      refine J_bipush (v := (20 : Int32)) X d_Model_word_21 (by decide) ?_
      refine J_icmp_ge X 30 d_Model_word_23 (by decide) (fun c23 => ?_) (fun c23 => ?_)
      · rw [if_pos c23] at h
        refine J_lv [0, 1, 2, 3] [(0, .ref (a 0)), (1, .int x1), (2, .int x2), (3, .int x3)] rfl ?_
        exact L30  x1 x2 x3 t h
      · rw [if_neg c23] at h
        refine J_lv [0, 1, 2, 3] [(0, .ref (a 0)), (1, .int x1), (2, .int x2), (3, .int x3)] rfl ?_
        exact L26  x1 x2 x3 t h
  refine J_lv [0, 1, 2, 3] [(0, .ref (a 0)), (1, .int x1), (2, .int x2), (3, .int x3)] rfl ?_
  unfold m_Model_word at h
  refine J_aload_n X d_Model_word_0 0 rfl rfl ?_
  refine J_iconst (v := (0 : Int32)) X d_Model_word_1 (by decide) ?_
  refine J_put (ty := .int) (v := .int (0 : Int32)) X (fun w h => mm (in_Model w h)) ty_Model tyk_Model nm_Model 0 rfl rfl 0 (by decide) (mm k_fl_Model_77) rfl rfl (by decide +kernel) rfl rfl (Nat.le_of_ble_eq_true rfl) d_Model_word_2 (wM cI cB cJ cZ a (sG t 0 (0 : Int32))) rfl ?_
  refine J_iload_n X d_Model_word_5 1 rfl rfl ?_
  refine J_if_lt X 14 d_Model_word_6 (by decide) (fun c6 => ?_) (fun c6 => ?_)
  · rw [if_pos c6] at h
    refine J_lv [0, 1, 2, 3] [(0, .ref (a 0)), (1, .int x1), (2, .int x2), (3, .int x3)] rfl ?_
    exact L14  x1 x2 x3 (sG t 0 (0 : Int32)) h
  · rw [if_neg c6] at h
    refine J_iload_n X d_Model_word_9 1 rfl rfl ?_
    refine J_iconst (v := (4 : Int32)) X d_Model_word_10 (by decide) ?_
    refine J_icmp_lt X 26 d_Model_word_11 (by decide) (fun c11 => ?_) (fun c11 => ?_)
    · rw [if_pos c11] at h
      refine J_lv [0, 1, 2, 3] [(0, .ref (a 0)), (1, .int x1), (2, .int x2), (3, .int x3)] rfl ?_
      exact L26  x1 x2 x3 (sG t 0 (0 : Int32)) h
    · rw [if_neg c11] at h
      refine J_lv [0, 1, 2, 3] [(0, .ref (a 0)), (1, .int x1), (2, .int x2), (3, .int x3)] rfl ?_
      exact L14  x1 x2 x3 (sG t 0 (0 : Int32)) h
set_option maxHeartbeats 4000000 in
set_option maxRecDepth 100000 in
theorem ct_Model_look (l : Launch) (dC : Nat → ClassId) (dI : Nat → Nat → Nat) (cI cB cJ cZ : ClassId) (a : Nat → Nat) (n : Nat) (x1 : Int32) (t : St) {z : Int32 × St} (h : m_Model_look n x1 t = some z) : jMi l y_Model_look w_Model_look ({ frames := 0, cells := 0, slots := 0, locals := 0 }) (dC, dI) vwCl (tyA cI cB cJ cZ) [.ref (a 0), .int x1] (wM cI cB cJ cZ a t) z.1 (fun _ : Unit => wM cI cB cJ cZ a z.2) := by
  refine jMi.of (cc := c_Model_look) (maxL := 2) (ret := (some .int)) (by decide) rfl (Nat.le_of_ble_eq_true rfl) ?_
  intro p e s m args below meth c A X hr hlk hnm
  refine J_lv [0, 1] [(0, .ref (a 0)), (1, .int x1)] rfl ?_
  unfold m_Model_look at h
  refine J_aload_n X d_Model_look_0 0 rfl rfl ?_
  refine J_iconst (v := (0 : Int32)) X d_Model_look_1 (by decide) ?_
  refine J_put (ty := .int) (v := .int (0 : Int32)) X (fun w h => mm (in_Model w h)) ty_Model tyk_Model nm_Model 0 rfl rfl 0 (by decide) (mm k_fl_Model_77) rfl rfl (by decide +kernel) rfl rfl (Nat.le_of_ble_eq_true rfl) d_Model_look_2 (wM cI cB cJ cZ a (sG t 0 (0 : Int32))) rfl ?_
  refine J_iload_n X d_Model_look_5 1 rfl rfl ?_
  by_cases c6_0 : x1 = (0 : Int32)
  · rw [if_pos c6_0] at h
    refine J_tableIn X 48 d_Model_look_6 (by rw [c6_0]; decide) (by rw [c6_0]; decide) (by rw [c6_0] <;> rfl) (by decide) ?_
    refine J_aload_n X d_Model_look_48 0 rfl rfl ?_
    refine J_get (v := .int (t.1 1)) X (fun w h => mm (in_Model w h)) 0 rfl rfl 2 (by decide) (mm k_fl_Model_104) rfl rfl d_Model_look_49 ?_
    exact J_iret X hr hlk () (Nat.le_of_ble_eq_true rfl) (Nat.le_of_ble_eq_true rfl) (j_r1 h) (congrArg (fun q => wM cI cB cJ cZ a q) (j_r2 h)) d_Model_look_52
  rw [if_neg c6_0] at h
  by_cases c6_1 : x1 = (1 : Int32)
  · rw [if_pos c6_1] at h
    refine J_tableIn X 53 d_Model_look_6 (by rw [c6_1]; decide) (by rw [c6_1]; decide) (by rw [c6_1] <;> rfl) (by decide) ?_
    refine J_aload_n X d_Model_look_53 0 rfl rfl ?_
    refine J_get (v := .int (t.1 2)) X (fun w h => mm (in_Model w h)) 0 rfl rfl 3 (by decide) (mm k_fl_Model_107) rfl rfl d_Model_look_54 ?_
    exact J_iret X hr hlk () (Nat.le_of_ble_eq_true rfl) (Nat.le_of_ble_eq_true rfl) (j_r1 h) (congrArg (fun q => wM cI cB cJ cZ a q) (j_r2 h)) d_Model_look_57
  rw [if_neg c6_1] at h
  by_cases c6_2 : x1 = (2 : Int32)
  · rw [if_pos c6_2] at h
    refine J_tableIn X 58 d_Model_look_6 (by rw [c6_2]; decide) (by rw [c6_2]; decide) (by rw [c6_2] <;> rfl) (by decide) ?_
    refine J_aload_n X d_Model_look_58 0 rfl rfl ?_
    refine J_get (v := .int (t.1 3)) X (fun w h => mm (in_Model w h)) 0 rfl rfl 4 (by decide) (mm k_fl_Model_13) rfl rfl d_Model_look_59 ?_
    exact J_iret X hr hlk () (Nat.le_of_ble_eq_true rfl) (Nat.le_of_ble_eq_true rfl) (j_r1 h) (congrArg (fun q => wM cI cB cJ cZ a q) (j_r2 h)) d_Model_look_62
  rw [if_neg c6_2] at h
  by_cases c6_3 : x1 = (3 : Int32)
  · rw [if_pos c6_3] at h
    refine J_tableIn X 63 d_Model_look_6 (by rw [c6_3]; decide) (by rw [c6_3]; decide) (by rw [c6_3] <;> rfl) (by decide) ?_
    refine J_aload_n X d_Model_look_63 0 rfl rfl ?_
    refine J_get (v := .int (t.1 8)) X (fun w h => mm (in_Model w h)) 0 rfl rfl 9 (by decide) (mm k_fl_Model_83) rfl rfl d_Model_look_64 ?_
    exact J_iret X hr hlk () (Nat.le_of_ble_eq_true rfl) (Nat.le_of_ble_eq_true rfl) (j_r1 h) (congrArg (fun q => wM cI cB cJ cZ a q) (j_r2 h)) d_Model_look_67
  rw [if_neg c6_3] at h
  by_cases c6_4 : x1 = (4 : Int32)
  · rw [if_pos c6_4] at h
    refine J_tableIn X 68 d_Model_look_6 (by rw [c6_4]; decide) (by rw [c6_4]; decide) (by rw [c6_4] <;> rfl) (by decide) ?_
    refine J_aload_n X d_Model_look_68 0 rfl rfl ?_
    refine J_get (v := .int (t.1 14)) X (fun w h => mm (in_Model w h)) 0 rfl rfl 26 (by decide) (mm k_fl_Model_101) rfl rfl d_Model_look_69 ?_
    exact J_iret X hr hlk () (Nat.le_of_ble_eq_true rfl) (Nat.le_of_ble_eq_true rfl) (j_r1 h) (congrArg (fun q => wM cI cB cJ cZ a q) (j_r2 h)) d_Model_look_72
  rw [if_neg c6_4] at h
  by_cases c6_5 : x1 = (5 : Int32)
  · rw [if_pos c6_5] at h
    refine J_tableIn X 73 d_Model_look_6 (by rw [c6_5]; decide) (by rw [c6_5]; decide) (by rw [c6_5] <;> rfl) (by decide) ?_
    refine J_aload_n X d_Model_look_73 0 rfl rfl ?_
    refine J_get (v := .int (t.1 13)) X (fun w h => mm (in_Model w h)) 0 rfl rfl 19 (by decide) (mm k_fl_Model_98) rfl rfl d_Model_look_74 ?_
    exact J_iret X hr hlk () (Nat.le_of_ble_eq_true rfl) (Nat.le_of_ble_eq_true rfl) (j_r1 h) (congrArg (fun q => wM cI cB cJ cZ a q) (j_r2 h)) d_Model_look_77
  rw [if_neg c6_5] at h
  by_cases c6_6 : x1 = (6 : Int32)
  · rw [if_pos c6_6] at h
    refine J_tableIn X 78 d_Model_look_6 (by rw [c6_6]; decide) (by rw [c6_6]; decide) (by rw [c6_6] <;> rfl) (by decide) ?_
    refine J_aload_n X d_Model_look_78 0 rfl rfl ?_
    refine J_get (v := .int (t.1 7)) X (fun w h => mm (in_Model w h)) 0 rfl rfl 8 (by decide) (mm k_fl_Model_80) rfl rfl d_Model_look_79 ?_
    exact J_iret X hr hlk () (Nat.le_of_ble_eq_true rfl) (Nat.le_of_ble_eq_true rfl) (j_r1 h) (congrArg (fun q => wM cI cB cJ cZ a q) (j_r2 h)) d_Model_look_82
  rw [if_neg c6_6] at h
  refine J_tableOut X 83 d_Model_look_6 (by have g0 := lv_neT (a := 0) c6_0 rfl; have g1 := lv_neT (a := 1) c6_1 rfl; have g2 := lv_neT (a := 2) c6_2 rfl; have g3 := lv_neT (a := 3) c6_3 rfl; have g4 := lv_neT (a := 4) c6_4 rfl; have g5 := lv_neT (a := 5) c6_5 rfl; have g6 := lv_neT (a := 6) c6_6 rfl; omega) (by decide) ?_
  refine J_iconst (v := (-1 : Int32)) X d_Model_look_83 (by decide) ?_
  exact J_iret X hr hlk () (Nat.le_of_ble_eq_true rfl) (Nat.le_of_ble_eq_true rfl) (j_r1 h) (congrArg (fun q => wM cI cB cJ cZ a q) (j_r2 h)) d_Model_look_84
