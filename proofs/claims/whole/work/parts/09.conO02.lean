set_option maxHeartbeats 4000000 in
set_option maxRecDepth 100000 in
theorem ct_Arrays_fillJ_15 (l : Launch) (dC : Nat → ClassId) (dI : Nat → Nat → Nat) (cI cB cJ cZ : ClassId) (a : Nat → Nat) (n : Nat) (x1 : Int64) (t : St) {z : St} (h : m_Arrays_fillJ_15 n x1 t = some z) : jMv l y_Arrays_fillJ w_Arrays_fillJ ({ frames := 0, cells := 0, slots := 0, locals := 0 }) (dC, dI) vwCl (tyA cI cB cJ cZ) [.ref (a 15), .long x1] (wO cI cB cJ cZ a t) (fun _ : Unit => wO cI cB cJ cZ a z) := by
  refine jMv.of (cc := c_Arrays_fillJ) (maxL := 5) (ret := none) (by decide) rfl (Nat.le_of_ble_eq_true rfl) ?_
  intro p e s m args below meth c A X hr hlk hnm
  have L6 : ∀ (k : Nat) (x1 : Int64) (x3 : Int32) (x4 : Int32) (t : St), m_Arrays_fillJ_15_6 n  k x1 x3 x4 t = some z → J p l e { frames := 0, cells := 0, slots := 0, locals := 0 } s m args below meth c 5 (dC, dI) vwCl A (MQ below (jQv (dC, dI) vwCl (tyA cI cB cJ cZ) (fun _ : Unit => wO cI cB cJ cZ a z) A) args s 0 0 A) 0 0 6 [(0, .ref (a 15)), (1, .long x1), (3, .int x3), (4, .int x4)] [] (wO cI cB cJ cZ a t) := by
    intro k
    induction k with
    | zero => intro x1 x3 x4 t h; exact absurd (show none = some z from h) (by simp)
    | succ k ih =>
      intro x1 x3 x4 t h
      change m_Arrays_fillJ_15_6b n  (m_Arrays_fillJ_15_6 n  k) x1 x3 x4 t = some z at h
      unfold m_Arrays_fillJ_15_6b at h
      refine J_iload_n X d_Arrays_fillJ_6 2 rfl rfl ?_
      refine J_iload X d_Arrays_fillJ_7 3 rfl ?_
      refine J_icmp_ge X 22 d_Arrays_fillJ_9 (by decide) (fun c9 => ?_) (fun c9 => ?_)
      · rw [if_pos c9] at h
        exact J_vret X hr hlk () (Nat.le_of_ble_eq_true rfl) (Nat.le_of_ble_eq_true rfl) (congrArg (fun q => wO cI cB cJ cZ a q) (j_s h)) d_Arrays_fillJ_22
      · rw [if_neg c9] at h
        refine J_aload_n X d_Arrays_fillJ_12 0 rfl rfl ?_
        refine J_iload_n X d_Arrays_fillJ_13 2 rfl rfl ?_
        refine J_lload_n X d_Arrays_fillJ_14 1 rfl rfl ?_
        obtain ⟨b15, h⟩ := j_ifn h
        refine J_last (f := (t.2.2.1 0)) X 15 2 rfl rfl b15 d_Arrays_fillJ_15 (wO cI cB cJ cZ a (sL t 0 (x3).toNatClampNeg x1)) rfl ?_
        refine J_iinc (v := (x3 + 1)) X [(3, .int (x3 + 1)), (0, .ref (a 15)), (1, .long x1), (4, .int x4)] d_Arrays_fillJ_16 2 rfl rfl (by decide) rfl ?_
        refine J_goto X 6 d_Arrays_fillJ_19 (by decide) ?_
        refine J_lv [1, 2, 0, 3] [(0, .ref (a 15)), (1, .long x1), (3, .int (x3 + 1)), (4, .int x4)] rfl ?_
        exact ih x1 (x3 + 1) x4 (sL t 0 (x3).toNatClampNeg x1) h
  refine J_lv [0, 1] [(0, .ref (a 15)), (1, .long x1)] rfl ?_
  unfold m_Arrays_fillJ_15 at h
  refine J_iconst (v := (0 : Int32)) X d_Arrays_fillJ_0 (by decide) ?_
  refine J_istore_n X [(3, .int (0 : Int32)), (0, .ref (a 15)), (1, .long x1)] d_Arrays_fillJ_1 rfl (by decide) rfl ?_
  refine J_aload_n X d_Arrays_fillJ_2 1 rfl rfl ?_
  refine J_alen X 15 2 rfl rfl (v := (Int32.ofNat 4)) rfl d_Arrays_fillJ_3 ?_
  refine J_istore X [(4, .int (Int32.ofNat 4)), (3, .int (0 : Int32)), (0, .ref (a 15)), (1, .long x1)] d_Arrays_fillJ_4 (by decide) rfl ?_
  refine J_lv [2, 3, 1, 0] [(0, .ref (a 15)), (1, .long x1), (3, .int (0 : Int32)), (4, .int (Int32.ofNat 4))] rfl ?_
  exact L6  n x1 (0 : Int32) (Int32.ofNat 4) t h
set_option maxHeartbeats 4000000 in
set_option maxRecDepth 100000 in
theorem ct_Parser_takeSymbols (l : Launch) (dC : Nat → ClassId) (dI : Nat → Nat → Nat) (cI cB cJ cZ : ClassId) (a : Nat → Nat) (n : Nat) (x1 : Int32) (x2 : Int32) (t : St) {z : St} (h : m_Parser_takeSymbols n x1 x2 t = some z) : jMv l y_Parser_takeSymbols w_Parser_takeSymbols ({ frames := 2, cells := 0, slots := 0, locals := 45 }) (dC, dI) vwCl (tyA cI cB cJ cZ) [.ref (a 11), .int x1, .int x2] (wO cI cB cJ cZ a t) (fun _ : Unit => wO cI cB cJ cZ a z) := by
  refine jMv.of (cc := c_Parser_takeSymbols) (maxL := 8) (ret := none) (by decide) rfl (Nat.le_of_ble_eq_true rfl) ?_
  intro p e s m args below meth c A X hr hlk hnm
  have L74 : ∀ (K10 : Int32 → Int32 → Int32 → St → Option (St)) (hK10 : ∀ (x1 : Int32) (x2 : Int32) (x3 : Int32) (t : St), K10 x1 x2 x3 t = some z → J p l e { frames := 2, cells := 0, slots := 0, locals := 45 } s m args below meth c 8 (dC, dI) vwCl A (MQ below (jQv (dC, dI) vwCl (tyA cI cB cJ cZ) (fun _ : Unit => wO cI cB cJ cZ a z) A) args s 0 0 A) 0 0 10 [(0, .ref (a 11)), (1, .int x1), (2, .int x2), (3, .int x3)] [] (wO cI cB cJ cZ a t)) (x1 : Int32) (x2 : Int32) (x3 : Int32) (x5 : Int32) (x6 : Int64) (t : St), m_Parser_takeSymbols_74 n K10 x1 x2 x3 x5 x6 t = some z → J p l e { frames := 2, cells := 0, slots := 0, locals := 45 } s m args below meth c 8 (dC, dI) vwCl A (MQ below (jQv (dC, dI) vwCl (tyA cI cB cJ cZ) (fun _ : Unit => wO cI cB cJ cZ a z) A) args s 0 0 A) 0 0 74 [(0, .ref (a 11)), (1, .int x1), (2, .int x2), (3, .int x3), (5, .int x5), (6, .long x6)] [] (wO cI cB cJ cZ a t) := by
    intro K10 hK10 x1 x2 x3 x5 x6 t h
    unfold m_Parser_takeSymbols_74 at h
    refine J_aload_n X d_Parser_takeSymbols_74 0 rfl rfl ?_
    refine J_get (v := .ref (a 15)) X (fun w h => mm (in_Parser w h)) 11 rfl rfl 4 (by decide) (mm k_fl_Parser_22) rfl rfl d_Parser_takeSymbols_75 ?_
    refine J_iload X d_Parser_takeSymbols_78 4 rfl ?_
    refine J_dup2 X d_Parser_takeSymbols_80 rfl rfl ?_
    obtain ⟨b81, h⟩ := j_ifn h
    refine J_lald (f := (t.2.2.1 0)) X 15 2 rfl rfl b81 d_Parser_takeSymbols_81 ?_
    refine J_lload X d_Parser_takeSymbols_82 5 rfl ?_
    refine J_lor X d_Parser_takeSymbols_84 ?_
    obtain ⟨b85, h⟩ := j_ifn h
    refine J_last (f := (t.2.2.1 0)) X 15 2 rfl rfl b85 d_Parser_takeSymbols_85 (wO cI cB cJ cZ a (sL t 0 (x5).toNatClampNeg (((t.2.2.1 0) (x5).toNatClampNeg) ||| x6))) rfl ?_
    refine J_iinc (v := (x3 + 1)) X [(3, .int (x3 + 1)), (0, .ref (a 11)), (1, .int x1), (2, .int x2), (5, .int x5), (6, .long x6)] d_Parser_takeSymbols_86 3 rfl rfl (by decide) rfl ?_
    refine J_goto X 10 d_Parser_takeSymbols_89 (by decide) ?_
    refine J_lv [1, 2, 3, 0] [(0, .ref (a 11)), (1, .int x1), (2, .int x2), (3, .int (x3 + 1))] rfl ?_
    exact hK10 x1 x2 (x3 + 1) (sL t 0 (x5).toNatClampNeg (((t.2.2.1 0) (x5).toNatClampNeg) ||| x6)) h
  have L10 : ∀ (k : Nat) (x1 : Int32) (x2 : Int32) (x3 : Int32) (t : St), m_Parser_takeSymbols_10 n  k x1 x2 x3 t = some z → J p l e { frames := 2, cells := 0, slots := 0, locals := 45 } s m args below meth c 8 (dC, dI) vwCl A (MQ below (jQv (dC, dI) vwCl (tyA cI cB cJ cZ) (fun _ : Unit => wO cI cB cJ cZ a z) A) args s 0 0 A) 0 0 10 [(0, .ref (a 11)), (1, .int x1), (2, .int x2), (3, .int x3)] [] (wO cI cB cJ cZ a t) := by
    intro k
    induction k with
    | zero => intro x1 x2 x3 t h; exact absurd (show none = some z from h) (by simp)
    | succ k ih =>
      intro x1 x2 x3 t h
      change m_Parser_takeSymbols_10b n  (m_Parser_takeSymbols_10 n  k) x1 x2 x3 t = some z at h
      unfold m_Parser_takeSymbols_10b at h
      refine J_iload_n X d_Parser_takeSymbols_10 3 rfl rfl ?_
      refine J_iload_n X d_Parser_takeSymbols_11 1 rfl rfl ?_
      refine J_icmp_ge X 92 d_Parser_takeSymbols_12 (by decide) (fun c12 => ?_) (fun c12 => ?_)
      · rw [if_pos c12] at h
        exact J_vret X hr hlk () (Nat.le_of_ble_eq_true rfl) (Nat.le_of_ble_eq_true rfl) (congrArg (fun q => wO cI cB cJ cZ a q) (j_s h)) d_Parser_takeSymbols_92
      · rw [if_neg c12] at h
        refine J_aload_n X d_Parser_takeSymbols_15 0 rfl rfl ?_
        refine J_get (v := .int (t.1 13)) X (fun w h => mm (in_Parser w h)) 11 rfl rfl 9 (by decide) (mm k_fl_Parser_40) rfl rfl d_Parser_takeSymbols_16 ?_
        refine J_if_ne X 92 d_Parser_takeSymbols_19 (by decide) (fun c19 => ?_) (fun c19 => ?_)
        · rw [if_neg c19] at h
          exact J_vret X hr hlk () (Nat.le_of_ble_eq_true rfl) (Nat.le_of_ble_eq_true rfl) (congrArg (fun q => wO cI cB cJ cZ a q) (j_s h)) d_Parser_takeSymbols_92
        · rw [if_pos c19] at h
          refine J_aload_n X d_Parser_takeSymbols_22 0 rfl rfl ?_
          refine J_iconst (v := (0 : Int32)) X d_Parser_takeSymbols_23 (by decide) ?_
          refine J_iload_n X d_Parser_takeSymbols_24 2 rfl rfl ?_
          obtain ⟨z25, hz25, h⟩ := j_bind h
          refine J_callVi0 (n := 2) (wc := (wO cI cB cJ cZ a t)) (r := z25.1) (w1 := fun _ : Unit => wO cI cB cJ cZ a z25.2) X isO (hCO cI cB cJ cZ a t) (hDO cI cB cJ cZ a t) rfl [.int (0 : Int32), .int x2] [] (ct_Parser_take l dC dI cI cB cJ cZ a n (0 : Int32) x2 t hz25) (aw_V (fun w h => mm h) k_ml_Parser_147 k_im_Parser_take k_se_Parser_take k_in_Parser k_cd_Parser_take) rfl (by decide +kernel) ⟨(Nat.le_of_ble_eq_true rfl), (Nat.le_of_ble_eq_true rfl)⟩ (q0 := 11) rfl rfl rfl rfl (Nat.le_of_ble_eq_true rfl) d_Parser_takeSymbols_25 ⟨(Nat.le_of_ble_eq_true rfl), (Nat.le_of_ble_eq_true rfl)⟩ (fun _ => ?_)
          refine J_istore X [(4, .int z25.1), (0, .ref (a 11)), (1, .int x1), (2, .int x2), (3, .int x3)] d_Parser_takeSymbols_28 (by decide) rfl ?_
          refine J_iload X d_Parser_takeSymbols_30 0 rfl ?_
          refine J_iconst (v := (-1 : Int32)) X d_Parser_takeSymbols_32 (by decide) ?_
          refine J_icmp_ne X 37 d_Parser_takeSymbols_33 (by decide) (fun c33 => ?_) (fun c33 => ?_)
          · rw [if_neg c33] at h
            refine J_iload X d_Parser_takeSymbols_37 0 rfl ?_
            refine J_bipush (v := (6 : Int32)) X d_Parser_takeSymbols_39 (by decide) ?_
            refine J_ishr X d_Parser_takeSymbols_41 ?_
            refine J_iconst (v := (3 : Int32)) X d_Parser_takeSymbols_42 (by decide) ?_
            refine J_iand X d_Parser_takeSymbols_43 ?_
            refine J_istore X [(5, .int ((z25.1 >>> ((6 : Int32) &&& 31)) &&& (3 : Int32))), (4, .int z25.1), (0, .ref (a 11)), (1, .int x1), (2, .int x2), (3, .int x3)] d_Parser_takeSymbols_44 (by decide) rfl ?_
            refine J_lconst (v := (1 : Int64)) X d_Parser_takeSymbols_46 (by decide) ?_
            refine J_iload X d_Parser_takeSymbols_47 1 rfl ?_
            refine J_bipush (v := (63 : Int32)) X d_Parser_takeSymbols_49 (by decide) ?_
            refine J_iand X d_Parser_takeSymbols_51 ?_
            refine J_lshl X d_Parser_takeSymbols_52 ?_
            refine J_lstore X [(6, .long ((1 : Int64) <<< (((z25.1 &&& (63 : Int32))).toInt64 &&& 63))), (5, .int ((z25.1 >>> ((6 : Int32) &&& 31)) &&& (3 : Int32))), (4, .int z25.1), (0, .ref (a 11)), (1, .int x1), (2, .int x2), (3, .int x3)] d_Parser_takeSymbols_53 (by decide) rfl ?_
            refine J_aload_n X d_Parser_takeSymbols_55 3 rfl rfl ?_
            refine J_get (v := .ref (a 15)) X (fun w h => mm (in_Parser w h)) 11 rfl rfl 4 (by decide) (mm k_fl_Parser_22) rfl rfl d_Parser_takeSymbols_56 ?_
            refine J_iload X d_Parser_takeSymbols_59 1 rfl ?_
            obtain ⟨b61, h⟩ := j_ifn h
            refine J_lald (f := (z25.2.2.2.1 0)) X 15 2 rfl rfl b61 d_Parser_takeSymbols_61 ?_
            refine J_lload X d_Parser_takeSymbols_62 0 rfl ?_
            refine J_land X d_Parser_takeSymbols_64 ?_
            refine J_lconst (v := (0 : Int64)) X d_Parser_takeSymbols_65 (by decide) ?_
            refine J_lcmp X d_Parser_takeSymbols_66 ?_
            refine J_if_eq X 74 d_Parser_takeSymbols_67 (by decide) (fun c67 => ?_) (fun c67 => ?_)
            · rw [if_pos c67] at h
              refine J_lv [3, 4, 5, 6, 1, 0] [(0, .ref (a 11)), (1, .int x1), (2, .int x2), (3, .int x3), (5, .int ((z25.1 >>> ((6 : Int32) &&& 31)) &&& (3 : Int32))), (6, .long ((1 : Int64) <<< (((z25.1 &&& (63 : Int32))).toInt64 &&& 63)))] rfl ?_
              exact L74 (m_Parser_takeSymbols_10 n  k) ih x1 x2 x3 ((z25.1 >>> ((6 : Int32) &&& 31)) &&& (3 : Int32)) ((1 : Int64) <<< (((z25.1 &&& (63 : Int32))).toInt64 &&& 63)) z25.2 h
            · rw [if_neg c67] at h
              refine J_aload_n X d_Parser_takeSymbols_70 3 rfl rfl ?_
              obtain ⟨z71, hz71, h⟩ := j_bind h
              refine J_callVv0 (n := 0) (wc := (wO cI cB cJ cZ a z25.2)) (w1 := fun _ : Unit => wO cI cB cJ cZ a z71) X isO (hCO cI cB cJ cZ a z25.2) (hDO cI cB cJ cZ a z25.2) rfl [] [] (ct_Parser_refuseTaken l dC dI cI cB cJ cZ a n z25.2 hz71) (aw_V (fun w h => mm h) k_ml_Parser_150 k_im_Parser_refuseTaken k_se_Parser_refuseTaken k_in_Parser k_cd_Parser_refuseTaken) rfl (by decide +kernel) ⟨(Nat.le_of_ble_eq_true rfl), (Nat.le_of_ble_eq_true rfl)⟩ (q0 := 11) rfl rfl rfl rfl (Nat.le_of_ble_eq_true rfl) d_Parser_takeSymbols_71 ⟨(Nat.le_of_ble_eq_true rfl), (Nat.le_of_ble_eq_true rfl)⟩ (fun _ => ?_)
              refine J_lv [3, 4, 5, 6, 1, 0] [(0, .ref (a 11)), (1, .int x1), (2, .int x2), (3, .int x3), (5, .int ((z25.1 >>> ((6 : Int32) &&& 31)) &&& (3 : Int32))), (6, .long ((1 : Int64) <<< (((z25.1 &&& (63 : Int32))).toInt64 &&& 63)))] rfl ?_
              exact L74 (m_Parser_takeSymbols_10 n  k) ih x1 x2 x3 ((z25.1 >>> ((6 : Int32) &&& 31)) &&& (3 : Int32)) ((1 : Int64) <<< (((z25.1 &&& (63 : Int32))).toInt64 &&& 63)) z71 h
          · rw [if_pos c33] at h
            exact J_vret X hr hlk () (Nat.le_of_ble_eq_true rfl) (Nat.le_of_ble_eq_true rfl) (congrArg (fun q => wO cI cB cJ cZ a q) (j_s h)) d_Parser_takeSymbols_36
  refine J_lv [0, 1, 2] [(0, .ref (a 11)), (1, .int x1), (2, .int x2)] rfl ?_
  unfold m_Parser_takeSymbols at h
  refine J_aload_n X d_Parser_takeSymbols_0 0 rfl rfl ?_
  refine J_get (v := .ref (a 15)) X (fun w h => mm (in_Parser w h)) 11 rfl rfl 4 (by decide) (mm k_fl_Parser_22) rfl rfl d_Parser_takeSymbols_1 ?_
  refine J_lconst (v := (0 : Int64)) X d_Parser_takeSymbols_4 (by decide) ?_
  obtain ⟨z5, hz5, h⟩ := j_bind h
  refine J_callSv0 (n := 2) (wc := (wO cI cB cJ cZ a t)) (w1 := fun _ : Unit => wO cI cB cJ cZ a z5) X isO (hCO cI cB cJ cZ a t) (hDO cI cB cJ cZ a t) rfl [.ref (a 15), .long (0 : Int64)] [] (ct_Arrays_fillJ_15 l dC dI cI cB cJ cZ a n (0 : Int64) t hz5) (aw_S (fun w h => mm h) k_ml_Parser_168 k_st_Arrays_fillJ k_in_Arrays k_cd_Arrays_fillJ) rfl (by decide +kernel) ⟨(Nat.le_of_ble_eq_true rfl), (Nat.le_of_ble_eq_true rfl)⟩ rfl rfl (Nat.le_of_ble_eq_true rfl) d_Parser_takeSymbols_5 ⟨(Nat.le_of_ble_eq_true rfl), (Nat.le_of_ble_eq_true rfl)⟩ (fun _ => ?_)
  refine J_iconst (v := (0 : Int32)) X d_Parser_takeSymbols_8 (by decide) ?_
  refine J_istore_n X [(3, .int (0 : Int32)), (0, .ref (a 11)), (1, .int x1), (2, .int x2)] d_Parser_takeSymbols_9 rfl (by decide) rfl ?_
  refine J_lv [1, 2, 3, 0] [(0, .ref (a 11)), (1, .int x1), (2, .int x2), (3, .int (0 : Int32))] rfl ?_
  exact L10  n x1 x2 (0 : Int32) z5 h
set_option maxHeartbeats 4000000 in
set_option maxRecDepth 100000 in
theorem ct_Picture_rowOfWords (l : Launch) (dC : Nat → ClassId) (dI : Nat → Nat → Nat) (cI cB cJ cZ : ClassId) (a : Nat → Nat) (n : Nat) (x1 : Int32) (t : St) {z : Int32 × St} (h : m_Picture_rowOfWords n x1 t = some z) : jMi l y_Picture_rowOfWords w_Picture_rowOfWords ({ frames := 0, cells := 0, slots := 0, locals := 0 }) (dC, dI) vwCl (tyA cI cB cJ cZ) [.ref (a 3), .int x1] (wO cI cB cJ cZ a t) z.1 (fun _ : Unit => wO cI cB cJ cZ a z.2) := by
  refine jMi.of (cc := c_Picture_rowOfWords) (maxL := 2) (ret := (some .int)) (by decide) rfl (Nat.le_of_ble_eq_true rfl) ?_
  intro p e s m args below meth c A X hr hlk hnm
  have L30 : ∀  (t : St), m_Picture_rowOfWords_30 n   t = some z → J p l e { frames := 0, cells := 0, slots := 0, locals := 0 } s m args below meth c 2 (dC, dI) vwCl A (MQ below (jQi (dC, dI) vwCl (tyA cI cB cJ cZ) z.1 (fun _ : Unit => wO cI cB cJ cZ a z.2) A) args s 0 0 A) 0 0 30 [] [] (wO cI cB cJ cZ a t) := by
    intro  t h
    unfold m_Picture_rowOfWords_30 at h
    refine J_iconst (v := (-1 : Int32)) X d_Picture_rowOfWords_30 (by decide) ?_
    exact J_iret X hr hlk () (Nat.le_of_ble_eq_true rfl) (Nat.le_of_ble_eq_true rfl) (j_r1 h) (congrArg (fun q => wO cI cB cJ cZ a q) (j_r2 h)) d_Picture_rowOfWords_31
  have L11 : ∀ (x1 : Int32) (t : St), m_Picture_rowOfWords_11 n  x1 t = some z → J p l e { frames := 0, cells := 0, slots := 0, locals := 0 } s m args below meth c 2 (dC, dI) vwCl A (MQ below (jQi (dC, dI) vwCl (tyA cI cB cJ cZ) z.1 (fun _ : Unit => wO cI cB cJ cZ a z.2) A) args s 0 0 A) 0 0 11 [(1, .int x1)] [] (wO cI cB cJ cZ a t) := by
    intro x1 t h
    unfold m_Picture_rowOfWords_11 at h
    refine J_iload_n X d_Picture_rowOfWords_11 0 rfl rfl ?_
    refine J_bipush (v := (16 : Int32)) X d_Picture_rowOfWords_12 (by decide) ?_
    refine J_icmp_lt X 30 d_Picture_rowOfWords_14 (by decide) (fun c14 => ?_) (fun c14 => ?_)
    · rw [if_pos c14] at h
      refine J_lv [] [] rfl ?_
      exact L30  t h
    · rw [if_neg c14] at h
      refine J_iload_n X d_Picture_rowOfWords_17 0 rfl rfl ?_
      refine J_bipush (v := (19 : Int32)) X d_Picture_rowOfWords_18 (by decide) ?_
      refine J_icmp_gt X 30 d_Picture_rowOfWords_20 (by decide) (fun c20 => ?_) (fun c20 => ?_)
      · rw [if_pos c20] at h
        refine J_lv [] [] rfl ?_
        exact L30  t h
      · rw [if_neg c20] at h
        refine J_iload_n X d_Picture_rowOfWords_23 0 rfl rfl ?_
        refine J_bipush (v := (12 : Int32)) X d_Picture_rowOfWords_24 (by decide) ?_
        refine J_isub X d_Picture_rowOfWords_26 ?_
        refine J_goto X 31 d_Picture_rowOfWords_27 (by decide) ?_
        exact J_iret X hr hlk () (Nat.le_of_ble_eq_true rfl) (Nat.le_of_ble_eq_true rfl) (j_r1 h) (congrArg (fun q => wO cI cB cJ cZ a q) (j_r2 h)) d_Picture_rowOfWords_31
  refine J_lv [0, 1] [(0, .ref (a 3)), (1, .int x1)] rfl ?_
  unfold m_Picture_rowOfWords at h
  refine J_iload_n X d_Picture_rowOfWords_0 1 rfl rfl ?_
  refine J_if_lt X 11 d_Picture_rowOfWords_1 (by decide) (fun c1 => ?_) (fun c1 => ?_)
  · rw [if_pos c1] at h
    refine J_lv [1] [(1, .int x1)] rfl ?_
    exact L11  x1 t h
  · rw [if_neg c1] at h
    refine J_iload_n X d_Picture_rowOfWords_4 1 rfl rfl ?_
    refine J_iconst (v := (3 : Int32)) X d_Picture_rowOfWords_5 (by decide) ?_
    refine J_icmp_gt X 11 d_Picture_rowOfWords_6 (by decide) (fun c6 => ?_) (fun c6 => ?_)
    · rw [if_pos c6] at h
      refine J_lv [1] [(1, .int x1)] rfl ?_
      exact L11  x1 t h
    · rw [if_neg c6] at h
      refine J_iload_n X d_Picture_rowOfWords_9 1 rfl rfl ?_
      exact J_iret X hr hlk () (Nat.le_of_ble_eq_true rfl) (Nat.le_of_ble_eq_true rfl) (j_r1 h) (congrArg (fun q => wO cI cB cJ cZ a q) (j_r2 h)) d_Picture_rowOfWords_10
set_option maxHeartbeats 4000000 in
set_option maxRecDepth 100000 in
theorem ct_Picture_setWords (l : Launch) (dC : Nat → ClassId) (dI : Nat → Nat → Nat) (cI cB cJ cZ : ClassId) (a : Nat → Nat) (n : Nat) (x1 : Int32) (x2 : Int32) (t : St) {z : St} (h : m_Picture_setWords n x1 x2 t = some z) : jMv l y_Picture_setWords w_Picture_setWords ({ frames := 1, cells := 0, slots := 0, locals := 21 }) (dC, dI) vwCl (tyA cI cB cJ cZ) [.ref (a 3), .int x1, .int x2] (wO cI cB cJ cZ a t) (fun _ : Unit => wO cI cB cJ cZ a z) := by
  refine jMv.of (cc := c_Picture_setWords) (maxL := 4) (ret := none) (by decide) rfl (Nat.le_of_ble_eq_true rfl) ?_
  intro p e s m args below meth c A X hr hlk hnm
  refine J_lv [0, 1, 2] [(0, .ref (a 3)), (1, .int x1), (2, .int x2)] rfl ?_
  unfold m_Picture_setWords at h
  refine J_aload_n X d_Picture_setWords_0 0 rfl rfl ?_
  refine J_iload_n X d_Picture_setWords_1 1 rfl rfl ?_
  obtain ⟨z2, hz2, h⟩ := j_bind h
  refine J_callVi0 (n := 1) (wc := (wO cI cB cJ cZ a t)) (r := z2.1) (w1 := fun _ : Unit => wO cI cB cJ cZ a z2.2) X isO (hCO cI cB cJ cZ a t) (hDO cI cB cJ cZ a t) rfl [.int x1] [] (ct_Picture_rowOfWords l dC dI cI cB cJ cZ a n x1 t hz2) (aw_V (fun w h => mm h) k_ml_Picture_113 k_im_Picture_rowOfWords k_se_Picture_rowOfWords k_in_Picture k_cd_Picture_rowOfWords) rfl (by decide +kernel) ⟨(Nat.le_of_ble_eq_true rfl), (Nat.le_of_ble_eq_true rfl)⟩ (q0 := 3) rfl rfl rfl rfl (Nat.le_of_ble_eq_true rfl) d_Picture_setWords_2 ⟨(Nat.le_of_ble_eq_true rfl), (Nat.le_of_ble_eq_true rfl)⟩ (fun _ => ?_)
  refine J_istore_n X [(3, .int z2.1), (0, .ref (a 3)), (1, .int x1), (2, .int x2)] d_Picture_setWords_5 rfl (by decide) rfl ?_
  refine J_iload_n X d_Picture_setWords_6 0 rfl rfl ?_
  refine J_if_lt X 26 d_Picture_setWords_7 (by decide) (fun c7 => ?_) (fun c7 => ?_)
  · rw [if_pos c7] at h
    exact J_vret X hr hlk () (Nat.le_of_ble_eq_true rfl) (Nat.le_of_ble_eq_true rfl) (congrArg (fun q => wO cI cB cJ cZ a q) (j_s h)) d_Picture_setWords_26
  · rw [if_neg c7] at h
    refine J_iload_n X d_Picture_setWords_10 0 rfl rfl ?_
    refine J_aload_n X d_Picture_setWords_11 1 rfl rfl ?_
    refine J_get (v := .ref (a 10)) X (fun w h => mm (in_Picture w h)) 3 rfl rfl 5 (by decide) (mm k_fl_Picture_28) rfl rfl d_Picture_setWords_12 ?_
    refine J_alen X 10 0 rfl rfl (v := (Int32.ofNat 8)) rfl d_Picture_setWords_15 ?_
    refine J_icmp_ge X 26 d_Picture_setWords_16 (by decide) (fun c16 => ?_) (fun c16 => ?_)
    · rw [if_pos c16] at h
      exact J_vret X hr hlk () (Nat.le_of_ble_eq_true rfl) (Nat.le_of_ble_eq_true rfl) (congrArg (fun q => wO cI cB cJ cZ a q) (j_s h)) d_Picture_setWords_26
    · rw [if_neg c16] at h
      refine J_aload_n X d_Picture_setWords_19 1 rfl rfl ?_
      refine J_get (v := .ref (a 10)) X (fun w h => mm (in_Picture w h)) 3 rfl rfl 5 (by decide) (mm k_fl_Picture_28) rfl rfl d_Picture_setWords_20 ?_
      refine J_iload_n X d_Picture_setWords_23 0 rfl rfl ?_
      refine J_iload_n X d_Picture_setWords_24 3 rfl rfl ?_
      obtain ⟨b25, h⟩ := j_ifn h
      refine J_iast (f := (z2.2.2.1 5)) X 10 0 rfl rfl b25 d_Picture_setWords_25 (wO cI cB cJ cZ a (sH z2.2 5 (z2.1).toNatClampNeg x2)) rfl ?_
      exact J_vret X hr hlk () (Nat.le_of_ble_eq_true rfl) (Nat.le_of_ble_eq_true rfl) (congrArg (fun q => wO cI cB cJ cZ a q) (j_s h)) d_Picture_setWords_26
set_option maxHeartbeats 4000000 in
set_option maxRecDepth 100000 in
theorem ct_Parser_readWords (l : Launch) (dC : Nat → ClassId) (dI : Nat → Nat → Nat) (cI cB cJ cZ : ClassId) (a : Nat → Nat) (n : Nat)  (t : St) {z : St} (h : m_Parser_readWords n t = some z) : jMv l y_Parser_readWords w_Parser_readWords ({ frames := 3, cells := 0, slots := 0, locals := 72 }) (dC, dI) vwCl (tyA cI cB cJ cZ) [.ref (a 11)] (wO cI cB cJ cZ a t) (fun _ : Unit => wO cI cB cJ cZ a z) := by
  refine jMv.of (cc := c_Parser_readWords) (maxL := 6) (ret := none) (by decide) rfl (Nat.le_of_ble_eq_true rfl) ?_
  intro p e s m args below meth c A X hr hlk hnm
  have L67 : ∀ (K4 : Int32 → Int32 → St → Option (St)) (hK4 : ∀ (x1 : Int32) (x2 : Int32) (t : St), K4 x1 x2 t = some z → J p l e { frames := 3, cells := 0, slots := 0, locals := 72 } s m args below meth c 6 (dC, dI) vwCl A (MQ below (jQv (dC, dI) vwCl (tyA cI cB cJ cZ) (fun _ : Unit => wO cI cB cJ cZ a z) A) args s 0 0 A) 0 0 4 [(0, .ref (a 11)), (1, .int x1), (2, .int x2)] [] (wO cI cB cJ cZ a t)) (x2 : Int32) (x3 : Int32) (x4 : Int32) (y1 : Int32) (y2 : Int32) (t : St), m_Parser_readWords_67 n K4 x2 x3 x4 y1 y2 t = some z → J p l e { frames := 3, cells := 0, slots := 0, locals := 72 } s m args below meth c 6 (dC, dI) vwCl A (MQ below (jQv (dC, dI) vwCl (tyA cI cB cJ cZ) (fun _ : Unit => wO cI cB cJ cZ a z) A) args s 0 0 A) 0 0 67 [(0, .ref (a 11)), (2, .int x2), (3, .int x3), (4, .int x4)] [.int y2, .int y1, .ref (a 11)] (wO cI cB cJ cZ a t) := by
    intro K4 hK4 x2 x3 x4 y1 y2 t h
    unfold m_Parser_readWords_67 at h
    obtain ⟨z67, hz67, h⟩ := j_bind h
    refine J_callVv0 (n := 2) (wc := (wO cI cB cJ cZ a t)) (w1 := fun _ : Unit => wO cI cB cJ cZ a z67) X isO (hCO cI cB cJ cZ a t) (hDO cI cB cJ cZ a t) rfl [.int y1, .int y2] [] (ct_Parser_takeSymbols l dC dI cI cB cJ cZ a n y1 y2 t hz67) (aw_V (fun w h => mm h) k_ml_Parser_162 k_im_Parser_takeSymbols k_se_Parser_takeSymbols k_in_Parser k_cd_Parser_takeSymbols) rfl (by decide +kernel) ⟨(Nat.le_of_ble_eq_true rfl), (Nat.le_of_ble_eq_true rfl)⟩ (q0 := 11) rfl rfl rfl rfl (Nat.le_of_ble_eq_true rfl) d_Parser_readWords_67 ⟨(Nat.le_of_ble_eq_true rfl), (Nat.le_of_ble_eq_true rfl)⟩ (fun _ => ?_)
    refine J_aload_n X d_Parser_readWords_70 0 rfl rfl ?_
    refine J_get (v := .ref (a 3)) X (fun w h => mm (in_Parser w h)) 11 rfl rfl 1 (by decide) (mm k_fl_Parser_50) rfl rfl d_Parser_readWords_71 ?_
    refine J_iload_n X d_Parser_readWords_74 2 rfl rfl ?_
    refine J_iload X d_Parser_readWords_75 3 rfl ?_
    obtain ⟨z77, hz77, h⟩ := j_bind h
    refine J_callVv0 (n := 2) (wc := (wO cI cB cJ cZ a z67)) (w1 := fun _ : Unit => wO cI cB cJ cZ a z77) X isO (hCO cI cB cJ cZ a z67) (hDO cI cB cJ cZ a z67) rfl [.int x3, .int x4] [] (ct_Picture_setWords l dC dI cI cB cJ cZ a n x3 x4 z67 hz77) (aw_V (fun w h => mm h) k_ml_Parser_165 k_im_Picture_setWords k_se_Picture_setWords k_in_Picture k_cd_Picture_setWords) rfl (by decide +kernel) ⟨(Nat.le_of_ble_eq_true rfl), (Nat.le_of_ble_eq_true rfl)⟩ (q0 := 3) rfl rfl rfl rfl (Nat.le_of_ble_eq_true rfl) d_Parser_readWords_77 ⟨(Nat.le_of_ble_eq_true rfl), (Nat.le_of_ble_eq_true rfl)⟩ (fun _ => ?_)
    refine J_aload_n X d_Parser_readWords_80 0 rfl rfl ?_
    obtain ⟨z81, hz81, h⟩ := j_bind h
    refine J_callVi0 (n := 0) (wc := (wO cI cB cJ cZ a z77)) (r := z81.1) (w1 := fun _ : Unit => wO cI cB cJ cZ a z81.2) X isO (hCO cI cB cJ cZ a z77) (hDO cI cB cJ cZ a z77) rfl [] [] (ct_Parser_moreContents l dC dI cI cB cJ cZ a n z77 hz81) (aw_V (fun w h => mm h) k_ml_Parser_156 k_im_Parser_moreContents k_se_Parser_moreContents k_in_Parser k_cd_Parser_moreContents) rfl (by decide +kernel) ⟨(Nat.le_of_ble_eq_true rfl), (Nat.le_of_ble_eq_true rfl)⟩ (q0 := 11) rfl rfl rfl rfl (Nat.le_of_ble_eq_true rfl) d_Parser_readWords_81 ⟨(Nat.le_of_ble_eq_true rfl), (Nat.le_of_ble_eq_true rfl)⟩ (fun _ => ?_)
    refine J_istore_n X [(1, .int z81.1), (0, .ref (a 11)), (2, .int x2), (3, .int x3), (4, .int x4)] d_Parser_readWords_84 rfl (by decide) rfl ?_
    refine J_iinc (v := (x2 + 1)) X [(2, .int (x2 + 1)), (1, .int z81.1), (0, .ref (a 11)), (3, .int x3), (4, .int x4)] d_Parser_readWords_85 2 rfl rfl (by decide) rfl ?_
    refine J_goto X 4 d_Parser_readWords_88 (by decide) ?_
    refine J_lv [2, 1, 0] [(0, .ref (a 11)), (1, .int z81.1), (2, .int (x2 + 1))] rfl ?_
    exact hK4 z81.1 (x2 + 1) z81.2 h
  have L38 : ∀ (K4 : Int32 → Int32 → St → Option (St)) (hK4 : ∀ (x1 : Int32) (x2 : Int32) (t : St), K4 x1 x2 t = some z → J p l e { frames := 3, cells := 0, slots := 0, locals := 72 } s m args below meth c 6 (dC, dI) vwCl A (MQ below (jQv (dC, dI) vwCl (tyA cI cB cJ cZ) (fun _ : Unit => wO cI cB cJ cZ a z) A) args s 0 0 A) 0 0 4 [(0, .ref (a 11)), (1, .int x1), (2, .int x2)] [] (wO cI cB cJ cZ a t)) (x2 : Int32) (x3 : Int32) (t : St), m_Parser_readWords_38 n K4 x2 x3 t = some z → J p l e { frames := 3, cells := 0, slots := 0, locals := 72 } s m args below meth c 6 (dC, dI) vwCl A (MQ below (jQv (dC, dI) vwCl (tyA cI cB cJ cZ) (fun _ : Unit => wO cI cB cJ cZ a z) A) args s 0 0 A) 0 0 38 [(0, .ref (a 11)), (2, .int x2), (3, .int x3)] [] (wO cI cB cJ cZ a t) := by
    intro K4 hK4 x2 x3 t h
    unfold m_Parser_readWords_38 at h
    refine J_aload_n X d_Parser_readWords_38 0 rfl rfl ?_
    refine J_get (v := .int (t.1 9)) X (fun w h => mm (in_Parser w h)) 11 rfl rfl 5 (by decide) (mm k_fl_Parser_26) rfl rfl d_Parser_readWords_39 ?_
    refine J_istore X [(4, .int (t.1 9)), (0, .ref (a 11)), (2, .int x2), (3, .int x3)] d_Parser_readWords_42 (by decide) rfl ?_
    refine J_aload_n X d_Parser_readWords_44 1 rfl rfl ?_
    obtain ⟨z45, hz45, h⟩ := j_bind h
    refine J_callVi0 (n := 0) (wc := (wO cI cB cJ cZ a t)) (r := z45.1) (w1 := fun _ : Unit => wO cI cB cJ cZ a z45.2) X isO (hCO cI cB cJ cZ a t) (hDO cI cB cJ cZ a t) rfl [] [] (ct_Parser_takeCounts l dC dI cI cB cJ cZ a n t hz45) (aw_V (fun w h => mm h) k_ml_Parser_159 k_im_Parser_takeCounts k_se_Parser_takeCounts k_in_Parser k_cd_Parser_takeCounts) rfl (by decide +kernel) ⟨(Nat.le_of_ble_eq_true rfl), (Nat.le_of_ble_eq_true rfl)⟩ (q0 := 11) rfl rfl rfl rfl (Nat.le_of_ble_eq_true rfl) d_Parser_readWords_45 ⟨(Nat.le_of_ble_eq_true rfl), (Nat.le_of_ble_eq_true rfl)⟩ (fun _ => ?_)
    refine J_istore X [(5, .int z45.1), (4, .int (t.1 9)), (0, .ref (a 11)), (2, .int x2), (3, .int x3)] d_Parser_readWords_48 (by decide) rfl ?_
    refine J_aload_n X d_Parser_readWords_50 2 rfl rfl ?_
    refine J_iload X d_Parser_readWords_51 0 rfl ?_
    refine J_iload_n X d_Parser_readWords_53 4 rfl rfl ?_
    refine J_bipush (v := (16 : Int32)) X d_Parser_readWords_54 (by decide) ?_
    refine J_icmp_ge X 64 d_Parser_readWords_56 (by decide) (fun c56 => ?_) (fun c56 => ?_)
    · rw [if_pos c56] at h
      refine J_sipush (v := (255 : Int32)) X d_Parser_readWords_64 (by decide) ?_
      refine J_lv [2, 3, 4, 1] [(0, .ref (a 11)), (2, .int x2), (3, .int x3), (4, .int (t.1 9))] rfl ?_
      exact L67 K4 hK4 x2 x3 (t.1 9) z45.1 (255 : Int32) z45.2 h
    · rw [if_neg c56] at h
      refine J_bipush (v := (11 : Int32)) X d_Parser_readWords_59 (by decide) ?_
      refine J_goto X 67 d_Parser_readWords_61 (by decide) ?_
      refine J_lv [2, 3, 4, 1] [(0, .ref (a 11)), (2, .int x2), (3, .int x3), (4, .int (t.1 9))] rfl ?_
      exact L67 K4 hK4 x2 x3 (t.1 9) z45.1 (11 : Int32) z45.2 h
  have L4 : ∀ (k : Nat) (x1 : Int32) (x2 : Int32) (t : St), m_Parser_readWords_4 n  k x1 x2 t = some z → J p l e { frames := 3, cells := 0, slots := 0, locals := 72 } s m args below meth c 6 (dC, dI) vwCl A (MQ below (jQv (dC, dI) vwCl (tyA cI cB cJ cZ) (fun _ : Unit => wO cI cB cJ cZ a z) A) args s 0 0 A) 0 0 4 [(0, .ref (a 11)), (1, .int x1), (2, .int x2)] [] (wO cI cB cJ cZ a t) := by
    intro k
    induction k with
    | zero => intro x1 x2 t h; exact absurd (show none = some z from h) (by simp)
    | succ k ih =>
      intro x1 x2 t h
      change m_Parser_readWords_4b n  (m_Parser_readWords_4 n  k) x1 x2 t = some z at h
      unfold m_Parser_readWords_4b at h
      refine J_iload_n X d_Parser_readWords_4 2 rfl rfl ?_
      refine J_sipush (v := (16384 : Int32)) X d_Parser_readWords_5 (by decide) ?_
      refine J_icmp_ge X 91 d_Parser_readWords_8 (by decide) (fun c8 => ?_) (fun c8 => ?_)
      · rw [if_pos c8] at h
        exact J_vret X hr hlk () (Nat.le_of_ble_eq_true rfl) (Nat.le_of_ble_eq_true rfl) (congrArg (fun q => wO cI cB cJ cZ a q) (j_s h)) d_Parser_readWords_91
      · rw [if_neg c8] at h
        refine J_iload_n X d_Parser_readWords_11 1 rfl rfl ?_
        refine J_if_eq X 91 d_Parser_readWords_12 (by decide) (fun c12 => ?_) (fun c12 => ?_)
        · rw [if_pos c12] at h
          exact J_vret X hr hlk () (Nat.le_of_ble_eq_true rfl) (Nat.le_of_ble_eq_true rfl) (congrArg (fun q => wO cI cB cJ cZ a q) (j_s h)) d_Parser_readWords_91
        · rw [if_neg c12] at h
          refine J_aload_n X d_Parser_readWords_15 0 rfl rfl ?_
          refine J_iconst (v := (0 : Int32)) X d_Parser_readWords_16 (by decide) ?_
          refine J_bipush (v := (19 : Int32)) X d_Parser_readWords_17 (by decide) ?_
          obtain ⟨z19, hz19, h⟩ := j_bind h
          refine J_callVi0 (n := 2) (wc := (wO cI cB cJ cZ a t)) (r := z19.1) (w1 := fun _ : Unit => wO cI cB cJ cZ a z19.2) X isO (hCO cI cB cJ cZ a t) (hDO cI cB cJ cZ a t) rfl [.int (0 : Int32), .int (19 : Int32)] [] (ct_Parser_take l dC dI cI cB cJ cZ a n (0 : Int32) (19 : Int32) t hz19) (aw_V (fun w h => mm h) k_ml_Parser_147 k_im_Parser_take k_se_Parser_take k_in_Parser k_cd_Parser_take) rfl (by decide +kernel) ⟨(Nat.le_of_ble_eq_true rfl), (Nat.le_of_ble_eq_true rfl)⟩ (q0 := 11) rfl rfl rfl rfl (Nat.le_of_ble_eq_true rfl) d_Parser_readWords_19 ⟨(Nat.le_of_ble_eq_true rfl), (Nat.le_of_ble_eq_true rfl)⟩ (fun _ => ?_)
          refine J_istore_n X [(3, .int z19.1), (0, .ref (a 11)), (1, .int x1), (2, .int x2)] d_Parser_readWords_22 rfl (by decide) rfl ?_
          refine J_iload_n X d_Parser_readWords_23 0 rfl rfl ?_
          refine J_iconst (v := (3 : Int32)) X d_Parser_readWords_24 (by decide) ?_
          refine J_icmp_le X 38 d_Parser_readWords_25 (by decide) (fun c25 => ?_) (fun c25 => ?_)
          · rw [if_pos c25] at h
            refine J_lv [1, 3, 0] [(0, .ref (a 11)), (2, .int x2), (3, .int z19.1)] rfl ?_
            exact L38 (m_Parser_readWords_4 n  k) ih x2 z19.1 z19.2 h
          · rw [if_neg c25] at h
            refine J_iload_n X d_Parser_readWords_28 0 rfl rfl ?_
            refine J_bipush (v := (16 : Int32)) X d_Parser_readWords_29 (by decide) ?_
            refine J_icmp_ge X 38 d_Parser_readWords_31 (by decide) (fun c31 => ?_) (fun c31 => ?_)
            · rw [if_pos c31] at h
              refine J_lv [1, 3, 0] [(0, .ref (a 11)), (2, .int x2), (3, .int z19.1)] rfl ?_
              exact L38 (m_Parser_readWords_4 n  k) ih x2 z19.1 z19.2 h
            · rw [if_neg c31] at h
              refine J_aload_n X d_Parser_readWords_34 1 rfl rfl ?_
              obtain ⟨z35, hz35, h⟩ := j_bind h
              refine J_callVv0 (n := 0) (wc := (wO cI cB cJ cZ a z19.2)) (w1 := fun _ : Unit => wO cI cB cJ cZ a z35) X isO (hCO cI cB cJ cZ a z19.2) (hDO cI cB cJ cZ a z19.2) rfl [] [] (ct_Parser_refuseTaken l dC dI cI cB cJ cZ a n z19.2 hz35) (aw_V (fun w h => mm h) k_ml_Parser_150 k_im_Parser_refuseTaken k_se_Parser_refuseTaken k_in_Parser k_cd_Parser_refuseTaken) rfl (by decide +kernel) ⟨(Nat.le_of_ble_eq_true rfl), (Nat.le_of_ble_eq_true rfl)⟩ (q0 := 11) rfl rfl rfl rfl (Nat.le_of_ble_eq_true rfl) d_Parser_readWords_35 ⟨(Nat.le_of_ble_eq_true rfl), (Nat.le_of_ble_eq_true rfl)⟩ (fun _ => ?_)
              refine J_lv [1, 3, 0] [(0, .ref (a 11)), (2, .int x2), (3, .int z19.1)] rfl ?_
              exact L38 (m_Parser_readWords_4 n  k) ih x2 z19.1 z35 h
  refine J_lv [0] [(0, .ref (a 11))] rfl ?_
  unfold m_Parser_readWords at h
  refine J_iconst (v := (1 : Int32)) X d_Parser_readWords_0 (by decide) ?_
  refine J_istore_n X [(1, .int (1 : Int32)), (0, .ref (a 11))] d_Parser_readWords_1 rfl (by decide) rfl ?_
  refine J_iconst (v := (0 : Int32)) X d_Parser_readWords_2 (by decide) ?_
  refine J_istore_n X [(2, .int (0 : Int32)), (1, .int (1 : Int32)), (0, .ref (a 11))] d_Parser_readWords_3 rfl (by decide) rfl ?_
  refine J_lv [2, 1, 0] [(0, .ref (a 11)), (1, .int (1 : Int32)), (2, .int (0 : Int32))] rfl ?_
  exact L4  n (1 : Int32) (0 : Int32) t h
set_option maxHeartbeats 4000000 in
set_option maxRecDepth 100000 in
theorem ct_Picture_ofComponent (l : Launch) (dC : Nat → ClassId) (dI : Nat → Nat → Nat) (cI cB cJ cZ : ClassId) (a : Nat → Nat) (n : Nat) (x1 : Int32) (x2 : Int32) (t : St) {z : Int32 × St} (h : m_Picture_ofComponent n x1 x2 t = some z) : jMi l y_Picture_ofComponent w_Picture_ofComponent ({ frames := 0, cells := 0, slots := 0, locals := 0 }) (dC, dI) vwCl (tyA cI cB cJ cZ) [.ref (a 3), .int x1, .int x2] (wO cI cB cJ cZ a t) z.1 (fun _ : Unit => wO cI cB cJ cZ a z.2) := by
  refine jMi.of (cc := c_Picture_ofComponent) (maxL := 3) (ret := (some .int)) (by decide) rfl (Nat.le_of_ble_eq_true rfl) ?_
  intro p e s m args below meth c A X hr hlk hnm
  refine J_lv [0, 1, 2] [(0, .ref (a 3)), (1, .int x1), (2, .int x2)] rfl ?_
  unfold m_Picture_ofComponent at h
  refine J_iload_n X d_Picture_ofComponent_0 1 rfl rfl ?_
  refine J_if_lt X 21 d_Picture_ofComponent_1 (by decide) (fun c1 => ?_) (fun c1 => ?_)
  · rw [if_pos c1] at h
    refine J_iconst (v := (-1 : Int32)) X d_Picture_ofComponent_21 (by decide) ?_
    exact J_iret X hr hlk () (Nat.le_of_ble_eq_true rfl) (Nat.le_of_ble_eq_true rfl) (j_r1 h) (congrArg (fun q => wO cI cB cJ cZ a q) (j_r2 h)) d_Picture_ofComponent_22
  · rw [if_neg c1] at h
    refine J_iload_n X d_Picture_ofComponent_4 1 rfl rfl ?_
    refine J_aload_n X d_Picture_ofComponent_5 0 rfl rfl ?_
    refine J_get (v := .int (t.1 4)) X (fun w h => mm (in_Picture w h)) 3 rfl rfl 9 (by decide) (mm k_fl_Picture_57) rfl rfl d_Picture_ofComponent_6 ?_
    refine J_icmp_ge X 21 d_Picture_ofComponent_9 (by decide) (fun c9 => ?_) (fun c9 => ?_)
    · rw [if_pos c9] at h
      refine J_iconst (v := (-1 : Int32)) X d_Picture_ofComponent_21 (by decide) ?_
      exact J_iret X hr hlk () (Nat.le_of_ble_eq_true rfl) (Nat.le_of_ble_eq_true rfl) (j_r1 h) (congrArg (fun q => wO cI cB cJ cZ a q) (j_r2 h)) d_Picture_ofComponent_22
    · rw [if_neg c9] at h
      refine J_iload_n X d_Picture_ofComponent_12 2 rfl rfl ?_
      refine J_if_lt X 21 d_Picture_ofComponent_13 (by decide) (fun c13 => ?_) (fun c13 => ?_)
      · rw [if_pos c13] at h
        refine J_iconst (v := (-1 : Int32)) X d_Picture_ofComponent_21 (by decide) ?_
        exact J_iret X hr hlk () (Nat.le_of_ble_eq_true rfl) (Nat.le_of_ble_eq_true rfl) (j_r1 h) (congrArg (fun q => wO cI cB cJ cZ a q) (j_r2 h)) d_Picture_ofComponent_22
      · rw [if_neg c13] at h
        refine J_iload_n X d_Picture_ofComponent_16 2 rfl rfl ?_
        refine J_iconst (v := (4 : Int32)) X d_Picture_ofComponent_17 (by decide) ?_
        refine J_icmp_lt X 23 d_Picture_ofComponent_18 (by decide) (fun c18 => ?_) (fun c18 => ?_)
        · rw [if_pos c18] at h
          refine J_aload_n X d_Picture_ofComponent_23 0 rfl rfl ?_
          refine J_get (v := .ref (a 8)) X (fun w h => mm (in_Picture w h)) 3 rfl rfl 3 (by decide) (mm k_fl_Picture_21) rfl rfl d_Picture_ofComponent_24 ?_
          refine J_iload_n X d_Picture_ofComponent_27 1 rfl rfl ?_
          refine J_iconst (v := (4 : Int32)) X d_Picture_ofComponent_28 (by decide) ?_
          refine J_imul X d_Picture_ofComponent_29 ?_
          refine J_iload_n X d_Picture_ofComponent_30 2 rfl rfl ?_
          refine J_iadd X d_Picture_ofComponent_31 ?_
          obtain ⟨b32, h⟩ := j_ifn h
          refine J_iald (f := (t.2.1 3)) X 8 0 rfl rfl b32 d_Picture_ofComponent_32 ?_
          exact J_iret X hr hlk () (Nat.le_of_ble_eq_true rfl) (Nat.le_of_ble_eq_true rfl) (j_r1 h) (congrArg (fun q => wO cI cB cJ cZ a q) (j_r2 h)) d_Picture_ofComponent_33
        · rw [if_neg c18] at h
          refine J_iconst (v := (-1 : Int32)) X d_Picture_ofComponent_21 (by decide) ?_
          exact J_iret X hr hlk () (Nat.le_of_ble_eq_true rfl) (Nat.le_of_ble_eq_true rfl) (j_r1 h) (congrArg (fun q => wO cI cB cJ cZ a q) (j_r2 h)) d_Picture_ofComponent_22
set_option maxHeartbeats 4000000 in
set_option maxRecDepth 100000 in
theorem ct_Picture_placeOfName (l : Launch) (dC : Nat → ClassId) (dI : Nat → Nat → Nat) (cI cB cJ cZ : ClassId) (a : Nat → Nat) (n : Nat) (x1 : Int32) (t : St) {z : Int32 × St} (h : m_Picture_placeOfName n x1 t = some z) : jMi l y_Picture_placeOfName w_Picture_placeOfName ({ frames := 1, cells := 0, slots := 0, locals := 22 }) (dC, dI) vwCl (tyA cI cB cJ cZ) [.ref (a 3), .int x1] (wO cI cB cJ cZ a t) z.1 (fun _ : Unit => wO cI cB cJ cZ a z.2) := by
  refine jMi.of (cc := c_Picture_placeOfName) (maxL := 3) (ret := (some .int)) (by decide) rfl (Nat.le_of_ble_eq_true rfl) ?_
  intro p e s m args below meth c A X hr hlk hnm
  have L2 : ∀ (k : Nat) (x1 : Int32) (x2 : Int32) (t : St), m_Picture_placeOfName_2 n  k x1 x2 t = some z → J p l e { frames := 1, cells := 0, slots := 0, locals := 22 } s m args below meth c 3 (dC, dI) vwCl A (MQ below (jQi (dC, dI) vwCl (tyA cI cB cJ cZ) z.1 (fun _ : Unit => wO cI cB cJ cZ a z.2) A) args s 0 0 A) 0 0 2 [(0, .ref (a 3)), (1, .int x1), (2, .int x2)] [] (wO cI cB cJ cZ a t) := by
    intro k
    induction k with
    | zero => intro x1 x2 t h; exact absurd (show none = some z from h) (by simp)
    | succ k ih =>
      intro x1 x2 t h
      change m_Picture_placeOfName_2b n  (m_Picture_placeOfName_2 n  k) x1 x2 t = some z at h
      unfold m_Picture_placeOfName_2b at h
      refine J_iload_n X d_Picture_placeOfName_2 2 rfl rfl ?_
      refine J_aload_n X d_Picture_placeOfName_3 0 rfl rfl ?_
      refine J_get (v := .int (t.1 4)) X (fun w h => mm (in_Picture w h)) 3 rfl rfl 9 (by decide) (mm k_fl_Picture_57) rfl rfl d_Picture_placeOfName_4 ?_
      refine J_icmp_ge X 28 d_Picture_placeOfName_7 (by decide) (fun c7 => ?_) (fun c7 => ?_)
      · rw [if_pos c7] at h
        refine J_iconst (v := (-1 : Int32)) X d_Picture_placeOfName_28 (by decide) ?_
        exact J_iret X hr hlk () (Nat.le_of_ble_eq_true rfl) (Nat.le_of_ble_eq_true rfl) (j_r1 h) (congrArg (fun q => wO cI cB cJ cZ a q) (j_r2 h)) d_Picture_placeOfName_29
      · rw [if_neg c7] at h
        refine J_aload_n X d_Picture_placeOfName_10 0 rfl rfl ?_
        refine J_iload_n X d_Picture_placeOfName_11 2 rfl rfl ?_
        refine J_iconst (v := (0 : Int32)) X d_Picture_placeOfName_12 (by decide) ?_
        obtain ⟨z13, hz13, h⟩ := j_bind h
        refine J_callVi0 (n := 2) (wc := (wO cI cB cJ cZ a t)) (r := z13.1) (w1 := fun _ : Unit => wO cI cB cJ cZ a z13.2) X isO (hCO cI cB cJ cZ a t) (hDO cI cB cJ cZ a t) rfl [.int x2, .int (0 : Int32)] [] (ct_Picture_ofComponent l dC dI cI cB cJ cZ a n x2 (0 : Int32) t hz13) (aw_V (fun w h => mm h) k_ml_Picture_84 k_im_Picture_ofComponent k_se_Picture_ofComponent k_in_Picture k_cd_Picture_ofComponent) rfl (by decide +kernel) ⟨(Nat.le_of_ble_eq_true rfl), (Nat.le_of_ble_eq_true rfl)⟩ (q0 := 3) rfl rfl rfl rfl (Nat.le_of_ble_eq_true rfl) d_Picture_placeOfName_13 ⟨(Nat.le_of_ble_eq_true rfl), (Nat.le_of_ble_eq_true rfl)⟩ (fun _ => ?_)
        refine J_iload_n X d_Picture_placeOfName_16 1 rfl rfl ?_
        refine J_icmp_ne X 22 d_Picture_placeOfName_17 (by decide) (fun c17 => ?_) (fun c17 => ?_)
        · rw [if_neg c17] at h
          refine J_iinc (v := (x2 + 1)) X [(2, .int (x2 + 1)), (0, .ref (a 3)), (1, .int x1)] d_Picture_placeOfName_22 2 rfl rfl (by decide) rfl ?_
          refine J_goto X 2 d_Picture_placeOfName_25 (by decide) ?_
          refine J_lv [1, 2, 0] [(0, .ref (a 3)), (1, .int x1), (2, .int (x2 + 1))] rfl ?_
          exact ih x1 (x2 + 1) z13.2 h
        · rw [if_pos c17] at h
          refine J_iload_n X d_Picture_placeOfName_20 2 rfl rfl ?_
          exact J_iret X hr hlk () (Nat.le_of_ble_eq_true rfl) (Nat.le_of_ble_eq_true rfl) (j_r1 h) (congrArg (fun q => wO cI cB cJ cZ a q) (j_r2 h)) d_Picture_placeOfName_21
  refine J_lv [0, 1] [(0, .ref (a 3)), (1, .int x1)] rfl ?_
  unfold m_Picture_placeOfName at h
  refine J_iconst (v := (0 : Int32)) X d_Picture_placeOfName_0 (by decide) ?_
  refine J_istore_n X [(2, .int (0 : Int32)), (0, .ref (a 3)), (1, .int x1)] d_Picture_placeOfName_1 rfl (by decide) rfl ?_
  refine J_lv [1, 2, 0] [(0, .ref (a 3)), (1, .int x1), (2, .int (0 : Int32))] rfl ?_
  exact L2  n x1 (0 : Int32) t h
set_option maxHeartbeats 4000000 in
set_option maxRecDepth 100000 in
theorem ct_Picture_addComponent (l : Launch) (dC : Nat → ClassId) (dI : Nat → Nat → Nat) (cI cB cJ cZ : ClassId) (a : Nat → Nat) (n : Nat) (x1 : Int32) (x2 : Int32) (x3 : Int32) (x4 : Int32) (t : St) {z : St} (h : m_Picture_addComponent n x1 x2 x3 x4 t = some z) : jMv l y_Picture_addComponent w_Picture_addComponent ({ frames := 0, cells := 0, slots := 0, locals := 0 }) (dC, dI) vwCl (tyA cI cB cJ cZ) [.ref (a 3), .int x1, .int x2, .int x3, .int x4] (wO cI cB cJ cZ a t) (fun _ : Unit => wO cI cB cJ cZ a z) := by
  refine jMv.of (cc := c_Picture_addComponent) (maxL := 6) (ret := none) (by decide) rfl (Nat.le_of_ble_eq_true rfl) ?_
  intro p e s m args below meth c A X hr hlk hnm
  refine J_lv [0, 1, 2, 3, 4] [(0, .ref (a 3)), (1, .int x1), (2, .int x2), (3, .int x3), (4, .int x4)] rfl ?_
  unfold m_Picture_addComponent at h
  refine J_aload_n X d_Picture_addComponent_0 0 rfl rfl ?_
  refine J_get (v := .int (t.1 4)) X (fun w h => mm (in_Picture w h)) 3 rfl rfl 9 (by decide) (mm k_fl_Picture_57) rfl rfl d_Picture_addComponent_1 ?_
  refine J_iconst (v := (4 : Int32)) X d_Picture_addComponent_4 (by decide) ?_
  refine J_icmp_lt X 9 d_Picture_addComponent_5 (by decide) (fun c5 => ?_) (fun c5 => ?_)
  · rw [if_pos c5] at h
    refine J_aload_n X d_Picture_addComponent_9 0 rfl rfl ?_
    refine J_get (v := .int (t.1 4)) X (fun w h => mm (in_Picture w h)) 3 rfl rfl 9 (by decide) (mm k_fl_Picture_57) rfl rfl d_Picture_addComponent_10 ?_
    refine J_iconst (v := (4 : Int32)) X d_Picture_addComponent_13 (by decide) ?_
    refine J_imul X d_Picture_addComponent_14 ?_
    refine J_istore X [(5, .int ((t.1 4) * (4 : Int32))), (0, .ref (a 3)), (1, .int x1), (2, .int x2), (3, .int x3), (4, .int x4)] d_Picture_addComponent_15 (by decide) rfl ?_
    refine J_aload_n X d_Picture_addComponent_17 1 rfl rfl ?_
    refine J_get (v := .ref (a 8)) X (fun w h => mm (in_Picture w h)) 3 rfl rfl 3 (by decide) (mm k_fl_Picture_21) rfl rfl d_Picture_addComponent_18 ?_
    refine J_iload X d_Picture_addComponent_21 0 rfl ?_
    refine J_iload_n X d_Picture_addComponent_23 2 rfl rfl ?_
    obtain ⟨b24, h⟩ := j_ifn h
    refine J_iast (f := (t.2.1 3)) X 8 0 rfl rfl b24 d_Picture_addComponent_24 (wO cI cB cJ cZ a (sH t 3 (((t.1 4) * (4 : Int32))).toNatClampNeg x1)) rfl ?_
    refine J_aload_n X d_Picture_addComponent_25 1 rfl rfl ?_
    refine J_get (v := .ref (a 8)) X (fun w h => mm (in_Picture w h)) 3 rfl rfl 3 (by decide) (mm k_fl_Picture_21) rfl rfl d_Picture_addComponent_26 ?_
    refine J_iload X d_Picture_addComponent_29 0 rfl ?_
    refine J_iconst (v := (1 : Int32)) X d_Picture_addComponent_31 (by decide) ?_
    refine J_iadd X d_Picture_addComponent_32 ?_
    refine J_iload_n X d_Picture_addComponent_33 3 rfl rfl ?_
    obtain ⟨w34, hw34, h⟩ := j_bind h
    refine J_to _ _ (wO cI cB cJ cZ a w34) rfl rfl (congrArg (fun q => wO cI cB cJ cZ a q) (j_s hw34)) ?_
    obtain ⟨b34, h⟩ := j_ifn h
    refine J_iast (f := (w34.2.1 3)) X 8 0 rfl rfl b34 d_Picture_addComponent_34 (wO cI cB cJ cZ a (sH w34 3 ((((t.1 4) * (4 : Int32)) + (1 : Int32))).toNatClampNeg x2)) rfl ?_
    refine J_aload_n X d_Picture_addComponent_35 1 rfl rfl ?_
    refine J_get (v := .ref (a 8)) X (fun w h => mm (in_Picture w h)) 3 rfl rfl 3 (by decide) (mm k_fl_Picture_21) rfl rfl d_Picture_addComponent_36 ?_
    refine J_iload X d_Picture_addComponent_39 0 rfl ?_
    refine J_iconst (v := (2 : Int32)) X d_Picture_addComponent_41 (by decide) ?_
    refine J_iadd X d_Picture_addComponent_42 ?_
    refine J_iload_n X d_Picture_addComponent_43 4 rfl rfl ?_
    obtain ⟨w44, hw44, h⟩ := j_bind h
    refine J_to _ _ (wO cI cB cJ cZ a w44) rfl rfl (congrArg (fun q => wO cI cB cJ cZ a q) (j_s hw44)) ?_
    obtain ⟨b44, h⟩ := j_ifn h
    refine J_iast (f := (w44.2.1 3)) X 8 0 rfl rfl b44 d_Picture_addComponent_44 (wO cI cB cJ cZ a (sH w44 3 ((((t.1 4) * (4 : Int32)) + (2 : Int32))).toNatClampNeg x3)) rfl ?_
    refine J_aload_n X d_Picture_addComponent_45 1 rfl rfl ?_
    refine J_get (v := .ref (a 8)) X (fun w h => mm (in_Picture w h)) 3 rfl rfl 3 (by decide) (mm k_fl_Picture_21) rfl rfl d_Picture_addComponent_46 ?_
    refine J_iload X d_Picture_addComponent_49 0 rfl ?_
    refine J_iconst (v := (3 : Int32)) X d_Picture_addComponent_51 (by decide) ?_
    refine J_iadd X d_Picture_addComponent_52 ?_
    refine J_iload X d_Picture_addComponent_53 5 rfl ?_
    obtain ⟨w55, hw55, h⟩ := j_bind h
    refine J_to _ _ (wO cI cB cJ cZ a w55) rfl rfl (congrArg (fun q => wO cI cB cJ cZ a q) (j_s hw55)) ?_
    obtain ⟨b55, h⟩ := j_ifn h
    refine J_iast (f := (w55.2.1 3)) X 8 0 rfl rfl b55 d_Picture_addComponent_55 (wO cI cB cJ cZ a (sH w55 3 ((((t.1 4) * (4 : Int32)) + (3 : Int32))).toNatClampNeg x4)) rfl ?_
    refine J_aload_n X d_Picture_addComponent_56 1 rfl rfl ?_
    refine J_dup X d_Picture_addComponent_57 rfl ?_
    refine J_get (v := .int (w55.1 4)) X (fun w h => mm (in_Picture w h)) 3 rfl rfl 9 (by decide) (mm k_fl_Picture_57) rfl rfl d_Picture_addComponent_58 ?_
    refine J_iconst (v := (1 : Int32)) X d_Picture_addComponent_61 (by decide) ?_
    refine J_iadd X d_Picture_addComponent_62 ?_
    refine J_put (ty := .int) (v := .int ((w55.1 4) + (1 : Int32))) X (fun w h => mm (in_Picture w h)) ty_Picture tyk_Picture nm_Picture 3 rfl rfl 9 (by decide) (mm k_fl_Picture_57) rfl rfl (by decide +kernel) rfl rfl (Nat.le_of_ble_eq_true rfl) d_Picture_addComponent_63 (wO cI cB cJ cZ a (sG (sH w55 3 ((((t.1 4) * (4 : Int32)) + (3 : Int32))).toNatClampNeg x4) 4 ((w55.1 4) + (1 : Int32)))) rfl ?_
    exact J_vret X hr hlk () (Nat.le_of_ble_eq_true rfl) (Nat.le_of_ble_eq_true rfl) (congrArg (fun q => wO cI cB cJ cZ a q) (j_s h)) d_Picture_addComponent_66
  · rw [if_neg c5] at h
    exact J_vret X hr hlk () (Nat.le_of_ble_eq_true rfl) (Nat.le_of_ble_eq_true rfl) (congrArg (fun q => wO cI cB cJ cZ a q) (j_s h)) d_Picture_addComponent_8
set_option maxHeartbeats 4000000 in
set_option maxRecDepth 100000 in
theorem ct_Parser_readComponent (l : Launch) (dC : Nat → ClassId) (dI : Nat → Nat → Nat) (cI cB cJ cZ : ClassId) (a : Nat → Nat) (n : Nat)  (t : St) {z : St} (h : m_Parser_readComponent n t = some z) : jMv l y_Parser_readComponent w_Parser_readComponent ({ frames := 2, cells := 0, slots := 0, locals := 45 }) (dC, dI) vwCl (tyA cI cB cJ cZ) [.ref (a 11)] (wO cI cB cJ cZ a t) (fun _ : Unit => wO cI cB cJ cZ a z) := by
  refine jMv.of (cc := c_Parser_readComponent) (maxL := 5) (ret := none) (by decide) rfl (Nat.le_of_ble_eq_true rfl) ?_
  intro p e s m args below meth c A X hr hlk hnm
  have L70 : ∀ (x1 : Int32) (x3 : Int32) (x4 : Int32) (t : St), m_Parser_readComponent_70 n  x1 x3 x4 t = some z → J p l e { frames := 2, cells := 0, slots := 0, locals := 45 } s m args below meth c 5 (dC, dI) vwCl A (MQ below (jQv (dC, dI) vwCl (tyA cI cB cJ cZ) (fun _ : Unit => wO cI cB cJ cZ a z) A) args s 0 0 A) 0 0 70 [(0, .ref (a 11)), (1, .int x1), (3, .int x3), (4, .int x4)] [] (wO cI cB cJ cZ a t) := by
    intro x1 x3 x4 t h
    unfold m_Parser_readComponent_70 at h
    refine J_aload_n X d_Parser_readComponent_70 0 rfl rfl ?_
    refine J_get (v := .ref (a 3)) X (fun w h => mm (in_Parser w h)) 11 rfl rfl 1 (by decide) (mm k_fl_Parser_50) rfl rfl d_Parser_readComponent_71 ?_
    refine J_iload_n X d_Parser_readComponent_74 1 rfl rfl ?_
    refine J_iload_n X d_Parser_readComponent_75 2 rfl rfl ?_
    refine J_iload X d_Parser_readComponent_76 3 rfl ?_
    refine J_aload_n X d_Parser_readComponent_78 0 rfl rfl ?_
    refine J_iconst (v := (0 : Int32)) X d_Parser_readComponent_79 (by decide) ?_
    refine J_iconst (v := (3 : Int32)) X d_Parser_readComponent_80 (by decide) ?_
    obtain ⟨z81, hz81, h⟩ := j_bind h
    refine J_callVi0 (n := 2) (wc := (wO cI cB cJ cZ a t)) (r := z81.1) (w1 := fun _ : Unit => wO cI cB cJ cZ a z81.2) X isO (hCO cI cB cJ cZ a t) (hDO cI cB cJ cZ a t) rfl [.int (0 : Int32), .int (3 : Int32)] [.int x4, .int x3, .int x1, .ref (a 3)] (ct_Parser_take l dC dI cI cB cJ cZ a n (0 : Int32) (3 : Int32) t hz81) (aw_V (fun w h => mm h) k_ml_Parser_147 k_im_Parser_take k_se_Parser_take k_in_Parser k_cd_Parser_take) rfl (by decide +kernel) ⟨(Nat.le_of_ble_eq_true rfl), (Nat.le_of_ble_eq_true rfl)⟩ (q0 := 11) rfl rfl rfl rfl (Nat.le_of_ble_eq_true rfl) d_Parser_readComponent_81 ⟨(Nat.le_of_ble_eq_true rfl), (Nat.le_of_ble_eq_true rfl)⟩ (fun _ => ?_)
    obtain ⟨z84, hz84, h⟩ := j_bind h
    refine J_callVv0 (n := 4) (wc := (wO cI cB cJ cZ a z81.2)) (w1 := fun _ : Unit => wO cI cB cJ cZ a z84) X isO (hCO cI cB cJ cZ a z81.2) (hDO cI cB cJ cZ a z81.2) rfl [.int x1, .int x3, .int x4, .int z81.1] [] (ct_Picture_addComponent l dC dI cI cB cJ cZ a n x1 x3 x4 z81.1 z81.2 hz84) (aw_V (fun w h => mm h) k_ml_Parser_180 k_im_Picture_addComponent k_se_Picture_addComponent k_in_Picture k_cd_Picture_addComponent) rfl (by decide +kernel) ⟨(Nat.le_of_ble_eq_true rfl), (Nat.le_of_ble_eq_true rfl)⟩ (q0 := 3) rfl rfl rfl rfl (Nat.le_of_ble_eq_true rfl) d_Parser_readComponent_84 ⟨(Nat.le_of_ble_eq_true rfl), (Nat.le_of_ble_eq_true rfl)⟩ (fun _ => ?_)
    exact J_vret X hr hlk () (Nat.le_of_ble_eq_true rfl) (Nat.le_of_ble_eq_true rfl) (congrArg (fun q => wO cI cB cJ cZ a q) (j_s h)) d_Parser_readComponent_87
  have L66 : ∀ (x1 : Int32) (x3 : Int32) (x4 : Int32) (t : St), m_Parser_readComponent_66 n  x1 x3 x4 t = some z → J p l e { frames := 2, cells := 0, slots := 0, locals := 45 } s m args below meth c 5 (dC, dI) vwCl A (MQ below (jQv (dC, dI) vwCl (tyA cI cB cJ cZ) (fun _ : Unit => wO cI cB cJ cZ a z) A) args s 0 0 A) 0 0 66 [(0, .ref (a 11)), (1, .int x1), (3, .int x3), (4, .int x4)] [] (wO cI cB cJ cZ a t) := by
    intro x1 x3 x4 t h
    unfold m_Parser_readComponent_66 at h
    refine J_aload_n X d_Parser_readComponent_66 0 rfl rfl ?_
    obtain ⟨z67, hz67, h⟩ := j_bind h
    refine J_callVv0 (n := 0) (wc := (wO cI cB cJ cZ a t)) (w1 := fun _ : Unit => wO cI cB cJ cZ a z67) X isO (hCO cI cB cJ cZ a t) (hDO cI cB cJ cZ a t) rfl [] [] (ct_Parser_refuseTaken l dC dI cI cB cJ cZ a n t hz67) (aw_V (fun w h => mm h) k_ml_Parser_150 k_im_Parser_refuseTaken k_se_Parser_refuseTaken k_in_Parser k_cd_Parser_refuseTaken) rfl (by decide +kernel) ⟨(Nat.le_of_ble_eq_true rfl), (Nat.le_of_ble_eq_true rfl)⟩ (q0 := 11) rfl rfl rfl rfl (Nat.le_of_ble_eq_true rfl) d_Parser_readComponent_67 ⟨(Nat.le_of_ble_eq_true rfl), (Nat.le_of_ble_eq_true rfl)⟩ (fun _ => ?_)
    refine J_lv [0, 1, 2, 3] [(0, .ref (a 11)), (1, .int x1), (3, .int x3), (4, .int x4)] rfl ?_
    exact L70  x1 x3 x4 z67 h
  have L25 : ∀ (x1 : Int32) (t : St), m_Parser_readComponent_25 n  x1 t = some z → J p l e { frames := 2, cells := 0, slots := 0, locals := 45 } s m args below meth c 5 (dC, dI) vwCl A (MQ below (jQv (dC, dI) vwCl (tyA cI cB cJ cZ) (fun _ : Unit => wO cI cB cJ cZ a z) A) args s 0 0 A) 0 0 25 [(0, .ref (a 11)), (1, .int x1)] [] (wO cI cB cJ cZ a t) := by
    intro x1 t h
    unfold m_Parser_readComponent_25 at h
    refine J_aload_n X d_Parser_readComponent_25 0 rfl rfl ?_
    refine J_iconst (v := (0 : Int32)) X d_Parser_readComponent_26 (by decide) ?_
    refine J_sipush (v := (255 : Int32)) X d_Parser_readComponent_27 (by decide) ?_
    obtain ⟨z30, hz30, h⟩ := j_bind h
    refine J_callVi0 (n := 2) (wc := (wO cI cB cJ cZ a t)) (r := z30.1) (w1 := fun _ : Unit => wO cI cB cJ cZ a z30.2) X isO (hCO cI cB cJ cZ a t) (hDO cI cB cJ cZ a t) rfl [.int (0 : Int32), .int (255 : Int32)] [] (ct_Parser_take l dC dI cI cB cJ cZ a n (0 : Int32) (255 : Int32) t hz30) (aw_V (fun w h => mm h) k_ml_Parser_147 k_im_Parser_take k_se_Parser_take k_in_Parser k_cd_Parser_take) rfl (by decide +kernel) ⟨(Nat.le_of_ble_eq_true rfl), (Nat.le_of_ble_eq_true rfl)⟩ (q0 := 11) rfl rfl rfl rfl (Nat.le_of_ble_eq_true rfl) d_Parser_readComponent_30 ⟨(Nat.le_of_ble_eq_true rfl), (Nat.le_of_ble_eq_true rfl)⟩ (fun _ => ?_)
    refine J_istore_n X [(2, .int z30.1), (0, .ref (a 11)), (1, .int x1)] d_Parser_readComponent_33 rfl (by decide) rfl ?_
    refine J_iload_n X d_Parser_readComponent_34 0 rfl rfl ?_
    refine J_iconst (v := (4 : Int32)) X d_Parser_readComponent_35 (by decide) ?_
    refine J_ishr X d_Parser_readComponent_36 ?_
    refine J_istore_n X [(3, .int (z30.1 >>> ((4 : Int32) &&& 31))), (2, .int z30.1), (0, .ref (a 11)), (1, .int x1)] d_Parser_readComponent_37 rfl (by decide) rfl ?_
    refine J_iload_n X d_Parser_readComponent_38 1 rfl rfl ?_
    refine J_bipush (v := (15 : Int32)) X d_Parser_readComponent_39 (by decide) ?_
    refine J_iand X d_Parser_readComponent_41 ?_
    refine J_istore X [(4, .int (z30.1 &&& (15 : Int32))), (3, .int (z30.1 >>> ((4 : Int32) &&& 31))), (2, .int z30.1), (0, .ref (a 11)), (1, .int x1)] d_Parser_readComponent_42 (by decide) rfl ?_
    refine J_iload_n X d_Parser_readComponent_44 1 rfl rfl ?_
    refine J_iconst (v := (1 : Int32)) X d_Parser_readComponent_45 (by decide) ?_
    refine J_icmp_lt X 66 d_Parser_readComponent_46 (by decide) (fun c46 => ?_) (fun c46 => ?_)
    · rw [if_pos c46] at h
      refine J_lv [3, 4, 1, 0] [(0, .ref (a 11)), (1, .int x1), (3, .int (z30.1 >>> ((4 : Int32) &&& 31))), (4, .int (z30.1 &&& (15 : Int32)))] rfl ?_
      exact L66  x1 (z30.1 >>> ((4 : Int32) &&& 31)) (z30.1 &&& (15 : Int32)) z30.2 h
    · rw [if_neg c46] at h
      refine J_iload_n X d_Parser_readComponent_49 1 rfl rfl ?_
      refine J_iconst (v := (2 : Int32)) X d_Parser_readComponent_50 (by decide) ?_
      refine J_icmp_gt X 66 d_Parser_readComponent_51 (by decide) (fun c51 => ?_) (fun c51 => ?_)
      · rw [if_pos c51] at h
        refine J_lv [3, 4, 1, 0] [(0, .ref (a 11)), (1, .int x1), (3, .int (z30.1 >>> ((4 : Int32) &&& 31))), (4, .int (z30.1 &&& (15 : Int32)))] rfl ?_
        exact L66  x1 (z30.1 >>> ((4 : Int32) &&& 31)) (z30.1 &&& (15 : Int32)) z30.2 h
      · rw [if_neg c51] at h
        refine J_iload X d_Parser_readComponent_54 0 rfl ?_
        refine J_iconst (v := (1 : Int32)) X d_Parser_readComponent_56 (by decide) ?_
        refine J_icmp_lt X 66 d_Parser_readComponent_57 (by decide) (fun c57 => ?_) (fun c57 => ?_)
        · rw [if_pos c57] at h
          refine J_lv [3, 4, 1, 0] [(0, .ref (a 11)), (1, .int x1), (3, .int (z30.1 >>> ((4 : Int32) &&& 31))), (4, .int (z30.1 &&& (15 : Int32)))] rfl ?_
          exact L66  x1 (z30.1 >>> ((4 : Int32) &&& 31)) (z30.1 &&& (15 : Int32)) z30.2 h
        · rw [if_neg c57] at h
          refine J_iload X d_Parser_readComponent_60 0 rfl ?_
          refine J_iconst (v := (2 : Int32)) X d_Parser_readComponent_62 (by decide) ?_
          refine J_icmp_le X 70 d_Parser_readComponent_63 (by decide) (fun c63 => ?_) (fun c63 => ?_)
          · rw [if_pos c63] at h
            refine J_lv [3, 4, 1, 0] [(0, .ref (a 11)), (1, .int x1), (3, .int (z30.1 >>> ((4 : Int32) &&& 31))), (4, .int (z30.1 &&& (15 : Int32)))] rfl ?_
            exact L70  x1 (z30.1 >>> ((4 : Int32) &&& 31)) (z30.1 &&& (15 : Int32)) z30.2 h
          · rw [if_neg c63] at h
            refine J_lv [3, 4, 1, 0] [(0, .ref (a 11)), (1, .int x1), (3, .int (z30.1 >>> ((4 : Int32) &&& 31))), (4, .int (z30.1 &&& (15 : Int32)))] rfl ?_
            exact L66  x1 (z30.1 >>> ((4 : Int32) &&& 31)) (z30.1 &&& (15 : Int32)) z30.2 h
  refine J_lv [0] [(0, .ref (a 11))] rfl ?_
  unfold m_Parser_readComponent at h
  refine J_aload_n X d_Parser_readComponent_0 0 rfl rfl ?_
  refine J_iconst (v := (0 : Int32)) X d_Parser_readComponent_1 (by decide) ?_
  refine J_sipush (v := (255 : Int32)) X d_Parser_readComponent_2 (by decide) ?_
  obtain ⟨z5, hz5, h⟩ := j_bind h
  refine J_callVi0 (n := 2) (wc := (wO cI cB cJ cZ a t)) (r := z5.1) (w1 := fun _ : Unit => wO cI cB cJ cZ a z5.2) X isO (hCO cI cB cJ cZ a t) (hDO cI cB cJ cZ a t) rfl [.int (0 : Int32), .int (255 : Int32)] [] (ct_Parser_take l dC dI cI cB cJ cZ a n (0 : Int32) (255 : Int32) t hz5) (aw_V (fun w h => mm h) k_ml_Parser_147 k_im_Parser_take k_se_Parser_take k_in_Parser k_cd_Parser_take) rfl (by decide +kernel) ⟨(Nat.le_of_ble_eq_true rfl), (Nat.le_of_ble_eq_true rfl)⟩ (q0 := 11) rfl rfl rfl rfl (Nat.le_of_ble_eq_true rfl) d_Parser_readComponent_5 ⟨(Nat.le_of_ble_eq_true rfl), (Nat.le_of_ble_eq_true rfl)⟩ (fun _ => ?_)
  refine J_istore_n X [(1, .int z5.1), (0, .ref (a 11))] d_Parser_readComponent_8 rfl (by decide) rfl ?_
  refine J_aload_n X d_Parser_readComponent_9 1 rfl rfl ?_
  refine J_get (v := .ref (a 3)) X (fun w h => mm (in_Parser w h)) 11 rfl rfl 1 (by decide) (mm k_fl_Parser_50) rfl rfl d_Parser_readComponent_10 ?_
  refine J_iload_n X d_Parser_readComponent_13 0 rfl rfl ?_
  obtain ⟨z14, hz14, h⟩ := j_bind h
  refine J_callVi0 (n := 1) (wc := (wO cI cB cJ cZ a z5.2)) (r := z14.1) (w1 := fun _ : Unit => wO cI cB cJ cZ a z14.2) X isO (hCO cI cB cJ cZ a z5.2) (hDO cI cB cJ cZ a z5.2) rfl [.int z5.1] [] (ct_Picture_placeOfName l dC dI cI cB cJ cZ a n z5.1 z5.2 hz14) (aw_V (fun w h => mm h) k_ml_Parser_177 k_im_Picture_placeOfName k_se_Picture_placeOfName k_in_Picture k_cd_Picture_placeOfName) rfl (by decide +kernel) ⟨(Nat.le_of_ble_eq_true rfl), (Nat.le_of_ble_eq_true rfl)⟩ (q0 := 3) rfl rfl rfl rfl (Nat.le_of_ble_eq_true rfl) d_Parser_readComponent_14 ⟨(Nat.le_of_ble_eq_true rfl), (Nat.le_of_ble_eq_true rfl)⟩ (fun _ => ?_)
  refine J_iconst (v := (-1 : Int32)) X d_Parser_readComponent_17 (by decide) ?_
  refine J_icmp_eq X 25 d_Parser_readComponent_18 (by decide) (fun c18 => ?_) (fun c18 => ?_)
  · rw [if_pos c18] at h
    refine J_lv [1, 0] [(0, .ref (a 11)), (1, .int z5.1)] rfl ?_
    exact L25  z5.1 z14.2 h
  · rw [if_neg c18] at h
    refine J_aload_n X d_Parser_readComponent_21 1 rfl rfl ?_
    obtain ⟨z22, hz22, h⟩ := j_bind h
    refine J_callVv0 (n := 0) (wc := (wO cI cB cJ cZ a z14.2)) (w1 := fun _ : Unit => wO cI cB cJ cZ a z22) X isO (hCO cI cB cJ cZ a z14.2) (hDO cI cB cJ cZ a z14.2) rfl [] [] (ct_Parser_refuseTaken l dC dI cI cB cJ cZ a n z14.2 hz22) (aw_V (fun w h => mm h) k_ml_Parser_150 k_im_Parser_refuseTaken k_se_Parser_refuseTaken k_in_Parser k_cd_Parser_refuseTaken) rfl (by decide +kernel) ⟨(Nat.le_of_ble_eq_true rfl), (Nat.le_of_ble_eq_true rfl)⟩ (q0 := 11) rfl rfl rfl rfl (Nat.le_of_ble_eq_true rfl) d_Parser_readComponent_22 ⟨(Nat.le_of_ble_eq_true rfl), (Nat.le_of_ble_eq_true rfl)⟩ (fun _ => ?_)
    refine J_lv [1, 0] [(0, .ref (a 11)), (1, .int z5.1)] rfl ?_
    exact L25  z5.1 z22 h
