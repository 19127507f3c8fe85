set_option maxHeartbeats 4000000 in
set_option maxRecDepth 100000 in
theorem ct_Parser_takeMarker (l : Launch) (dC : Nat → ClassId) (dI : Nat → Nat → Nat) (cI cB cJ cZ : ClassId) (a : Nat → Nat) (n : Nat)  (t : St) {z : Int32 × St} (h : m_Parser_takeMarker n t = some z) : jMi l y_Parser_takeMarker w_Parser_takeMarker ({ frames := 3, cells := 0, slots := 0, locals := 65 }) (dC, dI) vwCl (tyA cI cB cJ cZ) [.ref (a 11)] (wO cI cB cJ cZ a t) z.1 (fun _ : Unit => wO cI cB cJ cZ a z.2) := by
  refine jMi.of (cc := c_Parser_takeMarker) (maxL := 3) (ret := (some .int)) (by decide) rfl (Nat.le_of_ble_eq_true rfl) ?_
  intro p e s m args below meth c A X hr hlk hnm
  have L34 : ∀ (k : Nat)  (t : St), m_Parser_takeMarker_34 n  k  t = some z → J p l e { frames := 3, cells := 0, slots := 0, locals := 65 } s m args below meth c 3 (dC, dI) vwCl A (MQ below (jQi (dC, dI) vwCl (tyA cI cB cJ cZ) z.1 (fun _ : Unit => wO cI cB cJ cZ a z.2) A) args s 0 0 A) 0 0 34 [(0, .ref (a 11))] [] (wO cI cB cJ cZ a t) := by
    intro k
    induction k with
    | zero => intro  t h; exact absurd (show none = some z from h) (by simp)
    | succ k ih =>
      intro  t h
      change m_Parser_takeMarker_34b n  (m_Parser_takeMarker_34 n  k)  t = some z at h
      unfold m_Parser_takeMarker_34b at h
      refine J_aload_n X d_Parser_takeMarker_34 0 rfl rfl ?_
      refine J_get (v := .int (t.1 9)) X (fun w h => mm (in_Parser w h)) 11 rfl rfl 5 (by decide) (mm k_fl_Parser_26) rfl rfl d_Parser_takeMarker_35 ?_
      refine J_aload_n X d_Parser_takeMarker_38 0 rfl rfl ?_
      refine J_get (v := .ref (a 1)) X (fun w h => mm (in_Parser w h)) 11 rfl rfl 0 (by decide) (mm k_fl_Parser_46) rfl rfl d_Parser_takeMarker_39 ?_
      refine J_getN (v := .int (t.1 0)) X (fun w h => mm (in_Bytes w h)) 1 rfl rfl 1 (by decide) k_fln_Parser_68 rfl rfl d_Parser_takeMarker_42 ?_
      refine J_icmp_ge X 110 d_Parser_takeMarker_45 (by decide) (fun c45 => ?_) (fun c45 => ?_)
      · rw [if_pos c45] at h
        refine J_aload_n X d_Parser_takeMarker_110 0 rfl rfl ?_
        refine J_iconst (v := (1 : Int32)) X d_Parser_takeMarker_111 (by decide) ?_
        refine J_aload_n X d_Parser_takeMarker_112 0 rfl rfl ?_
        refine J_get (v := .ref (a 1)) X (fun w h => mm (in_Parser w h)) 11 rfl rfl 0 (by decide) (mm k_fl_Parser_46) rfl rfl d_Parser_takeMarker_113 ?_
        refine J_getN (v := .int (t.1 0)) X (fun w h => mm (in_Bytes w h)) 1 rfl rfl 1 (by decide) k_fln_Parser_68 rfl rfl d_Parser_takeMarker_116 ?_
        obtain ⟨z119, hz119, h⟩ := j_bind h
        refine J_callVi0 (n := 2) (wc := (wO cI cB cJ cZ a t)) (r := z119.1) (w1 := fun _ : Unit => wO cI cB cJ cZ a z119.2) X isO (hCO cI cB cJ cZ a t) (hDO cI cB cJ cZ a t) rfl [.int (1 : Int32), .int (t.1 0)] [] (ct_Parser_fail l dC dI cI cB cJ cZ a n (1 : Int32) (t.1 0) t hz119) (aw_V (fun w h => mm h) k_ml_Parser_77 k_im_Parser_fail k_se_Parser_fail k_in_Parser k_cd_Parser_fail) rfl (by decide +kernel) ⟨(Nat.le_of_ble_eq_true rfl), (Nat.le_of_ble_eq_true rfl)⟩ (q0 := 11) rfl rfl rfl rfl (Nat.le_of_ble_eq_true rfl) d_Parser_takeMarker_119 ⟨(Nat.le_of_ble_eq_true rfl), (Nat.le_of_ble_eq_true rfl)⟩ (fun _ => ?_)
        exact J_iret X hr hlk () (Nat.le_of_ble_eq_true rfl) (Nat.le_of_ble_eq_true rfl) (j_r1 h) (congrArg (fun q => wO cI cB cJ cZ a q) (j_r2 h)) d_Parser_takeMarker_122
      · rw [if_neg c45] at h
        refine J_aload_n X d_Parser_takeMarker_48 0 rfl rfl ?_
        refine J_get (v := .ref (a 1)) X (fun w h => mm (in_Parser w h)) 11 rfl rfl 0 (by decide) (mm k_fl_Parser_46) rfl rfl d_Parser_takeMarker_49 ?_
        refine J_aload_n X d_Parser_takeMarker_52 0 rfl rfl ?_
        refine J_get (v := .int (t.1 9)) X (fun w h => mm (in_Parser w h)) 11 rfl rfl 5 (by decide) (mm k_fl_Parser_26) rfl rfl d_Parser_takeMarker_53 ?_
        obtain ⟨z56, hz56, h⟩ := j_bind h
        refine J_callVi0 (n := 1) (wc := (wO cI cB cJ cZ a t)) (r := z56.1) (w1 := fun _ : Unit => wO cI cB cJ cZ a z56.2) X isO (hCO cI cB cJ cZ a t) (hDO cI cB cJ cZ a t) rfl [.int (t.1 9)] [] (ct_Bytes_at l dC dI cI cB cJ cZ a n (t.1 9) t hz56) (aw_V (fun w h => mm h) k_ml_Parser_73 k_im_Bytes_at k_se_Bytes_at k_in_Bytes k_cd_Bytes_at) rfl (by decide +kernel) ⟨(Nat.le_of_ble_eq_true rfl), (Nat.le_of_ble_eq_true rfl)⟩ (q0 := 1) rfl rfl rfl rfl (Nat.le_of_ble_eq_true rfl) d_Parser_takeMarker_56 ⟨(Nat.le_of_ble_eq_true rfl), (Nat.le_of_ble_eq_true rfl)⟩ (fun _ => ?_)
        refine J_istore_n X [(2, .int z56.1), (0, .ref (a 11))] d_Parser_takeMarker_59 rfl (by decide) rfl ?_
        refine J_iload_n X d_Parser_takeMarker_60 0 rfl rfl ?_
        refine J_sipush (v := (255 : Int32)) X d_Parser_takeMarker_61 (by decide) ?_
        refine J_icmp_eq X 97 d_Parser_takeMarker_64 (by decide) (fun c64 => ?_) (fun c64 => ?_)
        · rw [if_pos c64] at h
          refine J_aload_n X d_Parser_takeMarker_97 1 rfl rfl ?_
          refine J_dup X d_Parser_takeMarker_98 rfl ?_
          refine J_get (v := .int (z56.2.1 9)) X (fun w h => mm (in_Parser w h)) 11 rfl rfl 5 (by decide) (mm k_fl_Parser_26) rfl rfl d_Parser_takeMarker_99 ?_
          refine J_iconst (v := (1 : Int32)) X d_Parser_takeMarker_102 (by decide) ?_
          refine J_iadd X d_Parser_takeMarker_103 ?_
          refine J_put (ty := .int) (v := .int ((z56.2.1 9) + (1 : Int32))) X (fun w h => mm (in_Parser w h)) ty_Parser tyk_Parser nm_Parser 11 rfl rfl 5 (by decide) (mm k_fl_Parser_26) rfl rfl (by decide +kernel) rfl rfl (Nat.le_of_ble_eq_true rfl) d_Parser_takeMarker_104 (wO cI cB cJ cZ a (sG z56.2 9 ((z56.2.1 9) + (1 : Int32)))) rfl ?_
          refine J_goto X 34 d_Parser_takeMarker_107 (by decide) ?_
          refine J_lv [1] [(0, .ref (a 11))] rfl ?_
          exact ih (sG z56.2 9 ((z56.2.1 9) + (1 : Int32))) h
        · rw [if_neg c64] at h
          refine J_aload_n X d_Parser_takeMarker_67 1 rfl rfl ?_
          refine J_iload_n X d_Parser_takeMarker_68 0 rfl rfl ?_
          obtain ⟨z69, hz69, h⟩ := j_bind h
          refine J_callVi0 (n := 1) (wc := (wO cI cB cJ cZ a z56.2)) (r := z69.1) (w1 := fun _ : Unit => wO cI cB cJ cZ a z69.2) X isO (hCO cI cB cJ cZ a z56.2) (hDO cI cB cJ cZ a z56.2) rfl [.int z56.1] [] (ct_Parser_canStand l dC dI cI cB cJ cZ a n z56.1 z56.2 hz69) (aw_V (fun w h => mm h) k_ml_Parser_102 k_im_Parser_canStand k_se_Parser_canStand k_in_Parser k_cd_Parser_canStand) rfl (by decide +kernel) ⟨(Nat.le_of_ble_eq_true rfl), (Nat.le_of_ble_eq_true rfl)⟩ (q0 := 11) rfl rfl rfl rfl (Nat.le_of_ble_eq_true rfl) d_Parser_takeMarker_69 ⟨(Nat.le_of_ble_eq_true rfl), (Nat.le_of_ble_eq_true rfl)⟩ (fun _ => ?_)
          refine J_if_ne X 85 d_Parser_takeMarker_72 (by decide) (fun c72 => ?_) (fun c72 => ?_)
          · rw [if_neg c72] at h
            refine J_aload_n X d_Parser_takeMarker_85 1 rfl rfl ?_
            refine J_dup X d_Parser_takeMarker_86 rfl ?_
            refine J_get (v := .int (z69.2.1 9)) X (fun w h => mm (in_Parser w h)) 11 rfl rfl 5 (by decide) (mm k_fl_Parser_26) rfl rfl d_Parser_takeMarker_87 ?_
            refine J_iconst (v := (1 : Int32)) X d_Parser_takeMarker_90 (by decide) ?_
            refine J_iadd X d_Parser_takeMarker_91 ?_
            refine J_put (ty := .int) (v := .int ((z69.2.1 9) + (1 : Int32))) X (fun w h => mm (in_Parser w h)) ty_Parser tyk_Parser nm_Parser 11 rfl rfl 5 (by decide) (mm k_fl_Parser_26) rfl rfl (by decide +kernel) rfl rfl (Nat.le_of_ble_eq_true rfl) d_Parser_takeMarker_92 (wO cI cB cJ cZ a (sG z69.2 9 ((z69.2.1 9) + (1 : Int32)))) rfl ?_
            refine J_iload_n X d_Parser_takeMarker_95 0 rfl rfl ?_
            exact J_iret X hr hlk () (Nat.le_of_ble_eq_true rfl) (Nat.le_of_ble_eq_true rfl) (j_r1 h) (congrArg (fun q => wO cI cB cJ cZ a q) (j_r2 h)) d_Parser_takeMarker_96
          · rw [if_pos c72] at h
            refine J_aload_n X d_Parser_takeMarker_75 1 rfl rfl ?_
            refine J_iconst (v := (4 : Int32)) X d_Parser_takeMarker_76 (by decide) ?_
            refine J_aload_n X d_Parser_takeMarker_77 1 rfl rfl ?_
            refine J_get (v := .int (z69.2.1 9)) X (fun w h => mm (in_Parser w h)) 11 rfl rfl 5 (by decide) (mm k_fl_Parser_26) rfl rfl d_Parser_takeMarker_78 ?_
            obtain ⟨z81, hz81, h⟩ := j_bind h
            refine J_callVi0 (n := 2) (wc := (wO cI cB cJ cZ a z69.2)) (r := z81.1) (w1 := fun _ : Unit => wO cI cB cJ cZ a z81.2) X isO (hCO cI cB cJ cZ a z69.2) (hDO cI cB cJ cZ a z69.2) rfl [.int (4 : Int32), .int (z69.2.1 9)] [] (ct_Parser_fail l dC dI cI cB cJ cZ a n (4 : Int32) (z69.2.1 9) z69.2 hz81) (aw_V (fun w h => mm h) k_ml_Parser_77 k_im_Parser_fail k_se_Parser_fail k_in_Parser k_cd_Parser_fail) rfl (by decide +kernel) ⟨(Nat.le_of_ble_eq_true rfl), (Nat.le_of_ble_eq_true rfl)⟩ (q0 := 11) rfl rfl rfl rfl (Nat.le_of_ble_eq_true rfl) d_Parser_takeMarker_81 ⟨(Nat.le_of_ble_eq_true rfl), (Nat.le_of_ble_eq_true rfl)⟩ (fun _ => ?_)
            exact J_iret X hr hlk () (Nat.le_of_ble_eq_true rfl) (Nat.le_of_ble_eq_true rfl) (j_r1 h) (congrArg (fun q => wO cI cB cJ cZ a q) (j_r2 h)) d_Parser_takeMarker_84
  refine J_lv [0] [(0, .ref (a 11))] rfl ?_
  unfold m_Parser_takeMarker at h
  refine J_aload_n X d_Parser_takeMarker_0 0 rfl rfl ?_
  refine J_get (v := .ref (a 1)) X (fun w h => mm (in_Parser w h)) 11 rfl rfl 0 (by decide) (mm k_fl_Parser_46) rfl rfl d_Parser_takeMarker_1 ?_
  refine J_aload_n X d_Parser_takeMarker_4 0 rfl rfl ?_
  refine J_get (v := .int (t.1 9)) X (fun w h => mm (in_Parser w h)) 11 rfl rfl 5 (by decide) (mm k_fl_Parser_26) rfl rfl d_Parser_takeMarker_5 ?_
  obtain ⟨z8, hz8, h⟩ := j_bind h
  refine J_callVi0 (n := 1) (wc := (wO cI cB cJ cZ a t)) (r := z8.1) (w1 := fun _ : Unit => wO cI cB cJ cZ a z8.2) X isO (hCO cI cB cJ cZ a t) (hDO cI cB cJ cZ a t) rfl [.int (t.1 9)] [] (ct_Bytes_at l dC dI cI cB cJ cZ a n (t.1 9) t hz8) (aw_V (fun w h => mm h) k_ml_Parser_73 k_im_Bytes_at k_se_Bytes_at k_in_Bytes k_cd_Bytes_at) rfl (by decide +kernel) ⟨(Nat.le_of_ble_eq_true rfl), (Nat.le_of_ble_eq_true rfl)⟩ (q0 := 1) rfl rfl rfl rfl (Nat.le_of_ble_eq_true rfl) d_Parser_takeMarker_8 ⟨(Nat.le_of_ble_eq_true rfl), (Nat.le_of_ble_eq_true rfl)⟩ (fun _ => ?_)
  refine J_istore_n X [(1, .int z8.1), (0, .ref (a 11))] d_Parser_takeMarker_11 rfl (by decide) rfl ?_
  refine J_iload_n X d_Parser_takeMarker_12 0 rfl rfl ?_
  refine J_iconst (v := (-1 : Int32)) X d_Parser_takeMarker_13 (by decide) ?_
  refine J_icmp_eq X 34 d_Parser_takeMarker_14 (by decide) (fun c14 => ?_) (fun c14 => ?_)
  · rw [if_pos c14] at h
    refine J_lv [1] [(0, .ref (a 11))] rfl ?_
    exact L34  n z8.2 h
  · rw [if_neg c14] at h
    refine J_iload_n X d_Parser_takeMarker_17 0 rfl rfl ?_
    refine J_sipush (v := (255 : Int32)) X d_Parser_takeMarker_18 (by decide) ?_
    refine J_icmp_eq X 34 d_Parser_takeMarker_21 (by decide) (fun c21 => ?_) (fun c21 => ?_)
    · rw [if_pos c21] at h
      refine J_lv [1] [(0, .ref (a 11))] rfl ?_
      exact L34  n z8.2 h
    · rw [if_neg c21] at h
      refine J_aload_n X d_Parser_takeMarker_24 1 rfl rfl ?_
      refine J_iconst (v := (3 : Int32)) X d_Parser_takeMarker_25 (by decide) ?_
      refine J_aload_n X d_Parser_takeMarker_26 1 rfl rfl ?_
      refine J_get (v := .int (z8.2.1 9)) X (fun w h => mm (in_Parser w h)) 11 rfl rfl 5 (by decide) (mm k_fl_Parser_26) rfl rfl d_Parser_takeMarker_27 ?_
      obtain ⟨z30, hz30, h⟩ := j_bind h
      refine J_callVi0 (n := 2) (wc := (wO cI cB cJ cZ a z8.2)) (r := z30.1) (w1 := fun _ : Unit => wO cI cB cJ cZ a z30.2) X isO (hCO cI cB cJ cZ a z8.2) (hDO cI cB cJ cZ a z8.2) rfl [.int (3 : Int32), .int (z8.2.1 9)] [] (ct_Parser_fail l dC dI cI cB cJ cZ a n (3 : Int32) (z8.2.1 9) z8.2 hz30) (aw_V (fun w h => mm h) k_ml_Parser_77 k_im_Parser_fail k_se_Parser_fail k_in_Parser k_cd_Parser_fail) rfl (by decide +kernel) ⟨(Nat.le_of_ble_eq_true rfl), (Nat.le_of_ble_eq_true rfl)⟩ (q0 := 11) rfl rfl rfl rfl (Nat.le_of_ble_eq_true rfl) d_Parser_takeMarker_30 ⟨(Nat.le_of_ble_eq_true rfl), (Nat.le_of_ble_eq_true rfl)⟩ (fun _ => ?_)
      exact J_iret X hr hlk () (Nat.le_of_ble_eq_true rfl) (Nat.le_of_ble_eq_true rfl) (j_r1 h) (congrArg (fun q => wO cI cB cJ cZ a q) (j_r2 h)) d_Parser_takeMarker_33
set_option maxHeartbeats 4000000 in
set_option maxRecDepth 100000 in
theorem ct_Parser_take (l : Launch) (dC : Nat → ClassId) (dI : Nat → Nat → Nat) (cI cB cJ cZ : ClassId) (a : Nat → Nat) (n : Nat) (x1 : Int32) (x2 : Int32) (t : St) {z : Int32 × St} (h : m_Parser_take n x1 x2 t = some z) : jMi l y_Parser_take w_Parser_take ({ frames := 1, cells := 0, slots := 0, locals := 22 }) (dC, dI) vwCl (tyA cI cB cJ cZ) [.ref (a 11), .int x1, .int x2] (wO cI cB cJ cZ a t) z.1 (fun _ : Unit => wO cI cB cJ cZ a z.2) := by
  refine jMi.of (cc := c_Parser_take) (maxL := 4) (ret := (some .int)) (by decide) rfl (Nat.le_of_ble_eq_true rfl) ?_
  intro p e s m args below meth c A X hr hlk hnm
  have L70 : ∀  (t : St), m_Parser_take_70 n   t = some z → J p l e { frames := 1, cells := 0, slots := 0, locals := 22 } s m args below meth c 4 (dC, dI) vwCl A (MQ below (jQi (dC, dI) vwCl (tyA cI cB cJ cZ) z.1 (fun _ : Unit => wO cI cB cJ cZ a z.2) A) args s 0 0 A) 0 0 70 [(0, .ref (a 11))] [] (wO cI cB cJ cZ a t) := by
    intro  t h
    unfold m_Parser_take_70 at h
    refine J_aload_n X d_Parser_take_70 0 rfl rfl ?_
    refine J_bipush (v := (6 : Int32)) X d_Parser_take_71 (by decide) ?_
    refine J_aload_n X d_Parser_take_73 0 rfl rfl ?_
    refine J_get (v := .int (t.1 9)) X (fun w h => mm (in_Parser w h)) 11 rfl rfl 5 (by decide) (mm k_fl_Parser_26) rfl rfl d_Parser_take_74 ?_
    obtain ⟨z77, hz77, h⟩ := j_bind h
    refine J_callVi0 (n := 2) (wc := (wO cI cB cJ cZ a t)) (r := z77.1) (w1 := fun _ : Unit => wO cI cB cJ cZ a z77.2) X isO (hCO cI cB cJ cZ a t) (hDO cI cB cJ cZ a t) rfl [.int (6 : Int32), .int (t.1 9)] [] (ct_Parser_fail l dC dI cI cB cJ cZ a n (6 : Int32) (t.1 9) t hz77) (aw_V (fun w h => mm h) k_ml_Parser_77 k_im_Parser_fail k_se_Parser_fail k_in_Parser k_cd_Parser_fail) rfl (by decide +kernel) ⟨(Nat.le_of_ble_eq_true rfl), (Nat.le_of_ble_eq_true rfl)⟩ (q0 := 11) rfl rfl rfl rfl (Nat.le_of_ble_eq_true rfl) d_Parser_take_77 ⟨(Nat.le_of_ble_eq_true rfl), (Nat.le_of_ble_eq_true rfl)⟩ (fun _ => ?_)
    exact J_iret X hr hlk () (Nat.le_of_ble_eq_true rfl) (Nat.le_of_ble_eq_true rfl) (j_r1 h) (congrArg (fun q => wO cI cB cJ cZ a q) (j_r2 h)) d_Parser_take_80
  refine J_lv [0, 1, 2] [(0, .ref (a 11)), (1, .int x1), (2, .int x2)] rfl ?_
  unfold m_Parser_take at h
  refine J_aload_n X d_Parser_take_0 0 rfl rfl ?_
  refine J_get (v := .int (t.1 13)) X (fun w h => mm (in_Parser w h)) 11 rfl rfl 9 (by decide) (mm k_fl_Parser_40) rfl rfl d_Parser_take_1 ?_
  refine J_if_eq X 9 d_Parser_take_4 (by decide) (fun c4 => ?_) (fun c4 => ?_)
  · rw [if_pos c4] at h
    refine J_aload_n X d_Parser_take_9 0 rfl rfl ?_
    refine J_get (v := .int (t.1 9)) X (fun w h => mm (in_Parser w h)) 11 rfl rfl 5 (by decide) (mm k_fl_Parser_26) rfl rfl d_Parser_take_10 ?_
    refine J_aload_n X d_Parser_take_13 0 rfl rfl ?_
    refine J_get (v := .int (t.1 11)) X (fun w h => mm (in_Parser w h)) 11 rfl rfl 7 (by decide) (mm k_fl_Parser_33) rfl rfl d_Parser_take_14 ?_
    refine J_icmp_lt X 30 d_Parser_take_17 (by decide) (fun c17 => ?_) (fun c17 => ?_)
    · rw [if_pos c17] at h
      refine J_aload_n X d_Parser_take_30 0 rfl rfl ?_
      refine J_get (v := .ref (a 1)) X (fun w h => mm (in_Parser w h)) 11 rfl rfl 0 (by decide) (mm k_fl_Parser_46) rfl rfl d_Parser_take_31 ?_
      refine J_aload_n X d_Parser_take_34 0 rfl rfl ?_
      refine J_get (v := .int (t.1 9)) X (fun w h => mm (in_Parser w h)) 11 rfl rfl 5 (by decide) (mm k_fl_Parser_26) rfl rfl d_Parser_take_35 ?_
      obtain ⟨z38, hz38, h⟩ := j_bind h
      refine J_callVi0 (n := 1) (wc := (wO cI cB cJ cZ a t)) (r := z38.1) (w1 := fun _ : Unit => wO cI cB cJ cZ a z38.2) X isO (hCO cI cB cJ cZ a t) (hDO cI cB cJ cZ a t) rfl [.int (t.1 9)] [] (ct_Bytes_at l dC dI cI cB cJ cZ a n (t.1 9) t hz38) (aw_V (fun w h => mm h) k_ml_Parser_73 k_im_Bytes_at k_se_Bytes_at k_in_Bytes k_cd_Bytes_at) rfl (by decide +kernel) ⟨(Nat.le_of_ble_eq_true rfl), (Nat.le_of_ble_eq_true rfl)⟩ (q0 := 1) rfl rfl rfl rfl (Nat.le_of_ble_eq_true rfl) d_Parser_take_38 ⟨(Nat.le_of_ble_eq_true rfl), (Nat.le_of_ble_eq_true rfl)⟩ (fun _ => ?_)
      refine J_istore_n X [(3, .int z38.1), (0, .ref (a 11)), (1, .int x1), (2, .int x2)] d_Parser_take_41 rfl (by decide) rfl ?_
      refine J_iload_n X d_Parser_take_42 0 rfl rfl ?_
      refine J_iconst (v := (-1 : Int32)) X d_Parser_take_43 (by decide) ?_
      refine J_icmp_ne X 60 d_Parser_take_44 (by decide) (fun c44 => ?_) (fun c44 => ?_)
      · rw [if_neg c44] at h
        refine J_iload_n X d_Parser_take_60 0 rfl rfl ?_
        refine J_iload_n X d_Parser_take_61 2 rfl rfl ?_
        refine J_icmp_lt X 70 d_Parser_take_62 (by decide) (fun c62 => ?_) (fun c62 => ?_)
        · rw [if_pos c62] at h
          refine J_lv [1] [(0, .ref (a 11))] rfl ?_
          exact L70  z38.2 h
        · rw [if_neg c62] at h
          refine J_iload_n X d_Parser_take_65 0 rfl rfl ?_
          refine J_iload_n X d_Parser_take_66 3 rfl rfl ?_
          refine J_icmp_le X 81 d_Parser_take_67 (by decide) (fun c67 => ?_) (fun c67 => ?_)
          · rw [if_pos c67] at h
            refine J_aload_n X d_Parser_take_81 1 rfl rfl ?_
            refine J_dup X d_Parser_take_82 rfl ?_
            refine J_get (v := .int (z38.2.1 9)) X (fun w h => mm (in_Parser w h)) 11 rfl rfl 5 (by decide) (mm k_fl_Parser_26) rfl rfl d_Parser_take_83 ?_
            refine J_iconst (v := (1 : Int32)) X d_Parser_take_86 (by decide) ?_
            refine J_iadd X d_Parser_take_87 ?_
            refine J_put (ty := .int) (v := .int ((z38.2.1 9) + (1 : Int32))) X (fun w h => mm (in_Parser w h)) ty_Parser tyk_Parser nm_Parser 11 rfl rfl 5 (by decide) (mm k_fl_Parser_26) rfl rfl (by decide +kernel) rfl rfl (Nat.le_of_ble_eq_true rfl) d_Parser_take_88 (wO cI cB cJ cZ a (sG z38.2 9 ((z38.2.1 9) + (1 : Int32)))) rfl ?_
            refine J_iload_n X d_Parser_take_91 0 rfl rfl ?_
            exact J_iret X hr hlk () (Nat.le_of_ble_eq_true rfl) (Nat.le_of_ble_eq_true rfl) (j_r1 h) (congrArg (fun q => wO cI cB cJ cZ a q) (j_r2 h)) d_Parser_take_92
          · rw [if_neg c67] at h
            refine J_lv [1] [(0, .ref (a 11))] rfl ?_
            exact L70  z38.2 h
      · rw [if_pos c44] at h
        refine J_aload_n X d_Parser_take_47 1 rfl rfl ?_
        refine J_iconst (v := (1 : Int32)) X d_Parser_take_48 (by decide) ?_
        refine J_aload_n X d_Parser_take_49 1 rfl rfl ?_
        refine J_get (v := .ref (a 1)) X (fun w h => mm (in_Parser w h)) 11 rfl rfl 0 (by decide) (mm k_fl_Parser_46) rfl rfl d_Parser_take_50 ?_
        refine J_getN (v := .int (z38.2.1 0)) X (fun w h => mm (in_Bytes w h)) 1 rfl rfl 1 (by decide) k_fln_Parser_68 rfl rfl d_Parser_take_53 ?_
        obtain ⟨z56, hz56, h⟩ := j_bind h
        refine J_callVi0 (n := 2) (wc := (wO cI cB cJ cZ a z38.2)) (r := z56.1) (w1 := fun _ : Unit => wO cI cB cJ cZ a z56.2) X isO (hCO cI cB cJ cZ a z38.2) (hDO cI cB cJ cZ a z38.2) rfl [.int (1 : Int32), .int (z38.2.1 0)] [] (ct_Parser_fail l dC dI cI cB cJ cZ a n (1 : Int32) (z38.2.1 0) z38.2 hz56) (aw_V (fun w h => mm h) k_ml_Parser_77 k_im_Parser_fail k_se_Parser_fail k_in_Parser k_cd_Parser_fail) rfl (by decide +kernel) ⟨(Nat.le_of_ble_eq_true rfl), (Nat.le_of_ble_eq_true rfl)⟩ (q0 := 11) rfl rfl rfl rfl (Nat.le_of_ble_eq_true rfl) d_Parser_take_56 ⟨(Nat.le_of_ble_eq_true rfl), (Nat.le_of_ble_eq_true rfl)⟩ (fun _ => ?_)
        exact J_iret X hr hlk () (Nat.le_of_ble_eq_true rfl) (Nat.le_of_ble_eq_true rfl) (j_r1 h) (congrArg (fun q => wO cI cB cJ cZ a q) (j_r2 h)) d_Parser_take_59
    · rw [if_neg c17] at h
      refine J_aload_n X d_Parser_take_20 0 rfl rfl ?_
      refine J_iconst (v := (5 : Int32)) X d_Parser_take_21 (by decide) ?_
      refine J_aload_n X d_Parser_take_22 0 rfl rfl ?_
      refine J_get (v := .int (t.1 10)) X (fun w h => mm (in_Parser w h)) 11 rfl rfl 6 (by decide) (mm k_fl_Parser_30) rfl rfl d_Parser_take_23 ?_
      obtain ⟨z26, hz26, h⟩ := j_bind h
      refine J_callVi0 (n := 2) (wc := (wO cI cB cJ cZ a t)) (r := z26.1) (w1 := fun _ : Unit => wO cI cB cJ cZ a z26.2) X isO (hCO cI cB cJ cZ a t) (hDO cI cB cJ cZ a t) rfl [.int (5 : Int32), .int (t.1 10)] [] (ct_Parser_fail l dC dI cI cB cJ cZ a n (5 : Int32) (t.1 10) t hz26) (aw_V (fun w h => mm h) k_ml_Parser_77 k_im_Parser_fail k_se_Parser_fail k_in_Parser k_cd_Parser_fail) rfl (by decide +kernel) ⟨(Nat.le_of_ble_eq_true rfl), (Nat.le_of_ble_eq_true rfl)⟩ (q0 := 11) rfl rfl rfl rfl (Nat.le_of_ble_eq_true rfl) d_Parser_take_26 ⟨(Nat.le_of_ble_eq_true rfl), (Nat.le_of_ble_eq_true rfl)⟩ (fun _ => ?_)
      exact J_iret X hr hlk () (Nat.le_of_ble_eq_true rfl) (Nat.le_of_ble_eq_true rfl) (j_r1 h) (congrArg (fun q => wO cI cB cJ cZ a q) (j_r2 h)) d_Parser_take_29
  · rw [if_neg c4] at h
    refine J_iconst (v := (-1 : Int32)) X d_Parser_take_7 (by decide) ?_
    exact J_iret X hr hlk () (Nat.le_of_ble_eq_true rfl) (Nat.le_of_ble_eq_true rfl) (j_r1 h) (congrArg (fun q => wO cI cB cJ cZ a q) (j_r2 h)) d_Parser_take_8
set_option maxHeartbeats 4000000 in
set_option maxRecDepth 100000 in
theorem ct_Parser_refuseTaken (l : Launch) (dC : Nat → ClassId) (dI : Nat → Nat → Nat) (cI cB cJ cZ : ClassId) (a : Nat → Nat) (n : Nat)  (t : St) {z : St} (h : m_Parser_refuseTaken n t = some z) : jMv l y_Parser_refuseTaken w_Parser_refuseTaken ({ frames := 1, cells := 0, slots := 0, locals := 22 }) (dC, dI) vwCl (tyA cI cB cJ cZ) [.ref (a 11)] (wO cI cB cJ cZ a t) (fun _ : Unit => wO cI cB cJ cZ a z) := by
  refine jMv.of (cc := c_Parser_refuseTaken) (maxL := 1) (ret := none) (by decide) rfl (Nat.le_of_ble_eq_true rfl) ?_
  intro p e s m args below meth c A X hr hlk hnm
  refine J_lv [0] [(0, .ref (a 11))] rfl ?_
  unfold m_Parser_refuseTaken at h
  refine J_aload_n X d_Parser_refuseTaken_0 0 rfl rfl ?_
  refine J_bipush (v := (6 : Int32)) X d_Parser_refuseTaken_1 (by decide) ?_
  refine J_aload_n X d_Parser_refuseTaken_3 0 rfl rfl ?_
  refine J_get (v := .int (t.1 9)) X (fun w h => mm (in_Parser w h)) 11 rfl rfl 5 (by decide) (mm k_fl_Parser_26) rfl rfl d_Parser_refuseTaken_4 ?_
  refine J_iconst (v := (1 : Int32)) X d_Parser_refuseTaken_7 (by decide) ?_
  refine J_isub X d_Parser_refuseTaken_8 ?_
  obtain ⟨z9, hz9, h⟩ := j_bind h
  refine J_callVi0 (n := 2) (wc := (wO cI cB cJ cZ a t)) (r := z9.1) (w1 := fun _ : Unit => wO cI cB cJ cZ a z9.2) X isO (hCO cI cB cJ cZ a t) (hDO cI cB cJ cZ a t) rfl [.int (6 : Int32), .int ((t.1 9) - (1 : Int32))] [] (ct_Parser_fail l dC dI cI cB cJ cZ a n (6 : Int32) ((t.1 9) - (1 : Int32)) t hz9) (aw_V (fun w h => mm h) k_ml_Parser_77 k_im_Parser_fail k_se_Parser_fail k_in_Parser k_cd_Parser_fail) rfl (by decide +kernel) ⟨(Nat.le_of_ble_eq_true rfl), (Nat.le_of_ble_eq_true rfl)⟩ (q0 := 11) rfl rfl rfl rfl (Nat.le_of_ble_eq_true rfl) d_Parser_refuseTaken_9 ⟨(Nat.le_of_ble_eq_true rfl), (Nat.le_of_ble_eq_true rfl)⟩ (fun _ => ?_)
  refine J_pop X d_Parser_refuseTaken_12 rfl ?_
  exact J_vret X hr hlk () (Nat.le_of_ble_eq_true rfl) (Nat.le_of_ble_eq_true rfl) (congrArg (fun q => wO cI cB cJ cZ a q) (j_s h)) d_Parser_refuseTaken_13
set_option maxHeartbeats 4000000 in
set_option maxRecDepth 100000 in
theorem ct_Parser_takePair (l : Launch) (dC : Nat → ClassId) (dI : Nat → Nat → Nat) (cI cB cJ cZ : ClassId) (a : Nat → Nat) (n : Nat) (x1 : Int32) (x2 : Int32) (t : St) {z : Int32 × St} (h : m_Parser_takePair n x1 x2 t = some z) : jMi l y_Parser_takePair w_Parser_takePair ({ frames := 2, cells := 0, slots := 0, locals := 45 }) (dC, dI) vwCl (tyA cI cB cJ cZ) [.ref (a 11), .int x1, .int x2] (wO cI cB cJ cZ a t) z.1 (fun _ : Unit => wO cI cB cJ cZ a z.2) := by
  refine jMi.of (cc := c_Parser_takePair) (maxL := 6) (ret := (some .int)) (by decide) rfl (Nat.le_of_ble_eq_true rfl) ?_
  intro p e s m args below meth c A X hr hlk hnm
  have L45 : ∀ (x5 : Int32) (t : St), m_Parser_takePair_45 n  x5 t = some z → J p l e { frames := 2, cells := 0, slots := 0, locals := 45 } s m args below meth c 6 (dC, dI) vwCl A (MQ below (jQi (dC, dI) vwCl (tyA cI cB cJ cZ) z.1 (fun _ : Unit => wO cI cB cJ cZ a z.2) A) args s 0 0 A) 0 0 45 [(0, .ref (a 11)), (5, .int x5)] [] (wO cI cB cJ cZ a t) := by
    intro x5 t h
    unfold m_Parser_takePair_45 at h
    refine J_aload_n X d_Parser_takePair_45 0 rfl rfl ?_
    refine J_get (v := .int (t.1 13)) X (fun w h => mm (in_Parser w h)) 11 rfl rfl 9 (by decide) (mm k_fl_Parser_40) rfl rfl d_Parser_takePair_46 ?_
    refine J_if_ne X 57 d_Parser_takePair_49 (by decide) (fun c49 => ?_) (fun c49 => ?_)
    · rw [if_neg c49] at h
      refine J_iconst (v := (-1 : Int32)) X d_Parser_takePair_57 (by decide) ?_
      exact J_iret X hr hlk () (Nat.le_of_ble_eq_true rfl) (Nat.le_of_ble_eq_true rfl) (j_r1 h) (congrArg (fun q => wO cI cB cJ cZ a q) (j_r2 h)) d_Parser_takePair_58
    · rw [if_pos c49] at h
      refine J_iload X d_Parser_takePair_52 1 rfl ?_
      refine J_goto X 58 d_Parser_takePair_54 (by decide) ?_
      exact J_iret X hr hlk () (Nat.le_of_ble_eq_true rfl) (Nat.le_of_ble_eq_true rfl) (j_r1 h) (congrArg (fun q => wO cI cB cJ cZ a q) (j_r2 h)) d_Parser_takePair_58
  have L41 : ∀ (x5 : Int32) (t : St), m_Parser_takePair_41 n  x5 t = some z → J p l e { frames := 2, cells := 0, slots := 0, locals := 45 } s m args below meth c 6 (dC, dI) vwCl A (MQ below (jQi (dC, dI) vwCl (tyA cI cB cJ cZ) z.1 (fun _ : Unit => wO cI cB cJ cZ a z.2) A) args s 0 0 A) 0 0 41 [(0, .ref (a 11)), (5, .int x5)] [] (wO cI cB cJ cZ a t) := by
    intro x5 t h
    unfold m_Parser_takePair_41 at h
    refine J_aload_n X d_Parser_takePair_41 0 rfl rfl ?_
    obtain ⟨z42, hz42, h⟩ := j_bind h
    refine J_callVv0 (n := 0) (wc := (wO cI cB cJ cZ a t)) (w1 := fun _ : Unit => wO cI cB cJ cZ a z42) X isO (hCO cI cB cJ cZ a t) (hDO cI cB cJ cZ a t) rfl [] [] (ct_Parser_refuseTaken l dC dI cI cB cJ cZ a n t hz42) (aw_V (fun w h => mm h) k_ml_Parser_150 k_im_Parser_refuseTaken k_se_Parser_refuseTaken k_in_Parser k_cd_Parser_refuseTaken) rfl (by decide +kernel) ⟨(Nat.le_of_ble_eq_true rfl), (Nat.le_of_ble_eq_true rfl)⟩ (q0 := 11) rfl rfl rfl rfl (Nat.le_of_ble_eq_true rfl) d_Parser_takePair_42 ⟨(Nat.le_of_ble_eq_true rfl), (Nat.le_of_ble_eq_true rfl)⟩ (fun _ => ?_)
    refine J_lv [0, 1] [(0, .ref (a 11)), (5, .int x5)] rfl ?_
    exact L45  x5 z42 h
  refine J_lv [0, 1, 2] [(0, .ref (a 11)), (1, .int x1), (2, .int x2)] rfl ?_
  unfold m_Parser_takePair at h
  refine J_aload_n X d_Parser_takePair_0 0 rfl rfl ?_
  refine J_iconst (v := (0 : Int32)) X d_Parser_takePair_1 (by decide) ?_
  refine J_sipush (v := (255 : Int32)) X d_Parser_takePair_2 (by decide) ?_
  obtain ⟨z5, hz5, h⟩ := j_bind h
  refine J_callVi0 (n := 2) (wc := (wO cI cB cJ cZ a t)) (r := z5.1) (w1 := fun _ : Unit => wO cI cB cJ cZ a z5.2) X isO (hCO cI cB cJ cZ a t) (hDO cI cB cJ cZ a t) rfl [.int (0 : Int32), .int (255 : Int32)] [] (ct_Parser_take l dC dI cI cB cJ cZ a n (0 : Int32) (255 : Int32) t hz5) (aw_V (fun w h => mm h) k_ml_Parser_147 k_im_Parser_take k_se_Parser_take k_in_Parser k_cd_Parser_take) rfl (by decide +kernel) ⟨(Nat.le_of_ble_eq_true rfl), (Nat.le_of_ble_eq_true rfl)⟩ (q0 := 11) rfl rfl rfl rfl (Nat.le_of_ble_eq_true rfl) d_Parser_takePair_5 ⟨(Nat.le_of_ble_eq_true rfl), (Nat.le_of_ble_eq_true rfl)⟩ (fun _ => ?_)
  refine J_istore_n X [(3, .int z5.1), (0, .ref (a 11)), (1, .int x1), (2, .int x2)] d_Parser_takePair_8 rfl (by decide) rfl ?_
  refine J_aload_n X d_Parser_takePair_9 1 rfl rfl ?_
  refine J_iconst (v := (0 : Int32)) X d_Parser_takePair_10 (by decide) ?_
  refine J_sipush (v := (255 : Int32)) X d_Parser_takePair_11 (by decide) ?_
  obtain ⟨z14, hz14, h⟩ := j_bind h
  refine J_callVi0 (n := 2) (wc := (wO cI cB cJ cZ a z5.2)) (r := z14.1) (w1 := fun _ : Unit => wO cI cB cJ cZ a z14.2) X isO (hCO cI cB cJ cZ a z5.2) (hDO cI cB cJ cZ a z5.2) rfl [.int (0 : Int32), .int (255 : Int32)] [] (ct_Parser_take l dC dI cI cB cJ cZ a n (0 : Int32) (255 : Int32) z5.2 hz14) (aw_V (fun w h => mm h) k_ml_Parser_147 k_im_Parser_take k_se_Parser_take k_in_Parser k_cd_Parser_take) rfl (by decide +kernel) ⟨(Nat.le_of_ble_eq_true rfl), (Nat.le_of_ble_eq_true rfl)⟩ (q0 := 11) rfl rfl rfl rfl (Nat.le_of_ble_eq_true rfl) d_Parser_takePair_14 ⟨(Nat.le_of_ble_eq_true rfl), (Nat.le_of_ble_eq_true rfl)⟩ (fun _ => ?_)
  refine J_istore X [(4, .int z14.1), (3, .int z5.1), (0, .ref (a 11)), (1, .int x1), (2, .int x2)] d_Parser_takePair_17 (by decide) rfl ?_
  refine J_sipush (v := (256 : Int32)) X d_Parser_takePair_19 (by decide) ?_
  refine J_iload_n X d_Parser_takePair_22 1 rfl rfl ?_
  refine J_imul X d_Parser_takePair_23 ?_
  refine J_iload X d_Parser_takePair_24 0 rfl ?_
  refine J_iadd X d_Parser_takePair_26 ?_
  refine J_istore X [(5, .int (((256 : Int32) * z5.1) + z14.1)), (4, .int z14.1), (3, .int z5.1), (0, .ref (a 11)), (1, .int x1), (2, .int x2)] d_Parser_takePair_27 (by decide) rfl ?_
  refine J_iload X d_Parser_takePair_29 0 rfl ?_
  refine J_iload_n X d_Parser_takePair_31 4 rfl rfl ?_
  refine J_icmp_lt X 41 d_Parser_takePair_32 (by decide) (fun c32 => ?_) (fun c32 => ?_)
  · rw [if_pos c32] at h
    refine J_lv [3, 0] [(0, .ref (a 11)), (5, .int (((256 : Int32) * z5.1) + z14.1))] rfl ?_
    exact L41  (((256 : Int32) * z5.1) + z14.1) z14.2 h
  · rw [if_neg c32] at h
    refine J_iload X d_Parser_takePair_35 0 rfl ?_
    refine J_iload_n X d_Parser_takePair_37 5 rfl rfl ?_
    refine J_icmp_le X 45 d_Parser_takePair_38 (by decide) (fun c38 => ?_) (fun c38 => ?_)
    · rw [if_pos c38] at h
      refine J_lv [3, 0] [(0, .ref (a 11)), (5, .int (((256 : Int32) * z5.1) + z14.1))] rfl ?_
      exact L45  (((256 : Int32) * z5.1) + z14.1) z14.2 h
    · rw [if_neg c38] at h
      refine J_lv [3, 0] [(0, .ref (a 11)), (5, .int (((256 : Int32) * z5.1) + z14.1))] rfl ?_
      exact L41  (((256 : Int32) * z5.1) + z14.1) z14.2 h
set_option maxHeartbeats 4000000 in
set_option maxRecDepth 100000 in
theorem ct_Parser_takeLength (l : Launch) (dC : Nat → ClassId) (dI : Nat → Nat → Nat) (cI cB cJ cZ : ClassId) (a : Nat → Nat) (n : Nat)  (t : St) {z : St} (h : m_Parser_takeLength n t = some z) : jMv l y_Parser_takeLength w_Parser_takeLength ({ frames := 3, cells := 0, slots := 0, locals := 70 }) (dC, dI) vwCl (tyA cI cB cJ cZ) [.ref (a 11)] (wO cI cB cJ cZ a t) (fun _ : Unit => wO cI cB cJ cZ a z) := by
  refine jMv.of (cc := c_Parser_takeLength) (maxL := 2) (ret := none) (by decide) rfl (Nat.le_of_ble_eq_true rfl) ?_
  intro p e s m args below meth c A X hr hlk hnm
  have L41 : ∀ (x1 : Int32) (t : St), m_Parser_takeLength_41 n  x1 t = some z → J p l e { frames := 3, cells := 0, slots := 0, locals := 70 } s m args below meth c 2 (dC, dI) vwCl A (MQ below (jQv (dC, dI) vwCl (tyA cI cB cJ cZ) (fun _ : Unit => wO cI cB cJ cZ a z) A) args s 0 0 A) 0 0 41 [(0, .ref (a 11)), (1, .int x1)] [] (wO cI cB cJ cZ a t) := by
    intro x1 t h
    unfold m_Parser_takeLength_41 at h
    refine J_aload_n X d_Parser_takeLength_41 0 rfl rfl ?_
    refine J_aload_n X d_Parser_takeLength_42 0 rfl rfl ?_
    refine J_get (v := .int (t.1 10)) X (fun w h => mm (in_Parser w h)) 11 rfl rfl 6 (by decide) (mm k_fl_Parser_30) rfl rfl d_Parser_takeLength_43 ?_
    refine J_iload_n X d_Parser_takeLength_46 1 rfl rfl ?_
    refine J_iadd X d_Parser_takeLength_47 ?_
    refine J_put (ty := .int) (v := .int ((t.1 10) + x1)) X (fun w h => mm (in_Parser w h)) ty_Parser tyk_Parser nm_Parser 11 rfl rfl 7 (by decide) (mm k_fl_Parser_33) rfl rfl (by decide +kernel) rfl rfl (Nat.le_of_ble_eq_true rfl) d_Parser_takeLength_48 (wO cI cB cJ cZ a (sG t 11 ((t.1 10) + x1))) rfl ?_
    exact J_vret X hr hlk () (Nat.le_of_ble_eq_true rfl) (Nat.le_of_ble_eq_true rfl) (congrArg (fun q => wO cI cB cJ cZ a q) (j_s h)) d_Parser_takeLength_51
  refine J_lv [0] [(0, .ref (a 11))] rfl ?_
  unfold m_Parser_takeLength at h
  refine J_aload_n X d_Parser_takeLength_0 0 rfl rfl ?_
  refine J_aload_n X d_Parser_takeLength_1 0 rfl rfl ?_
  refine J_get (v := .int (t.1 9)) X (fun w h => mm (in_Parser w h)) 11 rfl rfl 5 (by decide) (mm k_fl_Parser_26) rfl rfl d_Parser_takeLength_2 ?_
  refine J_put (ty := .int) (v := .int (t.1 9)) X (fun w h => mm (in_Parser w h)) ty_Parser tyk_Parser nm_Parser 11 rfl rfl 6 (by decide) (mm k_fl_Parser_30) rfl rfl (by decide +kernel) rfl rfl (Nat.le_of_ble_eq_true rfl) d_Parser_takeLength_5 (wO cI cB cJ cZ a (sG t 10 (t.1 9))) rfl ?_
  refine J_aload_n X d_Parser_takeLength_8 0 rfl rfl ?_
  refine J_aload_n X d_Parser_takeLength_9 0 rfl rfl ?_
  refine J_get (v := .int (t.1 9)) X (fun w h => mm (in_Parser w h)) 11 rfl rfl 5 (by decide) (mm k_fl_Parser_26) rfl rfl d_Parser_takeLength_10 ?_
  refine J_iconst (v := (2 : Int32)) X d_Parser_takeLength_13 (by decide) ?_
  refine J_iadd X d_Parser_takeLength_14 ?_
  refine J_put (ty := .int) (v := .int ((t.1 9) + (2 : Int32))) X (fun w h => mm (in_Parser w h)) ty_Parser tyk_Parser nm_Parser 11 rfl rfl 7 (by decide) (mm k_fl_Parser_33) rfl rfl (by decide +kernel) rfl rfl (Nat.le_of_ble_eq_true rfl) d_Parser_takeLength_15 (wO cI cB cJ cZ a (sG (sG t 10 (t.1 9)) 11 ((t.1 9) + (2 : Int32)))) rfl ?_
  refine J_aload_n X d_Parser_takeLength_18 0 rfl rfl ?_
  refine J_iconst (v := (0 : Int32)) X d_Parser_takeLength_19 (by decide) ?_
  refine J_ldc (v := (65535 : Int32)) X (by decide +kernel) d_Parser_takeLength_20 ?_
  obtain ⟨z22, hz22, h⟩ := j_bind h
  refine J_callVi0 (n := 2) (wc := (wO cI cB cJ cZ a (sG (sG t 10 (t.1 9)) 11 ((t.1 9) + (2 : Int32))))) (r := z22.1) (w1 := fun _ : Unit => wO cI cB cJ cZ a z22.2) X isO (hCO cI cB cJ cZ a (sG (sG t 10 (t.1 9)) 11 ((t.1 9) + (2 : Int32)))) (hDO cI cB cJ cZ a (sG (sG t 10 (t.1 9)) 11 ((t.1 9) + (2 : Int32)))) rfl [.int (0 : Int32), .int (65535 : Int32)] [] (ct_Parser_takePair l dC dI cI cB cJ cZ a n (0 : Int32) (65535 : Int32) (sG (sG t 10 (t.1 9)) 11 ((t.1 9) + (2 : Int32))) hz22) (aw_V (fun w h => mm h) k_ml_Parser_123 k_im_Parser_takePair k_se_Parser_takePair k_in_Parser k_cd_Parser_takePair) rfl (by decide +kernel) ⟨(Nat.le_of_ble_eq_true rfl), (Nat.le_of_ble_eq_true rfl)⟩ (q0 := 11) rfl rfl rfl rfl (Nat.le_of_ble_eq_true rfl) d_Parser_takeLength_22 ⟨(Nat.le_of_ble_eq_true rfl), (Nat.le_of_ble_eq_true rfl)⟩ (fun _ => ?_)
  refine J_istore_n X [(1, .int z22.1), (0, .ref (a 11))] d_Parser_takeLength_25 rfl (by decide) rfl ?_
  refine J_iload_n X d_Parser_takeLength_26 0 rfl rfl ?_
  refine J_iconst (v := (2 : Int32)) X d_Parser_takeLength_27 (by decide) ?_
  refine J_icmp_ge X 41 d_Parser_takeLength_28 (by decide) (fun c28 => ?_) (fun c28 => ?_)
  · rw [if_pos c28] at h
    refine J_lv [1, 0] [(0, .ref (a 11)), (1, .int z22.1)] rfl ?_
    exact L41  z22.1 z22.2 h
  · rw [if_neg c28] at h
    refine J_aload_n X d_Parser_takeLength_31 1 rfl rfl ?_
    refine J_iconst (v := (5 : Int32)) X d_Parser_takeLength_32 (by decide) ?_
    refine J_aload_n X d_Parser_takeLength_33 1 rfl rfl ?_
    refine J_get (v := .int (z22.2.1 10)) X (fun w h => mm (in_Parser w h)) 11 rfl rfl 6 (by decide) (mm k_fl_Parser_30) rfl rfl d_Parser_takeLength_34 ?_
    obtain ⟨z37, hz37, h⟩ := j_bind h
    refine J_callVi0 (n := 2) (wc := (wO cI cB cJ cZ a z22.2)) (r := z37.1) (w1 := fun _ : Unit => wO cI cB cJ cZ a z37.2) X isO (hCO cI cB cJ cZ a z22.2) (hDO cI cB cJ cZ a z22.2) rfl [.int (5 : Int32), .int (z22.2.1 10)] [] (ct_Parser_fail l dC dI cI cB cJ cZ a n (5 : Int32) (z22.2.1 10) z22.2 hz37) (aw_V (fun w h => mm h) k_ml_Parser_77 k_im_Parser_fail k_se_Parser_fail k_in_Parser k_cd_Parser_fail) rfl (by decide +kernel) ⟨(Nat.le_of_ble_eq_true rfl), (Nat.le_of_ble_eq_true rfl)⟩ (q0 := 11) rfl rfl rfl rfl (Nat.le_of_ble_eq_true rfl) d_Parser_takeLength_37 ⟨(Nat.le_of_ble_eq_true rfl), (Nat.le_of_ble_eq_true rfl)⟩ (fun _ => ?_)
    refine J_pop X d_Parser_takeLength_40 rfl ?_
    refine J_lv [1, 0] [(0, .ref (a 11)), (1, .int z22.1)] rfl ?_
    exact L41  z22.1 z37.2 h
set_option maxHeartbeats 4000000 in
set_option maxRecDepth 100000 in
theorem ct_Picture_setQuantisers (l : Launch) (dC : Nat → ClassId) (dI : Nat → Nat → Nat) (cI cB cJ cZ : ClassId) (a : Nat → Nat) (n : Nat) (x1 : Int32) (x2 : Int32) (t : St) {z : St} (h : m_Picture_setQuantisers n x1 x2 t = some z) : jMv l y_Picture_setQuantisers w_Picture_setQuantisers ({ frames := 0, cells := 0, slots := 0, locals := 0 }) (dC, dI) vwCl (tyA cI cB cJ cZ) [.ref (a 3), .int x1, .int x2] (wO cI cB cJ cZ a t) (fun _ : Unit => wO cI cB cJ cZ a z) := by
  refine jMv.of (cc := c_Picture_setQuantisers) (maxL := 3) (ret := none) (by decide) rfl (Nat.le_of_ble_eq_true rfl) ?_
  intro p e s m args below meth c A X hr hlk hnm
  refine J_lv [0, 1, 2] [(0, .ref (a 3)), (1, .int x1), (2, .int x2)] rfl ?_
  unfold m_Picture_setQuantisers at h
  refine J_iload_n X d_Picture_setQuantisers_0 1 rfl rfl ?_
  refine J_if_lt X 20 d_Picture_setQuantisers_1 (by decide) (fun c1 => ?_) (fun c1 => ?_)
  · rw [if_pos c1] at h
    exact J_vret X hr hlk () (Nat.le_of_ble_eq_true rfl) (Nat.le_of_ble_eq_true rfl) (congrArg (fun q => wO cI cB cJ cZ a q) (j_s h)) d_Picture_setQuantisers_20
  · rw [if_neg c1] at h
    refine J_iload_n X d_Picture_setQuantisers_4 1 rfl rfl ?_
    refine J_aload_n X d_Picture_setQuantisers_5 0 rfl rfl ?_
    refine J_get (v := .ref (a 9)) X (fun w h => mm (in_Picture w h)) 3 rfl rfl 4 (by decide) (mm k_fl_Picture_25) rfl rfl d_Picture_setQuantisers_6 ?_
    refine J_alen X 9 0 rfl rfl (v := (Int32.ofNat 4)) rfl d_Picture_setQuantisers_9 ?_
    refine J_icmp_ge X 20 d_Picture_setQuantisers_10 (by decide) (fun c10 => ?_) (fun c10 => ?_)
    · rw [if_pos c10] at h
      exact J_vret X hr hlk () (Nat.le_of_ble_eq_true rfl) (Nat.le_of_ble_eq_true rfl) (congrArg (fun q => wO cI cB cJ cZ a q) (j_s h)) d_Picture_setQuantisers_20
    · rw [if_neg c10] at h
      refine J_aload_n X d_Picture_setQuantisers_13 0 rfl rfl ?_
      refine J_get (v := .ref (a 9)) X (fun w h => mm (in_Picture w h)) 3 rfl rfl 4 (by decide) (mm k_fl_Picture_25) rfl rfl d_Picture_setQuantisers_14 ?_
      refine J_iload_n X d_Picture_setQuantisers_17 1 rfl rfl ?_
      refine J_iload_n X d_Picture_setQuantisers_18 2 rfl rfl ?_
      obtain ⟨b19, h⟩ := j_ifn h
      refine J_iast (f := (t.2.1 4)) X 9 0 rfl rfl b19 d_Picture_setQuantisers_19 (wO cI cB cJ cZ a (sH t 4 (x1).toNatClampNeg x2)) rfl ?_
      exact J_vret X hr hlk () (Nat.le_of_ble_eq_true rfl) (Nat.le_of_ble_eq_true rfl) (congrArg (fun q => wO cI cB cJ cZ a q) (j_s h)) d_Picture_setQuantisers_20
set_option maxHeartbeats 4000000 in
set_option maxRecDepth 100000 in
theorem ct_Parser_moreContents (l : Launch) (dC : Nat → ClassId) (dI : Nat → Nat → Nat) (cI cB cJ cZ : ClassId) (a : Nat → Nat) (n : Nat)  (t : St) {z : Int32 × St} (h : m_Parser_moreContents n t = some z) : jMi l y_Parser_moreContents w_Parser_moreContents ({ frames := 0, cells := 0, slots := 0, locals := 0 }) (dC, dI) vwCl (tyA cI cB cJ cZ) [.ref (a 11)] (wO cI cB cJ cZ a t) z.1 (fun _ : Unit => wO cI cB cJ cZ a z.2) := by
  refine jMi.of (cc := c_Parser_moreContents) (maxL := 1) (ret := (some .boolean)) (by decide) rfl (Nat.le_of_ble_eq_true rfl) ?_
  intro p e s m args below meth c A X hr hlk hnm
  have L22 : ∀  (t : St), m_Parser_moreContents_22 n   t = some z → J p l e { frames := 0, cells := 0, slots := 0, locals := 0 } s m args below meth c 1 (dC, dI) vwCl A (MQ below (jQi (dC, dI) vwCl (tyA cI cB cJ cZ) z.1 (fun _ : Unit => wO cI cB cJ cZ a z.2) A) args s 0 0 A) 0 0 22 [] [] (wO cI cB cJ cZ a t) := by
    intro  t h
    unfold m_Parser_moreContents_22 at h
    refine J_iconst (v := (0 : Int32)) X d_Parser_moreContents_22 (by decide) ?_
    exact J_zret X hr hlk () rfl (Nat.le_of_ble_eq_true rfl) (Nat.le_of_ble_eq_true rfl) (j_r1 h) (congrArg (fun q => wO cI cB cJ cZ a q) (j_r2 h)) d_Parser_moreContents_23
  refine J_lv [0] [(0, .ref (a 11))] rfl ?_
  unfold m_Parser_moreContents at h
  refine J_aload_n X d_Parser_moreContents_0 0 rfl rfl ?_
  refine J_get (v := .int (t.1 13)) X (fun w h => mm (in_Parser w h)) 11 rfl rfl 9 (by decide) (mm k_fl_Parser_40) rfl rfl d_Parser_moreContents_1 ?_
  refine J_if_ne X 22 d_Parser_moreContents_4 (by decide) (fun c4 => ?_) (fun c4 => ?_)
  · rw [if_neg c4] at h
    refine J_lv [] [] rfl ?_
    exact L22  t h
  · rw [if_pos c4] at h
    refine J_aload_n X d_Parser_moreContents_7 0 rfl rfl ?_
    refine J_get (v := .int (t.1 9)) X (fun w h => mm (in_Parser w h)) 11 rfl rfl 5 (by decide) (mm k_fl_Parser_26) rfl rfl d_Parser_moreContents_8 ?_
    refine J_aload_n X d_Parser_moreContents_11 0 rfl rfl ?_
    refine J_get (v := .int (t.1 11)) X (fun w h => mm (in_Parser w h)) 11 rfl rfl 7 (by decide) (mm k_fl_Parser_33) rfl rfl d_Parser_moreContents_12 ?_
    refine J_icmp_ge X 22 d_Parser_moreContents_15 (by decide) (fun c15 => ?_) (fun c15 => ?_)
    · rw [if_pos c15] at h
      refine J_lv [] [] rfl ?_
      exact L22  t h
    · rw [if_neg c15] at h
      refine J_iconst (v := (1 : Int32)) X d_Parser_moreContents_18 (by decide) ?_
      refine J_goto X 23 d_Parser_moreContents_19 (by decide) ?_
      exact J_zret X hr hlk () rfl (Nat.le_of_ble_eq_true rfl) (Nat.le_of_ble_eq_true rfl) (j_r1 h) (congrArg (fun q => wO cI cB cJ cZ a q) (j_r2 h)) d_Parser_moreContents_23
set_option maxHeartbeats 4000000 in
set_option maxRecDepth 100000 in
theorem ct_Parser_readQuantisers (l : Launch) (dC : Nat → ClassId) (dI : Nat → Nat → Nat) (cI cB cJ cZ : ClassId) (a : Nat → Nat) (n : Nat)  (t : St) {z : St} (h : m_Parser_readQuantisers n t = some z) : jMv l y_Parser_readQuantisers w_Parser_readQuantisers ({ frames := 2, cells := 0, slots := 0, locals := 45 }) (dC, dI) vwCl (tyA cI cB cJ cZ) [.ref (a 11)] (wO cI cB cJ cZ a t) (fun _ : Unit => wO cI cB cJ cZ a z) := by
  refine jMv.of (cc := c_Parser_readQuantisers) (maxL := 6) (ret := none) (by decide) rfl (Nat.le_of_ble_eq_true rfl) ?_
  intro p e s m args below meth c A X hr hlk hnm
  have L31 : ∀ (K4 : Int32 → Int32 → St → Option (St)) (hK4 : ∀ (x1 : Int32) (x2 : Int32) (t : St), K4 x1 x2 t = some z → J p l e { frames := 2, cells := 0, slots := 0, locals := 45 } s m args below meth c 6 (dC, dI) vwCl A (MQ below (jQv (dC, dI) vwCl (tyA cI cB cJ cZ) (fun _ : Unit => wO cI cB cJ cZ a z) A) args s 0 0 A) 0 0 4 [(0, .ref (a 11)), (1, .int x1), (2, .int x2)] [] (wO cI cB cJ cZ a t)) (k : Nat) (x2 : Int32) (x3 : Int32) (x4 : Int32) (x5 : Int32) (t : St), m_Parser_readQuantisers_31 n K4 k x2 x3 x4 x5 t = some z → J p l e { frames := 2, cells := 0, slots := 0, locals := 45 } s m args below meth c 6 (dC, dI) vwCl A (MQ below (jQv (dC, dI) vwCl (tyA cI cB cJ cZ) (fun _ : Unit => wO cI cB cJ cZ a z) A) args s 0 0 A) 0 0 31 [(0, .ref (a 11)), (2, .int x2), (3, .int x3), (4, .int x4), (5, .int x5)] [] (wO cI cB cJ cZ a t) := by
    intro K4 hK4 k
    induction k with
    | zero => intro x2 x3 x4 x5 t h; exact absurd (show none = some z from h) (by simp)
    | succ k ih =>
      intro x2 x3 x4 x5 t h
      change m_Parser_readQuantisers_31b n K4 (m_Parser_readQuantisers_31 n K4 k) x2 x3 x4 x5 t = some z at h
      unfold m_Parser_readQuantisers_31b at h
      refine J_iload X d_Parser_readQuantisers_31 4 rfl ?_
      refine J_bipush (v := (64 : Int32)) X d_Parser_readQuantisers_33 (by decide) ?_
      refine J_icmp_ge X 53 d_Parser_readQuantisers_35 (by decide) (fun c35 => ?_) (fun c35 => ?_)
      · rw [if_pos c35] at h
        refine J_aload_n X d_Parser_readQuantisers_53 0 rfl rfl ?_
        refine J_get (v := .ref (a 3)) X (fun w h => mm (in_Parser w h)) 11 rfl rfl 1 (by decide) (mm k_fl_Parser_50) rfl rfl d_Parser_readQuantisers_54 ?_
        refine J_iload_n X d_Parser_readQuantisers_57 2 rfl rfl ?_
        refine J_iload X d_Parser_readQuantisers_58 3 rfl ?_
        obtain ⟨z60, hz60, h⟩ := j_bind h
        refine J_callVv0 (n := 2) (wc := (wO cI cB cJ cZ a t)) (w1 := fun _ : Unit => wO cI cB cJ cZ a z60) X isO (hCO cI cB cJ cZ a t) (hDO cI cB cJ cZ a t) rfl [.int x3, .int x4] [] (ct_Picture_setQuantisers l dC dI cI cB cJ cZ a n x3 x4 t hz60) (aw_V (fun w h => mm h) k_ml_Parser_153 k_im_Picture_setQuantisers k_se_Picture_setQuantisers k_in_Picture k_cd_Picture_setQuantisers) rfl (by decide +kernel) ⟨(Nat.le_of_ble_eq_true rfl), (Nat.le_of_ble_eq_true rfl)⟩ (q0 := 3) rfl rfl rfl rfl (Nat.le_of_ble_eq_true rfl) d_Parser_readQuantisers_60 ⟨(Nat.le_of_ble_eq_true rfl), (Nat.le_of_ble_eq_true rfl)⟩ (fun _ => ?_)
        refine J_aload_n X d_Parser_readQuantisers_63 0 rfl rfl ?_
        obtain ⟨z64, hz64, h⟩ := j_bind h
        refine J_callVi0 (n := 0) (wc := (wO cI cB cJ cZ a z60)) (r := z64.1) (w1 := fun _ : Unit => wO cI cB cJ cZ a z64.2) X isO (hCO cI cB cJ cZ a z60) (hDO cI cB cJ cZ a z60) rfl [] [] (ct_Parser_moreContents l dC dI cI cB cJ cZ a n z60 hz64) (aw_V (fun w h => mm h) k_ml_Parser_156 k_im_Parser_moreContents k_se_Parser_moreContents k_in_Parser k_cd_Parser_moreContents) rfl (by decide +kernel) ⟨(Nat.le_of_ble_eq_true rfl), (Nat.le_of_ble_eq_true rfl)⟩ (q0 := 11) rfl rfl rfl rfl (Nat.le_of_ble_eq_true rfl) d_Parser_readQuantisers_64 ⟨(Nat.le_of_ble_eq_true rfl), (Nat.le_of_ble_eq_true rfl)⟩ (fun _ => ?_)
        refine J_istore_n X [(1, .int z64.1), (0, .ref (a 11)), (2, .int x2), (3, .int x3), (4, .int x4), (5, .int x5)] d_Parser_readQuantisers_67 rfl (by decide) rfl ?_
        refine J_iinc (v := (x2 + 1)) X [(2, .int (x2 + 1)), (1, .int z64.1), (0, .ref (a 11)), (3, .int x3), (4, .int x4), (5, .int x5)] d_Parser_readQuantisers_68 2 rfl rfl (by decide) rfl ?_
        refine J_goto X 4 d_Parser_readQuantisers_71 (by decide) ?_
        refine J_lv [2, 1, 0] [(0, .ref (a 11)), (1, .int z64.1), (2, .int (x2 + 1))] rfl ?_
        exact hK4 z64.1 (x2 + 1) z64.2 h
      · rw [if_neg c35] at h
        refine J_aload_n X d_Parser_readQuantisers_38 0 rfl rfl ?_
        refine J_iconst (v := (1 : Int32)) X d_Parser_readQuantisers_39 (by decide) ?_
        refine J_sipush (v := (255 : Int32)) X d_Parser_readQuantisers_40 (by decide) ?_
        obtain ⟨z43, hz43, h⟩ := j_bind h
        refine J_callVi0 (n := 2) (wc := (wO cI cB cJ cZ a t)) (r := z43.1) (w1 := fun _ : Unit => wO cI cB cJ cZ a z43.2) X isO (hCO cI cB cJ cZ a t) (hDO cI cB cJ cZ a t) rfl [.int (1 : Int32), .int (255 : Int32)] [] (ct_Parser_take l dC dI cI cB cJ cZ a n (1 : Int32) (255 : Int32) t hz43) (aw_V (fun w h => mm h) k_ml_Parser_147 k_im_Parser_take k_se_Parser_take k_in_Parser k_cd_Parser_take) rfl (by decide +kernel) ⟨(Nat.le_of_ble_eq_true rfl), (Nat.le_of_ble_eq_true rfl)⟩ (q0 := 11) rfl rfl rfl rfl (Nat.le_of_ble_eq_true rfl) d_Parser_readQuantisers_43 ⟨(Nat.le_of_ble_eq_true rfl), (Nat.le_of_ble_eq_true rfl)⟩ (fun _ => ?_)
        refine J_pop X d_Parser_readQuantisers_46 rfl ?_
        refine J_iinc (v := (x5 + 1)) X [(5, .int (x5 + 1)), (0, .ref (a 11)), (2, .int x2), (3, .int x3), (4, .int x4)] d_Parser_readQuantisers_47 4 rfl rfl (by decide) rfl ?_
        refine J_goto X 31 d_Parser_readQuantisers_50 (by decide) ?_
        refine J_lv [1, 2, 3, 4, 0] [(0, .ref (a 11)), (2, .int x2), (3, .int x3), (4, .int x4), (5, .int (x5 + 1))] rfl ?_
        exact ih x2 x3 x4 (x5 + 1) z43.2 h
  have L4 : ∀ (k : Nat) (x1 : Int32) (x2 : Int32) (t : St), m_Parser_readQuantisers_4 n  k x1 x2 t = some z → J p l e { frames := 2, cells := 0, slots := 0, locals := 45 } s m args below meth c 6 (dC, dI) vwCl A (MQ below (jQv (dC, dI) vwCl (tyA cI cB cJ cZ) (fun _ : Unit => wO cI cB cJ cZ a z) A) args s 0 0 A) 0 0 4 [(0, .ref (a 11)), (1, .int x1), (2, .int x2)] [] (wO cI cB cJ cZ a t) := by
    intro k
    induction k with
    | zero => intro x1 x2 t h; exact absurd (show none = some z from h) (by simp)
    | succ k ih =>
      intro x1 x2 t h
      change m_Parser_readQuantisers_4b n  (m_Parser_readQuantisers_4 n  k) x1 x2 t = some z at h
      unfold m_Parser_readQuantisers_4b at h
      refine J_iload_n X d_Parser_readQuantisers_4 2 rfl rfl ?_
      refine J_sipush (v := (16384 : Int32)) X d_Parser_readQuantisers_5 (by decide) ?_
      refine J_icmp_ge X 74 d_Parser_readQuantisers_8 (by decide) (fun c8 => ?_) (fun c8 => ?_)
      · rw [if_pos c8] at h
        exact J_vret X hr hlk () (Nat.le_of_ble_eq_true rfl) (Nat.le_of_ble_eq_true rfl) (congrArg (fun q => wO cI cB cJ cZ a q) (j_s h)) d_Parser_readQuantisers_74
      · rw [if_neg c8] at h
        refine J_iload_n X d_Parser_readQuantisers_11 1 rfl rfl ?_
        refine J_if_eq X 74 d_Parser_readQuantisers_12 (by decide) (fun c12 => ?_) (fun c12 => ?_)
        · rw [if_pos c12] at h
          exact J_vret X hr hlk () (Nat.le_of_ble_eq_true rfl) (Nat.le_of_ble_eq_true rfl) (congrArg (fun q => wO cI cB cJ cZ a q) (j_s h)) d_Parser_readQuantisers_74
        · rw [if_neg c12] at h
          refine J_aload_n X d_Parser_readQuantisers_15 0 rfl rfl ?_
          refine J_iconst (v := (0 : Int32)) X d_Parser_readQuantisers_16 (by decide) ?_
          refine J_iconst (v := (3 : Int32)) X d_Parser_readQuantisers_17 (by decide) ?_
          obtain ⟨z18, hz18, h⟩ := j_bind h
          refine J_callVi0 (n := 2) (wc := (wO cI cB cJ cZ a t)) (r := z18.1) (w1 := fun _ : Unit => wO cI cB cJ cZ a z18.2) X isO (hCO cI cB cJ cZ a t) (hDO cI cB cJ cZ a t) rfl [.int (0 : Int32), .int (3 : Int32)] [] (ct_Parser_take l dC dI cI cB cJ cZ a n (0 : Int32) (3 : Int32) t hz18) (aw_V (fun w h => mm h) k_ml_Parser_147 k_im_Parser_take k_se_Parser_take k_in_Parser k_cd_Parser_take) rfl (by decide +kernel) ⟨(Nat.le_of_ble_eq_true rfl), (Nat.le_of_ble_eq_true rfl)⟩ (q0 := 11) rfl rfl rfl rfl (Nat.le_of_ble_eq_true rfl) d_Parser_readQuantisers_18 ⟨(Nat.le_of_ble_eq_true rfl), (Nat.le_of_ble_eq_true rfl)⟩ (fun _ => ?_)
          refine J_istore_n X [(3, .int z18.1), (0, .ref (a 11)), (1, .int x1), (2, .int x2)] d_Parser_readQuantisers_21 rfl (by decide) rfl ?_
          refine J_aload_n X d_Parser_readQuantisers_22 1 rfl rfl ?_
          refine J_get (v := .int (z18.2.1 9)) X (fun w h => mm (in_Parser w h)) 11 rfl rfl 5 (by decide) (mm k_fl_Parser_26) rfl rfl d_Parser_readQuantisers_23 ?_
          refine J_istore X [(4, .int (z18.2.1 9)), (3, .int z18.1), (0, .ref (a 11)), (1, .int x1), (2, .int x2)] d_Parser_readQuantisers_26 (by decide) rfl ?_
          refine J_iconst (v := (0 : Int32)) X d_Parser_readQuantisers_28 (by decide) ?_
          refine J_istore X [(5, .int (0 : Int32)), (4, .int (z18.2.1 9)), (3, .int z18.1), (0, .ref (a 11)), (1, .int x1), (2, .int x2)] d_Parser_readQuantisers_29 (by decide) rfl ?_
          refine J_lv [3, 5, 2, 1, 0] [(0, .ref (a 11)), (2, .int x2), (3, .int z18.1), (4, .int (z18.2.1 9)), (5, .int (0 : Int32))] rfl ?_
          exact L31 (m_Parser_readQuantisers_4 n  k) ih n x2 z18.1 (z18.2.1 9) (0 : Int32) z18.2 h
  refine J_lv [0] [(0, .ref (a 11))] rfl ?_
  unfold m_Parser_readQuantisers at h
  refine J_iconst (v := (1 : Int32)) X d_Parser_readQuantisers_0 (by decide) ?_
  refine J_istore_n X [(1, .int (1 : Int32)), (0, .ref (a 11))] d_Parser_readQuantisers_1 rfl (by decide) rfl ?_
  refine J_iconst (v := (0 : Int32)) X d_Parser_readQuantisers_2 (by decide) ?_
  refine J_istore_n X [(2, .int (0 : Int32)), (1, .int (1 : Int32)), (0, .ref (a 11))] d_Parser_readQuantisers_3 rfl (by decide) rfl ?_
  refine J_lv [2, 1, 0] [(0, .ref (a 11)), (1, .int (1 : Int32)), (2, .int (0 : Int32))] rfl ?_
  exact L4  n (1 : Int32) (0 : Int32) t h
set_option maxHeartbeats 4000000 in
set_option maxRecDepth 100000 in
theorem ct_Parser_takeCounts (l : Launch) (dC : Nat → ClassId) (dI : Nat → Nat → Nat) (cI cB cJ cZ : ClassId) (a : Nat → Nat) (n : Nat)  (t : St) {z : Int32 × St} (h : m_Parser_takeCounts n t = some z) : jMi l y_Parser_takeCounts w_Parser_takeCounts ({ frames := 2, cells := 0, slots := 0, locals := 45 }) (dC, dI) vwCl (tyA cI cB cJ cZ) [.ref (a 11)] (wO cI cB cJ cZ a t) z.1 (fun _ : Unit => wO cI cB cJ cZ a z.2) := by
  refine jMi.of (cc := c_Parser_takeCounts) (maxL := 5) (ret := (some .int)) (by decide) rfl (Nat.le_of_ble_eq_true rfl) ?_
  intro p e s m args below meth c A X hr hlk hnm
  have L52 : ∀ (K6 : Int32 → Int32 → Int32 → St → Option (Int32 × St)) (hK6 : ∀ (x1 : Int32) (x2 : Int32) (x3 : Int32) (t : St), K6 x1 x2 x3 t = some z → J p l e { frames := 2, cells := 0, slots := 0, locals := 45 } s m args below meth c 5 (dC, dI) vwCl A (MQ below (jQi (dC, dI) vwCl (tyA cI cB cJ cZ) z.1 (fun _ : Unit => wO cI cB cJ cZ a z.2) A) args s 0 0 A) 0 0 6 [(0, .ref (a 11)), (1, .int x1), (2, .int x2), (3, .int x3)] [] (wO cI cB cJ cZ a t)) (x1 : Int32) (x2 : Int32) (x3 : Int32) (t : St), m_Parser_takeCounts_52 n K6 x1 x2 x3 t = some z → J p l e { frames := 2, cells := 0, slots := 0, locals := 45 } s m args below meth c 5 (dC, dI) vwCl A (MQ below (jQi (dC, dI) vwCl (tyA cI cB cJ cZ) z.1 (fun _ : Unit => wO cI cB cJ cZ a z.2) A) args s 0 0 A) 0 0 52 [(0, .ref (a 11)), (1, .int x1), (2, .int x2), (3, .int x3)] [] (wO cI cB cJ cZ a t) := by
    intro K6 hK6 x1 x2 x3 t h
    unfold m_Parser_takeCounts_52 at h
    refine J_iinc (v := (x3 + 1)) X [(3, .int (x3 + 1)), (0, .ref (a 11)), (1, .int x1), (2, .int x2)] d_Parser_takeCounts_52 3 rfl rfl (by decide) rfl ?_
    refine J_goto X 6 d_Parser_takeCounts_55 (by decide) ?_
    refine J_lv [1, 2, 3, 0] [(0, .ref (a 11)), (1, .int x1), (2, .int x2), (3, .int (x3 + 1))] rfl ?_
    exact hK6 x1 x2 (x3 + 1) t h
  have L48 : ∀ (K6 : Int32 → Int32 → Int32 → St → Option (Int32 × St)) (hK6 : ∀ (x1 : Int32) (x2 : Int32) (x3 : Int32) (t : St), K6 x1 x2 x3 t = some z → J p l e { frames := 2, cells := 0, slots := 0, locals := 45 } s m args below meth c 5 (dC, dI) vwCl A (MQ below (jQi (dC, dI) vwCl (tyA cI cB cJ cZ) z.1 (fun _ : Unit => wO cI cB cJ cZ a z.2) A) args s 0 0 A) 0 0 6 [(0, .ref (a 11)), (1, .int x1), (2, .int x2), (3, .int x3)] [] (wO cI cB cJ cZ a t)) (x1 : Int32) (x2 : Int32) (x3 : Int32) (t : St), m_Parser_takeCounts_48 n K6 x1 x2 x3 t = some z → J p l e { frames := 2, cells := 0, slots := 0, locals := 45 } s m args below meth c 5 (dC, dI) vwCl A (MQ below (jQi (dC, dI) vwCl (tyA cI cB cJ cZ) z.1 (fun _ : Unit => wO cI cB cJ cZ a z.2) A) args s 0 0 A) 0 0 48 [(0, .ref (a 11)), (1, .int x1), (2, .int x2), (3, .int x3)] [] (wO cI cB cJ cZ a t) := by
    intro K6 hK6 x1 x2 x3 t h
    unfold m_Parser_takeCounts_48 at h
    refine J_aload_n X d_Parser_takeCounts_48 0 rfl rfl ?_
    obtain ⟨z49, hz49, h⟩ := j_bind h
    refine J_callVv0 (n := 0) (wc := (wO cI cB cJ cZ a t)) (w1 := fun _ : Unit => wO cI cB cJ cZ a z49) X isO (hCO cI cB cJ cZ a t) (hDO cI cB cJ cZ a t) rfl [] [] (ct_Parser_refuseTaken l dC dI cI cB cJ cZ a n t hz49) (aw_V (fun w h => mm h) k_ml_Parser_150 k_im_Parser_refuseTaken k_se_Parser_refuseTaken k_in_Parser k_cd_Parser_refuseTaken) rfl (by decide +kernel) ⟨(Nat.le_of_ble_eq_true rfl), (Nat.le_of_ble_eq_true rfl)⟩ (q0 := 11) rfl rfl rfl rfl (Nat.le_of_ble_eq_true rfl) d_Parser_takeCounts_49 ⟨(Nat.le_of_ble_eq_true rfl), (Nat.le_of_ble_eq_true rfl)⟩ (fun _ => ?_)
    refine J_lv [0, 1, 2, 3] [(0, .ref (a 11)), (1, .int x1), (2, .int x2), (3, .int x3)] rfl ?_
    exact L52 K6 hK6 x1 x2 x3 z49 h
  have L6 : ∀ (k : Nat) (x1 : Int32) (x2 : Int32) (x3 : Int32) (t : St), m_Parser_takeCounts_6 n  k x1 x2 x3 t = some z → J p l e { frames := 2, cells := 0, slots := 0, locals := 45 } s m args below meth c 5 (dC, dI) vwCl A (MQ below (jQi (dC, dI) vwCl (tyA cI cB cJ cZ) z.1 (fun _ : Unit => wO cI cB cJ cZ a z.2) A) args s 0 0 A) 0 0 6 [(0, .ref (a 11)), (1, .int x1), (2, .int x2), (3, .int x3)] [] (wO cI cB cJ cZ a t) := by
    intro k
    induction k with
    | zero => intro x1 x2 x3 t h; exact absurd (show none = some z from h) (by simp)
    | succ k ih =>
      intro x1 x2 x3 t h
      change m_Parser_takeCounts_6b n  (m_Parser_takeCounts_6 n  k) x1 x2 x3 t = some z at h
      unfold m_Parser_takeCounts_6b at h
      refine J_iload_n X d_Parser_takeCounts_6 3 rfl rfl ?_
      refine J_bipush (v := (16 : Int32)) X d_Parser_takeCounts_7 (by decide) ?_
      refine J_icmp_gt X 58 d_Parser_takeCounts_9 (by decide) (fun c9 => ?_) (fun c9 => ?_)
      · rw [if_pos c9] at h
        refine J_iload_n X d_Parser_takeCounts_58 1 rfl rfl ?_
        refine J_if_ne X 66 d_Parser_takeCounts_59 (by decide) (fun c59 => ?_) (fun c59 => ?_)
        · rw [if_neg c59] at h
          refine J_iload_n X d_Parser_takeCounts_66 1 rfl rfl ?_
          exact J_iret X hr hlk () (Nat.le_of_ble_eq_true rfl) (Nat.le_of_ble_eq_true rfl) (j_r1 h) (congrArg (fun q => wO cI cB cJ cZ a q) (j_r2 h)) d_Parser_takeCounts_67
        · rw [if_pos c59] at h
          refine J_aload_n X d_Parser_takeCounts_62 0 rfl rfl ?_
          obtain ⟨z63, hz63, h⟩ := j_bind h
          refine J_callVv0 (n := 0) (wc := (wO cI cB cJ cZ a t)) (w1 := fun _ : Unit => wO cI cB cJ cZ a z63) X isO (hCO cI cB cJ cZ a t) (hDO cI cB cJ cZ a t) rfl [] [] (ct_Parser_refuseTaken l dC dI cI cB cJ cZ a n t hz63) (aw_V (fun w h => mm h) k_ml_Parser_150 k_im_Parser_refuseTaken k_se_Parser_refuseTaken k_in_Parser k_cd_Parser_refuseTaken) rfl (by decide +kernel) ⟨(Nat.le_of_ble_eq_true rfl), (Nat.le_of_ble_eq_true rfl)⟩ (q0 := 11) rfl rfl rfl rfl (Nat.le_of_ble_eq_true rfl) d_Parser_takeCounts_63 ⟨(Nat.le_of_ble_eq_true rfl), (Nat.le_of_ble_eq_true rfl)⟩ (fun _ => ?_)
          refine J_iload_n X d_Parser_takeCounts_66 1 rfl rfl ?_
          exact J_iret X hr hlk () (Nat.le_of_ble_eq_true rfl) (Nat.le_of_ble_eq_true rfl) (j_r1 h) (congrArg (fun q => wO cI cB cJ cZ a q) (j_r2 h)) d_Parser_takeCounts_67
      · rw [if_neg c9] at h
        refine J_aload_n X d_Parser_takeCounts_12 0 rfl rfl ?_
        refine J_iconst (v := (0 : Int32)) X d_Parser_takeCounts_13 (by decide) ?_
        refine J_sipush (v := (255 : Int32)) X d_Parser_takeCounts_14 (by decide) ?_
        obtain ⟨z17, hz17, h⟩ := j_bind h
        refine J_callVi0 (n := 2) (wc := (wO cI cB cJ cZ a t)) (r := z17.1) (w1 := fun _ : Unit => wO cI cB cJ cZ a z17.2) X isO (hCO cI cB cJ cZ a t) (hDO cI cB cJ cZ a t) rfl [.int (0 : Int32), .int (255 : Int32)] [] (ct_Parser_take l dC dI cI cB cJ cZ a n (0 : Int32) (255 : Int32) t hz17) (aw_V (fun w h => mm h) k_ml_Parser_147 k_im_Parser_take k_se_Parser_take k_in_Parser k_cd_Parser_take) rfl (by decide +kernel) ⟨(Nat.le_of_ble_eq_true rfl), (Nat.le_of_ble_eq_true rfl)⟩ (q0 := 11) rfl rfl rfl rfl (Nat.le_of_ble_eq_true rfl) d_Parser_takeCounts_17 ⟨(Nat.le_of_ble_eq_true rfl), (Nat.le_of_ble_eq_true rfl)⟩ (fun _ => ?_)
        refine J_istore X [(4, .int z17.1), (0, .ref (a 11)), (1, .int x1), (2, .int x2), (3, .int x3)] d_Parser_takeCounts_20 (by decide) rfl ?_
        refine J_iload_n X d_Parser_takeCounts_22 2 rfl rfl ?_
        refine J_iload X d_Parser_takeCounts_23 0 rfl ?_
        refine J_iadd X d_Parser_takeCounts_25 ?_
        refine J_istore_n X [(1, .int (x1 + z17.1)), (4, .int z17.1), (0, .ref (a 11)), (2, .int x2), (3, .int x3)] d_Parser_takeCounts_26 rfl (by decide) rfl ?_
        refine J_iconst (v := (2 : Int32)) X d_Parser_takeCounts_27 (by decide) ?_
        refine J_iload_n X d_Parser_takeCounts_28 3 rfl rfl ?_
        refine J_imul X d_Parser_takeCounts_29 ?_
        refine J_iload X d_Parser_takeCounts_30 1 rfl ?_
        refine J_iadd X d_Parser_takeCounts_32 ?_
        refine J_istore_n X [(2, .int (((2 : Int32) * x2) + z17.1)), (1, .int (x1 + z17.1)), (4, .int z17.1), (0, .ref (a 11)), (3, .int x3)] d_Parser_takeCounts_33 rfl (by decide) rfl ?_
        refine J_iload_n X d_Parser_takeCounts_34 1 rfl rfl ?_
        refine J_sipush (v := (256 : Int32)) X d_Parser_takeCounts_35 (by decide) ?_
        refine J_icmp_gt X 48 d_Parser_takeCounts_38 (by decide) (fun c38 => ?_) (fun c38 => ?_)
        · rw [if_pos c38] at h
          refine J_lv [3, 1, 0, 4] [(0, .ref (a 11)), (1, .int (x1 + z17.1)), (2, .int (((2 : Int32) * x2) + z17.1)), (3, .int x3)] rfl ?_
          exact L48 (m_Parser_takeCounts_6 n  k) ih (x1 + z17.1) (((2 : Int32) * x2) + z17.1) x3 z17.2 h
        · rw [if_neg c38] at h
          refine J_iload_n X d_Parser_takeCounts_41 0 rfl rfl ?_
          refine J_iconst (v := (1 : Int32)) X d_Parser_takeCounts_42 (by decide) ?_
          refine J_iload_n X d_Parser_takeCounts_43 4 rfl rfl ?_
          refine J_ishl X d_Parser_takeCounts_44 ?_
          refine J_icmp_lt X 52 d_Parser_takeCounts_45 (by decide) (fun c45 => ?_) (fun c45 => ?_)
          · rw [if_pos c45] at h
            refine J_lv [3, 1, 0, 4] [(0, .ref (a 11)), (1, .int (x1 + z17.1)), (2, .int (((2 : Int32) * x2) + z17.1)), (3, .int x3)] rfl ?_
            exact L52 (m_Parser_takeCounts_6 n  k) ih (x1 + z17.1) (((2 : Int32) * x2) + z17.1) x3 z17.2 h
          · rw [if_neg c45] at h
            refine J_lv [3, 1, 0, 4] [(0, .ref (a 11)), (1, .int (x1 + z17.1)), (2, .int (((2 : Int32) * x2) + z17.1)), (3, .int x3)] rfl ?_
            exact L48 (m_Parser_takeCounts_6 n  k) ih (x1 + z17.1) (((2 : Int32) * x2) + z17.1) x3 z17.2 h
  refine J_lv [0] [(0, .ref (a 11))] rfl ?_
  unfold m_Parser_takeCounts at h
  refine J_iconst (v := (0 : Int32)) X d_Parser_takeCounts_0 (by decide) ?_
  refine J_istore_n X [(1, .int (0 : Int32)), (0, .ref (a 11))] d_Parser_takeCounts_1 rfl (by decide) rfl ?_
  refine J_iconst (v := (0 : Int32)) X d_Parser_takeCounts_2 (by decide) ?_
  refine J_istore_n X [(2, .int (0 : Int32)), (1, .int (0 : Int32)), (0, .ref (a 11))] d_Parser_takeCounts_3 rfl (by decide) rfl ?_
  refine J_iconst (v := (1 : Int32)) X d_Parser_takeCounts_4 (by decide) ?_
  refine J_istore_n X [(3, .int (1 : Int32)), (2, .int (0 : Int32)), (1, .int (0 : Int32)), (0, .ref (a 11))] d_Parser_takeCounts_5 rfl (by decide) rfl ?_
  refine J_lv [3, 2, 1, 0] [(0, .ref (a 11)), (1, .int (0 : Int32)), (2, .int (0 : Int32)), (3, .int (1 : Int32))] rfl ?_
  exact L6  n (0 : Int32) (0 : Int32) (1 : Int32) t h
