set_option maxHeartbeats 4000000 in
set_option maxRecDepth 100000 in
theorem ct_Model_any (l : Launch) (dC : Nat → ClassId) (dI : Nat → Nat → Nat) (cI cB cJ cZ : ClassId) (a : Nat → Nat) (n : Nat)  (t : St) {z : St} (h : m_Model_any n t = some z) : jMv l y_Model_any w_Model_any ({ frames := 2, cells := 0, slots := 0, locals := 42 }) (dC, dI) vwCl (tyA cI cB cJ cZ) [.ref (a 0)] (wM cI cB cJ cZ a t) (fun _ : Unit => wM cI cB cJ cZ a z) := by
  refine jMv.of (cc := c_Model_any) (maxL := 2) (ret := none) (by decide) rfl (Nat.le_of_ble_eq_true rfl) ?_
  intro p e s m args below meth c A X hr hlk hnm
  have L0 : ∀ (k : Nat)  (t : St), m_Model_any_0 n  k  t = some z → J p l e { frames := 2, cells := 0, slots := 0, locals := 42 } s m args below meth c 2 (dC, dI) vwCl A (MQ below (jQv (dC, dI) vwCl (tyA cI cB cJ cZ) (fun _ : Unit => wM cI cB cJ cZ a z) A) args s 0 0 A) 0 0 0 [(0, .ref (a 0))] [] (wM cI cB cJ cZ a t) := by
    intro k
    induction k with
    | zero => intro  t h; exact absurd (show none = some z from h) (by simp)
    | succ k ih =>
      intro  t h
      change m_Model_any_0b n  (m_Model_any_0 n  k)  t = some z at h
      unfold m_Model_any_0b at h
      refine J_aload_n X d_Model_any_0 0 rfl rfl ?_
      refine J_get (v := .int (t.1 2)) X (fun w h => mm (in_Model w h)) 0 rfl rfl 3 (by decide) (mm k_fl_Model_107) rfl rfl d_Model_any_1 ?_
      refine J_if_ne X 26 d_Model_any_4 (by decide) (fun c4 => ?_) (fun c4 => ?_)
      · rw [if_neg c4] at h
        exact J_vret X hr hlk () (Nat.le_of_ble_eq_true rfl) (Nat.le_of_ble_eq_true rfl) (congrArg (fun q => wM cI cB cJ cZ a q) (j_s h)) d_Model_any_26
      · rw [if_pos c4] at h
        refine J_aload_n X d_Model_any_7 0 rfl rfl ?_
        refine J_get (v := .int (t.1 4)) X (fun w h => mm (in_Model w h)) 0 rfl rfl 5 (by decide) (mm k_fl_Model_113) rfl rfl d_Model_any_8 ?_
        refine J_aload_n X d_Model_any_11 0 rfl rfl ?_
        refine J_get (v := .int (t.1 5)) X (fun w h => mm (in_Model w h)) 0 rfl rfl 6 (by decide) (mm k_fl_Model_110) rfl rfl d_Model_any_12 ?_
        refine J_icmp_ge X 26 d_Model_any_15 (by decide) (fun c15 => ?_) (fun c15 => ?_)
        · rw [if_pos c15] at h
          exact J_vret X hr hlk () (Nat.le_of_ble_eq_true rfl) (Nat.le_of_ble_eq_true rfl) (congrArg (fun q => wM cI cB cJ cZ a q) (j_s h)) d_Model_any_26
        · rw [if_neg c15] at h
          refine J_aload_n X d_Model_any_18 0 rfl rfl ?_
          obtain ⟨z19, hz19, h⟩ := j_bind h
          refine J_callVi0 (n := 0) (wc := (wM cI cB cJ cZ a t)) (r := z19.1) (w1 := fun _ : Unit => wM cI cB cJ cZ a z19.2) X isM (hCM cI cB cJ cZ a t) (hDM cI cB cJ cZ a t) rfl [] [] (ct_Model_next l dC dI cI cB cJ cZ a n t hz19) (aw_V (fun w h => mm h) k_ml_Model_128 k_im_Model_next k_se_Model_next k_in_Model k_cd_Model_next) rfl (by decide +kernel) ⟨(Nat.le_of_ble_eq_true rfl), (Nat.le_of_ble_eq_true rfl)⟩ (q0 := 0) rfl rfl rfl rfl (Nat.le_of_ble_eq_true rfl) d_Model_any_19 ⟨(Nat.le_of_ble_eq_true rfl), (Nat.le_of_ble_eq_true rfl)⟩ (fun _ => ?_)
          refine J_istore_n X [(1, .int z19.1), (0, .ref (a 0))] d_Model_any_22 rfl (by decide) rfl ?_
          refine J_goto X 0 d_Model_any_23 (by decide) ?_
          refine J_lv [1] [(0, .ref (a 0))] rfl ?_
          exact ih z19.2 h
  refine J_lv [0] [(0, .ref (a 0))] rfl ?_
  unfold m_Model_any at h
  refine J_aload_n X d_Model_any_0 0 rfl rfl ?_
  refine J_get (v := .int (t.1 2)) X (fun w h => mm (in_Model w h)) 0 rfl rfl 3 (by decide) (mm k_fl_Model_107) rfl rfl d_Model_any_1 ?_
  refine J_if_ne X 26 d_Model_any_4 (by decide) (fun c4 => ?_) (fun c4 => ?_)
  · rw [if_neg c4] at h
    exact J_vret X hr hlk () (Nat.le_of_ble_eq_true rfl) (Nat.le_of_ble_eq_true rfl) (congrArg (fun q => wM cI cB cJ cZ a q) (j_s h)) d_Model_any_26
  · rw [if_pos c4] at h
    refine J_aload_n X d_Model_any_7 0 rfl rfl ?_
    refine J_get (v := .int (t.1 4)) X (fun w h => mm (in_Model w h)) 0 rfl rfl 5 (by decide) (mm k_fl_Model_113) rfl rfl d_Model_any_8 ?_
    refine J_aload_n X d_Model_any_11 0 rfl rfl ?_
    refine J_get (v := .int (t.1 5)) X (fun w h => mm (in_Model w h)) 0 rfl rfl 6 (by decide) (mm k_fl_Model_110) rfl rfl d_Model_any_12 ?_
    refine J_icmp_ge X 26 d_Model_any_15 (by decide) (fun c15 => ?_) (fun c15 => ?_)
    · rw [if_pos c15] at h
      exact J_vret X hr hlk () (Nat.le_of_ble_eq_true rfl) (Nat.le_of_ble_eq_true rfl) (congrArg (fun q => wM cI cB cJ cZ a q) (j_s h)) d_Model_any_26
    · rw [if_neg c15] at h
      refine J_aload_n X d_Model_any_18 0 rfl rfl ?_
      obtain ⟨z19, hz19, h⟩ := j_bind h
      refine J_callVi0 (n := 0) (wc := (wM cI cB cJ cZ a t)) (r := z19.1) (w1 := fun _ : Unit => wM cI cB cJ cZ a z19.2) X isM (hCM cI cB cJ cZ a t) (hDM cI cB cJ cZ a t) rfl [] [] (ct_Model_next l dC dI cI cB cJ cZ a n t hz19) (aw_V (fun w h => mm h) k_ml_Model_128 k_im_Model_next k_se_Model_next k_in_Model k_cd_Model_next) rfl (by decide +kernel) ⟨(Nat.le_of_ble_eq_true rfl), (Nat.le_of_ble_eq_true rfl)⟩ (q0 := 0) rfl rfl rfl rfl (Nat.le_of_ble_eq_true rfl) d_Model_any_19 ⟨(Nat.le_of_ble_eq_true rfl), (Nat.le_of_ble_eq_true rfl)⟩ (fun _ => ?_)
      refine J_istore_n X [(1, .int z19.1), (0, .ref (a 0))] d_Model_any_22 rfl (by decide) rfl ?_
      refine J_goto X 0 d_Model_any_23 (by decide) ?_
      refine J_lv [1] [(0, .ref (a 0))] rfl ?_
      exact L0  n z19.2 h
set_option maxHeartbeats 4000000 in
set_option maxRecDepth 100000 in
theorem ct_Model_close (l : Launch) (dC : Nat → ClassId) (dI : Nat → Nat → Nat) (cI cB cJ cZ : ClassId) (a : Nat → Nat) (n : Nat) (x1 : Int32) (t : St) {z : St} (h : m_Model_close n x1 t = some z) : jMv l y_Model_close w_Model_close ({ frames := 1, cells := 0, slots := 0, locals := 22 }) (dC, dI) vwCl (tyA cI cB cJ cZ) [.ref (a 0), .int x1] (wM cI cB cJ cZ a t) (fun _ : Unit => wM cI cB cJ cZ a z) := by
  refine jMv.of (cc := c_Model_close) (maxL := 3) (ret := none) (by decide) rfl (Nat.le_of_ble_eq_true rfl) ?_
  intro p e s m args below meth c A X hr hlk hnm
  have L28 : ∀ (x1 : Int32) (t : St), m_Model_close_28 n  x1 t = some z → J p l e { frames := 1, cells := 0, slots := 0, locals := 22 } s m args below meth c 3 (dC, dI) vwCl A (MQ below (jQv (dC, dI) vwCl (tyA cI cB cJ cZ) (fun _ : Unit => wM cI cB cJ cZ a z) A) args s 0 0 A) 0 0 28 [(0, .ref (a 0)), (1, .int x1)] [] (wM cI cB cJ cZ a t) := by
    intro x1 t h
    unfold m_Model_close_28 at h
    refine J_aload_n X d_Model_close_28 0 rfl rfl ?_
    refine J_get (v := .int (t.1 2)) X (fun w h => mm (in_Model w h)) 0 rfl rfl 3 (by decide) (mm k_fl_Model_107) rfl rfl d_Model_close_29 ?_
    refine J_if_ne X 104 d_Model_close_32 (by decide) (fun c32 => ?_) (fun c32 => ?_)
    · rw [if_neg c32] at h
      refine J_aload_n X d_Model_close_104 0 rfl rfl ?_
      refine J_iconst (v := (-1 : Int32)) X d_Model_close_105 (by decide) ?_
      refine J_put (ty := .int) (v := .int (-1 : Int32)) X (fun w h => mm (in_Model w h)) ty_Model tyk_Model nm_Model 0 rfl rfl 6 (by decide) (mm k_fl_Model_110) rfl rfl (by decide +kernel) rfl rfl (Nat.le_of_ble_eq_true rfl) d_Model_close_106 (wM cI cB cJ cZ a (sG t 5 (-1 : Int32))) rfl ?_
      exact J_vret X hr hlk () (Nat.le_of_ble_eq_true rfl) (Nat.le_of_ble_eq_true rfl) (congrArg (fun q => wM cI cB cJ cZ a q) (j_s h)) d_Model_close_109
    · rw [if_pos c32] at h
      refine J_iconst (v := (4 : Int32)) X d_Model_close_35 (by decide) ?_
      refine J_aload_n X d_Model_close_36 0 rfl rfl ?_
      refine J_get (v := .int (t.1 8)) X (fun w h => mm (in_Model w h)) 0 rfl rfl 9 (by decide) (mm k_fl_Model_83) rfl rfl d_Model_close_37 ?_
      refine J_imul X d_Model_close_40 ?_
      refine J_istore_n X [(2, .int ((4 : Int32) * (t.1 8))), (0, .ref (a 0)), (1, .int x1)] d_Model_close_41 rfl (by decide) rfl ?_
      refine J_aload_n X d_Model_close_42 1 rfl rfl ?_
      refine J_get (v := .ref (a 2)) X (fun w h => mm (in_Model w h)) 0 rfl rfl 10 (by decide) (mm k_fl_Model_17) rfl rfl d_Model_close_43 ?_
      refine J_iload_n X d_Model_close_46 0 rfl rfl ?_
      refine J_iload_n X d_Model_close_47 2 rfl rfl ?_
      obtain ⟨b48, h⟩ := j_ifn h
      refine J_iast (f := (t.2.1 1)) X 2 0 rfl rfl b48 d_Model_close_48 (wM cI cB cJ cZ a (sH t 1 (((4 : Int32) * (t.1 8))).toNatClampNeg x1)) rfl ?_
      refine J_aload_n X d_Model_close_49 1 rfl rfl ?_
      refine J_get (v := .ref (a 2)) X (fun w h => mm (in_Model w h)) 0 rfl rfl 10 (by decide) (mm k_fl_Model_17) rfl rfl d_Model_close_50 ?_
      refine J_iload_n X d_Model_close_53 0 rfl rfl ?_
      refine J_iconst (v := (1 : Int32)) X d_Model_close_54 (by decide) ?_
      refine J_iadd X d_Model_close_55 ?_
      refine J_aload_n X d_Model_close_56 1 rfl rfl ?_
      refine J_get (v := .int (t.1 6)) X (fun w h => mm (in_Model w h)) 0 rfl rfl 7 (by decide) (mm k_fl_Model_134) rfl rfl d_Model_close_57 ?_
      obtain ⟨w60, hw60, h⟩ := j_bind h
      refine J_to _ _ (wM cI cB cJ cZ a w60) rfl rfl (congrArg (fun q => wM cI cB cJ cZ a q) (j_s hw60)) ?_
      obtain ⟨b60, h⟩ := j_ifn h
      refine J_iast (f := (w60.2.1 1)) X 2 0 rfl rfl b60 d_Model_close_60 (wM cI cB cJ cZ a (sH w60 1 ((((4 : Int32) * (t.1 8)) + (1 : Int32))).toNatClampNeg (t.1 6))) rfl ?_
      refine J_aload_n X d_Model_close_61 1 rfl rfl ?_
      refine J_get (v := .ref (a 2)) X (fun w h => mm (in_Model w h)) 0 rfl rfl 10 (by decide) (mm k_fl_Model_17) rfl rfl d_Model_close_62 ?_
      refine J_iload_n X d_Model_close_65 0 rfl rfl ?_
      refine J_iconst (v := (2 : Int32)) X d_Model_close_66 (by decide) ?_
      refine J_iadd X d_Model_close_67 ?_
      refine J_aload_n X d_Model_close_68 1 rfl rfl ?_
      refine J_get (v := .int (w60.1 16)) X (fun w h => mm (in_Model w h)) 0 rfl rfl 35 (by decide) (mm k_fl_Model_131) rfl rfl d_Model_close_69 ?_
      refine J_iconst (v := (2 : Int32)) X d_Model_close_72 (by decide) ?_
      refine J_iadd X d_Model_close_73 ?_
      obtain ⟨w74, hw74, h⟩ := j_bind h
      refine J_to _ _ (wM cI cB cJ cZ a w74) rfl rfl (congrArg (fun q => wM cI cB cJ cZ a q) (j_s hw74)) ?_
      obtain ⟨b74, h⟩ := j_ifn h
      refine J_iast (f := (w74.2.1 1)) X 2 0 rfl rfl b74 d_Model_close_74 (wM cI cB cJ cZ a (sH w74 1 ((((4 : Int32) * (t.1 8)) + (2 : Int32))).toNatClampNeg ((w60.1 16) + (2 : Int32)))) rfl ?_
      refine J_aload_n X d_Model_close_75 1 rfl rfl ?_
      refine J_get (v := .ref (a 2)) X (fun w h => mm (in_Model w h)) 0 rfl rfl 10 (by decide) (mm k_fl_Model_17) rfl rfl d_Model_close_76 ?_
      refine J_iload_n X d_Model_close_79 0 rfl rfl ?_
      refine J_iconst (v := (3 : Int32)) X d_Model_close_80 (by decide) ?_
      refine J_iadd X d_Model_close_81 ?_
      refine J_aload_n X d_Model_close_82 1 rfl rfl ?_
      refine J_get (v := .int (w74.1 5)) X (fun w h => mm (in_Model w h)) 0 rfl rfl 6 (by decide) (mm k_fl_Model_110) rfl rfl d_Model_close_83 ?_
      refine J_aload_n X d_Model_close_86 1 rfl rfl ?_
      refine J_get (v := .int (w74.1 16)) X (fun w h => mm (in_Model w h)) 0 rfl rfl 35 (by decide) (mm k_fl_Model_131) rfl rfl d_Model_close_87 ?_
      refine J_isub X d_Model_close_90 ?_
      refine J_iconst (v := (2 : Int32)) X d_Model_close_91 (by decide) ?_
      refine J_isub X d_Model_close_92 ?_
      obtain ⟨w93, hw93, h⟩ := j_bind h
      refine J_to _ _ (wM cI cB cJ cZ a w93) rfl rfl (congrArg (fun q => wM cI cB cJ cZ a q) (j_s hw93)) ?_
      obtain ⟨b93, h⟩ := j_ifn h
      refine J_iast (f := (w93.2.1 1)) X 2 0 rfl rfl b93 d_Model_close_93 (wM cI cB cJ cZ a (sH w93 1 ((((4 : Int32) * (t.1 8)) + (3 : Int32))).toNatClampNeg (((w74.1 5) - (w74.1 16)) - (2 : Int32)))) rfl ?_
      refine J_aload_n X d_Model_close_94 1 rfl rfl ?_
      refine J_dup X d_Model_close_95 rfl ?_
      refine J_get (v := .int (w93.1 8)) X (fun w h => mm (in_Model w h)) 0 rfl rfl 9 (by decide) (mm k_fl_Model_83) rfl rfl d_Model_close_96 ?_
      refine J_iconst (v := (1 : Int32)) X d_Model_close_99 (by decide) ?_
      refine J_iadd X d_Model_close_100 ?_
      refine J_put (ty := .int) (v := .int ((w93.1 8) + (1 : Int32))) X (fun w h => mm (in_Model w h)) ty_Model tyk_Model nm_Model 0 rfl rfl 9 (by decide) (mm k_fl_Model_83) rfl rfl (by decide +kernel) rfl rfl (Nat.le_of_ble_eq_true rfl) d_Model_close_101 (wM cI cB cJ cZ a (sG (sH w93 1 ((((4 : Int32) * (t.1 8)) + (3 : Int32))).toNatClampNeg (((w74.1 5) - (w74.1 16)) - (2 : Int32))) 8 ((w93.1 8) + (1 : Int32)))) rfl ?_
      refine J_aload_n X d_Model_close_104 1 rfl rfl ?_
      refine J_iconst (v := (-1 : Int32)) X d_Model_close_105 (by decide) ?_
      refine J_put (ty := .int) (v := .int (-1 : Int32)) X (fun w h => mm (in_Model w h)) ty_Model tyk_Model nm_Model 0 rfl rfl 6 (by decide) (mm k_fl_Model_110) rfl rfl (by decide +kernel) rfl rfl (Nat.le_of_ble_eq_true rfl) d_Model_close_106 (wM cI cB cJ cZ a (sG (sG (sH w93 1 ((((4 : Int32) * (t.1 8)) + (3 : Int32))).toNatClampNeg (((w74.1 5) - (w74.1 16)) - (2 : Int32))) 8 ((w93.1 8) + (1 : Int32))) 5 (-1 : Int32))) rfl ?_
      exact J_vret X hr hlk () (Nat.le_of_ble_eq_true rfl) (Nat.le_of_ble_eq_true rfl) (congrArg (fun q => wM cI cB cJ cZ a q) (j_s h)) d_Model_close_109
  refine J_lv [0, 1] [(0, .ref (a 0)), (1, .int x1)] rfl ?_
  unfold m_Model_close at h
  refine J_aload_n X d_Model_close_0 0 rfl rfl ?_
  refine J_get (v := .int (t.1 2)) X (fun w h => mm (in_Model w h)) 0 rfl rfl 3 (by decide) (mm k_fl_Model_107) rfl rfl d_Model_close_1 ?_
  refine J_if_ne X 28 d_Model_close_4 (by decide) (fun c4 => ?_) (fun c4 => ?_)
  · rw [if_neg c4] at h
    refine J_lv [0, 1] [(0, .ref (a 0)), (1, .int x1)] rfl ?_
    exact L28  x1 t h
  · rw [if_pos c4] at h
    refine J_aload_n X d_Model_close_7 0 rfl rfl ?_
    refine J_get (v := .int (t.1 4)) X (fun w h => mm (in_Model w h)) 0 rfl rfl 5 (by decide) (mm k_fl_Model_113) rfl rfl d_Model_close_8 ?_
    refine J_aload_n X d_Model_close_11 0 rfl rfl ?_
    refine J_get (v := .int (t.1 5)) X (fun w h => mm (in_Model w h)) 0 rfl rfl 6 (by decide) (mm k_fl_Model_110) rfl rfl d_Model_close_12 ?_
    refine J_icmp_eq X 28 d_Model_close_15 (by decide) (fun c15 => ?_) (fun c15 => ?_)
    · rw [if_pos c15] at h
      refine J_lv [0, 1] [(0, .ref (a 0)), (1, .int x1)] rfl ?_
      exact L28  x1 t h
    · rw [if_neg c15] at h
      refine J_aload_n X d_Model_close_18 0 rfl rfl ?_
      refine J_iconst (v := (5 : Int32)) X d_Model_close_19 (by decide) ?_
      refine J_aload_n X d_Model_close_20 0 rfl rfl ?_
      refine J_get (v := .int (t.1 16)) X (fun w h => mm (in_Model w h)) 0 rfl rfl 35 (by decide) (mm k_fl_Model_131) rfl rfl d_Model_close_21 ?_
      obtain ⟨z24, hz24, h⟩ := j_bind h
      refine J_callVi0 (n := 2) (wc := (wM cI cB cJ cZ a t)) (r := z24.1) (w1 := fun _ : Unit => wM cI cB cJ cZ a z24.2) X isM (hCM cI cB cJ cZ a t) (hDM cI cB cJ cZ a t) rfl [.int (5 : Int32), .int (t.1 16)] [] (ct_Model_wrong l dC dI cI cB cJ cZ a n (5 : Int32) (t.1 16) t hz24) (aw_V (fun w h => mm h) k_ml_Model_120 k_im_Model_wrong k_se_Model_wrong k_in_Model k_cd_Model_wrong) rfl (by decide +kernel) ⟨(Nat.le_of_ble_eq_true rfl), (Nat.le_of_ble_eq_true rfl)⟩ (q0 := 0) rfl rfl rfl rfl (Nat.le_of_ble_eq_true rfl) d_Model_close_24 ⟨(Nat.le_of_ble_eq_true rfl), (Nat.le_of_ble_eq_true rfl)⟩ (fun _ => ?_)
      refine J_istore_n X [(2, .int z24.1), (0, .ref (a 0)), (1, .int x1)] d_Model_close_27 rfl (by decide) rfl ?_
      refine J_lv [1, 2] [(0, .ref (a 0)), (1, .int x1)] rfl ?_
      exact L28  x1 z24.2 h
set_option maxHeartbeats 4000000 in
set_option maxRecDepth 100000 in
theorem ct_Model_readData (l : Launch) (dC : Nat → ClassId) (dI : Nat → Nat → Nat) (cI cB cJ cZ : ClassId) (a : Nat → Nat) (n : Nat) (x1 : Int32) (t : St) {z : St} (h : m_Model_readData n x1 t = some z) : jMv l y_Model_readData w_Model_readData ({ frames := 2, cells := 0, slots := 0, locals := 42 }) (dC, dI) vwCl (tyA cI cB cJ cZ) [.ref (a 0), .int x1] (wM cI cB cJ cZ a t) (fun _ : Unit => wM cI cB cJ cZ a z) := by
  refine jMv.of (cc := c_Model_readData) (maxL := 8) (ret := none) (by decide) rfl (Nat.le_of_ble_eq_true rfl) ?_
  intro p e s m args below meth c A X hr hlk hnm
  have L163 : ∀ (x1 : Int32) (x2 : Int32) (y1 : Int32) (t : St), m_Model_readData_163 n  x1 x2 y1 t = some z → J p l e { frames := 2, cells := 0, slots := 0, locals := 42 } s m args below meth c 8 (dC, dI) vwCl A (MQ below (jQv (dC, dI) vwCl (tyA cI cB cJ cZ) (fun _ : Unit => wM cI cB cJ cZ a z) A) args s 0 0 A) 0 0 163 [(0, .ref (a 0)), (1, .int x1), (2, .int x2)] [.int y1, .ref (a 0)] (wM cI cB cJ cZ a t) := by
    intro x1 x2 y1 t h
    unfold m_Model_readData_163 at h
    refine J_put (ty := .int) (v := .int y1) X (fun w h => mm (in_Model w h)) ty_Model tyk_Model nm_Model 0 rfl rfl 5 (by decide) (mm k_fl_Model_113) rfl rfl (by decide +kernel) rfl rfl (Nat.le_of_ble_eq_true rfl) d_Model_readData_163 (wM cI cB cJ cZ a (sG t 4 y1)) rfl ?_
    refine J_aload_n X d_Model_readData_166 0 rfl rfl ?_
    refine J_get (v := .ref (a 13)) X (fun w h => mm (in_Model w h)) 0 rfl rfl 27 (by decide) (mm k_fl_Model_53) rfl rfl d_Model_readData_167 ?_
    refine J_iload_n X d_Model_readData_170 1 rfl rfl ?_
    refine J_bipush (v := (6 : Int32)) X d_Model_readData_171 (by decide) ?_
    refine J_iadd X d_Model_readData_173 ?_
    refine J_aload_n X d_Model_readData_174 0 rfl rfl ?_
    refine J_get (v := .int y1) X (fun w h => mm (in_Model w h)) 0 rfl rfl 5 (by decide) (mm k_fl_Model_113) rfl rfl d_Model_readData_175 ?_
    refine J_aload_n X d_Model_readData_178 0 rfl rfl ?_
    refine J_get (v := .ref (a 13)) X (fun w h => mm (in_Model w h)) 0 rfl rfl 27 (by decide) (mm k_fl_Model_53) rfl rfl d_Model_readData_179 ?_
    refine J_iload_n X d_Model_readData_182 1 rfl rfl ?_
    refine J_iconst (v := (5 : Int32)) X d_Model_readData_183 (by decide) ?_
    refine J_iadd X d_Model_readData_184 ?_
    obtain ⟨b185, h⟩ := j_ifn h
    refine J_iald (f := (t.2.1 12)) X 13 0 rfl rfl b185 d_Model_readData_185 ?_
    refine J_isub X d_Model_readData_186 ?_
    obtain ⟨b187, h⟩ := j_ifn h
    refine J_iast (f := (t.2.1 12)) X 13 0 rfl rfl b187 d_Model_readData_187 (wM cI cB cJ cZ a (sH (sG t 4 y1) 12 ((x1 + (6 : Int32))).toNatClampNeg (y1 - ((t.2.1 12) ((x1 + (5 : Int32))).toNatClampNeg)))) rfl ?_
    refine J_aload_n X d_Model_readData_188 0 rfl rfl ?_
    refine J_get (v := .ref (a 13)) X (fun w h => mm (in_Model w h)) 0 rfl rfl 27 (by decide) (mm k_fl_Model_53) rfl rfl d_Model_readData_189 ?_
    refine J_iload_n X d_Model_readData_192 1 rfl rfl ?_
    refine J_bipush (v := (7 : Int32)) X d_Model_readData_193 (by decide) ?_
    refine J_iadd X d_Model_readData_195 ?_
    refine J_iload_n X d_Model_readData_196 2 rfl rfl ?_
    obtain ⟨w197, hw197, h⟩ := j_bind h
    refine J_to _ _ (wM cI cB cJ cZ a w197) rfl rfl (congrArg (fun q => wM cI cB cJ cZ a q) (j_s hw197)) ?_
    obtain ⟨b197, h⟩ := j_ifn h
    refine J_iast (f := (w197.2.1 12)) X 13 0 rfl rfl b197 d_Model_readData_197 (wM cI cB cJ cZ a (sH w197 12 ((x1 + (7 : Int32))).toNatClampNeg x2)) rfl ?_
    refine J_aload_n X d_Model_readData_198 0 rfl rfl ?_
    refine J_dup X d_Model_readData_199 rfl ?_
    refine J_get (v := .int (w197.1 14)) X (fun w h => mm (in_Model w h)) 0 rfl rfl 26 (by decide) (mm k_fl_Model_101) rfl rfl d_Model_readData_200 ?_
    refine J_iconst (v := (1 : Int32)) X d_Model_readData_203 (by decide) ?_
    refine J_iadd X d_Model_readData_204 ?_
    refine J_put (ty := .int) (v := .int ((w197.1 14) + (1 : Int32))) X (fun w h => mm (in_Model w h)) ty_Model tyk_Model nm_Model 0 rfl rfl 26 (by decide) (mm k_fl_Model_101) rfl rfl (by decide +kernel) rfl rfl (Nat.le_of_ble_eq_true rfl) d_Model_readData_205 (wM cI cB cJ cZ a (sG (sH w197 12 ((x1 + (7 : Int32))).toNatClampNeg x2) 14 ((w197.1 14) + (1 : Int32)))) rfl ?_
    exact J_vret X hr hlk () (Nat.le_of_ble_eq_true rfl) (Nat.le_of_ble_eq_true rfl) (congrArg (fun q => wM cI cB cJ cZ a q) (j_s h)) d_Model_readData_208
  have L142 : ∀ (x1 : Int32) (x2 : Int32) (t : St), m_Model_readData_142 n  x1 x2 t = some z → J p l e { frames := 2, cells := 0, slots := 0, locals := 42 } s m args below meth c 8 (dC, dI) vwCl A (MQ below (jQv (dC, dI) vwCl (tyA cI cB cJ cZ) (fun _ : Unit => wM cI cB cJ cZ a z) A) args s 0 0 A) 0 0 142 [(0, .ref (a 0)), (1, .int x1), (2, .int x2)] [] (wM cI cB cJ cZ a t) := by
    intro x1 x2 t h
    unfold m_Model_readData_142 at h
    refine J_aload_n X d_Model_readData_142 0 rfl rfl ?_
    refine J_aload_n X d_Model_readData_143 0 rfl rfl ?_
    refine J_get (v := .int (t.1 2)) X (fun w h => mm (in_Model w h)) 0 rfl rfl 3 (by decide) (mm k_fl_Model_107) rfl rfl d_Model_readData_144 ?_
    refine J_if_ne X 159 d_Model_readData_147 (by decide) (fun c147 => ?_) (fun c147 => ?_)
    · rw [if_neg c147] at h
      refine J_aload_n X d_Model_readData_159 0 rfl rfl ?_
      refine J_get (v := .int (t.1 4)) X (fun w h => mm (in_Model w h)) 0 rfl rfl 5 (by decide) (mm k_fl_Model_113) rfl rfl d_Model_readData_160 ?_
      refine J_lv [0, 1, 2] [(0, .ref (a 0)), (1, .int x1), (2, .int x2)] rfl ?_
      exact L163  x1 x2 (t.1 4) t h
    · rw [if_pos c147] at h
      refine J_aload_n X d_Model_readData_150 0 rfl rfl ?_
      refine J_get (v := .int (t.1 4)) X (fun w h => mm (in_Model w h)) 0 rfl rfl 5 (by decide) (mm k_fl_Model_113) rfl rfl d_Model_readData_151 ?_
      refine J_iconst (v := (2 : Int32)) X d_Model_readData_154 (by decide) ?_
      refine J_isub X d_Model_readData_155 ?_
      refine J_goto X 163 d_Model_readData_156 (by decide) ?_
      refine J_lv [0, 1, 2] [(0, .ref (a 0)), (1, .int x1), (2, .int x2)] rfl ?_
      exact L163  x1 x2 ((t.1 4) - (2 : Int32)) t h
  have L139 : ∀ (K4 : Int32 → Int32 → Int32 → St → Option (St)) (hK4 : ∀ (x1 : Int32) (x2 : Int32) (x3 : Int32) (t : St), K4 x1 x2 x3 t = some z → J p l e { frames := 2, cells := 0, slots := 0, locals := 42 } s m args below meth c 8 (dC, dI) vwCl A (MQ below (jQv (dC, dI) vwCl (tyA cI cB cJ cZ) (fun _ : Unit => wM cI cB cJ cZ a z) A) args s 0 0 A) 0 0 4 [(0, .ref (a 0)), (1, .int x1), (2, .int x2), (3, .int x3)] [] (wM cI cB cJ cZ a t)) (x1 : Int32) (x2 : Int32) (x3 : Int32) (t : St), m_Model_readData_139 n K4 x1 x2 x3 t = some z → J p l e { frames := 2, cells := 0, slots := 0, locals := 42 } s m args below meth c 8 (dC, dI) vwCl A (MQ below (jQv (dC, dI) vwCl (tyA cI cB cJ cZ) (fun _ : Unit => wM cI cB cJ cZ a z) A) args s 0 0 A) 0 0 139 [(0, .ref (a 0)), (1, .int x1), (2, .int x2), (3, .int x3)] [] (wM cI cB cJ cZ a t) := by
    intro K4 hK4 x1 x2 x3 t h
    unfold m_Model_readData_139 at h
    refine J_goto X 4 d_Model_readData_139 (by decide) ?_
    refine J_lv [0, 1, 2, 3] [(0, .ref (a 0)), (1, .int x1), (2, .int x2), (3, .int x3)] rfl ?_
    exact hK4 x1 x2 x3 t h
  have L138 : ∀ (K4 : Int32 → Int32 → Int32 → St → Option (St)) (hK4 : ∀ (x1 : Int32) (x2 : Int32) (x3 : Int32) (t : St), K4 x1 x2 x3 t = some z → J p l e { frames := 2, cells := 0, slots := 0, locals := 42 } s m args below meth c 8 (dC, dI) vwCl A (MQ below (jQv (dC, dI) vwCl (tyA cI cB cJ cZ) (fun _ : Unit => wM cI cB cJ cZ a z) A) args s 0 0 A) 0 0 4 [(0, .ref (a 0)), (1, .int x1), (2, .int x2), (3, .int x3)] [] (wM cI cB cJ cZ a t)) (x1 : Int32) (x2 : Int32) (y0 : Int32) (t : St), m_Model_readData_138 n K4 x1 x2 y0 t = some z → J p l e { frames := 2, cells := 0, slots := 0, locals := 42 } s m args below meth c 8 (dC, dI) vwCl A (MQ below (jQv (dC, dI) vwCl (tyA cI cB cJ cZ) (fun _ : Unit => wM cI cB cJ cZ a z) A) args s 0 0 A) 0 0 138 [(0, .ref (a 0)), (1, .int x1), (2, .int x2)] [.int y0] (wM cI cB cJ cZ a t) := by
    intro K4 hK4 x1 x2 y0 t h
    unfold m_Model_readData_138 at h
    refine J_istore_n X [(3, .int y0), (0, .ref (a 0)), (1, .int x1), (2, .int x2)] d_Model_readData_138 rfl (by decide) rfl ?_
    refine J_lv [1, 2, 3, 0] [(0, .ref (a 0)), (1, .int x1), (2, .int x2), (3, .int y0)] rfl ?_
    exact L139 K4 hK4 x1 x2 y0 t h
  have L133 : ∀ (K4 : Int32 → Int32 → Int32 → St → Option (St)) (hK4 : ∀ (x1 : Int32) (x2 : Int32) (x3 : Int32) (t : St), K4 x1 x2 x3 t = some z → J p l e { frames := 2, cells := 0, slots := 0, locals := 42 } s m args below meth c 8 (dC, dI) vwCl A (MQ below (jQv (dC, dI) vwCl (tyA cI cB cJ cZ) (fun _ : Unit => wM cI cB cJ cZ a z) A) args s 0 0 A) 0 0 4 [(0, .ref (a 0)), (1, .int x1), (2, .int x2), (3, .int x3)] [] (wM cI cB cJ cZ a t)) (x1 : Int32) (x2 : Int32) (t : St), m_Model_readData_133 n K4 x1 x2 t = some z → J p l e { frames := 2, cells := 0, slots := 0, locals := 42 } s m args below meth c 8 (dC, dI) vwCl A (MQ below (jQv (dC, dI) vwCl (tyA cI cB cJ cZ) (fun _ : Unit => wM cI cB cJ cZ a z) A) args s 0 0 A) 0 0 133 [(0, .ref (a 0)), (1, .int x1), (2, .int x2)] [] (wM cI cB cJ cZ a t) := by
    intro K4 hK4 x1 x2 t h
    unfold m_Model_readData_133 at h
    refine J_iconst (v := (1 : Int32)) X d_Model_readData_133 (by decide) ?_
    refine J_goto X 138 d_Model_readData_134 (by decide) ?_
    refine J_lv [0, 1, 2] [(0, .ref (a 0)), (1, .int x1), (2, .int x2)] rfl ?_
    exact L138 K4 hK4 x1 x2 (1 : Int32) t h
  have L121 : ∀ (K4 : Int32 → Int32 → Int32 → St → Option (St)) (hK4 : ∀ (x1 : Int32) (x2 : Int32) (x3 : Int32) (t : St), K4 x1 x2 x3 t = some z → J p l e { frames := 2, cells := 0, slots := 0, locals := 42 } s m args below meth c 8 (dC, dI) vwCl A (MQ below (jQv (dC, dI) vwCl (tyA cI cB cJ cZ) (fun _ : Unit => wM cI cB cJ cZ a z) A) args s 0 0 A) 0 0 4 [(0, .ref (a 0)), (1, .int x1), (2, .int x2), (3, .int x3)] [] (wM cI cB cJ cZ a t)) (x1 : Int32) (x5 : Int32) (x6 : Int32) (y0 : Int32) (y1 : Int32) (t : St), m_Model_readData_121 n K4 x1 x5 x6 y0 y1 t = some z → J p l e { frames := 2, cells := 0, slots := 0, locals := 42 } s m args below meth c 8 (dC, dI) vwCl A (MQ below (jQv (dC, dI) vwCl (tyA cI cB cJ cZ) (fun _ : Unit => wM cI cB cJ cZ a z) A) args s 0 0 A) 0 0 121 [(0, .ref (a 0)), (1, .int x1), (5, .int x5), (6, .int x6)] [.int y1, .int y0] (wM cI cB cJ cZ a t) := by
    intro K4 hK4 x1 x5 x6 y0 y1 t h
    unfold m_Model_readData_121 at h
    refine J_iadd X d_Model_readData_121 ?_
    refine J_istore_n X [(2, .int (y0 + y1)), (0, .ref (a 0)), (1, .int x1), (5, .int x5), (6, .int x6)] d_Model_readData_122 rfl (by decide) rfl ?_
    refine J_iload X d_Model_readData_123 3 rfl ?_
    refine J_if_eq X 133 d_Model_readData_125 (by decide) (fun c125 => ?_) (fun c125 => ?_)
    · rw [if_pos c125] at h
      refine J_lv [1, 2, 0] [(0, .ref (a 0)), (1, .int x1), (2, .int (y0 + y1))] rfl ?_
      exact L133 K4 hK4 x1 (y0 + y1) t h
    · rw [if_neg c125] at h
      refine J_iload X d_Model_readData_128 4 rfl ?_
      refine J_if_eq X 137 d_Model_readData_130 (by decide) (fun c130 => ?_) (fun c130 => ?_)
      · rw [if_pos c130] at h
        refine J_iconst (v := (0 : Int32)) X d_Model_readData_137 (by decide) ?_
        refine J_lv [1, 2, 0] [(0, .ref (a 0)), (1, .int x1), (2, .int (y0 + y1))] rfl ?_
        exact L138 K4 hK4 x1 (y0 + y1) (0 : Int32) t h
      · rw [if_neg c130] at h
        refine J_lv [1, 2, 0] [(0, .ref (a 0)), (1, .int x1), (2, .int (y0 + y1))] rfl ?_
        exact L133 K4 hK4 x1 (y0 + y1) t h
  have L110 : ∀ (K4 : Int32 → Int32 → Int32 → St → Option (St)) (hK4 : ∀ (x1 : Int32) (x2 : Int32) (x3 : Int32) (t : St), K4 x1 x2 x3 t = some z → J p l e { frames := 2, cells := 0, slots := 0, locals := 42 } s m args below meth c 8 (dC, dI) vwCl A (MQ below (jQv (dC, dI) vwCl (tyA cI cB cJ cZ) (fun _ : Unit => wM cI cB cJ cZ a z) A) args s 0 0 A) 0 0 4 [(0, .ref (a 0)), (1, .int x1), (2, .int x2), (3, .int x3)] [] (wM cI cB cJ cZ a t)) (x1 : Int32) (x2 : Int32) (x5 : Int32) (x6 : Int32) (t : St), m_Model_readData_110 n K4 x1 x2 x5 x6 t = some z → J p l e { frames := 2, cells := 0, slots := 0, locals := 42 } s m args below meth c 8 (dC, dI) vwCl A (MQ below (jQv (dC, dI) vwCl (tyA cI cB cJ cZ) (fun _ : Unit => wM cI cB cJ cZ a z) A) args s 0 0 A) 0 0 110 [(0, .ref (a 0)), (1, .int x1), (2, .int x2), (5, .int x5), (6, .int x6)] [] (wM cI cB cJ cZ a t) := by
    intro K4 hK4 x1 x2 x5 x6 t h
    unfold m_Model_readData_110 at h
    refine J_iload_n X d_Model_readData_110 2 rfl rfl ?_
    refine J_iload X d_Model_readData_111 4 rfl ?_
    refine J_if_eq X 120 d_Model_readData_113 (by decide) (fun c113 => ?_) (fun c113 => ?_)
    · rw [if_pos c113] at h
      refine J_iconst (v := (0 : Int32)) X d_Model_readData_120 (by decide) ?_
      refine J_lv [0, 1, 3, 4] [(0, .ref (a 0)), (1, .int x1), (5, .int x5), (6, .int x6)] rfl ?_
      exact L121 K4 hK4 x1 x5 x6 x2 (0 : Int32) t h
    · rw [if_neg c113] at h
      refine J_iconst (v := (1 : Int32)) X d_Model_readData_116 (by decide) ?_
      refine J_goto X 121 d_Model_readData_117 (by decide) ?_
      refine J_lv [0, 1, 3, 4] [(0, .ref (a 0)), (1, .int x1), (5, .int x5), (6, .int x6)] rfl ?_
      exact L121 K4 hK4 x1 x5 x6 x2 (1 : Int32) t h
  have L97 : ∀ (K4 : Int32 → Int32 → Int32 → St → Option (St)) (hK4 : ∀ (x1 : Int32) (x2 : Int32) (x3 : Int32) (t : St), K4 x1 x2 x3 t = some z → J p l e { frames := 2, cells := 0, slots := 0, locals := 42 } s m args below meth c 8 (dC, dI) vwCl A (MQ below (jQv (dC, dI) vwCl (tyA cI cB cJ cZ) (fun _ : Unit => wM cI cB cJ cZ a z) A) args s 0 0 A) 0 0 4 [(0, .ref (a 0)), (1, .int x1), (2, .int x2), (3, .int x3)] [] (wM cI cB cJ cZ a t)) (x1 : Int32) (x2 : Int32) (x5 : Int32) (x6 : Int32) (t : St), m_Model_readData_97 n K4 x1 x2 x5 x6 t = some z → J p l e { frames := 2, cells := 0, slots := 0, locals := 42 } s m args below meth c 8 (dC, dI) vwCl A (MQ below (jQv (dC, dI) vwCl (tyA cI cB cJ cZ) (fun _ : Unit => wM cI cB cJ cZ a z) A) args s 0 0 A) 0 0 97 [(0, .ref (a 0)), (1, .int x1), (2, .int x2), (5, .int x5), (6, .int x6)] [] (wM cI cB cJ cZ a t) := by
    intro K4 hK4 x1 x2 x5 x6 t h
    unfold m_Model_readData_97 at h
    refine J_aload_n X d_Model_readData_97 0 rfl rfl ?_
    refine J_iconst (v := (4 : Int32)) X d_Model_readData_98 (by decide) ?_
    refine J_aload_n X d_Model_readData_99 0 rfl rfl ?_
    refine J_get (v := .int (t.1 4)) X (fun w h => mm (in_Model w h)) 0 rfl rfl 5 (by decide) (mm k_fl_Model_113) rfl rfl d_Model_readData_100 ?_
    refine J_iconst (v := (1 : Int32)) X d_Model_readData_103 (by decide) ?_
    refine J_isub X d_Model_readData_104 ?_
    obtain ⟨z105, hz105, h⟩ := j_bind h
    refine J_callVi0 (n := 2) (wc := (wM cI cB cJ cZ a t)) (r := z105.1) (w1 := fun _ : Unit => wM cI cB cJ cZ a z105.2) X isM (hCM cI cB cJ cZ a t) (hDM cI cB cJ cZ a t) rfl [.int (4 : Int32), .int ((t.1 4) - (1 : Int32))] [] (ct_Model_wrong l dC dI cI cB cJ cZ a n (4 : Int32) ((t.1 4) - (1 : Int32)) t hz105) (aw_V (fun w h => mm h) k_ml_Model_120 k_im_Model_wrong k_se_Model_wrong k_in_Model k_cd_Model_wrong) rfl (by decide +kernel) ⟨(Nat.le_of_ble_eq_true rfl), (Nat.le_of_ble_eq_true rfl)⟩ (q0 := 0) rfl rfl rfl rfl (Nat.le_of_ble_eq_true rfl) d_Model_readData_105 ⟨(Nat.le_of_ble_eq_true rfl), (Nat.le_of_ble_eq_true rfl)⟩ (fun _ => ?_)
    refine J_istore X [(7, .int z105.1), (0, .ref (a 0)), (1, .int x1), (2, .int x2), (5, .int x5), (6, .int x6)] d_Model_readData_108 (by decide) rfl ?_
    refine J_lv [1, 2, 3, 4, 5] [(0, .ref (a 0)), (1, .int x1), (2, .int x2), (5, .int x5), (6, .int x6)] rfl ?_
    exact L110 K4 hK4 x1 x2 x5 x6 z105.2 h
  have L63 : ∀ (K4 : Int32 → Int32 → Int32 → St → Option (St)) (hK4 : ∀ (x1 : Int32) (x2 : Int32) (x3 : Int32) (t : St), K4 x1 x2 x3 t = some z → J p l e { frames := 2, cells := 0, slots := 0, locals := 42 } s m args below meth c 8 (dC, dI) vwCl A (MQ below (jQv (dC, dI) vwCl (tyA cI cB cJ cZ) (fun _ : Unit => wM cI cB cJ cZ a z) A) args s 0 0 A) 0 0 4 [(0, .ref (a 0)), (1, .int x1), (2, .int x2), (3, .int x3)] [] (wM cI cB cJ cZ a t)) (x1 : Int32) (x2 : Int32) (x5 : Int32) (y0 : Int32) (t : St), m_Model_readData_63 n K4 x1 x2 x5 y0 t = some z → J p l e { frames := 2, cells := 0, slots := 0, locals := 42 } s m args below meth c 8 (dC, dI) vwCl A (MQ below (jQv (dC, dI) vwCl (tyA cI cB cJ cZ) (fun _ : Unit => wM cI cB cJ cZ a z) A) args s 0 0 A) 0 0 63 [(0, .ref (a 0)), (1, .int x1), (2, .int x2), (5, .int x5)] [.int y0] (wM cI cB cJ cZ a t) := by
    intro K4 hK4 x1 x2 x5 y0 t h
    unfold m_Model_readData_63 at h
    refine J_istore X [(6, .int y0), (0, .ref (a 0)), (1, .int x1), (2, .int x2), (5, .int x5)] d_Model_readData_63 (by decide) rfl ?_
    refine J_aload_n X d_Model_readData_65 1 rfl rfl ?_
    refine J_get (v := .int (t.1 2)) X (fun w h => mm (in_Model w h)) 0 rfl rfl 3 (by decide) (mm k_fl_Model_107) rfl rfl d_Model_readData_66 ?_
    refine J_if_ne X 110 d_Model_readData_69 (by decide) (fun c69 => ?_) (fun c69 => ?_)
    · rw [if_neg c69] at h
      refine J_lv [1, 2, 3, 4, 0] [(0, .ref (a 0)), (1, .int x1), (2, .int x2), (5, .int x5), (6, .int y0)] rfl ?_
      exact L110 K4 hK4 x1 x2 x5 y0 t h
    · rw [if_pos c69] at h
      refine J_iload X d_Model_readData_72 0 rfl ?_
      refine J_if_eq X 110 d_Model_readData_74 (by decide) (fun c74 => ?_) (fun c74 => ?_)
      · rw [if_pos c74] at h
        refine J_lv [1, 2, 3, 4, 0] [(0, .ref (a 0)), (1, .int x1), (2, .int x2), (5, .int x5), (6, .int y0)] rfl ?_
        exact L110 K4 hK4 x1 x2 x5 y0 t h
      · rw [if_neg c74] at h
        refine J_aload_n X d_Model_readData_77 1 rfl rfl ?_
        refine J_get (v := .int (t.1 13)) X (fun w h => mm (in_Model w h)) 0 rfl rfl 19 (by decide) (mm k_fl_Model_98) rfl rfl d_Model_readData_78 ?_
        refine J_if_eq X 97 d_Model_readData_81 (by decide) (fun c81 => ?_) (fun c81 => ?_)
        · rw [if_pos c81] at h
          refine J_lv [1, 2, 3, 4, 0] [(0, .ref (a 0)), (1, .int x1), (2, .int x2), (5, .int x5), (6, .int y0)] rfl ?_
          exact L97 K4 hK4 x1 x2 x5 y0 t h
        · rw [if_neg c81] at h
          refine J_iload X d_Model_readData_84 4 rfl ?_
          refine J_sipush (v := (208 : Int32)) X d_Model_readData_86 (by decide) ?_
          refine J_iload_n X d_Model_readData_89 3 rfl rfl ?_
          refine J_bipush (v := (8 : Int32)) X d_Model_readData_90 (by decide) ?_
          refine J_irem X d_Model_readData_92 (by decide) ?_
          refine J_iadd X d_Model_readData_93 ?_
          refine J_icmp_eq X 110 d_Model_readData_94 (by decide) (fun c94 => ?_) (fun c94 => ?_)
          · rw [if_pos c94] at h
            refine J_lv [1, 2, 3, 4, 0] [(0, .ref (a 0)), (1, .int x1), (2, .int x2), (5, .int x5), (6, .int y0)] rfl ?_
            exact L110 K4 hK4 x1 x2 x5 y0 t h
          · rw [if_neg c94] at h
            refine J_lv [1, 2, 3, 4, 0] [(0, .ref (a 0)), (1, .int x1), (2, .int x2), (5, .int x5), (6, .int y0)] rfl ?_
            exact L97 K4 hK4 x1 x2 x5 y0 t h
  have L62 : ∀ (K4 : Int32 → Int32 → Int32 → St → Option (St)) (hK4 : ∀ (x1 : Int32) (x2 : Int32) (x3 : Int32) (t : St), K4 x1 x2 x3 t = some z → J p l e { frames := 2, cells := 0, slots := 0, locals := 42 } s m args below meth c 8 (dC, dI) vwCl A (MQ below (jQv (dC, dI) vwCl (tyA cI cB cJ cZ) (fun _ : Unit => wM cI cB cJ cZ a z) A) args s 0 0 A) 0 0 4 [(0, .ref (a 0)), (1, .int x1), (2, .int x2), (3, .int x3)] [] (wM cI cB cJ cZ a t)) (x1 : Int32) (x2 : Int32) (x5 : Int32) (t : St), m_Model_readData_62 n K4 x1 x2 x5 t = some z → J p l e { frames := 2, cells := 0, slots := 0, locals := 42 } s m args below meth c 8 (dC, dI) vwCl A (MQ below (jQv (dC, dI) vwCl (tyA cI cB cJ cZ) (fun _ : Unit => wM cI cB cJ cZ a z) A) args s 0 0 A) 0 0 62 [(0, .ref (a 0)), (1, .int x1), (2, .int x2), (5, .int x5)] [] (wM cI cB cJ cZ a t) := by
    intro K4 hK4 x1 x2 x5 t h
    unfold m_Model_readData_62 at h
    refine J_iconst (v := (0 : Int32)) X d_Model_readData_62 (by decide) ?_
    refine J_lv [0, 1, 2, 3] [(0, .ref (a 0)), (1, .int x1), (2, .int x2), (5, .int x5)] rfl ?_
    exact L63 K4 hK4 x1 x2 x5 (0 : Int32) t h
  have L4 : ∀ (k : Nat) (x1 : Int32) (x2 : Int32) (x3 : Int32) (t : St), m_Model_readData_4 n  k x1 x2 x3 t = some z → J p l e { frames := 2, cells := 0, slots := 0, locals := 42 } s m args below meth c 8 (dC, dI) vwCl A (MQ below (jQv (dC, dI) vwCl (tyA cI cB cJ cZ) (fun _ : Unit => wM cI cB cJ cZ a z) A) args s 0 0 A) 0 0 4 [(0, .ref (a 0)), (1, .int x1), (2, .int x2), (3, .int x3)] [] (wM cI cB cJ cZ a t) := by
    intro k
    induction k with
    | zero => intro x1 x2 x3 t h; exact absurd (show none = some z from h) (by simp)
    | succ k ih =>
      intro x1 x2 x3 t h
      change m_Model_readData_4b n  (m_Model_readData_4 n  k) x1 x2 x3 t = some z at h
      unfold m_Model_readData_4b at h
      refine J_iload_n X d_Model_readData_4 3 rfl rfl ?_
      refine J_if_eq X 142 d_Model_readData_5 (by decide) (fun c5 => ?_) (fun c5 => ?_)
      · rw [if_pos c5] at h
        refine J_lv [0, 1, 2] [(0, .ref (a 0)), (1, .int x1), (2, .int x2)] rfl ?_
        exact L142  x1 x2 t h
      · rw [if_neg c5] at h
        refine J_aload_n X d_Model_readData_8 0 rfl rfl ?_
        refine J_get (v := .int (t.1 2)) X (fun w h => mm (in_Model w h)) 0 rfl rfl 3 (by decide) (mm k_fl_Model_107) rfl rfl d_Model_readData_9 ?_
        refine J_if_ne X 142 d_Model_readData_12 (by decide) (fun c12 => ?_) (fun c12 => ?_)
        · rw [if_neg c12] at h
          refine J_lv [0, 1, 2] [(0, .ref (a 0)), (1, .int x1), (2, .int x2)] rfl ?_
          exact L142  x1 x2 t h
        · rw [if_pos c12] at h
          refine J_aload_n X d_Model_readData_15 0 rfl rfl ?_
          obtain ⟨z16, hz16, h⟩ := j_bind h
          refine J_callVi0 (n := 0) (wc := (wM cI cB cJ cZ a t)) (r := z16.1) (w1 := fun _ : Unit => wM cI cB cJ cZ a z16.2) X isM (hCM cI cB cJ cZ a t) (hDM cI cB cJ cZ a t) rfl [] [] (ct_Model_next l dC dI cI cB cJ cZ a n t hz16) (aw_V (fun w h => mm h) k_ml_Model_128 k_im_Model_next k_se_Model_next k_in_Model k_cd_Model_next) rfl (by decide +kernel) ⟨(Nat.le_of_ble_eq_true rfl), (Nat.le_of_ble_eq_true rfl)⟩ (q0 := 0) rfl rfl rfl rfl (Nat.le_of_ble_eq_true rfl) d_Model_readData_16 ⟨(Nat.le_of_ble_eq_true rfl), (Nat.le_of_ble_eq_true rfl)⟩ (fun _ => ?_)
          refine J_istore X [(4, .int z16.1), (0, .ref (a 0)), (1, .int x1), (2, .int x2), (3, .int x3)] d_Model_readData_19 (by decide) rfl ?_
          refine J_aload_n X d_Model_readData_21 1 rfl rfl ?_
          refine J_get (v := .int (z16.2.1 2)) X (fun w h => mm (in_Model w h)) 0 rfl rfl 3 (by decide) (mm k_fl_Model_107) rfl rfl d_Model_readData_22 ?_
          refine J_if_ne X 139 d_Model_readData_25 (by decide) (fun c25 => ?_) (fun c25 => ?_)
          · rw [if_neg c25] at h
            refine J_lv [1, 2, 3, 4] [(0, .ref (a 0)), (1, .int x1), (2, .int x2), (3, .int x3)] rfl ?_
            exact L139 (m_Model_readData_4 n  k) ih x1 x2 x3 z16.2 h
          · rw [if_pos c25] at h
            refine J_iload X d_Model_readData_28 0 rfl ?_
            refine J_sipush (v := (255 : Int32)) X d_Model_readData_30 (by decide) ?_
            refine J_icmp_ne X 139 d_Model_readData_33 (by decide) (fun c33 => ?_) (fun c33 => ?_)
            · rw [if_neg c33] at h
              refine J_lv [1, 2, 3, 4] [(0, .ref (a 0)), (1, .int x1), (2, .int x2), (3, .int x3)] rfl ?_
              exact L139 (m_Model_readData_4 n  k) ih x1 x2 x3 z16.2 h
            · rw [if_pos c33] at h
              refine J_aload_n X d_Model_readData_36 1 rfl rfl ?_
              obtain ⟨z37, hz37, h⟩ := j_bind h
              refine J_callVi0 (n := 0) (wc := (wM cI cB cJ cZ a z16.2)) (r := z37.1) (w1 := fun _ : Unit => wM cI cB cJ cZ a z37.2) X isM (hCM cI cB cJ cZ a z16.2) (hDM cI cB cJ cZ a z16.2) rfl [] [] (ct_Model_next l dC dI cI cB cJ cZ a n z16.2 hz37) (aw_V (fun w h => mm h) k_ml_Model_128 k_im_Model_next k_se_Model_next k_in_Model k_cd_Model_next) rfl (by decide +kernel) ⟨(Nat.le_of_ble_eq_true rfl), (Nat.le_of_ble_eq_true rfl)⟩ (q0 := 0) rfl rfl rfl rfl (Nat.le_of_ble_eq_true rfl) d_Model_readData_37 ⟨(Nat.le_of_ble_eq_true rfl), (Nat.le_of_ble_eq_true rfl)⟩ (fun _ => ?_)
              refine J_istore X [(5, .int z37.1), (4, .int z16.1), (0, .ref (a 0)), (1, .int x1), (2, .int x2), (3, .int x3)] d_Model_readData_40 (by decide) rfl ?_
              refine J_iload X d_Model_readData_42 0 rfl ?_
              refine J_sipush (v := (208 : Int32)) X d_Model_readData_44 (by decide) ?_
              refine J_icmp_lt X 62 d_Model_readData_47 (by decide) (fun c47 => ?_) (fun c47 => ?_)
              · rw [if_pos c47] at h
                refine J_lv [2, 3, 4, 0] [(0, .ref (a 0)), (1, .int x1), (2, .int x2), (5, .int z37.1)] rfl ?_
                exact L62 (m_Model_readData_4 n  k) ih x1 x2 z37.1 z37.2 h
              · rw [if_neg c47] at h
                refine J_iload X d_Model_readData_50 0 rfl ?_
                refine J_sipush (v := (215 : Int32)) X d_Model_readData_52 (by decide) ?_
                refine J_icmp_gt X 62 d_Model_readData_55 (by decide) (fun c55 => ?_) (fun c55 => ?_)
                · rw [if_pos c55] at h
                  refine J_lv [2, 3, 4, 0] [(0, .ref (a 0)), (1, .int x1), (2, .int x2), (5, .int z37.1)] rfl ?_
                  exact L62 (m_Model_readData_4 n  k) ih x1 x2 z37.1 z37.2 h
                · rw [if_neg c55] at h
                  refine J_iconst (v := (1 : Int32)) X d_Model_readData_58 (by decide) ?_
                  refine J_goto X 63 d_Model_readData_59 (by decide) ?_
                  refine J_lv [2, 3, 4, 0] [(0, .ref (a 0)), (1, .int x1), (2, .int x2), (5, .int z37.1)] rfl ?_
                  exact L63 (m_Model_readData_4 n  k) ih x1 x2 z37.1 (1 : Int32) z37.2 h
  refine J_lv [0, 1] [(0, .ref (a 0)), (1, .int x1)] rfl ?_
  unfold m_Model_readData at h
  refine J_iconst (v := (0 : Int32)) X d_Model_readData_0 (by decide) ?_
  refine J_istore_n X [(2, .int (0 : Int32)), (0, .ref (a 0)), (1, .int x1)] d_Model_readData_1 rfl (by decide) rfl ?_
  refine J_iconst (v := (1 : Int32)) X d_Model_readData_2 (by decide) ?_
  refine J_istore_n X [(3, .int (1 : Int32)), (2, .int (0 : Int32)), (0, .ref (a 0)), (1, .int x1)] d_Model_readData_3 rfl (by decide) rfl ?_
  refine J_lv [2, 3, 1, 0] [(0, .ref (a 0)), (1, .int x1), (2, .int (0 : Int32)), (3, .int (1 : Int32))] rfl ?_
  exact L4  n x1 (0 : Int32) (1 : Int32) t h
set_option maxHeartbeats 4000000 in
set_option maxRecDepth 100000 in
theorem ct_Model_keepScan (l : Launch) (dC : Nat → ClassId) (dI : Nat → Nat → Nat) (cI cB cJ cZ : ClassId) (a : Nat → Nat) (n : Nat)  (t : St) {z : St} (h : m_Model_keepScan n t = some z) : jMv l y_Model_keepScan w_Model_keepScan ({ frames := 3, cells := 0, slots := 0, locals := 69 }) (dC, dI) vwCl (tyA cI cB cJ cZ) [.ref (a 0)] (wM cI cB cJ cZ a t) (fun _ : Unit => wM cI cB cJ cZ a z) := by
  refine jMv.of (cc := c_Model_keepScan) (maxL := 4) (ret := none) (by decide) rfl (Nat.le_of_ble_eq_true rfl) ?_
  intro p e s m args below meth c A X hr hlk hnm
  have L163 : ∀ (K93 : Int32 → Int32 → St → Option (St)) (hK93 : ∀ (x1 : Int32) (x2 : Int32) (t : St), K93 x1 x2 t = some z → J p l e { frames := 3, cells := 0, slots := 0, locals := 69 } s m args below meth c 4 (dC, dI) vwCl A (MQ below (jQv (dC, dI) vwCl (tyA cI cB cJ cZ) (fun _ : Unit => wM cI cB cJ cZ a z) A) args s 0 0 A) 0 0 93 [(0, .ref (a 0)), (1, .int x1), (2, .int x2)] [] (wM cI cB cJ cZ a t)) (k : Nat) (x1 : Int32) (x2 : Int32) (x3 : Int32) (t : St), m_Model_keepScan_163 n K93 k x1 x2 x3 t = some z → J p l e { frames := 3, cells := 0, slots := 0, locals := 69 } s m args below meth c 4 (dC, dI) vwCl A (MQ below (jQv (dC, dI) vwCl (tyA cI cB cJ cZ) (fun _ : Unit => wM cI cB cJ cZ a z) A) args s 0 0 A) 0 0 163 [(0, .ref (a 0)), (1, .int x1), (2, .int x2), (3, .int x3)] [] (wM cI cB cJ cZ a t) := by
    intro K93 hK93 k
    induction k with
    | zero => intro x1 x2 x3 t h; exact absurd (show none = some z from h) (by simp)
    | succ k ih =>
      intro x1 x2 x3 t h
      change m_Model_keepScan_163b n K93 (m_Model_keepScan_163 n K93 k) x1 x2 x3 t = some z at h
      unfold m_Model_keepScan_163b at h
      refine J_iload_n X d_Model_keepScan_163 3 rfl rfl ?_
      refine J_aload_n X d_Model_keepScan_164 0 rfl rfl ?_
      refine J_get (v := .int (t.1 18)) X (fun w h => mm (in_Model w h)) 0 rfl rfl 37 (by decide) (mm k_fl_Model_159) rfl rfl d_Model_keepScan_165 ?_
      refine J_icmp_gt X 197 d_Model_keepScan_168 (by decide) (fun c168 => ?_) (fun c168 => ?_)
      · rw [if_pos c168] at h
        refine J_iinc (v := (x2 + 1)) X [(2, .int (x2 + 1)), (0, .ref (a 0)), (1, .int x1), (3, .int x3)] d_Model_keepScan_197 2 rfl rfl (by decide) rfl ?_
        refine J_goto X 93 d_Model_keepScan_200 (by decide) ?_
        refine J_lv [1, 2, 0] [(0, .ref (a 0)), (1, .int x1), (2, .int (x2 + 1))] rfl ?_
        exact hK93 x1 (x2 + 1) t h
      · rw [if_neg c168] at h
        refine J_aload_n X d_Model_keepScan_171 0 rfl rfl ?_
        refine J_get (v := .ref (a 14)) X (fun w h => mm (in_Model w h)) 0 rfl rfl 28 (by decide) (mm k_fl_Model_56) rfl rfl d_Model_keepScan_172 ?_
        refine J_bipush (v := (64 : Int32)) X d_Model_keepScan_175 (by decide) ?_
        refine J_aload_n X d_Model_keepScan_177 0 rfl rfl ?_
        refine J_get (v := .ref (a 15)) X (fun w h => mm (in_Model w h)) 0 rfl rfl 30 (by decide) (mm k_fl_Model_59) rfl rfl d_Model_keepScan_178 ?_
        refine J_iload_n X d_Model_keepScan_181 2 rfl rfl ?_
        obtain ⟨b182, h⟩ := j_ifn h
        refine J_iald (f := (t.2.1 14)) X 15 0 rfl rfl b182 d_Model_keepScan_182 ?_
        refine J_imul X d_Model_keepScan_183 ?_
        refine J_iload_n X d_Model_keepScan_184 3 rfl rfl ?_
        refine J_iadd X d_Model_keepScan_185 ?_
        refine J_aload_n X d_Model_keepScan_186 0 rfl rfl ?_
        refine J_get (v := .int (t.1 20)) X (fun w h => mm (in_Model w h)) 0 rfl rfl 39 (by decide) (mm k_fl_Model_165) rfl rfl d_Model_keepScan_187 ?_
        obtain ⟨b190, h⟩ := j_ifn h
        refine J_iast (f := (t.2.1 13)) X 14 0 rfl rfl b190 d_Model_keepScan_190 (wM cI cB cJ cZ a (sH t 13 ((((64 : Int32) * ((t.2.1 14) (x2).toNatClampNeg)) + x3)).toNatClampNeg (t.1 20))) rfl ?_
        refine J_iinc (v := (x3 + 1)) X [(3, .int (x3 + 1)), (0, .ref (a 0)), (1, .int x1), (2, .int x2)] d_Model_keepScan_191 3 rfl rfl (by decide) rfl ?_
        refine J_goto X 163 d_Model_keepScan_194 (by decide) ?_
        refine J_lv [1, 2, 3, 0] [(0, .ref (a 0)), (1, .int x1), (2, .int x2), (3, .int (x3 + 1))] rfl ?_
        exact ih x1 x2 (x3 + 1) (sH t 13 ((((64 : Int32) * ((t.2.1 14) (x2).toNatClampNeg)) + x3)).toNatClampNeg (t.1 20)) h
  have L93 : ∀ (k : Nat) (x1 : Int32) (x2 : Int32) (t : St), m_Model_keepScan_93 n  k x1 x2 t = some z → J p l e { frames := 3, cells := 0, slots := 0, locals := 69 } s m args below meth c 4 (dC, dI) vwCl A (MQ below (jQv (dC, dI) vwCl (tyA cI cB cJ cZ) (fun _ : Unit => wM cI cB cJ cZ a z) A) args s 0 0 A) 0 0 93 [(0, .ref (a 0)), (1, .int x1), (2, .int x2)] [] (wM cI cB cJ cZ a t) := by
    intro k
    induction k with
    | zero => intro x1 x2 t h; exact absurd (show none = some z from h) (by simp)
    | succ k ih =>
      intro x1 x2 t h
      change m_Model_keepScan_93b n  (m_Model_keepScan_93 n  k) x1 x2 t = some z at h
      unfold m_Model_keepScan_93b at h
      refine J_iload_n X d_Model_keepScan_93 2 rfl rfl ?_
      refine J_aload_n X d_Model_keepScan_94 0 rfl rfl ?_
      refine J_get (v := .int (t.1 15)) X (fun w h => mm (in_Model w h)) 0 rfl rfl 29 (by decide) (mm k_fl_Model_150) rfl rfl d_Model_keepScan_95 ?_
      refine J_icmp_ge X 203 d_Model_keepScan_98 (by decide) (fun c98 => ?_) (fun c98 => ?_)
      · rw [if_pos c98] at h
        refine J_aload_n X d_Model_keepScan_203 0 rfl rfl ?_
        refine J_iload_n X d_Model_keepScan_204 1 rfl rfl ?_
        obtain ⟨z205, hz205, h⟩ := j_bind h
        refine J_callVv0 (n := 1) (wc := (wM cI cB cJ cZ a t)) (w1 := fun _ : Unit => wM cI cB cJ cZ a z205) X isM (hCM cI cB cJ cZ a t) (hDM cI cB cJ cZ a t) rfl [.int x1] [] (ct_Model_readData l dC dI cI cB cJ cZ a n x1 t hz205) (aw_V (fun w h => mm h) k_ml_Model_175 k_im_Model_readData k_se_Model_readData k_in_Model k_cd_Model_readData) rfl (by decide +kernel) ⟨(Nat.le_of_ble_eq_true rfl), (Nat.le_of_ble_eq_true rfl)⟩ (q0 := 0) rfl rfl rfl rfl (Nat.le_of_ble_eq_true rfl) d_Model_keepScan_205 ⟨(Nat.le_of_ble_eq_true rfl), (Nat.le_of_ble_eq_true rfl)⟩ (fun _ => ?_)
        exact J_vret X hr hlk () (Nat.le_of_ble_eq_true rfl) (Nat.le_of_ble_eq_true rfl) (congrArg (fun q => wM cI cB cJ cZ a q) (j_s h)) d_Model_keepScan_208
      · rw [if_neg c98] at h
        refine J_aload_n X d_Model_keepScan_101 0 rfl rfl ?_
        refine J_get (v := .ref (a 13)) X (fun w h => mm (in_Model w h)) 0 rfl rfl 27 (by decide) (mm k_fl_Model_53) rfl rfl d_Model_keepScan_102 ?_
        refine J_iload_n X d_Model_keepScan_105 1 rfl rfl ?_
        refine J_bipush (v := (10 : Int32)) X d_Model_keepScan_106 (by decide) ?_
        refine J_iadd X d_Model_keepScan_108 ?_
        refine J_iconst (v := (4 : Int32)) X d_Model_keepScan_109 (by decide) ?_
        refine J_iload_n X d_Model_keepScan_110 2 rfl rfl ?_
        refine J_imul X d_Model_keepScan_111 ?_
        refine J_iadd X d_Model_keepScan_112 ?_
        refine J_aload_n X d_Model_keepScan_113 0 rfl rfl ?_
        refine J_get (v := .ref (a 15)) X (fun w h => mm (in_Model w h)) 0 rfl rfl 30 (by decide) (mm k_fl_Model_59) rfl rfl d_Model_keepScan_114 ?_
        refine J_iload_n X d_Model_keepScan_117 2 rfl rfl ?_
        obtain ⟨b118, h⟩ := j_ifn h
        refine J_iald (f := (t.2.1 14)) X 15 0 rfl rfl b118 d_Model_keepScan_118 ?_
        obtain ⟨b119, h⟩ := j_ifn h
        refine J_iast (f := (t.2.1 12)) X 13 0 rfl rfl b119 d_Model_keepScan_119 (wM cI cB cJ cZ a (sH t 12 (((x1 + (10 : Int32)) + ((4 : Int32) * x2))).toNatClampNeg ((t.2.1 14) (x2).toNatClampNeg))) rfl ?_
        refine J_aload_n X d_Model_keepScan_120 0 rfl rfl ?_
        refine J_get (v := .ref (a 13)) X (fun w h => mm (in_Model w h)) 0 rfl rfl 27 (by decide) (mm k_fl_Model_53) rfl rfl d_Model_keepScan_121 ?_
        refine J_iload_n X d_Model_keepScan_124 1 rfl rfl ?_
        refine J_bipush (v := (11 : Int32)) X d_Model_keepScan_125 (by decide) ?_
        refine J_iadd X d_Model_keepScan_127 ?_
        refine J_iconst (v := (4 : Int32)) X d_Model_keepScan_128 (by decide) ?_
        refine J_iload_n X d_Model_keepScan_129 2 rfl rfl ?_
        refine J_imul X d_Model_keepScan_130 ?_
        refine J_iadd X d_Model_keepScan_131 ?_
        refine J_aload_n X d_Model_keepScan_132 0 rfl rfl ?_
        refine J_get (v := .ref (a 16)) X (fun w h => mm (in_Model w h)) 0 rfl rfl 31 (by decide) (mm k_fl_Model_62) rfl rfl d_Model_keepScan_133 ?_
        refine J_iload_n X d_Model_keepScan_136 2 rfl rfl ?_
        obtain ⟨b137, h⟩ := j_ifn h
        refine J_iald (f := (t.2.1 15)) X 16 0 rfl rfl b137 d_Model_keepScan_137 ?_
        obtain ⟨w138, hw138, h⟩ := j_bind h
        refine J_to _ _ (wM cI cB cJ cZ a w138) rfl rfl (congrArg (fun q => wM cI cB cJ cZ a q) (j_s hw138)) ?_
        obtain ⟨b138, h⟩ := j_ifn h
        refine J_iast (f := (w138.2.1 12)) X 13 0 rfl rfl b138 d_Model_keepScan_138 (wM cI cB cJ cZ a (sH w138 12 (((x1 + (11 : Int32)) + ((4 : Int32) * x2))).toNatClampNeg ((t.2.1 15) (x2).toNatClampNeg))) rfl ?_
        refine J_aload_n X d_Model_keepScan_139 0 rfl rfl ?_
        refine J_get (v := .ref (a 13)) X (fun w h => mm (in_Model w h)) 0 rfl rfl 27 (by decide) (mm k_fl_Model_53) rfl rfl d_Model_keepScan_140 ?_
        refine J_iload_n X d_Model_keepScan_143 1 rfl rfl ?_
        refine J_bipush (v := (12 : Int32)) X d_Model_keepScan_144 (by decide) ?_
        refine J_iadd X d_Model_keepScan_146 ?_
        refine J_iconst (v := (4 : Int32)) X d_Model_keepScan_147 (by decide) ?_
        refine J_iload_n X d_Model_keepScan_148 2 rfl rfl ?_
        refine J_imul X d_Model_keepScan_149 ?_
        refine J_iadd X d_Model_keepScan_150 ?_
        refine J_aload_n X d_Model_keepScan_151 0 rfl rfl ?_
        refine J_get (v := .ref (a 17)) X (fun w h => mm (in_Model w h)) 0 rfl rfl 32 (by decide) (mm k_fl_Model_65) rfl rfl d_Model_keepScan_152 ?_
        refine J_iload_n X d_Model_keepScan_155 2 rfl rfl ?_
        obtain ⟨b156, h⟩ := j_ifn h
        refine J_iald (f := (w138.2.1 16)) X 17 0 rfl rfl b156 d_Model_keepScan_156 ?_
        obtain ⟨w157, hw157, h⟩ := j_bind h
        refine J_to _ _ (wM cI cB cJ cZ a w157) rfl rfl (congrArg (fun q => wM cI cB cJ cZ a q) (j_s hw157)) ?_
        obtain ⟨b157, h⟩ := j_ifn h
        refine J_iast (f := (w157.2.1 12)) X 13 0 rfl rfl b157 d_Model_keepScan_157 (wM cI cB cJ cZ a (sH w157 12 (((x1 + (12 : Int32)) + ((4 : Int32) * x2))).toNatClampNeg ((w138.2.1 16) (x2).toNatClampNeg))) rfl ?_
        refine J_aload_n X d_Model_keepScan_158 0 rfl rfl ?_
        refine J_get (v := .int (w157.1 17)) X (fun w h => mm (in_Model w h)) 0 rfl rfl 36 (by decide) (mm k_fl_Model_156) rfl rfl d_Model_keepScan_159 ?_
        refine J_istore_n X [(3, .int (w157.1 17)), (0, .ref (a 0)), (1, .int x1), (2, .int x2)] d_Model_keepScan_162 rfl (by decide) rfl ?_
        refine J_lv [1, 2, 3, 0] [(0, .ref (a 0)), (1, .int x1), (2, .int x2), (3, .int (w157.1 17))] rfl ?_
        exact L163 (m_Model_keepScan_93 n  k) ih n x1 x2 (w157.1 17) (sH w157 12 (((x1 + (12 : Int32)) + ((4 : Int32) * x2))).toNatClampNeg ((w138.2.1 16) (x2).toNatClampNeg)) h
  refine J_lv [0] [(0, .ref (a 0))] rfl ?_
  unfold m_Model_keepScan at h
  refine J_bipush (v := (30 : Int32)) X d_Model_keepScan_0 (by decide) ?_
  refine J_aload_n X d_Model_keepScan_2 0 rfl rfl ?_
  refine J_get (v := .int (t.1 14)) X (fun w h => mm (in_Model w h)) 0 rfl rfl 26 (by decide) (mm k_fl_Model_101) rfl rfl d_Model_keepScan_3 ?_
  refine J_imul X d_Model_keepScan_6 ?_
  refine J_istore_n X [(1, .int ((30 : Int32) * (t.1 14))), (0, .ref (a 0))] d_Model_keepScan_7 rfl (by decide) rfl ?_
  refine J_aload_n X d_Model_keepScan_8 1 rfl rfl ?_
  refine J_get (v := .ref (a 13)) X (fun w h => mm (in_Model w h)) 0 rfl rfl 27 (by decide) (mm k_fl_Model_53) rfl rfl d_Model_keepScan_9 ?_
  refine J_iload_n X d_Model_keepScan_12 0 rfl rfl ?_
  refine J_aload_n X d_Model_keepScan_13 1 rfl rfl ?_
  refine J_get (v := .int (t.1 15)) X (fun w h => mm (in_Model w h)) 0 rfl rfl 29 (by decide) (mm k_fl_Model_150) rfl rfl d_Model_keepScan_14 ?_
  obtain ⟨b17, h⟩ := j_ifn h
  refine J_iast (f := (t.2.1 12)) X 13 0 rfl rfl b17 d_Model_keepScan_17 (wM cI cB cJ cZ a (sH t 12 (((30 : Int32) * (t.1 14))).toNatClampNeg (t.1 15))) rfl ?_
  refine J_aload_n X d_Model_keepScan_18 1 rfl rfl ?_
  refine J_get (v := .ref (a 13)) X (fun w h => mm (in_Model w h)) 0 rfl rfl 27 (by decide) (mm k_fl_Model_53) rfl rfl d_Model_keepScan_19 ?_
  refine J_iload_n X d_Model_keepScan_22 0 rfl rfl ?_
  refine J_iconst (v := (1 : Int32)) X d_Model_keepScan_23 (by decide) ?_
  refine J_iadd X d_Model_keepScan_24 ?_
  refine J_aload_n X d_Model_keepScan_25 1 rfl rfl ?_
  refine J_get (v := .int (t.1 17)) X (fun w h => mm (in_Model w h)) 0 rfl rfl 36 (by decide) (mm k_fl_Model_156) rfl rfl d_Model_keepScan_26 ?_
  obtain ⟨w29, hw29, h⟩ := j_bind h
  refine J_to _ _ (wM cI cB cJ cZ a w29) rfl rfl (congrArg (fun q => wM cI cB cJ cZ a q) (j_s hw29)) ?_
  obtain ⟨b29, h⟩ := j_ifn h
  refine J_iast (f := (w29.2.1 12)) X 13 0 rfl rfl b29 d_Model_keepScan_29 (wM cI cB cJ cZ a (sH w29 12 ((((30 : Int32) * (t.1 14)) + (1 : Int32))).toNatClampNeg (t.1 17))) rfl ?_
  refine J_aload_n X d_Model_keepScan_30 1 rfl rfl ?_
  refine J_get (v := .ref (a 13)) X (fun w h => mm (in_Model w h)) 0 rfl rfl 27 (by decide) (mm k_fl_Model_53) rfl rfl d_Model_keepScan_31 ?_
  refine J_iload_n X d_Model_keepScan_34 0 rfl rfl ?_
  refine J_iconst (v := (2 : Int32)) X d_Model_keepScan_35 (by decide) ?_
  refine J_iadd X d_Model_keepScan_36 ?_
  refine J_aload_n X d_Model_keepScan_37 1 rfl rfl ?_
  refine J_get (v := .int (w29.1 18)) X (fun w h => mm (in_Model w h)) 0 rfl rfl 37 (by decide) (mm k_fl_Model_159) rfl rfl d_Model_keepScan_38 ?_
  obtain ⟨w41, hw41, h⟩ := j_bind h
  refine J_to _ _ (wM cI cB cJ cZ a w41) rfl rfl (congrArg (fun q => wM cI cB cJ cZ a q) (j_s hw41)) ?_
  obtain ⟨b41, h⟩ := j_ifn h
  refine J_iast (f := (w41.2.1 12)) X 13 0 rfl rfl b41 d_Model_keepScan_41 (wM cI cB cJ cZ a (sH w41 12 ((((30 : Int32) * (t.1 14)) + (2 : Int32))).toNatClampNeg (w29.1 18))) rfl ?_
  refine J_aload_n X d_Model_keepScan_42 1 rfl rfl ?_
  refine J_get (v := .ref (a 13)) X (fun w h => mm (in_Model w h)) 0 rfl rfl 27 (by decide) (mm k_fl_Model_53) rfl rfl d_Model_keepScan_43 ?_
  refine J_iload_n X d_Model_keepScan_46 0 rfl rfl ?_
  refine J_iconst (v := (3 : Int32)) X d_Model_keepScan_47 (by decide) ?_
  refine J_iadd X d_Model_keepScan_48 ?_
  refine J_aload_n X d_Model_keepScan_49 1 rfl rfl ?_
  refine J_get (v := .int (w41.1 19)) X (fun w h => mm (in_Model w h)) 0 rfl rfl 38 (by decide) (mm k_fl_Model_162) rfl rfl d_Model_keepScan_50 ?_
  obtain ⟨w53, hw53, h⟩ := j_bind h
  refine J_to _ _ (wM cI cB cJ cZ a w53) rfl rfl (congrArg (fun q => wM cI cB cJ cZ a q) (j_s hw53)) ?_
  obtain ⟨b53, h⟩ := j_ifn h
  refine J_iast (f := (w53.2.1 12)) X 13 0 rfl rfl b53 d_Model_keepScan_53 (wM cI cB cJ cZ a (sH w53 12 ((((30 : Int32) * (t.1 14)) + (3 : Int32))).toNatClampNeg (w41.1 19))) rfl ?_
  refine J_aload_n X d_Model_keepScan_54 1 rfl rfl ?_
  refine J_get (v := .ref (a 13)) X (fun w h => mm (in_Model w h)) 0 rfl rfl 27 (by decide) (mm k_fl_Model_53) rfl rfl d_Model_keepScan_55 ?_
  refine J_iload_n X d_Model_keepScan_58 0 rfl rfl ?_
  refine J_iconst (v := (4 : Int32)) X d_Model_keepScan_59 (by decide) ?_
  refine J_iadd X d_Model_keepScan_60 ?_
  refine J_aload_n X d_Model_keepScan_61 1 rfl rfl ?_
  refine J_get (v := .int (w53.1 20)) X (fun w h => mm (in_Model w h)) 0 rfl rfl 39 (by decide) (mm k_fl_Model_165) rfl rfl d_Model_keepScan_62 ?_
  obtain ⟨w65, hw65, h⟩ := j_bind h
  refine J_to _ _ (wM cI cB cJ cZ a w65) rfl rfl (congrArg (fun q => wM cI cB cJ cZ a q) (j_s hw65)) ?_
  obtain ⟨b65, h⟩ := j_ifn h
  refine J_iast (f := (w65.2.1 12)) X 13 0 rfl rfl b65 d_Model_keepScan_65 (wM cI cB cJ cZ a (sH w65 12 ((((30 : Int32) * (t.1 14)) + (4 : Int32))).toNatClampNeg (w53.1 20))) rfl ?_
  refine J_aload_n X d_Model_keepScan_66 1 rfl rfl ?_
  refine J_get (v := .ref (a 13)) X (fun w h => mm (in_Model w h)) 0 rfl rfl 27 (by decide) (mm k_fl_Model_53) rfl rfl d_Model_keepScan_67 ?_
  refine J_iload_n X d_Model_keepScan_70 0 rfl rfl ?_
  refine J_iconst (v := (5 : Int32)) X d_Model_keepScan_71 (by decide) ?_
  refine J_iadd X d_Model_keepScan_72 ?_
  refine J_aload_n X d_Model_keepScan_73 1 rfl rfl ?_
  refine J_get (v := .int (w65.1 4)) X (fun w h => mm (in_Model w h)) 0 rfl rfl 5 (by decide) (mm k_fl_Model_113) rfl rfl d_Model_keepScan_74 ?_
  obtain ⟨w77, hw77, h⟩ := j_bind h
  refine J_to _ _ (wM cI cB cJ cZ a w77) rfl rfl (congrArg (fun q => wM cI cB cJ cZ a q) (j_s hw77)) ?_
  obtain ⟨b77, h⟩ := j_ifn h
  refine J_iast (f := (w77.2.1 12)) X 13 0 rfl rfl b77 d_Model_keepScan_77 (wM cI cB cJ cZ a (sH w77 12 ((((30 : Int32) * (t.1 14)) + (5 : Int32))).toNatClampNeg (w65.1 4))) rfl ?_
  refine J_aload_n X d_Model_keepScan_78 1 rfl rfl ?_
  refine J_get (v := .ref (a 13)) X (fun w h => mm (in_Model w h)) 0 rfl rfl 27 (by decide) (mm k_fl_Model_53) rfl rfl d_Model_keepScan_79 ?_
  refine J_iload_n X d_Model_keepScan_82 0 rfl rfl ?_
  refine J_bipush (v := (8 : Int32)) X d_Model_keepScan_83 (by decide) ?_
  refine J_iadd X d_Model_keepScan_85 ?_
  refine J_aload_n X d_Model_keepScan_86 1 rfl rfl ?_
  refine J_get (v := .int (w77.1 13)) X (fun w h => mm (in_Model w h)) 0 rfl rfl 19 (by decide) (mm k_fl_Model_98) rfl rfl d_Model_keepScan_87 ?_
  obtain ⟨w90, hw90, h⟩ := j_bind h
  refine J_to _ _ (wM cI cB cJ cZ a w90) rfl rfl (congrArg (fun q => wM cI cB cJ cZ a q) (j_s hw90)) ?_
  obtain ⟨b90, h⟩ := j_ifn h
  refine J_iast (f := (w90.2.1 12)) X 13 0 rfl rfl b90 d_Model_keepScan_90 (wM cI cB cJ cZ a (sH w90 12 ((((30 : Int32) * (t.1 14)) + (8 : Int32))).toNatClampNeg (w77.1 13))) rfl ?_
  refine J_iconst (v := (0 : Int32)) X d_Model_keepScan_91 (by decide) ?_
  refine J_istore_n X [(2, .int (0 : Int32)), (1, .int ((30 : Int32) * (t.1 14))), (0, .ref (a 0))] d_Model_keepScan_92 rfl (by decide) rfl ?_
  refine J_lv [2, 1, 0] [(0, .ref (a 0)), (1, .int ((30 : Int32) * (t.1 14))), (2, .int (0 : Int32))] rfl ?_
  exact L93  n ((30 : Int32) * (t.1 14)) (0 : Int32) (sH w90 12 ((((30 : Int32) * (t.1 14)) + (8 : Int32))).toNatClampNeg (w77.1 13)) h
set_option maxHeartbeats 4000000 in
set_option maxRecDepth 100000 in
theorem ct_Model_segment1 (l : Launch) (dC : Nat → ClassId) (dI : Nat → Nat → Nat) (cI cB cJ cZ : ClassId) (a : Nat → Nat) (n : Nat) (x1 : Int32) (t : St) {z : Int32 × St} (h : m_Model_segment1 n x1 t = some z) : jMi l y_Model_segment1 w_Model_segment1 ({ frames := 4, cells := 0, slots := 0, locals := 93 }) (dC, dI) vwCl (tyA cI cB cJ cZ) [.ref (a 0), .int x1] (wM cI cB cJ cZ a t) z.1 (fun _ : Unit => wM cI cB cJ cZ a z.2) := by
  refine jMi.of (cc := c_Model_segment1) (maxL := 3) (ret := (some .boolean)) (by decide) rfl (Nat.le_of_ble_eq_true rfl) ?_
  intro p e s m args below meth c A X hr hlk hnm
  have L203 : ∀  (t : St), m_Model_segment1_203 n   t = some z → J p l e { frames := 4, cells := 0, slots := 0, locals := 93 } s m args below meth c 3 (dC, dI) vwCl A (MQ below (jQi (dC, dI) vwCl (tyA cI cB cJ cZ) z.1 (fun _ : Unit => wM cI cB cJ cZ a z.2) A) args s 0 0 A) 0 0 203 [] [] (wM cI cB cJ cZ a t) := by
    intro  t h
    unfold m_Model_segment1_203 at h
    refine J_iconst (v := (0 : Int32)) X d_Model_segment1_203 (by decide) ?_
    exact J_zret X hr hlk () rfl (Nat.le_of_ble_eq_true rfl) (Nat.le_of_ble_eq_true rfl) (j_r1 h) (congrArg (fun q => wM cI cB cJ cZ a q) (j_r2 h)) d_Model_segment1_204
  have L161 : ∀ (x1 : Int32) (t : St), m_Model_segment1_161 n  x1 t = some z → J p l e { frames := 4, cells := 0, slots := 0, locals := 93 } s m args below meth c 3 (dC, dI) vwCl A (MQ below (jQi (dC, dI) vwCl (tyA cI cB cJ cZ) z.1 (fun _ : Unit => wM cI cB cJ cZ a z.2) A) args s 0 0 A) 0 0 161 [(0, .ref (a 0)), (1, .int x1)] [] (wM cI cB cJ cZ a t) := by
    intro x1 t h
    unfold m_Model_segment1_161 at h
    refine J_aload_n X d_Model_segment1_161 0 rfl rfl ?_
    refine J_iload_n X d_Model_segment1_162 1 rfl rfl ?_
    obtain ⟨z163, hz163, h⟩ := j_bind h
    refine J_callVv0 (n := 1) (wc := (wM cI cB cJ cZ a t)) (w1 := fun _ : Unit => wM cI cB cJ cZ a z163) X isM (hCM cI cB cJ cZ a t) (hDM cI cB cJ cZ a t) rfl [.int x1] [] (ct_Model_close l dC dI cI cB cJ cZ a n x1 t hz163) (aw_V (fun w h => mm h) k_ml_Model_207 k_im_Model_close k_se_Model_close k_in_Model k_cd_Model_close) rfl (by decide +kernel) ⟨(Nat.le_of_ble_eq_true rfl), (Nat.le_of_ble_eq_true rfl)⟩ (q0 := 0) rfl rfl rfl rfl (Nat.le_of_ble_eq_true rfl) d_Model_segment1_163 ⟨(Nat.le_of_ble_eq_true rfl), (Nat.le_of_ble_eq_true rfl)⟩ (fun _ => ?_)
    refine J_iload_n X d_Model_segment1_166 1 rfl rfl ?_
    refine J_sipush (v := (218 : Int32)) X d_Model_segment1_167 (by decide) ?_
    refine J_icmp_ne X 205 d_Model_segment1_170 (by decide) (fun c170 => ?_) (fun c170 => ?_)
    · rw [if_neg c170] at h
      refine J_iconst (v := (0 : Int32)) X d_Model_segment1_205 (by decide) ?_
      exact J_zret X hr hlk () rfl (Nat.le_of_ble_eq_true rfl) (Nat.le_of_ble_eq_true rfl) (j_r1 h) (congrArg (fun q => wM cI cB cJ cZ a q) (j_r2 h)) d_Model_segment1_206
    · rw [if_pos c170] at h
      refine J_aload_n X d_Model_segment1_173 0 rfl rfl ?_
      refine J_get (v := .int (z163.1 2)) X (fun w h => mm (in_Model w h)) 0 rfl rfl 3 (by decide) (mm k_fl_Model_107) rfl rfl d_Model_segment1_174 ?_
      refine J_if_ne X 205 d_Model_segment1_177 (by decide) (fun c177 => ?_) (fun c177 => ?_)
      · rw [if_neg c177] at h
        refine J_iconst (v := (0 : Int32)) X d_Model_segment1_205 (by decide) ?_
        exact J_zret X hr hlk () rfl (Nat.le_of_ble_eq_true rfl) (Nat.le_of_ble_eq_true rfl) (j_r1 h) (congrArg (fun q => wM cI cB cJ cZ a q) (j_r2 h)) d_Model_segment1_206
      · rw [if_pos c177] at h
        refine J_aload_n X d_Model_segment1_180 0 rfl rfl ?_
        obtain ⟨z181, hz181, h⟩ := j_bind h
        refine J_callVv0 (n := 0) (wc := (wM cI cB cJ cZ a z163)) (w1 := fun _ : Unit => wM cI cB cJ cZ a z181) X isM (hCM cI cB cJ cZ a z163) (hDM cI cB cJ cZ a z163) rfl [] [] (ct_Model_keepScan l dC dI cI cB cJ cZ a n z163 hz181) (aw_V (fun w h => mm h) k_ml_Model_210 k_im_Model_keepScan k_se_Model_keepScan k_in_Model k_cd_Model_keepScan) rfl (by decide +kernel) ⟨(Nat.le_of_ble_eq_true rfl), (Nat.le_of_ble_eq_true rfl)⟩ (q0 := 0) rfl rfl rfl rfl (Nat.le_of_ble_eq_true rfl) d_Model_segment1_181 ⟨(Nat.le_of_ble_eq_true rfl), (Nat.le_of_ble_eq_true rfl)⟩ (fun _ => ?_)
        refine J_aload_n X d_Model_segment1_184 0 rfl rfl ?_
        refine J_get (v := .int (z181.1 11)) X (fun w h => mm (in_Model w h)) 0 rfl rfl 13 (by decide) (mm k_fl_Model_92) rfl rfl d_Model_segment1_185 ?_
        refine J_if_ne X 203 d_Model_segment1_188 (by decide) (fun c188 => ?_) (fun c188 => ?_)
        · rw [if_neg c188] at h
          refine J_lv [] [] rfl ?_
          exact L203  z181 h
        · rw [if_pos c188] at h
          refine J_aload_n X d_Model_segment1_191 0 rfl rfl ?_
          refine J_get (v := .int (z181.1 14)) X (fun w h => mm (in_Model w h)) 0 rfl rfl 26 (by decide) (mm k_fl_Model_101) rfl rfl d_Model_segment1_192 ?_
          refine J_iconst (v := (1 : Int32)) X d_Model_segment1_195 (by decide) ?_
          refine J_icmp_ne X 203 d_Model_segment1_196 (by decide) (fun c196 => ?_) (fun c196 => ?_)
          · rw [if_neg c196] at h
            refine J_lv [] [] rfl ?_
            exact L203  z181 h
          · rw [if_pos c196] at h
            refine J_iconst (v := (1 : Int32)) X d_Model_segment1_199 (by decide) ?_
            refine J_goto X 204 d_Model_segment1_200 (by decide) ?_
            exact J_zret X hr hlk () rfl (Nat.le_of_ble_eq_true rfl) (Nat.le_of_ble_eq_true rfl) (j_r1 h) (congrArg (fun q => wM cI cB cJ cZ a q) (j_r2 h)) d_Model_segment1_204
  have L89 : ∀ (x1 : Int32) (t : St), m_Model_segment1_89 n  x1 t = some z → J p l e { frames := 4, cells := 0, slots := 0, locals := 93 } s m args below meth c 3 (dC, dI) vwCl A (MQ below (jQi (dC, dI) vwCl (tyA cI cB cJ cZ) z.1 (fun _ : Unit => wM cI cB cJ cZ a z.2) A) args s 0 0 A) 0 0 89 [(0, .ref (a 0)), (1, .int x1)] [] (wM cI cB cJ cZ a t) := by
    intro x1 t h
    unfold m_Model_segment1_89 at h
    refine J_aload_n X d_Model_segment1_89 0 rfl rfl ?_
    refine J_iload_n X d_Model_segment1_90 1 rfl rfl ?_
    obtain ⟨z91, hz91, h⟩ := j_bind h
    refine J_callVv0 (n := 1) (wc := (wM cI cB cJ cZ a t)) (w1 := fun _ : Unit => wM cI cB cJ cZ a z91) X isM (hCM cI cB cJ cZ a t) (hDM cI cB cJ cZ a t) rfl [.int x1] [] (ct_Model_readFrame l dC dI cI cB cJ cZ a n x1 t hz91) (aw_V (fun w h => mm h) k_ml_Model_198 k_im_Model_readFrame k_se_Model_readFrame k_in_Model k_cd_Model_readFrame) rfl (by decide +kernel) ⟨(Nat.le_of_ble_eq_true rfl), (Nat.le_of_ble_eq_true rfl)⟩ (q0 := 0) rfl rfl rfl rfl (Nat.le_of_ble_eq_true rfl) d_Model_segment1_91 ⟨(Nat.le_of_ble_eq_true rfl), (Nat.le_of_ble_eq_true rfl)⟩ (fun _ => ?_)
    refine J_goto X 161 d_Model_segment1_94 (by decide) ?_
    refine J_lv [0, 1] [(0, .ref (a 0)), (1, .int x1)] rfl ?_
    exact L161  x1 z91 h
  have L146 : ∀ (x1 : Int32) (x2 : Int32) (y1 : Int32) (t : St), m_Model_segment1_146 n  x1 x2 y1 t = some z → J p l e { frames := 4, cells := 0, slots := 0, locals := 93 } s m args below meth c 3 (dC, dI) vwCl A (MQ below (jQi (dC, dI) vwCl (tyA cI cB cJ cZ) z.1 (fun _ : Unit => wM cI cB cJ cZ a z.2) A) args s 0 0 A) 0 0 146 [(0, .ref (a 0)), (1, .int x1), (2, .int x2)] [.int y1, .ref (a 0)] (wM cI cB cJ cZ a t) := by
    intro x1 x2 y1 t h
    unfold m_Model_segment1_146 at h
    obtain ⟨z146, hz146, h⟩ := j_bind h
    refine J_callVv0 (n := 1) (wc := (wM cI cB cJ cZ a t)) (w1 := fun _ : Unit => wM cI cB cJ cZ a z146) X isM (hCM cI cB cJ cZ a t) (hDM cI cB cJ cZ a t) rfl [.int y1] [] (ct_Model_must l dC dI cI cB cJ cZ a n y1 t hz146) (aw_V (fun w h => mm h) k_ml_Model_140 k_im_Model_must k_se_Model_must k_in_Model k_cd_Model_must) rfl (by decide +kernel) ⟨(Nat.le_of_ble_eq_true rfl), (Nat.le_of_ble_eq_true rfl)⟩ (q0 := 0) rfl rfl rfl rfl (Nat.le_of_ble_eq_true rfl) d_Model_segment1_146 ⟨(Nat.le_of_ble_eq_true rfl), (Nat.le_of_ble_eq_true rfl)⟩ (fun _ => ?_)
    refine J_aload_n X d_Model_segment1_149 0 rfl rfl ?_
    refine J_iload_n X d_Model_segment1_150 2 rfl rfl ?_
    refine J_put (ty := .int) (v := .int x2) X (fun w h => mm (in_Model w h)) ty_Model tyk_Model nm_Model 0 rfl rfl 13 (by decide) (mm k_fl_Model_92) rfl rfl (by decide +kernel) rfl rfl (Nat.le_of_ble_eq_true rfl) d_Model_segment1_151 (wM cI cB cJ cZ a (sG z146 11 x2)) rfl ?_
    refine J_goto X 161 d_Model_segment1_154 (by decide) ?_
    refine J_lv [0, 1] [(0, .ref (a 0)), (1, .int x1)] rfl ?_
    exact L161  x1 (sG z146 11 x2) h
  have L141 : ∀ (x1 : Int32) (x2 : Int32) (t : St), m_Model_segment1_141 n  x1 x2 t = some z → J p l e { frames := 4, cells := 0, slots := 0, locals := 93 } s m args below meth c 3 (dC, dI) vwCl A (MQ below (jQi (dC, dI) vwCl (tyA cI cB cJ cZ) z.1 (fun _ : Unit => wM cI cB cJ cZ a z.2) A) args s 0 0 A) 0 0 141 [(0, .ref (a 0)), (1, .int x1), (2, .int x2)] [.ref (a 0)] (wM cI cB cJ cZ a t) := by
    intro x1 x2 t h
    unfold m_Model_segment1_141 at h
    refine J_iconst (v := (1 : Int32)) X d_Model_segment1_141 (by decide) ?_
    refine J_goto X 146 d_Model_segment1_142 (by decide) ?_
    refine J_lv [0, 1, 2] [(0, .ref (a 0)), (1, .int x1), (2, .int x2)] rfl ?_
    exact L146  x1 x2 (1 : Int32) t h
  have L145 : ∀ (x1 : Int32) (x2 : Int32) (t : St), m_Model_segment1_145 n  x1 x2 t = some z → J p l e { frames := 4, cells := 0, slots := 0, locals := 93 } s m args below meth c 3 (dC, dI) vwCl A (MQ below (jQi (dC, dI) vwCl (tyA cI cB cJ cZ) z.1 (fun _ : Unit => wM cI cB cJ cZ a z.2) A) args s 0 0 A) 0 0 145 [(0, .ref (a 0)), (1, .int x1), (2, .int x2)] [.ref (a 0)] (wM cI cB cJ cZ a t) := by
    intro x1 x2 t h
    unfold m_Model_segment1_145 at h
    refine J_iconst (v := (0 : Int32)) X d_Model_segment1_145 (by decide) ?_
    refine J_lv [0, 1, 2] [(0, .ref (a 0)), (1, .int x1), (2, .int x2)] rfl ?_
    exact L146  x1 x2 (0 : Int32) t h
  have L69 : ∀ (x1 : Int32) (y1 : Int32) (t : St), m_Model_segment1_69 n  x1 y1 t = some z → J p l e { frames := 4, cells := 0, slots := 0, locals := 93 } s m args below meth c 3 (dC, dI) vwCl A (MQ below (jQi (dC, dI) vwCl (tyA cI cB cJ cZ) z.1 (fun _ : Unit => wM cI cB cJ cZ a z.2) A) args s 0 0 A) 0 0 69 [(0, .ref (a 0)), (1, .int x1)] [.int y1, .ref (a 0)] (wM cI cB cJ cZ a t) := by
    intro x1 y1 t h
    unfold m_Model_segment1_69 at h
    refine J_put (ty := .int) (v := .int y1) X (fun w h => mm (in_Model w h)) ty_Model tyk_Model nm_Model 0 rfl rfl 19 (by decide) (mm k_fl_Model_98) rfl rfl (by decide +kernel) rfl rfl (Nat.le_of_ble_eq_true rfl) d_Model_segment1_69 (wM cI cB cJ cZ a (sG t 13 y1)) rfl ?_
    refine J_goto X 161 d_Model_segment1_72 (by decide) ?_
    refine J_lv [0, 1] [(0, .ref (a 0)), (1, .int x1)] rfl ?_
    exact L161  x1 (sG t 13 y1) h
  refine J_lv [0, 1] [(0, .ref (a 0)), (1, .int x1)] rfl ?_
  unfold m_Model_segment1 at h
  refine J_aload_n X d_Model_segment1_0 0 rfl rfl ?_
  obtain ⟨z1, hz1, h⟩ := j_bind h
  refine J_callVv0 (n := 0) (wc := (wM cI cB cJ cZ a t)) (w1 := fun _ : Unit => wM cI cB cJ cZ a z1) X isM (hCM cI cB cJ cZ a t) (hDM cI cB cJ cZ a t) rfl [] [] (ct_Model_open l dC dI cI cB cJ cZ a n t hz1) (aw_V (fun w h => mm h) k_ml_Model_189 k_im_Model_open k_se_Model_open k_in_Model k_cd_Model_open) rfl (by decide +kernel) ⟨(Nat.le_of_ble_eq_true rfl), (Nat.le_of_ble_eq_true rfl)⟩ (q0 := 0) rfl rfl rfl rfl (Nat.le_of_ble_eq_true rfl) d_Model_segment1_1 ⟨(Nat.le_of_ble_eq_true rfl), (Nat.le_of_ble_eq_true rfl)⟩ (fun _ => ?_)
  refine J_aload_n X d_Model_segment1_4 0 rfl rfl ?_
  refine J_get (v := .int (z1.1 2)) X (fun w h => mm (in_Model w h)) 0 rfl rfl 3 (by decide) (mm k_fl_Model_107) rfl rfl d_Model_segment1_5 ?_
  refine J_if_le X 13 d_Model_segment1_8 (by decide) (fun c8 => ?_) (fun c8 => ?_)
  · rw [if_pos c8] at h
    refine J_iload_n X d_Model_segment1_13 1 rfl rfl ?_
    refine J_sipush (v := (219 : Int32)) X d_Model_segment1_14 (by decide) ?_
    refine J_icmp_ne X 27 d_Model_segment1_17 (by decide) (fun c17 => ?_) (fun c17 => ?_)
    · rw [if_neg c17] at h
      refine J_iload_n X d_Model_segment1_27 1 rfl rfl ?_
      refine J_sipush (v := (196 : Int32)) X d_Model_segment1_28 (by decide) ?_
      refine J_icmp_ne X 41 d_Model_segment1_31 (by decide) (fun c31 => ?_) (fun c31 => ?_)
      · rw [if_neg c31] at h
        refine J_iload_n X d_Model_segment1_41 1 rfl rfl ?_
        refine J_sipush (v := (221 : Int32)) X d_Model_segment1_42 (by decide) ?_
        refine J_icmp_ne X 75 d_Model_segment1_45 (by decide) (fun c45 => ?_) (fun c45 => ?_)
        · rw [if_neg c45] at h
          refine J_iload_n X d_Model_segment1_75 1 rfl rfl ?_
          refine J_sipush (v := (192 : Int32)) X d_Model_segment1_76 (by decide) ?_
          refine J_icmp_eq X 89 d_Model_segment1_79 (by decide) (fun c79 => ?_) (fun c79 => ?_)
          · rw [if_pos c79] at h
            refine J_lv [0, 1] [(0, .ref (a 0)), (1, .int x1)] rfl ?_
            exact L89  x1 z1 h
          · rw [if_neg c79] at h
            refine J_iload_n X d_Model_segment1_82 1 rfl rfl ?_
            refine J_sipush (v := (194 : Int32)) X d_Model_segment1_83 (by decide) ?_
            refine J_icmp_ne X 97 d_Model_segment1_86 (by decide) (fun c86 => ?_) (fun c86 => ?_)
            · rw [if_neg c86] at h
              refine J_iload_n X d_Model_segment1_97 1 rfl rfl ?_
              refine J_sipush (v := (218 : Int32)) X d_Model_segment1_98 (by decide) ?_
              refine J_icmp_ne X 111 d_Model_segment1_101 (by decide) (fun c101 => ?_) (fun c101 => ?_)
              · rw [if_neg c101] at h
                refine J_iload_n X d_Model_segment1_111 1 rfl rfl ?_
                refine J_sipush (v := (220 : Int32)) X d_Model_segment1_112 (by decide) ?_
                refine J_icmp_ne X 157 d_Model_segment1_115 (by decide) (fun c115 => ?_) (fun c115 => ?_)
                · rw [if_neg c115] at h
                  refine J_aload_n X d_Model_segment1_157 0 rfl rfl ?_
                  obtain ⟨z158, hz158, h⟩ := j_bind h
                  refine J_callVv0 (n := 0) (wc := (wM cI cB cJ cZ a z1)) (w1 := fun _ : Unit => wM cI cB cJ cZ a z158) X isM (hCM cI cB cJ cZ a z1) (hDM cI cB cJ cZ a z1) rfl [] [] (ct_Model_any l dC dI cI cB cJ cZ a n z1 hz158) (aw_V (fun w h => mm h) k_ml_Model_204 k_im_Model_any k_se_Model_any k_in_Model k_cd_Model_any) rfl (by decide +kernel) ⟨(Nat.le_of_ble_eq_true rfl), (Nat.le_of_ble_eq_true rfl)⟩ (q0 := 0) rfl rfl rfl rfl (Nat.le_of_ble_eq_true rfl) d_Model_segment1_158 ⟨(Nat.le_of_ble_eq_true rfl), (Nat.le_of_ble_eq_true rfl)⟩ (fun _ => ?_)
                  refine J_lv [0, 1] [(0, .ref (a 0)), (1, .int x1)] rfl ?_
                  exact L161  x1 z158 h
                · rw [if_pos c115] at h
                  refine J_aload_n X d_Model_segment1_118 0 rfl rfl ?_
                  obtain ⟨z119, hz119, h⟩ := j_bind h
                  refine J_callVi0 (n := 0) (wc := (wM cI cB cJ cZ a z1)) (r := z119.1) (w1 := fun _ : Unit => wM cI cB cJ cZ a z119.2) X isM (hCM cI cB cJ cZ a z1) (hDM cI cB cJ cZ a z1) rfl [] [] (ct_Model_two l dC dI cI cB cJ cZ a n z1 hz119) (aw_V (fun w h => mm h) k_ml_Model_137 k_im_Model_two k_se_Model_two k_in_Model k_cd_Model_two) rfl (by decide +kernel) ⟨(Nat.le_of_ble_eq_true rfl), (Nat.le_of_ble_eq_true rfl)⟩ (q0 := 0) rfl rfl rfl rfl (Nat.le_of_ble_eq_true rfl) d_Model_segment1_119 ⟨(Nat.le_of_ble_eq_true rfl), (Nat.le_of_ble_eq_true rfl)⟩ (fun _ => ?_)
                  refine J_istore_n X [(2, .int z119.1), (0, .ref (a 0)), (1, .int x1)] d_Model_segment1_122 rfl (by decide) rfl ?_
                  refine J_aload_n X d_Model_segment1_123 1 rfl rfl ?_
                  refine J_aload_n X d_Model_segment1_124 1 rfl rfl ?_
                  refine J_get (v := .int (z119.2.1 2)) X (fun w h => mm (in_Model w h)) 0 rfl rfl 3 (by decide) (mm k_fl_Model_107) rfl rfl d_Model_segment1_125 ?_
                  refine J_if_gt X 141 d_Model_segment1_128 (by decide) (fun c128 => ?_) (fun c128 => ?_)
                  · rw [if_pos c128] at h
                    refine J_lv [1, 2, 0] [(0, .ref (a 0)), (1, .int x1), (2, .int z119.1)] rfl ?_
                    exact L141  x1 z119.1 z119.2 h
                  · rw [if_neg c128] at h
                    refine J_iload_n X d_Model_segment1_131 0 rfl rfl ?_
                    refine J_if_le X 145 d_Model_segment1_132 (by decide) (fun c132 => ?_) (fun c132 => ?_)
                    · rw [if_pos c132] at h
                      refine J_lv [1, 2, 0] [(0, .ref (a 0)), (1, .int x1), (2, .int z119.1)] rfl ?_
                      exact L145  x1 z119.1 z119.2 h
                    · rw [if_neg c132] at h
                      refine J_iload_n X d_Model_segment1_135 0 rfl rfl ?_
                      refine J_bipush (v := (64 : Int32)) X d_Model_segment1_136 (by decide) ?_
                      refine J_icmp_gt X 145 d_Model_segment1_138 (by decide) (fun c138 => ?_) (fun c138 => ?_)
                      · rw [if_pos c138] at h
                        refine J_lv [1, 2, 0] [(0, .ref (a 0)), (1, .int x1), (2, .int z119.1)] rfl ?_
                        exact L145  x1 z119.1 z119.2 h
                      · rw [if_neg c138] at h
                        refine J_lv [1, 2, 0] [(0, .ref (a 0)), (1, .int x1), (2, .int z119.1)] rfl ?_
                        exact L141  x1 z119.1 z119.2 h
              · rw [if_pos c101] at h
                refine J_aload_n X d_Model_segment1_104 0 rfl rfl ?_
                obtain ⟨z105, hz105, h⟩ := j_bind h
                refine J_callVv0 (n := 0) (wc := (wM cI cB cJ cZ a z1)) (w1 := fun _ : Unit => wM cI cB cJ cZ a z105) X isM (hCM cI cB cJ cZ a z1) (hDM cI cB cJ cZ a z1) rfl [] [] (ct_Model_readScan l dC dI cI cB cJ cZ a n z1 hz105) (aw_V (fun w h => mm h) k_ml_Model_201 k_im_Model_readScan k_se_Model_readScan k_in_Model k_cd_Model_readScan) rfl (by decide +kernel) ⟨(Nat.le_of_ble_eq_true rfl), (Nat.le_of_ble_eq_true rfl)⟩ (q0 := 0) rfl rfl rfl rfl (Nat.le_of_ble_eq_true rfl) d_Model_segment1_105 ⟨(Nat.le_of_ble_eq_true rfl), (Nat.le_of_ble_eq_true rfl)⟩ (fun _ => ?_)
                refine J_goto X 161 d_Model_segment1_108 (by decide) ?_
                refine J_lv [0, 1] [(0, .ref (a 0)), (1, .int x1)] rfl ?_
                exact L161  x1 z105 h
            · rw [if_pos c86] at h
              refine J_lv [0, 1] [(0, .ref (a 0)), (1, .int x1)] rfl ?_
              exact L89  x1 z1 h
        · rw [if_pos c45] at h
          refine J_aload_n X d_Model_segment1_48 0 rfl rfl ?_
          obtain ⟨z49, hz49, h⟩ := j_bind h
          refine J_callVi0 (n := 0) (wc := (wM cI cB cJ cZ a z1)) (r := z49.1) (w1 := fun _ : Unit => wM cI cB cJ cZ a z49.2) X isM (hCM cI cB cJ cZ a z1) (hDM cI cB cJ cZ a z1) rfl [] [] (ct_Model_two l dC dI cI cB cJ cZ a n z1 hz49) (aw_V (fun w h => mm h) k_ml_Model_137 k_im_Model_two k_se_Model_two k_in_Model k_cd_Model_two) rfl (by decide +kernel) ⟨(Nat.le_of_ble_eq_true rfl), (Nat.le_of_ble_eq_true rfl)⟩ (q0 := 0) rfl rfl rfl rfl (Nat.le_of_ble_eq_true rfl) d_Model_segment1_49 ⟨(Nat.le_of_ble_eq_true rfl), (Nat.le_of_ble_eq_true rfl)⟩ (fun _ => ?_)
          refine J_istore_n X [(2, .int z49.1), (0, .ref (a 0)), (1, .int x1)] d_Model_segment1_52 rfl (by decide) rfl ?_
          refine J_aload_n X d_Model_segment1_53 1 rfl rfl ?_
          refine J_aload_n X d_Model_segment1_54 1 rfl rfl ?_
          refine J_get (v := .int (z49.2.1 2)) X (fun w h => mm (in_Model w h)) 0 rfl rfl 3 (by decide) (mm k_fl_Model_107) rfl rfl d_Model_segment1_55 ?_
          refine J_if_ne X 65 d_Model_segment1_58 (by decide) (fun c58 => ?_) (fun c58 => ?_)
          · rw [if_neg c58] at h
            refine J_aload_n X d_Model_segment1_65 1 rfl rfl ?_
            refine J_get (v := .int (z49.2.1 13)) X (fun w h => mm (in_Model w h)) 0 rfl rfl 19 (by decide) (mm k_fl_Model_98) rfl rfl d_Model_segment1_66 ?_
            refine J_lv [1, 2] [(0, .ref (a 0)), (1, .int x1)] rfl ?_
            exact L69  x1 (z49.2.1 13) z49.2 h
          · rw [if_pos c58] at h
            refine J_iload_n X d_Model_segment1_61 0 rfl rfl ?_
            refine J_goto X 69 d_Model_segment1_62 (by decide) ?_
            refine J_lv [1, 2] [(0, .ref (a 0)), (1, .int x1)] rfl ?_
            exact L69  x1 z49.1 z49.2 h
      · rw [if_pos c31] at h
        refine J_aload_n X d_Model_segment1_34 0 rfl rfl ?_
        obtain ⟨z35, hz35, h⟩ := j_bind h
        refine J_callVv0 (n := 0) (wc := (wM cI cB cJ cZ a z1)) (w1 := fun _ : Unit => wM cI cB cJ cZ a z35) X isM (hCM cI cB cJ cZ a z1) (hDM cI cB cJ cZ a z1) rfl [] [] (ct_Model_readWords l dC dI cI cB cJ cZ a n z1 hz35) (aw_V (fun w h => mm h) k_ml_Model_195 k_im_Model_readWords k_se_Model_readWords k_in_Model k_cd_Model_readWords) rfl (by decide +kernel) ⟨(Nat.le_of_ble_eq_true rfl), (Nat.le_of_ble_eq_true rfl)⟩ (q0 := 0) rfl rfl rfl rfl (Nat.le_of_ble_eq_true rfl) d_Model_segment1_35 ⟨(Nat.le_of_ble_eq_true rfl), (Nat.le_of_ble_eq_true rfl)⟩ (fun _ => ?_)
        refine J_goto X 161 d_Model_segment1_38 (by decide) ?_
        refine J_lv [0, 1] [(0, .ref (a 0)), (1, .int x1)] rfl ?_
        exact L161  x1 z35 h
    · rw [if_pos c17] at h
      refine J_aload_n X d_Model_segment1_20 0 rfl rfl ?_
      obtain ⟨z21, hz21, h⟩ := j_bind h
      refine J_callVv0 (n := 0) (wc := (wM cI cB cJ cZ a z1)) (w1 := fun _ : Unit => wM cI cB cJ cZ a z21) X isM (hCM cI cB cJ cZ a z1) (hDM cI cB cJ cZ a z1) rfl [] [] (ct_Model_readQuantisers l dC dI cI cB cJ cZ a n z1 hz21) (aw_V (fun w h => mm h) k_ml_Model_192 k_im_Model_readQuantisers k_se_Model_readQuantisers k_in_Model k_cd_Model_readQuantisers) rfl (by decide +kernel) ⟨(Nat.le_of_ble_eq_true rfl), (Nat.le_of_ble_eq_true rfl)⟩ (q0 := 0) rfl rfl rfl rfl (Nat.le_of_ble_eq_true rfl) d_Model_segment1_21 ⟨(Nat.le_of_ble_eq_true rfl), (Nat.le_of_ble_eq_true rfl)⟩ (fun _ => ?_)
      refine J_goto X 161 d_Model_segment1_24 (by decide) ?_
      refine J_lv [0, 1] [(0, .ref (a 0)), (1, .int x1)] rfl ?_
      exact L161  x1 z21 h
  · rw [if_neg c8] at h
    refine J_iconst (v := (0 : Int32)) X d_Model_segment1_11 (by decide) ?_
    exact J_zret X hr hlk () rfl (Nat.le_of_ble_eq_true rfl) (Nat.le_of_ble_eq_true rfl) (j_r1 h) (congrArg (fun q => wM cI cB cJ cZ a q) (j_r2 h)) d_Model_segment1_12
