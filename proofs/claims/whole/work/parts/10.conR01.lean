set_option maxHeartbeats 4000000 in
set_option maxRecDepth 100000 in
theorem ct_Model_readQuantisers (l : Launch) (dC : Nat → ClassId) (dI : Nat → Nat → Nat) (cI cB cJ cZ : ClassId) (a : Nat → Nat) (n : Nat)  (t : St) {z : St} (h : m_Model_readQuantisers n t = some z) : jMv l y_Model_readQuantisers w_Model_readQuantisers ({ frames := 2, cells := 0, slots := 0, locals := 44 }) (dC, dI) vwCl (tyA cI cB cJ cZ) [.ref (a 0)] (wM cI cB cJ cZ a t) (fun _ : Unit => wM cI cB cJ cZ a z) := by
  refine jMv.of (cc := c_Model_readQuantisers) (maxL := 5) (ret := none) (by decide) rfl (Nat.le_of_ble_eq_true rfl) ?_
  intro p e s m args below meth c A X hr hlk hnm
  have L130 : ∀ (K2 : Int32 → St → Option (St)) (hK2 : ∀ (x1 : Int32) (t : St), K2 x1 t = some z → J p l e { frames := 2, cells := 0, slots := 0, locals := 44 } s m args below meth c 5 (dC, dI) vwCl A (MQ below (jQv (dC, dI) vwCl (tyA cI cB cJ cZ) (fun _ : Unit => wM cI cB cJ cZ a z) A) args s 0 0 A) 0 0 2 [(0, .ref (a 0)), (1, .int x1)] [] (wM cI cB cJ cZ a t)) (y0 : Int32) (t : St), m_Model_readQuantisers_130 n K2 y0 t = some z → J p l e { frames := 2, cells := 0, slots := 0, locals := 44 } s m args below meth c 5 (dC, dI) vwCl A (MQ below (jQv (dC, dI) vwCl (tyA cI cB cJ cZ) (fun _ : Unit => wM cI cB cJ cZ a z) A) args s 0 0 A) 0 0 130 [(0, .ref (a 0))] [.int y0] (wM cI cB cJ cZ a t) := by
    intro K2 hK2 y0 t h
    unfold m_Model_readQuantisers_130 at h
    refine J_istore_n X [(1, .int y0), (0, .ref (a 0))] d_Model_readQuantisers_130 rfl (by decide) rfl ?_
    refine J_goto X 2 d_Model_readQuantisers_131 (by decide) ?_
    refine J_lv [1, 0] [(0, .ref (a 0)), (1, .int y0)] rfl ?_
    exact hK2 y0 t h
  have L114 : ∀ (K2 : Int32 → St → Option (St)) (hK2 : ∀ (x1 : Int32) (t : St), K2 x1 t = some z → J p l e { frames := 2, cells := 0, slots := 0, locals := 44 } s m args below meth c 5 (dC, dI) vwCl A (MQ below (jQv (dC, dI) vwCl (tyA cI cB cJ cZ) (fun _ : Unit => wM cI cB cJ cZ a z) A) args s 0 0 A) 0 0 2 [(0, .ref (a 0)), (1, .int x1)] [] (wM cI cB cJ cZ a t))  (t : St), m_Model_readQuantisers_114 n K2  t = some z → J p l e { frames := 2, cells := 0, slots := 0, locals := 44 } s m args below meth c 5 (dC, dI) vwCl A (MQ below (jQv (dC, dI) vwCl (tyA cI cB cJ cZ) (fun _ : Unit => wM cI cB cJ cZ a z) A) args s 0 0 A) 0 0 114 [(0, .ref (a 0))] [] (wM cI cB cJ cZ a t) := by
    intro K2 hK2  t h
    unfold m_Model_readQuantisers_114 at h
    refine J_aload_n X d_Model_readQuantisers_114 0 rfl rfl ?_
    refine J_get (v := .int (t.1 4)) X (fun w h => mm (in_Model w h)) 0 rfl rfl 5 (by decide) (mm k_fl_Model_113) rfl rfl d_Model_readQuantisers_115 ?_
    refine J_aload_n X d_Model_readQuantisers_118 0 rfl rfl ?_
    refine J_get (v := .int (t.1 5)) X (fun w h => mm (in_Model w h)) 0 rfl rfl 6 (by decide) (mm k_fl_Model_110) rfl rfl d_Model_readQuantisers_119 ?_
    refine J_icmp_ge X 129 d_Model_readQuantisers_122 (by decide) (fun c122 => ?_) (fun c122 => ?_)
    · rw [if_pos c122] at h
      refine J_iconst (v := (0 : Int32)) X d_Model_readQuantisers_129 (by decide) ?_
      refine J_lv [0] [(0, .ref (a 0))] rfl ?_
      exact L130 K2 hK2 (0 : Int32) t h
    · rw [if_neg c122] at h
      refine J_iconst (v := (1 : Int32)) X d_Model_readQuantisers_125 (by decide) ?_
      refine J_goto X 130 d_Model_readQuantisers_126 (by decide) ?_
      refine J_lv [0] [(0, .ref (a 0))] rfl ?_
      exact L130 K2 hK2 (1 : Int32) t h
  have L100 : ∀ (K2 : Int32 → St → Option (St)) (hK2 : ∀ (x1 : Int32) (t : St), K2 x1 t = some z → J p l e { frames := 2, cells := 0, slots := 0, locals := 44 } s m args below meth c 5 (dC, dI) vwCl A (MQ below (jQv (dC, dI) vwCl (tyA cI cB cJ cZ) (fun _ : Unit => wM cI cB cJ cZ a z) A) args s 0 0 A) 0 0 2 [(0, .ref (a 0)), (1, .int x1)] [] (wM cI cB cJ cZ a t)) (x2 : Int32) (t : St), m_Model_readQuantisers_100 n K2 x2 t = some z → J p l e { frames := 2, cells := 0, slots := 0, locals := 44 } s m args below meth c 5 (dC, dI) vwCl A (MQ below (jQv (dC, dI) vwCl (tyA cI cB cJ cZ) (fun _ : Unit => wM cI cB cJ cZ a z) A) args s 0 0 A) 0 0 100 [(0, .ref (a 0)), (2, .int x2)] [] (wM cI cB cJ cZ a t) := by
    intro K2 hK2 x2 t h
    unfold m_Model_readQuantisers_100 at h
    refine J_aload_n X d_Model_readQuantisers_100 0 rfl rfl ?_
    refine J_get (v := .int (t.1 2)) X (fun w h => mm (in_Model w h)) 0 rfl rfl 3 (by decide) (mm k_fl_Model_107) rfl rfl d_Model_readQuantisers_101 ?_
    refine J_if_ne X 114 d_Model_readQuantisers_104 (by decide) (fun c104 => ?_) (fun c104 => ?_)
    · rw [if_neg c104] at h
      refine J_lv [0] [(0, .ref (a 0))] rfl ?_
      exact L114 K2 hK2 t h
    · rw [if_pos c104] at h
      refine J_aload_n X d_Model_readQuantisers_107 0 rfl rfl ?_
      refine J_get (v := .ref (a 7)) X (fun w h => mm (in_Model w h)) 0 rfl rfl 20 (by decide) (mm k_fl_Model_33) rfl rfl d_Model_readQuantisers_108 ?_
      refine J_iload_n X d_Model_readQuantisers_111 1 rfl rfl ?_
      refine J_iconst (v := (1 : Int32)) X d_Model_readQuantisers_112 (by decide) ?_
      obtain ⟨b113, h⟩ := j_ifn h
      refine J_zast (f := (t.2.1 6)) X 7 3 rfl rfl b113 d_Model_readQuantisers_113 (wM cI cB cJ cZ a (sH t 6 (x2).toNatClampNeg (vp_nar .boolean (1 : Int32)))) rfl ?_
      refine J_lv [0] [(0, .ref (a 0))] rfl ?_
      exact L114 K2 hK2 (sH t 6 (x2).toNatClampNeg (vp_nar .boolean (1 : Int32))) h
  have L78 : ∀ (K2 : Int32 → St → Option (St)) (hK2 : ∀ (x1 : Int32) (t : St), K2 x1 t = some z → J p l e { frames := 2, cells := 0, slots := 0, locals := 44 } s m args below meth c 5 (dC, dI) vwCl A (MQ below (jQv (dC, dI) vwCl (tyA cI cB cJ cZ) (fun _ : Unit => wM cI cB cJ cZ a z) A) args s 0 0 A) 0 0 2 [(0, .ref (a 0)), (1, .int x1)] [] (wM cI cB cJ cZ a t)) (K41 : Int32 → Int32 → St → Option (St)) (hK41 : ∀ (x2 : Int32) (x3 : Int32) (t : St), K41 x2 x3 t = some z → J p l e { frames := 2, cells := 0, slots := 0, locals := 44 } s m args below meth c 5 (dC, dI) vwCl A (MQ below (jQv (dC, dI) vwCl (tyA cI cB cJ cZ) (fun _ : Unit => wM cI cB cJ cZ a z) A) args s 0 0 A) 0 0 41 [(0, .ref (a 0)), (2, .int x2), (3, .int x3)] [] (wM cI cB cJ cZ a t)) (x2 : Int32) (x3 : Int32) (x4 : Int32) (y1 : Int32) (t : St), m_Model_readQuantisers_78 n K2 K41 x2 x3 x4 y1 t = some z → J p l e { frames := 2, cells := 0, slots := 0, locals := 44 } s m args below meth c 5 (dC, dI) vwCl A (MQ below (jQv (dC, dI) vwCl (tyA cI cB cJ cZ) (fun _ : Unit => wM cI cB cJ cZ a z) A) args s 0 0 A) 0 0 78 [(0, .ref (a 0)), (2, .int x2), (3, .int x3), (4, .int x4)] [.int y1, .ref (a 0)] (wM cI cB cJ cZ a t) := by
    intro K2 hK2 K41 hK41 x2 x3 x4 y1 t h
    unfold m_Model_readQuantisers_78 at h
    obtain ⟨z78, hz78, h⟩ := j_bind h
    refine J_callVv0 (n := 1) (wc := (wM cI cB cJ cZ a t)) (w1 := fun _ : Unit => wM cI cB cJ cZ a z78) X isM (hCM cI cB cJ cZ a t) (hDM cI cB cJ cZ a t) rfl [.int y1] [] (ct_Model_must l dC dI cI cB cJ cZ a n y1 t hz78) (aw_V (fun w h => mm h) k_ml_Model_140 k_im_Model_must k_se_Model_must k_in_Model k_cd_Model_must) rfl (by decide +kernel) ⟨(Nat.le_of_ble_eq_true rfl), (Nat.le_of_ble_eq_true rfl)⟩ (q0 := 0) rfl rfl rfl rfl (Nat.le_of_ble_eq_true rfl) d_Model_readQuantisers_78 ⟨(Nat.le_of_ble_eq_true rfl), (Nat.le_of_ble_eq_true rfl)⟩ (fun _ => ?_)
    refine J_aload_n X d_Model_readQuantisers_81 0 rfl rfl ?_
    refine J_get (v := .ref (a 8)) X (fun w h => mm (in_Model w h)) 0 rfl rfl 21 (by decide) (mm k_fl_Model_37) rfl rfl d_Model_readQuantisers_82 ?_
    refine J_bipush (v := (64 : Int32)) X d_Model_readQuantisers_85 (by decide) ?_
    refine J_iload_n X d_Model_readQuantisers_87 1 rfl rfl ?_
    refine J_imul X d_Model_readQuantisers_88 ?_
    refine J_iload_n X d_Model_readQuantisers_89 2 rfl rfl ?_
    refine J_iadd X d_Model_readQuantisers_90 ?_
    refine J_iload X d_Model_readQuantisers_91 3 rfl ?_
    obtain ⟨b93, h⟩ := j_ifn h
    refine J_iast (f := (z78.2.1 7)) X 8 0 rfl rfl b93 d_Model_readQuantisers_93 (wM cI cB cJ cZ a (sH z78 7 ((((64 : Int32) * x2) + x3)).toNatClampNeg x4)) rfl ?_
    refine J_iinc (v := (x3 + 1)) X [(3, .int (x3 + 1)), (0, .ref (a 0)), (2, .int x2), (4, .int x4)] d_Model_readQuantisers_94 2 rfl rfl (by decide) rfl ?_
    refine J_goto X 41 d_Model_readQuantisers_97 (by decide) ?_
    refine J_lv [1, 2, 0] [(0, .ref (a 0)), (2, .int x2), (3, .int (x3 + 1))] rfl ?_
    exact hK41 x2 (x3 + 1) (sH z78 7 ((((64 : Int32) * x2) + x3)).toNatClampNeg x4) h
  have L73 : ∀ (K2 : Int32 → St → Option (St)) (hK2 : ∀ (x1 : Int32) (t : St), K2 x1 t = some z → J p l e { frames := 2, cells := 0, slots := 0, locals := 44 } s m args below meth c 5 (dC, dI) vwCl A (MQ below (jQv (dC, dI) vwCl (tyA cI cB cJ cZ) (fun _ : Unit => wM cI cB cJ cZ a z) A) args s 0 0 A) 0 0 2 [(0, .ref (a 0)), (1, .int x1)] [] (wM cI cB cJ cZ a t)) (K41 : Int32 → Int32 → St → Option (St)) (hK41 : ∀ (x2 : Int32) (x3 : Int32) (t : St), K41 x2 x3 t = some z → J p l e { frames := 2, cells := 0, slots := 0, locals := 44 } s m args below meth c 5 (dC, dI) vwCl A (MQ below (jQv (dC, dI) vwCl (tyA cI cB cJ cZ) (fun _ : Unit => wM cI cB cJ cZ a z) A) args s 0 0 A) 0 0 41 [(0, .ref (a 0)), (2, .int x2), (3, .int x3)] [] (wM cI cB cJ cZ a t)) (x2 : Int32) (x3 : Int32) (x4 : Int32) (t : St), m_Model_readQuantisers_73 n K2 K41 x2 x3 x4 t = some z → J p l e { frames := 2, cells := 0, slots := 0, locals := 44 } s m args below meth c 5 (dC, dI) vwCl A (MQ below (jQv (dC, dI) vwCl (tyA cI cB cJ cZ) (fun _ : Unit => wM cI cB cJ cZ a z) A) args s 0 0 A) 0 0 73 [(0, .ref (a 0)), (2, .int x2), (3, .int x3), (4, .int x4)] [.ref (a 0)] (wM cI cB cJ cZ a t) := by
    intro K2 hK2 K41 hK41 x2 x3 x4 t h
    unfold m_Model_readQuantisers_73 at h
    refine J_iconst (v := (1 : Int32)) X d_Model_readQuantisers_73 (by decide) ?_
    refine J_goto X 78 d_Model_readQuantisers_74 (by decide) ?_
    refine J_lv [0, 1, 2, 3] [(0, .ref (a 0)), (2, .int x2), (3, .int x3), (4, .int x4)] rfl ?_
    exact L78 K2 hK2 K41 hK41 x2 x3 x4 (1 : Int32) t h
  have L41 : ∀ (K2 : Int32 → St → Option (St)) (hK2 : ∀ (x1 : Int32) (t : St), K2 x1 t = some z → J p l e { frames := 2, cells := 0, slots := 0, locals := 44 } s m args below meth c 5 (dC, dI) vwCl A (MQ below (jQv (dC, dI) vwCl (tyA cI cB cJ cZ) (fun _ : Unit => wM cI cB cJ cZ a z) A) args s 0 0 A) 0 0 2 [(0, .ref (a 0)), (1, .int x1)] [] (wM cI cB cJ cZ a t)) (k : Nat) (x2 : Int32) (x3 : Int32) (t : St), m_Model_readQuantisers_41 n K2 k x2 x3 t = some z → J p l e { frames := 2, cells := 0, slots := 0, locals := 44 } s m args below meth c 5 (dC, dI) vwCl A (MQ below (jQv (dC, dI) vwCl (tyA cI cB cJ cZ) (fun _ : Unit => wM cI cB cJ cZ a z) A) args s 0 0 A) 0 0 41 [(0, .ref (a 0)), (2, .int x2), (3, .int x3)] [] (wM cI cB cJ cZ a t) := by
    intro K2 hK2 k
    induction k with
    | zero => intro x2 x3 t h; exact absurd (show none = some z from h) (by simp)
    | succ k ih =>
      intro x2 x3 t h
      change m_Model_readQuantisers_41b n K2 (m_Model_readQuantisers_41 n K2 k) x2 x3 t = some z at h
      unfold m_Model_readQuantisers_41b at h
      refine J_iload_n X d_Model_readQuantisers_41 2 rfl rfl ?_
      refine J_bipush (v := (64 : Int32)) X d_Model_readQuantisers_42 (by decide) ?_
      refine J_icmp_ge X 100 d_Model_readQuantisers_44 (by decide) (fun c44 => ?_) (fun c44 => ?_)
      · rw [if_pos c44] at h
        refine J_lv [0, 1] [(0, .ref (a 0)), (2, .int x2)] rfl ?_
        exact L100 K2 hK2 x2 t h
      · rw [if_neg c44] at h
        refine J_aload_n X d_Model_readQuantisers_47 0 rfl rfl ?_
        refine J_get (v := .int (t.1 2)) X (fun w h => mm (in_Model w h)) 0 rfl rfl 3 (by decide) (mm k_fl_Model_107) rfl rfl d_Model_readQuantisers_48 ?_
        refine J_if_ne X 100 d_Model_readQuantisers_51 (by decide) (fun c51 => ?_) (fun c51 => ?_)
        · rw [if_neg c51] at h
          refine J_lv [0, 1] [(0, .ref (a 0)), (2, .int x2)] rfl ?_
          exact L100 K2 hK2 x2 t h
        · rw [if_pos c51] at h
          refine J_aload_n X d_Model_readQuantisers_54 0 rfl rfl ?_
          obtain ⟨z55, hz55, h⟩ := j_bind h
          refine J_callVi0 (n := 0) (wc := (wM cI cB cJ cZ a t)) (r := z55.1) (w1 := fun _ : Unit => wM cI cB cJ cZ a z55.2) X isM (hCM cI cB cJ cZ a t) (hDM cI cB cJ cZ a t) rfl [] [] (ct_Model_next l dC dI cI cB cJ cZ a n t hz55) (aw_V (fun w h => mm h) k_ml_Model_128 k_im_Model_next k_se_Model_next k_in_Model k_cd_Model_next) rfl (by decide +kernel) ⟨(Nat.le_of_ble_eq_true rfl), (Nat.le_of_ble_eq_true rfl)⟩ (q0 := 0) rfl rfl rfl rfl (Nat.le_of_ble_eq_true rfl) d_Model_readQuantisers_55 ⟨(Nat.le_of_ble_eq_true rfl), (Nat.le_of_ble_eq_true rfl)⟩ (fun _ => ?_)
          refine J_istore X [(4, .int z55.1), (0, .ref (a 0)), (2, .int x2), (3, .int x3)] d_Model_readQuantisers_58 (by decide) rfl ?_
          refine J_aload_n X d_Model_readQuantisers_60 1 rfl rfl ?_
          refine J_aload_n X d_Model_readQuantisers_61 1 rfl rfl ?_
          refine J_get (v := .int (z55.2.1 2)) X (fun w h => mm (in_Model w h)) 0 rfl rfl 3 (by decide) (mm k_fl_Model_107) rfl rfl d_Model_readQuantisers_62 ?_
          refine J_if_gt X 73 d_Model_readQuantisers_65 (by decide) (fun c65 => ?_) (fun c65 => ?_)
          · rw [if_pos c65] at h
            refine J_lv [1, 2, 3, 0] [(0, .ref (a 0)), (2, .int x2), (3, .int x3), (4, .int z55.1)] rfl ?_
            exact L73 K2 hK2 (m_Model_readQuantisers_41 n K2 k) ih x2 x3 z55.1 z55.2 h
          · rw [if_neg c65] at h
            refine J_iload X d_Model_readQuantisers_68 0 rfl ?_
            refine J_if_le X 77 d_Model_readQuantisers_70 (by decide) (fun c70 => ?_) (fun c70 => ?_)
            · rw [if_pos c70] at h
              refine J_iconst (v := (0 : Int32)) X d_Model_readQuantisers_77 (by decide) ?_
              refine J_lv [1, 2, 3, 0] [(0, .ref (a 0)), (2, .int x2), (3, .int x3), (4, .int z55.1)] rfl ?_
              exact L78 K2 hK2 (m_Model_readQuantisers_41 n K2 k) ih x2 x3 z55.1 (0 : Int32) z55.2 h
            · rw [if_neg c70] at h
              refine J_lv [1, 2, 3, 0] [(0, .ref (a 0)), (2, .int x2), (3, .int x3), (4, .int z55.1)] rfl ?_
              exact L73 K2 hK2 (m_Model_readQuantisers_41 n K2 k) ih x2 x3 z55.1 z55.2 h
  have L36 : ∀ (K2 : Int32 → St → Option (St)) (hK2 : ∀ (x1 : Int32) (t : St), K2 x1 t = some z → J p l e { frames := 2, cells := 0, slots := 0, locals := 44 } s m args below meth c 5 (dC, dI) vwCl A (MQ below (jQv (dC, dI) vwCl (tyA cI cB cJ cZ) (fun _ : Unit => wM cI cB cJ cZ a z) A) args s 0 0 A) 0 0 2 [(0, .ref (a 0)), (1, .int x1)] [] (wM cI cB cJ cZ a t)) (x2 : Int32) (y1 : Int32) (t : St), m_Model_readQuantisers_36 n K2 x2 y1 t = some z → J p l e { frames := 2, cells := 0, slots := 0, locals := 44 } s m args below meth c 5 (dC, dI) vwCl A (MQ below (jQv (dC, dI) vwCl (tyA cI cB cJ cZ) (fun _ : Unit => wM cI cB cJ cZ a z) A) args s 0 0 A) 0 0 36 [(0, .ref (a 0)), (2, .int x2)] [.int y1, .ref (a 0)] (wM cI cB cJ cZ a t) := by
    intro K2 hK2 x2 y1 t h
    unfold m_Model_readQuantisers_36 at h
    obtain ⟨z36, hz36, h⟩ := j_bind h
    refine J_callVv0 (n := 1) (wc := (wM cI cB cJ cZ a t)) (w1 := fun _ : Unit => wM cI cB cJ cZ a z36) X isM (hCM cI cB cJ cZ a t) (hDM cI cB cJ cZ a t) rfl [.int y1] [] (ct_Model_must l dC dI cI cB cJ cZ a n y1 t hz36) (aw_V (fun w h => mm h) k_ml_Model_140 k_im_Model_must k_se_Model_must k_in_Model k_cd_Model_must) rfl (by decide +kernel) ⟨(Nat.le_of_ble_eq_true rfl), (Nat.le_of_ble_eq_true rfl)⟩ (q0 := 0) rfl rfl rfl rfl (Nat.le_of_ble_eq_true rfl) d_Model_readQuantisers_36 ⟨(Nat.le_of_ble_eq_true rfl), (Nat.le_of_ble_eq_true rfl)⟩ (fun _ => ?_)
    refine J_iconst (v := (0 : Int32)) X d_Model_readQuantisers_39 (by decide) ?_
    refine J_istore_n X [(3, .int (0 : Int32)), (0, .ref (a 0)), (2, .int x2)] d_Model_readQuantisers_40 rfl (by decide) rfl ?_
    refine J_lv [1, 2, 0] [(0, .ref (a 0)), (2, .int x2), (3, .int (0 : Int32))] rfl ?_
    exact L41 K2 hK2 n x2 (0 : Int32) z36 h
  have L31 : ∀ (K2 : Int32 → St → Option (St)) (hK2 : ∀ (x1 : Int32) (t : St), K2 x1 t = some z → J p l e { frames := 2, cells := 0, slots := 0, locals := 44 } s m args below meth c 5 (dC, dI) vwCl A (MQ below (jQv (dC, dI) vwCl (tyA cI cB cJ cZ) (fun _ : Unit => wM cI cB cJ cZ a z) A) args s 0 0 A) 0 0 2 [(0, .ref (a 0)), (1, .int x1)] [] (wM cI cB cJ cZ a t)) (x2 : Int32) (t : St), m_Model_readQuantisers_31 n K2 x2 t = some z → J p l e { frames := 2, cells := 0, slots := 0, locals := 44 } s m args below meth c 5 (dC, dI) vwCl A (MQ below (jQv (dC, dI) vwCl (tyA cI cB cJ cZ) (fun _ : Unit => wM cI cB cJ cZ a z) A) args s 0 0 A) 0 0 31 [(0, .ref (a 0)), (2, .int x2)] [.ref (a 0)] (wM cI cB cJ cZ a t) := by
    intro K2 hK2 x2 t h
    unfold m_Model_readQuantisers_31 at h
    refine J_iconst (v := (1 : Int32)) X d_Model_readQuantisers_31 (by decide) ?_
    refine J_goto X 36 d_Model_readQuantisers_32 (by decide) ?_
    refine J_lv [0, 1] [(0, .ref (a 0)), (2, .int x2)] rfl ?_
    exact L36 K2 hK2 x2 (1 : Int32) t h
  have L2 : ∀ (k : Nat) (x1 : Int32) (t : St), m_Model_readQuantisers_2 n  k x1 t = some z → J p l e { frames := 2, cells := 0, slots := 0, locals := 44 } s m args below meth c 5 (dC, dI) vwCl A (MQ below (jQv (dC, dI) vwCl (tyA cI cB cJ cZ) (fun _ : Unit => wM cI cB cJ cZ a z) A) args s 0 0 A) 0 0 2 [(0, .ref (a 0)), (1, .int x1)] [] (wM cI cB cJ cZ a t) := by
    intro k
    induction k with
    | zero => intro x1 t h; exact absurd (show none = some z from h) (by simp)
    | succ k ih =>
      intro x1 t h
      change m_Model_readQuantisers_2b n  (m_Model_readQuantisers_2 n  k) x1 t = some z at h
      unfold m_Model_readQuantisers_2b at h
      refine J_iload_n X d_Model_readQuantisers_2 1 rfl rfl ?_
      refine J_if_eq X 134 d_Model_readQuantisers_3 (by decide) (fun c3 => ?_) (fun c3 => ?_)
      · rw [if_pos c3] at h
        exact J_vret X hr hlk () (Nat.le_of_ble_eq_true rfl) (Nat.le_of_ble_eq_true rfl) (congrArg (fun q => wM cI cB cJ cZ a q) (j_s h)) d_Model_readQuantisers_134
      · rw [if_neg c3] at h
        refine J_aload_n X d_Model_readQuantisers_6 0 rfl rfl ?_
        refine J_get (v := .int (t.1 2)) X (fun w h => mm (in_Model w h)) 0 rfl rfl 3 (by decide) (mm k_fl_Model_107) rfl rfl d_Model_readQuantisers_7 ?_
        refine J_if_ne X 134 d_Model_readQuantisers_10 (by decide) (fun c10 => ?_) (fun c10 => ?_)
        · rw [if_neg c10] at h
          exact J_vret X hr hlk () (Nat.le_of_ble_eq_true rfl) (Nat.le_of_ble_eq_true rfl) (congrArg (fun q => wM cI cB cJ cZ a q) (j_s h)) d_Model_readQuantisers_134
        · rw [if_pos c10] at h
          refine J_aload_n X d_Model_readQuantisers_13 0 rfl rfl ?_
          obtain ⟨z14, hz14, h⟩ := j_bind h
          refine J_callVi0 (n := 0) (wc := (wM cI cB cJ cZ a t)) (r := z14.1) (w1 := fun _ : Unit => wM cI cB cJ cZ a z14.2) X isM (hCM cI cB cJ cZ a t) (hDM cI cB cJ cZ a t) rfl [] [] (ct_Model_next l dC dI cI cB cJ cZ a n t hz14) (aw_V (fun w h => mm h) k_ml_Model_128 k_im_Model_next k_se_Model_next k_in_Model k_cd_Model_next) rfl (by decide +kernel) ⟨(Nat.le_of_ble_eq_true rfl), (Nat.le_of_ble_eq_true rfl)⟩ (q0 := 0) rfl rfl rfl rfl (Nat.le_of_ble_eq_true rfl) d_Model_readQuantisers_14 ⟨(Nat.le_of_ble_eq_true rfl), (Nat.le_of_ble_eq_true rfl)⟩ (fun _ => ?_)
          refine J_istore_n X [(2, .int z14.1), (0, .ref (a 0)), (1, .int x1)] d_Model_readQuantisers_17 rfl (by decide) rfl ?_
          refine J_aload_n X d_Model_readQuantisers_18 1 rfl rfl ?_
          refine J_aload_n X d_Model_readQuantisers_19 1 rfl rfl ?_
          refine J_get (v := .int (z14.2.1 2)) X (fun w h => mm (in_Model w h)) 0 rfl rfl 3 (by decide) (mm k_fl_Model_107) rfl rfl d_Model_readQuantisers_20 ?_
          refine J_if_gt X 31 d_Model_readQuantisers_23 (by decide) (fun c23 => ?_) (fun c23 => ?_)
          · rw [if_pos c23] at h
            refine J_lv [1, 0] [(0, .ref (a 0)), (2, .int z14.1)] rfl ?_
            exact L31 (m_Model_readQuantisers_2 n  k) ih z14.1 z14.2 h
          · rw [if_neg c23] at h
            refine J_iload_n X d_Model_readQuantisers_26 0 rfl rfl ?_
            refine J_iconst (v := (4 : Int32)) X d_Model_readQuantisers_27 (by decide) ?_
            refine J_icmp_ge X 35 d_Model_readQuantisers_28 (by decide) (fun c28 => ?_) (fun c28 => ?_)
            · rw [if_pos c28] at h
              refine J_iconst (v := (0 : Int32)) X d_Model_readQuantisers_35 (by decide) ?_
              refine J_lv [1, 0] [(0, .ref (a 0)), (2, .int z14.1)] rfl ?_
              exact L36 (m_Model_readQuantisers_2 n  k) ih z14.1 (0 : Int32) z14.2 h
            · rw [if_neg c28] at h
              refine J_lv [1, 0] [(0, .ref (a 0)), (2, .int z14.1)] rfl ?_
              exact L31 (m_Model_readQuantisers_2 n  k) ih z14.1 z14.2 h
  refine J_lv [0] [(0, .ref (a 0))] rfl ?_
  unfold m_Model_readQuantisers at h
  refine J_iconst (v := (1 : Int32)) X d_Model_readQuantisers_0 (by decide) ?_
  refine J_istore_n X [(1, .int (1 : Int32)), (0, .ref (a 0))] d_Model_readQuantisers_1 rfl (by decide) rfl ?_
  refine J_lv [1, 0] [(0, .ref (a 0)), (1, .int (1 : Int32))] rfl ?_
  exact L2  n (1 : Int32) t h
set_option maxHeartbeats 4000000 in
set_option maxRecDepth 100000 in
theorem ct_Model_readTable (l : Launch) (dC : Nat → ClassId) (dI : Nat → Nat → Nat) (cI cB cJ cZ : ClassId) (a : Nat → Nat) (n : Nat) (x1 : Int32) (t : St) {z : St} (h : m_Model_readTable n x1 t = some z) : jMv l y_Model_readTable w_Model_readTable ({ frames := 2, cells := 0, slots := 0, locals := 44 }) (dC, dI) vwCl (tyA cI cB cJ cZ) [.ref (a 0), .int x1] (wM cI cB cJ cZ a t) (fun _ : Unit => wM cI cB cJ cZ a z) := by
  refine jMv.of (cc := c_Model_readTable) (maxL := 7) (ret := none) (by decide) rfl (Nat.le_of_ble_eq_true rfl) ?_
  intro p e s m args below meth c A X hr hlk hnm
  have L242 : ∀ (x1 : Int32) (x2 : Int32) (t : St), m_Model_readTable_242 n  x1 x2 t = some z → J p l e { frames := 2, cells := 0, slots := 0, locals := 44 } s m args below meth c 7 (dC, dI) vwCl A (MQ below (jQv (dC, dI) vwCl (tyA cI cB cJ cZ) (fun _ : Unit => wM cI cB cJ cZ a z) A) args s 0 0 A) 0 0 242 [(0, .ref (a 0)), (1, .int x1), (2, .int x2)] [] (wM cI cB cJ cZ a t) := by
    intro x1 x2 t h
    unfold m_Model_readTable_242 at h
    refine J_aload_n X d_Model_readTable_242 0 rfl rfl ?_
    refine J_get (v := .ref (a 12)) X (fun w h => mm (in_Model w h)) 0 rfl rfl 25 (by decide) (mm k_fl_Model_49) rfl rfl d_Model_readTable_243 ?_
    refine J_iload_n X d_Model_readTable_246 1 rfl rfl ?_
    refine J_iload_n X d_Model_readTable_247 2 rfl rfl ?_
    obtain ⟨b248, h⟩ := j_ifn h
    refine J_iast (f := (t.2.1 11)) X 12 0 rfl rfl b248 d_Model_readTable_248 (wM cI cB cJ cZ a (sH t 11 (x1).toNatClampNeg x2)) rfl ?_
    refine J_aload_n X d_Model_readTable_249 0 rfl rfl ?_
    refine J_get (v := .int (t.1 2)) X (fun w h => mm (in_Model w h)) 0 rfl rfl 3 (by decide) (mm k_fl_Model_107) rfl rfl d_Model_readTable_250 ?_
    refine J_if_ne X 263 d_Model_readTable_253 (by decide) (fun c253 => ?_) (fun c253 => ?_)
    · rw [if_neg c253] at h
      exact J_vret X hr hlk () (Nat.le_of_ble_eq_true rfl) (Nat.le_of_ble_eq_true rfl) (congrArg (fun q => wM cI cB cJ cZ a q) (j_s h)) d_Model_readTable_263
    · rw [if_pos c253] at h
      refine J_aload_n X d_Model_readTable_256 0 rfl rfl ?_
      refine J_get (v := .ref (a 9)) X (fun w h => mm (in_Model w h)) 0 rfl rfl 22 (by decide) (mm k_fl_Model_40) rfl rfl d_Model_readTable_257 ?_
      refine J_iload_n X d_Model_readTable_260 1 rfl rfl ?_
      refine J_iconst (v := (1 : Int32)) X d_Model_readTable_261 (by decide) ?_
      obtain ⟨w262, hw262, h⟩ := j_bind h
      refine J_to _ _ (wM cI cB cJ cZ a w262) rfl rfl (congrArg (fun q => wM cI cB cJ cZ a q) (j_s hw262)) ?_
      obtain ⟨b262, h⟩ := j_ifn h
      refine J_zast (f := (w262.2.1 8)) X 9 3 rfl rfl b262 d_Model_readTable_262 (wM cI cB cJ cZ a (sH w262 8 (x1).toNatClampNeg (vp_nar .boolean (1 : Int32)))) rfl ?_
      exact J_vret X hr hlk () (Nat.le_of_ble_eq_true rfl) (Nat.le_of_ble_eq_true rfl) (congrArg (fun q => wM cI cB cJ cZ a q) (j_s h)) d_Model_readTable_263
  have L210 : ∀ (K156 : Int32 → Int32 → Int32 → St → Option (St)) (hK156 : ∀ (x1 : Int32) (x2 : Int32) (x5 : Int32) (t : St), K156 x1 x2 x5 t = some z → J p l e { frames := 2, cells := 0, slots := 0, locals := 44 } s m args below meth c 7 (dC, dI) vwCl A (MQ below (jQv (dC, dI) vwCl (tyA cI cB cJ cZ) (fun _ : Unit => wM cI cB cJ cZ a z) A) args s 0 0 A) 0 0 156 [(0, .ref (a 0)), (1, .int x1), (2, .int x2), (5, .int x5)] [] (wM cI cB cJ cZ a t)) (x1 : Int32) (x2 : Int32) (x5 : Int32) (x6 : Int32) (y1 : Int32) (t : St), m_Model_readTable_210 n K156 x1 x2 x5 x6 y1 t = some z → J p l e { frames := 2, cells := 0, slots := 0, locals := 44 } s m args below meth c 7 (dC, dI) vwCl A (MQ below (jQv (dC, dI) vwCl (tyA cI cB cJ cZ) (fun _ : Unit => wM cI cB cJ cZ a z) A) args s 0 0 A) 0 0 210 [(0, .ref (a 0)), (1, .int x1), (2, .int x2), (5, .int x5), (6, .int x6)] [.int y1, .ref (a 0)] (wM cI cB cJ cZ a t) := by
    intro K156 hK156 x1 x2 x5 x6 y1 t h
    unfold m_Model_readTable_210 at h
    obtain ⟨z210, hz210, h⟩ := j_bind h
    refine J_callVv0 (n := 1) (wc := (wM cI cB cJ cZ a t)) (w1 := fun _ : Unit => wM cI cB cJ cZ a z210) X isM (hCM cI cB cJ cZ a t) (hDM cI cB cJ cZ a t) rfl [.int y1] [] (ct_Model_must l dC dI cI cB cJ cZ a n y1 t hz210) (aw_V (fun w h => mm h) k_ml_Model_140 k_im_Model_must k_se_Model_must k_in_Model k_cd_Model_must) rfl (by decide +kernel) ⟨(Nat.le_of_ble_eq_true rfl), (Nat.le_of_ble_eq_true rfl)⟩ (q0 := 0) rfl rfl rfl rfl (Nat.le_of_ble_eq_true rfl) d_Model_readTable_210 ⟨(Nat.le_of_ble_eq_true rfl), (Nat.le_of_ble_eq_true rfl)⟩ (fun _ => ?_)
    refine J_aload_n X d_Model_readTable_213 0 rfl rfl ?_
    refine J_get (v := .ref (a 19)) X (fun w h => mm (in_Model w h)) 0 rfl rfl 34 (by decide) (mm k_fl_Model_71) rfl rfl d_Model_readTable_214 ?_
    refine J_iload X d_Model_readTable_217 4 rfl ?_
    refine J_iconst (v := (1 : Int32)) X d_Model_readTable_219 (by decide) ?_
    obtain ⟨b220, h⟩ := j_ifn h
    refine J_zast (f := (z210.2.1 18)) X 19 3 rfl rfl b220 d_Model_readTable_220 (wM cI cB cJ cZ a (sH z210 18 (x6).toNatClampNeg (vp_nar .boolean (1 : Int32)))) rfl ?_
    refine J_aload_n X d_Model_readTable_221 0 rfl rfl ?_
    refine J_get (v := .ref (a 11)) X (fun w h => mm (in_Model w h)) 0 rfl rfl 24 (by decide) (mm k_fl_Model_46) rfl rfl d_Model_readTable_222 ?_
    refine J_sipush (v := (256 : Int32)) X d_Model_readTable_225 (by decide) ?_
    refine J_iload_n X d_Model_readTable_228 1 rfl rfl ?_
    refine J_imul X d_Model_readTable_229 ?_
    refine J_iload X d_Model_readTable_230 3 rfl ?_
    refine J_iadd X d_Model_readTable_232 ?_
    refine J_iload X d_Model_readTable_233 4 rfl ?_
    obtain ⟨w235, hw235, h⟩ := j_bind h
    refine J_to _ _ (wM cI cB cJ cZ a w235) rfl rfl (congrArg (fun q => wM cI cB cJ cZ a q) (j_s hw235)) ?_
    obtain ⟨b235, h⟩ := j_ifn h
    refine J_iast (f := (w235.2.1 10)) X 11 0 rfl rfl b235 d_Model_readTable_235 (wM cI cB cJ cZ a (sH w235 10 ((((256 : Int32) * x1) + x5)).toNatClampNeg x6)) rfl ?_
    refine J_iinc (v := (x5 + 1)) X [(5, .int (x5 + 1)), (0, .ref (a 0)), (1, .int x1), (2, .int x2), (6, .int x6)] d_Model_readTable_236 3 rfl rfl (by decide) rfl ?_
    refine J_goto X 156 d_Model_readTable_239 (by decide) ?_
    refine J_lv [1, 2, 3, 0] [(0, .ref (a 0)), (1, .int x1), (2, .int x2), (5, .int (x5 + 1))] rfl ?_
    exact hK156 x1 x2 (x5 + 1) (sH w235 10 ((((256 : Int32) * x1) + x5)).toNatClampNeg x6) h
  have L205 : ∀ (K156 : Int32 → Int32 → Int32 → St → Option (St)) (hK156 : ∀ (x1 : Int32) (x2 : Int32) (x5 : Int32) (t : St), K156 x1 x2 x5 t = some z → J p l e { frames := 2, cells := 0, slots := 0, locals := 44 } s m args below meth c 7 (dC, dI) vwCl A (MQ below (jQv (dC, dI) vwCl (tyA cI cB cJ cZ) (fun _ : Unit => wM cI cB cJ cZ a z) A) args s 0 0 A) 0 0 156 [(0, .ref (a 0)), (1, .int x1), (2, .int x2), (5, .int x5)] [] (wM cI cB cJ cZ a t)) (x1 : Int32) (x2 : Int32) (x5 : Int32) (x6 : Int32) (t : St), m_Model_readTable_205 n K156 x1 x2 x5 x6 t = some z → J p l e { frames := 2, cells := 0, slots := 0, locals := 44 } s m args below meth c 7 (dC, dI) vwCl A (MQ below (jQv (dC, dI) vwCl (tyA cI cB cJ cZ) (fun _ : Unit => wM cI cB cJ cZ a z) A) args s 0 0 A) 0 0 205 [(0, .ref (a 0)), (1, .int x1), (2, .int x2), (5, .int x5), (6, .int x6)] [.ref (a 0)] (wM cI cB cJ cZ a t) := by
    intro K156 hK156 x1 x2 x5 x6 t h
    unfold m_Model_readTable_205 at h
    refine J_iconst (v := (1 : Int32)) X d_Model_readTable_205 (by decide) ?_
    refine J_goto X 210 d_Model_readTable_206 (by decide) ?_
    refine J_lv [0, 1, 2, 3, 4] [(0, .ref (a 0)), (1, .int x1), (2, .int x2), (5, .int x5), (6, .int x6)] rfl ?_
    exact L210 K156 hK156 x1 x2 x5 x6 (1 : Int32) t h
  have L209 : ∀ (K156 : Int32 → Int32 → Int32 → St → Option (St)) (hK156 : ∀ (x1 : Int32) (x2 : Int32) (x5 : Int32) (t : St), K156 x1 x2 x5 t = some z → J p l e { frames := 2, cells := 0, slots := 0, locals := 44 } s m args below meth c 7 (dC, dI) vwCl A (MQ below (jQv (dC, dI) vwCl (tyA cI cB cJ cZ) (fun _ : Unit => wM cI cB cJ cZ a z) A) args s 0 0 A) 0 0 156 [(0, .ref (a 0)), (1, .int x1), (2, .int x2), (5, .int x5)] [] (wM cI cB cJ cZ a t)) (x1 : Int32) (x2 : Int32) (x5 : Int32) (x6 : Int32) (t : St), m_Model_readTable_209 n K156 x1 x2 x5 x6 t = some z → J p l e { frames := 2, cells := 0, slots := 0, locals := 44 } s m args below meth c 7 (dC, dI) vwCl A (MQ below (jQv (dC, dI) vwCl (tyA cI cB cJ cZ) (fun _ : Unit => wM cI cB cJ cZ a z) A) args s 0 0 A) 0 0 209 [(0, .ref (a 0)), (1, .int x1), (2, .int x2), (5, .int x5), (6, .int x6)] [.ref (a 0)] (wM cI cB cJ cZ a t) := by
    intro K156 hK156 x1 x2 x5 x6 t h
    unfold m_Model_readTable_209 at h
    refine J_iconst (v := (0 : Int32)) X d_Model_readTable_209 (by decide) ?_
    refine J_lv [0, 1, 2, 3, 4] [(0, .ref (a 0)), (1, .int x1), (2, .int x2), (5, .int x5), (6, .int x6)] rfl ?_
    exact L210 K156 hK156 x1 x2 x5 x6 (0 : Int32) t h
  have L156 : ∀ (k : Nat) (x1 : Int32) (x2 : Int32) (x5 : Int32) (t : St), m_Model_readTable_156 n  k x1 x2 x5 t = some z → J p l e { frames := 2, cells := 0, slots := 0, locals := 44 } s m args below meth c 7 (dC, dI) vwCl A (MQ below (jQv (dC, dI) vwCl (tyA cI cB cJ cZ) (fun _ : Unit => wM cI cB cJ cZ a z) A) args s 0 0 A) 0 0 156 [(0, .ref (a 0)), (1, .int x1), (2, .int x2), (5, .int x5)] [] (wM cI cB cJ cZ a t) := by
    intro k
    induction k with
    | zero => intro x1 x2 x5 t h; exact absurd (show none = some z from h) (by simp)
    | succ k ih =>
      intro x1 x2 x5 t h
      change m_Model_readTable_156b n  (m_Model_readTable_156 n  k) x1 x2 x5 t = some z at h
      unfold m_Model_readTable_156b at h
      refine J_iload X d_Model_readTable_156 3 rfl ?_
      refine J_iload_n X d_Model_readTable_158 2 rfl rfl ?_
      refine J_icmp_ge X 242 d_Model_readTable_159 (by decide) (fun c159 => ?_) (fun c159 => ?_)
      · rw [if_pos c159] at h
        refine J_lv [0, 1, 2] [(0, .ref (a 0)), (1, .int x1), (2, .int x2)] rfl ?_
        exact L242  x1 x2 t h
      · rw [if_neg c159] at h
        refine J_aload_n X d_Model_readTable_162 0 rfl rfl ?_
        refine J_get (v := .int (t.1 2)) X (fun w h => mm (in_Model w h)) 0 rfl rfl 3 (by decide) (mm k_fl_Model_107) rfl rfl d_Model_readTable_163 ?_
        refine J_if_ne X 242 d_Model_readTable_166 (by decide) (fun c166 => ?_) (fun c166 => ?_)
        · rw [if_neg c166] at h
          refine J_lv [0, 1, 2] [(0, .ref (a 0)), (1, .int x1), (2, .int x2)] rfl ?_
          exact L242  x1 x2 t h
        · rw [if_pos c166] at h
          refine J_aload_n X d_Model_readTable_169 0 rfl rfl ?_
          obtain ⟨z170, hz170, h⟩ := j_bind h
          refine J_callVi0 (n := 0) (wc := (wM cI cB cJ cZ a t)) (r := z170.1) (w1 := fun _ : Unit => wM cI cB cJ cZ a z170.2) X isM (hCM cI cB cJ cZ a t) (hDM cI cB cJ cZ a t) rfl [] [] (ct_Model_next l dC dI cI cB cJ cZ a n t hz170) (aw_V (fun w h => mm h) k_ml_Model_128 k_im_Model_next k_se_Model_next k_in_Model k_cd_Model_next) rfl (by decide +kernel) ⟨(Nat.le_of_ble_eq_true rfl), (Nat.le_of_ble_eq_true rfl)⟩ (q0 := 0) rfl rfl rfl rfl (Nat.le_of_ble_eq_true rfl) d_Model_readTable_170 ⟨(Nat.le_of_ble_eq_true rfl), (Nat.le_of_ble_eq_true rfl)⟩ (fun _ => ?_)
          refine J_istore X [(6, .int z170.1), (0, .ref (a 0)), (1, .int x1), (2, .int x2), (5, .int x5)] d_Model_readTable_173 (by decide) rfl ?_
          refine J_aload_n X d_Model_readTable_175 1 rfl rfl ?_
          refine J_aload_n X d_Model_readTable_176 1 rfl rfl ?_
          refine J_get (v := .int (z170.2.1 2)) X (fun w h => mm (in_Model w h)) 0 rfl rfl 3 (by decide) (mm k_fl_Model_107) rfl rfl d_Model_readTable_177 ?_
          refine J_if_gt X 205 d_Model_readTable_180 (by decide) (fun c180 => ?_) (fun c180 => ?_)
          · rw [if_pos c180] at h
            refine J_lv [1, 2, 3, 4, 0] [(0, .ref (a 0)), (1, .int x1), (2, .int x2), (5, .int x5), (6, .int z170.1)] rfl ?_
            exact L205 (m_Model_readTable_156 n  k) ih x1 x2 x5 z170.1 z170.2 h
          · rw [if_neg c180] at h
            refine J_aload_n X d_Model_readTable_183 1 rfl rfl ?_
            refine J_get (v := .ref (a 19)) X (fun w h => mm (in_Model w h)) 0 rfl rfl 34 (by decide) (mm k_fl_Model_71) rfl rfl d_Model_readTable_184 ?_
            refine J_iload X d_Model_readTable_187 0 rfl ?_
            obtain ⟨b189, h⟩ := j_ifn h
            refine J_zald (f := (z170.2.2.1 18)) X 19 3 rfl rfl b189 d_Model_readTable_189 ?_
            refine J_if_ne X 209 d_Model_readTable_190 (by decide) (fun c190 => ?_) (fun c190 => ?_)
            · rw [if_neg c190] at h
              refine J_lv [1, 2, 3, 4, 0] [(0, .ref (a 0)), (1, .int x1), (2, .int x2), (5, .int x5), (6, .int z170.1)] rfl ?_
              exact L209 (m_Model_readTable_156 n  k) ih x1 x2 x5 z170.1 z170.2 h
            · rw [if_pos c190] at h
              refine J_iload_n X d_Model_readTable_193 2 rfl rfl ?_
              refine J_iconst (v := (3 : Int32)) X d_Model_readTable_194 (by decide) ?_
              refine J_icmp_gt X 205 d_Model_readTable_195 (by decide) (fun c195 => ?_) (fun c195 => ?_)
              · rw [if_pos c195] at h
                refine J_lv [1, 2, 3, 4, 0] [(0, .ref (a 0)), (1, .int x1), (2, .int x2), (5, .int x5), (6, .int z170.1)] rfl ?_
                exact L205 (m_Model_readTable_156 n  k) ih x1 x2 x5 z170.1 z170.2 h
              · rw [if_neg c195] at h
                refine J_iload X d_Model_readTable_198 0 rfl ?_
                refine J_bipush (v := (12 : Int32)) X d_Model_readTable_200 (by decide) ?_
                refine J_icmp_ge X 209 d_Model_readTable_202 (by decide) (fun c202 => ?_) (fun c202 => ?_)
                · rw [if_pos c202] at h
                  refine J_lv [1, 2, 3, 4, 0] [(0, .ref (a 0)), (1, .int x1), (2, .int x2), (5, .int x5), (6, .int z170.1)] rfl ?_
                  exact L209 (m_Model_readTable_156 n  k) ih x1 x2 x5 z170.1 z170.2 h
                · rw [if_neg c202] at h
                  refine J_lv [1, 2, 3, 4, 0] [(0, .ref (a 0)), (1, .int x1), (2, .int x2), (5, .int x5), (6, .int z170.1)] rfl ?_
                  exact L205 (m_Model_readTable_156 n  k) ih x1 x2 x5 z170.1 z170.2 h
  have L131 : ∀ (k : Nat) (x1 : Int32) (x2 : Int32) (x5 : Int32) (t : St), m_Model_readTable_131 n  k x1 x2 x5 t = some z → J p l e { frames := 2, cells := 0, slots := 0, locals := 44 } s m args below meth c 7 (dC, dI) vwCl A (MQ below (jQv (dC, dI) vwCl (tyA cI cB cJ cZ) (fun _ : Unit => wM cI cB cJ cZ a z) A) args s 0 0 A) 0 0 131 [(0, .ref (a 0)), (1, .int x1), (2, .int x2), (5, .int x5)] [] (wM cI cB cJ cZ a t) := by
    intro k
    induction k with
    | zero => intro x1 x2 x5 t h; exact absurd (show none = some z from h) (by simp)
    | succ k ih =>
      intro x1 x2 x5 t h
      change m_Model_readTable_131b n  (m_Model_readTable_131 n  k) x1 x2 x5 t = some z at h
      unfold m_Model_readTable_131b at h
      refine J_iload X d_Model_readTable_131 3 rfl ?_
      refine J_sipush (v := (256 : Int32)) X d_Model_readTable_133 (by decide) ?_
      refine J_icmp_ge X 153 d_Model_readTable_136 (by decide) (fun c136 => ?_) (fun c136 => ?_)
      · rw [if_pos c136] at h
        refine J_iconst (v := (0 : Int32)) X d_Model_readTable_153 (by decide) ?_
        refine J_istore X [(5, .int (0 : Int32)), (0, .ref (a 0)), (1, .int x1), (2, .int x2)] d_Model_readTable_154 (by decide) rfl ?_
        refine J_lv [1, 2, 3, 0] [(0, .ref (a 0)), (1, .int x1), (2, .int x2), (5, .int (0 : Int32))] rfl ?_
        exact L156  n x1 x2 (0 : Int32) t h
      · rw [if_neg c136] at h
        refine J_aload_n X d_Model_readTable_139 0 rfl rfl ?_
        refine J_get (v := .ref (a 19)) X (fun w h => mm (in_Model w h)) 0 rfl rfl 34 (by decide) (mm k_fl_Model_71) rfl rfl d_Model_readTable_140 ?_
        refine J_iload X d_Model_readTable_143 3 rfl ?_
        refine J_iconst (v := (0 : Int32)) X d_Model_readTable_145 (by decide) ?_
        obtain ⟨b146, h⟩ := j_ifn h
        refine J_zast (f := (t.2.1 18)) X 19 3 rfl rfl b146 d_Model_readTable_146 (wM cI cB cJ cZ a (sH t 18 (x5).toNatClampNeg (vp_nar .boolean (0 : Int32)))) rfl ?_
        refine J_iinc (v := (x5 + 1)) X [(5, .int (x5 + 1)), (0, .ref (a 0)), (1, .int x1), (2, .int x2)] d_Model_readTable_147 3 rfl rfl (by decide) rfl ?_
        refine J_goto X 131 d_Model_readTable_150 (by decide) ?_
        refine J_lv [1, 2, 3, 0] [(0, .ref (a 0)), (1, .int x1), (2, .int x2), (5, .int (x5 + 1))] rfl ?_
        exact ih x1 x2 (x5 + 1) (sH t 18 (x5).toNatClampNeg (vp_nar .boolean (0 : Int32))) h
  have L128 : ∀ (x1 : Int32) (x2 : Int32) (t : St), m_Model_readTable_128 n  x1 x2 t = some z → J p l e { frames := 2, cells := 0, slots := 0, locals := 44 } s m args below meth c 7 (dC, dI) vwCl A (MQ below (jQv (dC, dI) vwCl (tyA cI cB cJ cZ) (fun _ : Unit => wM cI cB cJ cZ a z) A) args s 0 0 A) 0 0 128 [(0, .ref (a 0)), (1, .int x1), (2, .int x2)] [] (wM cI cB cJ cZ a t) := by
    intro x1 x2 t h
    unfold m_Model_readTable_128 at h
    refine J_iconst (v := (0 : Int32)) X d_Model_readTable_128 (by decide) ?_
    refine J_istore X [(5, .int (0 : Int32)), (0, .ref (a 0)), (1, .int x1), (2, .int x2)] d_Model_readTable_129 (by decide) rfl ?_
    refine J_lv [1, 2, 3, 0] [(0, .ref (a 0)), (1, .int x1), (2, .int x2), (5, .int (0 : Int32))] rfl ?_
    exact L131  n x1 x2 (0 : Int32) t h
  have L119 : ∀ (K7 : Int32 → Int32 → Int64 → Int32 → St → Option (St)) (hK7 : ∀ (x1 : Int32) (x2 : Int32) (x3 : Int64) (x5 : Int32) (t : St), K7 x1 x2 x3 x5 t = some z → J p l e { frames := 2, cells := 0, slots := 0, locals := 44 } s m args below meth c 7 (dC, dI) vwCl A (MQ below (jQv (dC, dI) vwCl (tyA cI cB cJ cZ) (fun _ : Unit => wM cI cB cJ cZ a z) A) args s 0 0 A) 0 0 7 [(0, .ref (a 0)), (1, .int x1), (2, .int x2), (3, .long x3), (5, .int x5)] [] (wM cI cB cJ cZ a t)) (x1 : Int32) (x2 : Int32) (x3 : Int64) (x5 : Int32) (y1 : Int32) (t : St), m_Model_readTable_119 n K7 x1 x2 x3 x5 y1 t = some z → J p l e { frames := 2, cells := 0, slots := 0, locals := 44 } s m args below meth c 7 (dC, dI) vwCl A (MQ below (jQv (dC, dI) vwCl (tyA cI cB cJ cZ) (fun _ : Unit => wM cI cB cJ cZ a z) A) args s 0 0 A) 0 0 119 [(0, .ref (a 0)), (1, .int x1), (2, .int x2), (3, .long x3), (5, .int x5)] [.int y1, .ref (a 0)] (wM cI cB cJ cZ a t) := by
    intro K7 hK7 x1 x2 x3 x5 y1 t h
    unfold m_Model_readTable_119 at h
    obtain ⟨z119, hz119, h⟩ := j_bind h
    refine J_callVv0 (n := 1) (wc := (wM cI cB cJ cZ a t)) (w1 := fun _ : Unit => wM cI cB cJ cZ a z119) X isM (hCM cI cB cJ cZ a t) (hDM cI cB cJ cZ a t) rfl [.int y1] [] (ct_Model_must l dC dI cI cB cJ cZ a n y1 t hz119) (aw_V (fun w h => mm h) k_ml_Model_140 k_im_Model_must k_se_Model_must k_in_Model k_cd_Model_must) rfl (by decide +kernel) ⟨(Nat.le_of_ble_eq_true rfl), (Nat.le_of_ble_eq_true rfl)⟩ (q0 := 0) rfl rfl rfl rfl (Nat.le_of_ble_eq_true rfl) d_Model_readTable_119 ⟨(Nat.le_of_ble_eq_true rfl), (Nat.le_of_ble_eq_true rfl)⟩ (fun _ => ?_)
    refine J_iinc (v := (x5 + 1)) X [(5, .int (x5 + 1)), (0, .ref (a 0)), (1, .int x1), (2, .int x2), (3, .long x3)] d_Model_readTable_122 4 rfl rfl (by decide) rfl ?_
    refine J_goto X 7 d_Model_readTable_125 (by decide) ?_
    refine J_lv [1, 2, 3, 4, 0] [(0, .ref (a 0)), (1, .int x1), (2, .int x2), (3, .long x3), (5, .int (x5 + 1))] rfl ?_
    exact hK7 x1 x2 x3 (x5 + 1) z119 h
  have L114 : ∀ (K7 : Int32 → Int32 → Int64 → Int32 → St → Option (St)) (hK7 : ∀ (x1 : Int32) (x2 : Int32) (x3 : Int64) (x5 : Int32) (t : St), K7 x1 x2 x3 x5 t = some z → J p l e { frames := 2, cells := 0, slots := 0, locals := 44 } s m args below meth c 7 (dC, dI) vwCl A (MQ below (jQv (dC, dI) vwCl (tyA cI cB cJ cZ) (fun _ : Unit => wM cI cB cJ cZ a z) A) args s 0 0 A) 0 0 7 [(0, .ref (a 0)), (1, .int x1), (2, .int x2), (3, .long x3), (5, .int x5)] [] (wM cI cB cJ cZ a t)) (x1 : Int32) (x2 : Int32) (x3 : Int64) (x5 : Int32) (t : St), m_Model_readTable_114 n K7 x1 x2 x3 x5 t = some z → J p l e { frames := 2, cells := 0, slots := 0, locals := 44 } s m args below meth c 7 (dC, dI) vwCl A (MQ below (jQv (dC, dI) vwCl (tyA cI cB cJ cZ) (fun _ : Unit => wM cI cB cJ cZ a z) A) args s 0 0 A) 0 0 114 [(0, .ref (a 0)), (1, .int x1), (2, .int x2), (3, .long x3), (5, .int x5)] [.ref (a 0)] (wM cI cB cJ cZ a t) := by
    intro K7 hK7 x1 x2 x3 x5 t h
    unfold m_Model_readTable_114 at h
    refine J_iconst (v := (1 : Int32)) X d_Model_readTable_114 (by decide) ?_
    refine J_goto X 119 d_Model_readTable_115 (by decide) ?_
    refine J_lv [0, 1, 2, 3, 4] [(0, .ref (a 0)), (1, .int x1), (2, .int x2), (3, .long x3), (5, .int x5)] rfl ?_
    exact L119 K7 hK7 x1 x2 x3 x5 (1 : Int32) t h
  have L92 : ∀ (K7 : Int32 → Int32 → Int64 → Int32 → St → Option (St)) (hK7 : ∀ (x1 : Int32) (x2 : Int32) (x3 : Int64) (x5 : Int32) (t : St), K7 x1 x2 x3 x5 t = some z → J p l e { frames := 2, cells := 0, slots := 0, locals := 44 } s m args below meth c 7 (dC, dI) vwCl A (MQ below (jQv (dC, dI) vwCl (tyA cI cB cJ cZ) (fun _ : Unit => wM cI cB cJ cZ a z) A) args s 0 0 A) 0 0 7 [(0, .ref (a 0)), (1, .int x1), (2, .int x2), (3, .long x3), (5, .int x5)] [] (wM cI cB cJ cZ a t)) (x1 : Int32) (x2 : Int32) (x3 : Int64) (x5 : Int32) (y1 : Int32) (t : St), m_Model_readTable_92 n K7 x1 x2 x3 x5 y1 t = some z → J p l e { frames := 2, cells := 0, slots := 0, locals := 44 } s m args below meth c 7 (dC, dI) vwCl A (MQ below (jQv (dC, dI) vwCl (tyA cI cB cJ cZ) (fun _ : Unit => wM cI cB cJ cZ a z) A) args s 0 0 A) 0 0 92 [(0, .ref (a 0)), (1, .int x1), (2, .int x2), (3, .long x3), (5, .int x5)] [.int y1, .ref (a 0)] (wM cI cB cJ cZ a t) := by
    intro K7 hK7 x1 x2 x3 x5 y1 t h
    unfold m_Model_readTable_92 at h
    obtain ⟨z92, hz92, h⟩ := j_bind h
    refine J_callVv0 (n := 1) (wc := (wM cI cB cJ cZ a t)) (w1 := fun _ : Unit => wM cI cB cJ cZ a z92) X isM (hCM cI cB cJ cZ a t) (hDM cI cB cJ cZ a t) rfl [.int y1] [] (ct_Model_must l dC dI cI cB cJ cZ a n y1 t hz92) (aw_V (fun w h => mm h) k_ml_Model_140 k_im_Model_must k_se_Model_must k_in_Model k_cd_Model_must) rfl (by decide +kernel) ⟨(Nat.le_of_ble_eq_true rfl), (Nat.le_of_ble_eq_true rfl)⟩ (q0 := 0) rfl rfl rfl rfl (Nat.le_of_ble_eq_true rfl) d_Model_readTable_92 ⟨(Nat.le_of_ble_eq_true rfl), (Nat.le_of_ble_eq_true rfl)⟩ (fun _ => ?_)
    refine J_aload_n X d_Model_readTable_95 0 rfl rfl ?_
    refine J_aload_n X d_Model_readTable_96 0 rfl rfl ?_
    refine J_get (v := .int (z92.1 2)) X (fun w h => mm (in_Model w h)) 0 rfl rfl 3 (by decide) (mm k_fl_Model_107) rfl rfl d_Model_readTable_97 ?_
    refine J_if_gt X 114 d_Model_readTable_100 (by decide) (fun c100 => ?_) (fun c100 => ?_)
    · rw [if_pos c100] at h
      refine J_lv [0, 1, 2, 3, 4] [(0, .ref (a 0)), (1, .int x1), (2, .int x2), (3, .long x3), (5, .int x5)] rfl ?_
      exact L114 K7 hK7 x1 x2 x3 x5 z92 h
    · rw [if_neg c100] at h
      refine J_iload X d_Model_readTable_103 4 rfl ?_
      refine J_bipush (v := (16 : Int32)) X d_Model_readTable_105 (by decide) ?_
      refine J_icmp_lt X 114 d_Model_readTable_107 (by decide) (fun c107 => ?_) (fun c107 => ?_)
      · rw [if_pos c107] at h
        refine J_lv [0, 1, 2, 3, 4] [(0, .ref (a 0)), (1, .int x1), (2, .int x2), (3, .long x3), (5, .int x5)] rfl ?_
        exact L114 K7 hK7 x1 x2 x3 x5 z92 h
      · rw [if_neg c107] at h
        refine J_iload_n X d_Model_readTable_110 2 rfl rfl ?_
        refine J_if_le X 118 d_Model_readTable_111 (by decide) (fun c111 => ?_) (fun c111 => ?_)
        · rw [if_pos c111] at h
          refine J_iconst (v := (0 : Int32)) X d_Model_readTable_118 (by decide) ?_
          refine J_lv [0, 1, 2, 3, 4] [(0, .ref (a 0)), (1, .int x1), (2, .int x2), (3, .long x3), (5, .int x5)] rfl ?_
          exact L119 K7 hK7 x1 x2 x3 x5 (0 : Int32) z92 h
        · rw [if_neg c111] at h
          refine J_lv [0, 1, 2, 3, 4] [(0, .ref (a 0)), (1, .int x1), (2, .int x2), (3, .long x3), (5, .int x5)] rfl ?_
          exact L114 K7 hK7 x1 x2 x3 x5 z92 h
  have L87 : ∀ (K7 : Int32 → Int32 → Int64 → Int32 → St → Option (St)) (hK7 : ∀ (x1 : Int32) (x2 : Int32) (x3 : Int64) (x5 : Int32) (t : St), K7 x1 x2 x3 x5 t = some z → J p l e { frames := 2, cells := 0, slots := 0, locals := 44 } s m args below meth c 7 (dC, dI) vwCl A (MQ below (jQv (dC, dI) vwCl (tyA cI cB cJ cZ) (fun _ : Unit => wM cI cB cJ cZ a z) A) args s 0 0 A) 0 0 7 [(0, .ref (a 0)), (1, .int x1), (2, .int x2), (3, .long x3), (5, .int x5)] [] (wM cI cB cJ cZ a t)) (x1 : Int32) (x2 : Int32) (x3 : Int64) (x5 : Int32) (t : St), m_Model_readTable_87 n K7 x1 x2 x3 x5 t = some z → J p l e { frames := 2, cells := 0, slots := 0, locals := 44 } s m args below meth c 7 (dC, dI) vwCl A (MQ below (jQv (dC, dI) vwCl (tyA cI cB cJ cZ) (fun _ : Unit => wM cI cB cJ cZ a z) A) args s 0 0 A) 0 0 87 [(0, .ref (a 0)), (1, .int x1), (2, .int x2), (3, .long x3), (5, .int x5)] [.ref (a 0)] (wM cI cB cJ cZ a t) := by
    intro K7 hK7 x1 x2 x3 x5 t h
    unfold m_Model_readTable_87 at h
    refine J_iconst (v := (1 : Int32)) X d_Model_readTable_87 (by decide) ?_
    refine J_goto X 92 d_Model_readTable_88 (by decide) ?_
    refine J_lv [0, 1, 2, 3, 4] [(0, .ref (a 0)), (1, .int x1), (2, .int x2), (3, .long x3), (5, .int x5)] rfl ?_
    exact L92 K7 hK7 x1 x2 x3 x5 (1 : Int32) t h
  have L91 : ∀ (K7 : Int32 → Int32 → Int64 → Int32 → St → Option (St)) (hK7 : ∀ (x1 : Int32) (x2 : Int32) (x3 : Int64) (x5 : Int32) (t : St), K7 x1 x2 x3 x5 t = some z → J p l e { frames := 2, cells := 0, slots := 0, locals := 44 } s m args below meth c 7 (dC, dI) vwCl A (MQ below (jQv (dC, dI) vwCl (tyA cI cB cJ cZ) (fun _ : Unit => wM cI cB cJ cZ a z) A) args s 0 0 A) 0 0 7 [(0, .ref (a 0)), (1, .int x1), (2, .int x2), (3, .long x3), (5, .int x5)] [] (wM cI cB cJ cZ a t)) (x1 : Int32) (x2 : Int32) (x3 : Int64) (x5 : Int32) (t : St), m_Model_readTable_91 n K7 x1 x2 x3 x5 t = some z → J p l e { frames := 2, cells := 0, slots := 0, locals := 44 } s m args below meth c 7 (dC, dI) vwCl A (MQ below (jQv (dC, dI) vwCl (tyA cI cB cJ cZ) (fun _ : Unit => wM cI cB cJ cZ a z) A) args s 0 0 A) 0 0 91 [(0, .ref (a 0)), (1, .int x1), (2, .int x2), (3, .long x3), (5, .int x5)] [.ref (a 0)] (wM cI cB cJ cZ a t) := by
    intro K7 hK7 x1 x2 x3 x5 t h
    unfold m_Model_readTable_91 at h
    refine J_iconst (v := (0 : Int32)) X d_Model_readTable_91 (by decide) ?_
    refine J_lv [0, 1, 2, 3, 4] [(0, .ref (a 0)), (1, .int x1), (2, .int x2), (3, .long x3), (5, .int x5)] rfl ?_
    exact L92 K7 hK7 x1 x2 x3 x5 (0 : Int32) t h
  have L7 : ∀ (k : Nat) (x1 : Int32) (x2 : Int32) (x3 : Int64) (x5 : Int32) (t : St), m_Model_readTable_7 n  k x1 x2 x3 x5 t = some z → J p l e { frames := 2, cells := 0, slots := 0, locals := 44 } s m args below meth c 7 (dC, dI) vwCl A (MQ below (jQv (dC, dI) vwCl (tyA cI cB cJ cZ) (fun _ : Unit => wM cI cB cJ cZ a z) A) args s 0 0 A) 0 0 7 [(0, .ref (a 0)), (1, .int x1), (2, .int x2), (3, .long x3), (5, .int x5)] [] (wM cI cB cJ cZ a t) := by
    intro k
    induction k with
    | zero => intro x1 x2 x3 x5 t h; exact absurd (show none = some z from h) (by simp)
    | succ k ih =>
      intro x1 x2 x3 x5 t h
      change m_Model_readTable_7b n  (m_Model_readTable_7 n  k) x1 x2 x3 x5 t = some z at h
      unfold m_Model_readTable_7b at h
      refine J_iload X d_Model_readTable_7 4 rfl ?_
      refine J_bipush (v := (16 : Int32)) X d_Model_readTable_9 (by decide) ?_
      refine J_icmp_gt X 128 d_Model_readTable_11 (by decide) (fun c11 => ?_) (fun c11 => ?_)
      · rw [if_pos c11] at h
        refine J_lv [0, 1, 2] [(0, .ref (a 0)), (1, .int x1), (2, .int x2)] rfl ?_
        exact L128  x1 x2 t h
      · rw [if_neg c11] at h
        refine J_aload_n X d_Model_readTable_14 0 rfl rfl ?_
        refine J_get (v := .int (t.1 2)) X (fun w h => mm (in_Model w h)) 0 rfl rfl 3 (by decide) (mm k_fl_Model_107) rfl rfl d_Model_readTable_15 ?_
        refine J_if_ne X 128 d_Model_readTable_18 (by decide) (fun c18 => ?_) (fun c18 => ?_)
        · rw [if_neg c18] at h
          refine J_lv [0, 1, 2] [(0, .ref (a 0)), (1, .int x1), (2, .int x2)] rfl ?_
          exact L128  x1 x2 t h
        · rw [if_pos c18] at h
          refine J_aload_n X d_Model_readTable_21 0 rfl rfl ?_
          obtain ⟨z22, hz22, h⟩ := j_bind h
          refine J_callVi0 (n := 0) (wc := (wM cI cB cJ cZ a t)) (r := z22.1) (w1 := fun _ : Unit => wM cI cB cJ cZ a z22.2) X isM (hCM cI cB cJ cZ a t) (hDM cI cB cJ cZ a t) rfl [] [] (ct_Model_next l dC dI cI cB cJ cZ a n t hz22) (aw_V (fun w h => mm h) k_ml_Model_128 k_im_Model_next k_se_Model_next k_in_Model k_cd_Model_next) rfl (by decide +kernel) ⟨(Nat.le_of_ble_eq_true rfl), (Nat.le_of_ble_eq_true rfl)⟩ (q0 := 0) rfl rfl rfl rfl (Nat.le_of_ble_eq_true rfl) d_Model_readTable_22 ⟨(Nat.le_of_ble_eq_true rfl), (Nat.le_of_ble_eq_true rfl)⟩ (fun _ => ?_)
          refine J_istore X [(6, .int z22.1), (0, .ref (a 0)), (1, .int x1), (2, .int x2), (3, .long x3), (5, .int x5)] d_Model_readTable_25 (by decide) rfl ?_
          refine J_aload_n X d_Model_readTable_27 1 rfl rfl ?_
          refine J_get (v := .ref (a 10)) X (fun w h => mm (in_Model w h)) 0 rfl rfl 23 (by decide) (mm k_fl_Model_43) rfl rfl d_Model_readTable_28 ?_
          refine J_bipush (v := (17 : Int32)) X d_Model_readTable_31 (by decide) ?_
          refine J_iload_n X d_Model_readTable_33 2 rfl rfl ?_
          refine J_imul X d_Model_readTable_34 ?_
          refine J_iload X d_Model_readTable_35 5 rfl ?_
          refine J_iadd X d_Model_readTable_37 ?_
          refine J_iload X d_Model_readTable_38 0 rfl ?_
          obtain ⟨b40, h⟩ := j_ifn h
          refine J_iast (f := (z22.2.2.1 9)) X 10 0 rfl rfl b40 d_Model_readTable_40 (wM cI cB cJ cZ a (sH z22.2 9 ((((17 : Int32) * x1) + x5)).toNatClampNeg z22.1)) rfl ?_
          refine J_iload_n X d_Model_readTable_41 3 rfl rfl ?_
          refine J_iload X d_Model_readTable_42 0 rfl ?_
          refine J_iadd X d_Model_readTable_44 ?_
          refine J_istore_n X [(2, .int (x2 + z22.1)), (6, .int z22.1), (0, .ref (a 0)), (1, .int x1), (3, .long x3), (5, .int x5)] d_Model_readTable_45 rfl (by decide) rfl ?_
          refine J_ldc2 (v := (2 : Int64)) X (by decide +kernel) d_Model_readTable_46 ?_
          refine J_lload_n X d_Model_readTable_49 4 rfl rfl ?_
          refine J_lmul X d_Model_readTable_50 ?_
          refine J_iload X d_Model_readTable_51 1 rfl ?_
          refine J_i2l X d_Model_readTable_53 ?_
          refine J_ladd X d_Model_readTable_54 ?_
          refine J_lstore_n X [(3, .long (((2 : Int64) * x3) + (z22.1).toInt64)), (2, .int (x2 + z22.1)), (6, .int z22.1), (0, .ref (a 0)), (1, .int x1), (5, .int x5)] d_Model_readTable_55 rfl (by decide) rfl ?_
          refine J_aload_n X d_Model_readTable_56 3 rfl rfl ?_
          refine J_aload_n X d_Model_readTable_57 3 rfl rfl ?_
          refine J_get (v := .int (z22.2.1 2)) X (fun w h => mm (in_Model w h)) 0 rfl rfl 3 (by decide) (mm k_fl_Model_107) rfl rfl d_Model_readTable_58 ?_
          refine J_if_gt X 87 d_Model_readTable_61 (by decide) (fun c61 => ?_) (fun c61 => ?_)
          · rw [if_pos c61] at h
            refine J_lv [3, 4, 1, 0, 5] [(0, .ref (a 0)), (1, .int x1), (2, .int (x2 + z22.1)), (3, .long (((2 : Int64) * x3) + (z22.1).toInt64)), (5, .int x5)] rfl ?_
            exact L87 (m_Model_readTable_7 n  k) ih x1 (x2 + z22.1) (((2 : Int64) * x3) + (z22.1).toInt64) x5 (sH z22.2 9 ((((17 : Int32) * x1) + x5)).toNatClampNeg z22.1) h
          · rw [if_neg c61] at h
            refine J_iload_n X d_Model_readTable_64 1 rfl rfl ?_
            refine J_sipush (v := (256 : Int32)) X d_Model_readTable_65 (by decide) ?_
            refine J_icmp_gt X 91 d_Model_readTable_68 (by decide) (fun c68 => ?_) (fun c68 => ?_)
            · rw [if_pos c68] at h
              refine J_lv [3, 4, 1, 0, 5] [(0, .ref (a 0)), (1, .int x1), (2, .int (x2 + z22.1)), (3, .long (((2 : Int64) * x3) + (z22.1).toInt64)), (5, .int x5)] rfl ?_
              exact L91 (m_Model_readTable_7 n  k) ih x1 (x2 + z22.1) (((2 : Int64) * x3) + (z22.1).toInt64) x5 (sH z22.2 9 ((((17 : Int32) * x1) + x5)).toNatClampNeg z22.1) h
            · rw [if_neg c68] at h
              refine J_iload X d_Model_readTable_71 2 rfl ?_
              refine J_if_eq X 87 d_Model_readTable_73 (by decide) (fun c73 => ?_) (fun c73 => ?_)
              · rw [if_pos c73] at h
                refine J_lv [3, 4, 1, 0, 5] [(0, .ref (a 0)), (1, .int x1), (2, .int (x2 + z22.1)), (3, .long (((2 : Int64) * x3) + (z22.1).toInt64)), (5, .int x5)] rfl ?_
                exact L87 (m_Model_readTable_7 n  k) ih x1 (x2 + z22.1) (((2 : Int64) * x3) + (z22.1).toInt64) x5 (sH z22.2 9 ((((17 : Int32) * x1) + x5)).toNatClampNeg z22.1) h
              · rw [if_neg c73] at h
                refine J_lload_n X d_Model_readTable_76 0 rfl rfl ?_
                refine J_lconst (v := (1 : Int64)) X d_Model_readTable_77 (by decide) ?_
                refine J_iload X d_Model_readTable_78 5 rfl ?_
                refine J_lshl X d_Model_readTable_80 ?_
                refine J_lconst (v := (1 : Int64)) X d_Model_readTable_81 (by decide) ?_
                refine J_lsub X d_Model_readTable_82 ?_
                refine J_lcmp X d_Model_readTable_83 ?_
                refine J_if_gt X 91 d_Model_readTable_84 (by decide) (fun c84 => ?_) (fun c84 => ?_)
                · rw [if_pos c84] at h
                  refine J_lv [3, 4, 1, 0, 5] [(0, .ref (a 0)), (1, .int x1), (2, .int (x2 + z22.1)), (3, .long (((2 : Int64) * x3) + (z22.1).toInt64)), (5, .int x5)] rfl ?_
                  exact L91 (m_Model_readTable_7 n  k) ih x1 (x2 + z22.1) (((2 : Int64) * x3) + (z22.1).toInt64) x5 (sH z22.2 9 ((((17 : Int32) * x1) + x5)).toNatClampNeg z22.1) h
                · rw [if_neg c84] at h
                  refine J_lv [3, 4, 1, 0, 5] [(0, .ref (a 0)), (1, .int x1), (2, .int (x2 + z22.1)), (3, .long (((2 : Int64) * x3) + (z22.1).toInt64)), (5, .int x5)] rfl ?_
                  exact L87 (m_Model_readTable_7 n  k) ih x1 (x2 + z22.1) (((2 : Int64) * x3) + (z22.1).toInt64) x5 (sH z22.2 9 ((((17 : Int32) * x1) + x5)).toNatClampNeg z22.1) h
  refine J_lv [0, 1] [(0, .ref (a 0)), (1, .int x1)] rfl ?_
  unfold m_Model_readTable at h
  refine J_iconst (v := (0 : Int32)) X d_Model_readTable_0 (by decide) ?_
  refine J_istore_n X [(2, .int (0 : Int32)), (0, .ref (a 0)), (1, .int x1)] d_Model_readTable_1 rfl (by decide) rfl ?_
  refine J_lconst (v := (0 : Int64)) X d_Model_readTable_2 (by decide) ?_
  refine J_lstore_n X [(3, .long (0 : Int64)), (2, .int (0 : Int32)), (0, .ref (a 0)), (1, .int x1)] d_Model_readTable_3 rfl (by decide) rfl ?_
  refine J_iconst (v := (1 : Int32)) X d_Model_readTable_4 (by decide) ?_
  refine J_istore X [(5, .int (1 : Int32)), (3, .long (0 : Int64)), (2, .int (0 : Int32)), (0, .ref (a 0)), (1, .int x1)] d_Model_readTable_5 (by decide) rfl ?_
  refine J_lv [3, 4, 2, 1, 0] [(0, .ref (a 0)), (1, .int x1), (2, .int (0 : Int32)), (3, .long (0 : Int64)), (5, .int (1 : Int32))] rfl ?_
  exact L7  n x1 (0 : Int32) (0 : Int64) (1 : Int32) t h
set_option maxHeartbeats 4000000 in
set_option maxRecDepth 100000 in
theorem ct_Model_readWords (l : Launch) (dC : Nat → ClassId) (dI : Nat → Nat → Nat) (cI cB cJ cZ : ClassId) (a : Nat → Nat) (n : Nat)  (t : St) {z : St} (h : m_Model_readWords n t = some z) : jMv l y_Model_readWords w_Model_readWords ({ frames := 3, cells := 0, slots := 0, locals := 70 }) (dC, dI) vwCl (tyA cI cB cJ cZ) [.ref (a 0)] (wM cI cB cJ cZ a t) (fun _ : Unit => wM cI cB cJ cZ a z) := by
  refine jMv.of (cc := c_Model_readWords) (maxL := 4) (ret := none) (by decide) rfl (Nat.le_of_ble_eq_true rfl) ?_
  intro p e s m args below meth c A X hr hlk hnm
  have L93 : ∀ (K2 : Int32 → St → Option (St)) (hK2 : ∀ (x1 : Int32) (t : St), K2 x1 t = some z → J p l e { frames := 3, cells := 0, slots := 0, locals := 70 } s m args below meth c 4 (dC, dI) vwCl A (MQ below (jQv (dC, dI) vwCl (tyA cI cB cJ cZ) (fun _ : Unit => wM cI cB cJ cZ a z) A) args s 0 0 A) 0 0 2 [(0, .ref (a 0)), (1, .int x1)] [] (wM cI cB cJ cZ a t)) (y0 : Int32) (t : St), m_Model_readWords_93 n K2 y0 t = some z → J p l e { frames := 3, cells := 0, slots := 0, locals := 70 } s m args below meth c 4 (dC, dI) vwCl A (MQ below (jQv (dC, dI) vwCl (tyA cI cB cJ cZ) (fun _ : Unit => wM cI cB cJ cZ a z) A) args s 0 0 A) 0 0 93 [(0, .ref (a 0))] [.int y0] (wM cI cB cJ cZ a t) := by
    intro K2 hK2 y0 t h
    unfold m_Model_readWords_93 at h
    refine J_istore_n X [(1, .int y0), (0, .ref (a 0))] d_Model_readWords_93 rfl (by decide) rfl ?_
    refine J_goto X 2 d_Model_readWords_94 (by decide) ?_
    refine J_lv [1, 0] [(0, .ref (a 0)), (1, .int y0)] rfl ?_
    exact hK2 y0 t h
  have L77 : ∀ (K2 : Int32 → St → Option (St)) (hK2 : ∀ (x1 : Int32) (t : St), K2 x1 t = some z → J p l e { frames := 3, cells := 0, slots := 0, locals := 70 } s m args below meth c 4 (dC, dI) vwCl A (MQ below (jQv (dC, dI) vwCl (tyA cI cB cJ cZ) (fun _ : Unit => wM cI cB cJ cZ a z) A) args s 0 0 A) 0 0 2 [(0, .ref (a 0)), (1, .int x1)] [] (wM cI cB cJ cZ a t))  (t : St), m_Model_readWords_77 n K2  t = some z → J p l e { frames := 3, cells := 0, slots := 0, locals := 70 } s m args below meth c 4 (dC, dI) vwCl A (MQ below (jQv (dC, dI) vwCl (tyA cI cB cJ cZ) (fun _ : Unit => wM cI cB cJ cZ a z) A) args s 0 0 A) 0 0 77 [(0, .ref (a 0))] [] (wM cI cB cJ cZ a t) := by
    intro K2 hK2  t h
    unfold m_Model_readWords_77 at h
    refine J_aload_n X d_Model_readWords_77 0 rfl rfl ?_
    refine J_get (v := .int (t.1 4)) X (fun w h => mm (in_Model w h)) 0 rfl rfl 5 (by decide) (mm k_fl_Model_113) rfl rfl d_Model_readWords_78 ?_
    refine J_aload_n X d_Model_readWords_81 0 rfl rfl ?_
    refine J_get (v := .int (t.1 5)) X (fun w h => mm (in_Model w h)) 0 rfl rfl 6 (by decide) (mm k_fl_Model_110) rfl rfl d_Model_readWords_82 ?_
    refine J_icmp_ge X 92 d_Model_readWords_85 (by decide) (fun c85 => ?_) (fun c85 => ?_)
    · rw [if_pos c85] at h
      refine J_iconst (v := (0 : Int32)) X d_Model_readWords_92 (by decide) ?_
      refine J_lv [0] [(0, .ref (a 0))] rfl ?_
      exact L93 K2 hK2 (0 : Int32) t h
    · rw [if_neg c85] at h
      refine J_iconst (v := (1 : Int32)) X d_Model_readWords_88 (by decide) ?_
      refine J_goto X 93 d_Model_readWords_89 (by decide) ?_
      refine J_lv [0] [(0, .ref (a 0))] rfl ?_
      exact L93 K2 hK2 (1 : Int32) t h
  have L64 : ∀ (K2 : Int32 → St → Option (St)) (hK2 : ∀ (x1 : Int32) (t : St), K2 x1 t = some z → J p l e { frames := 3, cells := 0, slots := 0, locals := 70 } s m args below meth c 4 (dC, dI) vwCl A (MQ below (jQv (dC, dI) vwCl (tyA cI cB cJ cZ) (fun _ : Unit => wM cI cB cJ cZ a z) A) args s 0 0 A) 0 0 2 [(0, .ref (a 0)), (1, .int x1)] [] (wM cI cB cJ cZ a t)) (y0 : Int32) (t : St), m_Model_readWords_64 n K2 y0 t = some z → J p l e { frames := 3, cells := 0, slots := 0, locals := 70 } s m args below meth c 4 (dC, dI) vwCl A (MQ below (jQv (dC, dI) vwCl (tyA cI cB cJ cZ) (fun _ : Unit => wM cI cB cJ cZ a z) A) args s 0 0 A) 0 0 64 [(0, .ref (a 0))] [.int y0] (wM cI cB cJ cZ a t) := by
    intro K2 hK2 y0 t h
    unfold m_Model_readWords_64 at h
    refine J_istore_n X [(3, .int y0), (0, .ref (a 0))] d_Model_readWords_64 rfl (by decide) rfl ?_
    refine J_aload_n X d_Model_readWords_65 1 rfl rfl ?_
    refine J_get (v := .int (t.1 2)) X (fun w h => mm (in_Model w h)) 0 rfl rfl 3 (by decide) (mm k_fl_Model_107) rfl rfl d_Model_readWords_66 ?_
    refine J_if_ne X 77 d_Model_readWords_69 (by decide) (fun c69 => ?_) (fun c69 => ?_)
    · rw [if_neg c69] at h
      refine J_lv [1] [(0, .ref (a 0))] rfl ?_
      exact L77 K2 hK2 t h
    · rw [if_pos c69] at h
      refine J_aload_n X d_Model_readWords_72 1 rfl rfl ?_
      refine J_iload_n X d_Model_readWords_73 0 rfl rfl ?_
      obtain ⟨z74, hz74, h⟩ := j_bind h
      refine J_callVv0 (n := 1) (wc := (wM cI cB cJ cZ a t)) (w1 := fun _ : Unit => wM cI cB cJ cZ a z74) X isM (hCM cI cB cJ cZ a t) (hDM cI cB cJ cZ a t) rfl [.int y0] [] (ct_Model_readTable l dC dI cI cB cJ cZ a n y0 t hz74) (aw_V (fun w h => mm h) k_ml_Model_144 k_im_Model_readTable k_se_Model_readTable k_in_Model k_cd_Model_readTable) rfl (by decide +kernel) ⟨(Nat.le_of_ble_eq_true rfl), (Nat.le_of_ble_eq_true rfl)⟩ (q0 := 0) rfl rfl rfl rfl (Nat.le_of_ble_eq_true rfl) d_Model_readWords_74 ⟨(Nat.le_of_ble_eq_true rfl), (Nat.le_of_ble_eq_true rfl)⟩ (fun _ => ?_)
      refine J_lv [1] [(0, .ref (a 0))] rfl ?_
      exact L77 K2 hK2 z74 h
  have L48 : ∀ (K2 : Int32 → St → Option (St)) (hK2 : ∀ (x1 : Int32) (t : St), K2 x1 t = some z → J p l e { frames := 3, cells := 0, slots := 0, locals := 70 } s m args below meth c 4 (dC, dI) vwCl A (MQ below (jQv (dC, dI) vwCl (tyA cI cB cJ cZ) (fun _ : Unit => wM cI cB cJ cZ a z) A) args s 0 0 A) 0 0 2 [(0, .ref (a 0)), (1, .int x1)] [] (wM cI cB cJ cZ a t)) (x2 : Int32) (y1 : Int32) (t : St), m_Model_readWords_48 n K2 x2 y1 t = some z → J p l e { frames := 3, cells := 0, slots := 0, locals := 70 } s m args below meth c 4 (dC, dI) vwCl A (MQ below (jQv (dC, dI) vwCl (tyA cI cB cJ cZ) (fun _ : Unit => wM cI cB cJ cZ a z) A) args s 0 0 A) 0 0 48 [(0, .ref (a 0)), (2, .int x2)] [.int y1, .ref (a 0)] (wM cI cB cJ cZ a t) := by
    intro K2 hK2 x2 y1 t h
    unfold m_Model_readWords_48 at h
    obtain ⟨z48, hz48, h⟩ := j_bind h
    refine J_callVv0 (n := 1) (wc := (wM cI cB cJ cZ a t)) (w1 := fun _ : Unit => wM cI cB cJ cZ a z48) X isM (hCM cI cB cJ cZ a t) (hDM cI cB cJ cZ a t) rfl [.int y1] [] (ct_Model_must l dC dI cI cB cJ cZ a n y1 t hz48) (aw_V (fun w h => mm h) k_ml_Model_140 k_im_Model_must k_se_Model_must k_in_Model k_cd_Model_must) rfl (by decide +kernel) ⟨(Nat.le_of_ble_eq_true rfl), (Nat.le_of_ble_eq_true rfl)⟩ (q0 := 0) rfl rfl rfl rfl (Nat.le_of_ble_eq_true rfl) d_Model_readWords_48 ⟨(Nat.le_of_ble_eq_true rfl), (Nat.le_of_ble_eq_true rfl)⟩ (fun _ => ?_)
    refine J_iload_n X d_Model_readWords_51 1 rfl rfl ?_
    refine J_iconst (v := (4 : Int32)) X d_Model_readWords_52 (by decide) ?_
    refine J_icmp_ge X 60 d_Model_readWords_53 (by decide) (fun c53 => ?_) (fun c53 => ?_)
    · rw [if_pos c53] at h
      refine J_iload_n X d_Model_readWords_60 1 rfl rfl ?_
      refine J_bipush (v := (12 : Int32)) X d_Model_readWords_61 (by decide) ?_
      refine J_isub X d_Model_readWords_63 ?_
      refine J_lv [0] [(0, .ref (a 0))] rfl ?_
      exact L64 K2 hK2 (x2 - (12 : Int32)) z48 h
    · rw [if_neg c53] at h
      refine J_iload_n X d_Model_readWords_56 1 rfl rfl ?_
      refine J_goto X 64 d_Model_readWords_57 (by decide) ?_
      refine J_lv [0] [(0, .ref (a 0))] rfl ?_
      exact L64 K2 hK2 x2 z48 h
  have L43 : ∀ (K2 : Int32 → St → Option (St)) (hK2 : ∀ (x1 : Int32) (t : St), K2 x1 t = some z → J p l e { frames := 3, cells := 0, slots := 0, locals := 70 } s m args below meth c 4 (dC, dI) vwCl A (MQ below (jQv (dC, dI) vwCl (tyA cI cB cJ cZ) (fun _ : Unit => wM cI cB cJ cZ a z) A) args s 0 0 A) 0 0 2 [(0, .ref (a 0)), (1, .int x1)] [] (wM cI cB cJ cZ a t)) (x2 : Int32) (t : St), m_Model_readWords_43 n K2 x2 t = some z → J p l e { frames := 3, cells := 0, slots := 0, locals := 70 } s m args below meth c 4 (dC, dI) vwCl A (MQ below (jQv (dC, dI) vwCl (tyA cI cB cJ cZ) (fun _ : Unit => wM cI cB cJ cZ a z) A) args s 0 0 A) 0 0 43 [(0, .ref (a 0)), (2, .int x2)] [.ref (a 0)] (wM cI cB cJ cZ a t) := by
    intro K2 hK2 x2 t h
    unfold m_Model_readWords_43 at h
    refine J_iconst (v := (1 : Int32)) X d_Model_readWords_43 (by decide) ?_
    refine J_goto X 48 d_Model_readWords_44 (by decide) ?_
    refine J_lv [0, 1] [(0, .ref (a 0)), (2, .int x2)] rfl ?_
    exact L48 K2 hK2 x2 (1 : Int32) t h
  have L47 : ∀ (K2 : Int32 → St → Option (St)) (hK2 : ∀ (x1 : Int32) (t : St), K2 x1 t = some z → J p l e { frames := 3, cells := 0, slots := 0, locals := 70 } s m args below meth c 4 (dC, dI) vwCl A (MQ below (jQv (dC, dI) vwCl (tyA cI cB cJ cZ) (fun _ : Unit => wM cI cB cJ cZ a z) A) args s 0 0 A) 0 0 2 [(0, .ref (a 0)), (1, .int x1)] [] (wM cI cB cJ cZ a t)) (x2 : Int32) (t : St), m_Model_readWords_47 n K2 x2 t = some z → J p l e { frames := 3, cells := 0, slots := 0, locals := 70 } s m args below meth c 4 (dC, dI) vwCl A (MQ below (jQv (dC, dI) vwCl (tyA cI cB cJ cZ) (fun _ : Unit => wM cI cB cJ cZ a z) A) args s 0 0 A) 0 0 47 [(0, .ref (a 0)), (2, .int x2)] [.ref (a 0)] (wM cI cB cJ cZ a t) := by
    intro K2 hK2 x2 t h
    unfold m_Model_readWords_47 at h
    refine J_iconst (v := (0 : Int32)) X d_Model_readWords_47 (by decide) ?_
    refine J_lv [0, 1] [(0, .ref (a 0)), (2, .int x2)] rfl ?_
    exact L48 K2 hK2 x2 (0 : Int32) t h
  have L2 : ∀ (k : Nat) (x1 : Int32) (t : St), m_Model_readWords_2 n  k x1 t = some z → J p l e { frames := 3, cells := 0, slots := 0, locals := 70 } s m args below meth c 4 (dC, dI) vwCl A (MQ below (jQv (dC, dI) vwCl (tyA cI cB cJ cZ) (fun _ : Unit => wM cI cB cJ cZ a z) A) args s 0 0 A) 0 0 2 [(0, .ref (a 0)), (1, .int x1)] [] (wM cI cB cJ cZ a t) := by
    intro k
    induction k with
    | zero => intro x1 t h; exact absurd (show none = some z from h) (by simp)
    | succ k ih =>
      intro x1 t h
      change m_Model_readWords_2b n  (m_Model_readWords_2 n  k) x1 t = some z at h
      unfold m_Model_readWords_2b at h
      refine J_iload_n X d_Model_readWords_2 1 rfl rfl ?_
      refine J_if_eq X 97 d_Model_readWords_3 (by decide) (fun c3 => ?_) (fun c3 => ?_)
      · rw [if_pos c3] at h
        exact J_vret X hr hlk () (Nat.le_of_ble_eq_true rfl) (Nat.le_of_ble_eq_true rfl) (congrArg (fun q => wM cI cB cJ cZ a q) (j_s h)) d_Model_readWords_97
      · rw [if_neg c3] at h
        refine J_aload_n X d_Model_readWords_6 0 rfl rfl ?_
        refine J_get (v := .int (t.1 2)) X (fun w h => mm (in_Model w h)) 0 rfl rfl 3 (by decide) (mm k_fl_Model_107) rfl rfl d_Model_readWords_7 ?_
        refine J_if_ne X 97 d_Model_readWords_10 (by decide) (fun c10 => ?_) (fun c10 => ?_)
        · rw [if_neg c10] at h
          exact J_vret X hr hlk () (Nat.le_of_ble_eq_true rfl) (Nat.le_of_ble_eq_true rfl) (congrArg (fun q => wM cI cB cJ cZ a q) (j_s h)) d_Model_readWords_97
        · rw [if_pos c10] at h
          refine J_aload_n X d_Model_readWords_13 0 rfl rfl ?_
          obtain ⟨z14, hz14, h⟩ := j_bind h
          refine J_callVi0 (n := 0) (wc := (wM cI cB cJ cZ a t)) (r := z14.1) (w1 := fun _ : Unit => wM cI cB cJ cZ a z14.2) X isM (hCM cI cB cJ cZ a t) (hDM cI cB cJ cZ a t) rfl [] [] (ct_Model_next l dC dI cI cB cJ cZ a n t hz14) (aw_V (fun w h => mm h) k_ml_Model_128 k_im_Model_next k_se_Model_next k_in_Model k_cd_Model_next) rfl (by decide +kernel) ⟨(Nat.le_of_ble_eq_true rfl), (Nat.le_of_ble_eq_true rfl)⟩ (q0 := 0) rfl rfl rfl rfl (Nat.le_of_ble_eq_true rfl) d_Model_readWords_14 ⟨(Nat.le_of_ble_eq_true rfl), (Nat.le_of_ble_eq_true rfl)⟩ (fun _ => ?_)
          refine J_istore_n X [(2, .int z14.1), (0, .ref (a 0)), (1, .int x1)] d_Model_readWords_17 rfl (by decide) rfl ?_
          refine J_aload_n X d_Model_readWords_18 1 rfl rfl ?_
          refine J_aload_n X d_Model_readWords_19 1 rfl rfl ?_
          refine J_get (v := .int (z14.2.1 2)) X (fun w h => mm (in_Model w h)) 0 rfl rfl 3 (by decide) (mm k_fl_Model_107) rfl rfl d_Model_readWords_20 ?_
          refine J_if_gt X 43 d_Model_readWords_23 (by decide) (fun c23 => ?_) (fun c23 => ?_)
          · rw [if_pos c23] at h
            refine J_lv [1, 0] [(0, .ref (a 0)), (2, .int z14.1)] rfl ?_
            exact L43 (m_Model_readWords_2 n  k) ih z14.1 z14.2 h
          · rw [if_neg c23] at h
            refine J_iload_n X d_Model_readWords_26 0 rfl rfl ?_
            refine J_iconst (v := (4 : Int32)) X d_Model_readWords_27 (by decide) ?_
            refine J_icmp_lt X 43 d_Model_readWords_28 (by decide) (fun c28 => ?_) (fun c28 => ?_)
            · rw [if_pos c28] at h
              refine J_lv [1, 0] [(0, .ref (a 0)), (2, .int z14.1)] rfl ?_
              exact L43 (m_Model_readWords_2 n  k) ih z14.1 z14.2 h
            · rw [if_neg c28] at h
              refine J_iload_n X d_Model_readWords_31 0 rfl rfl ?_
              refine J_bipush (v := (16 : Int32)) X d_Model_readWords_32 (by decide) ?_
              refine J_icmp_lt X 47 d_Model_readWords_34 (by decide) (fun c34 => ?_) (fun c34 => ?_)
              · rw [if_pos c34] at h
                refine J_lv [1, 0] [(0, .ref (a 0)), (2, .int z14.1)] rfl ?_
                exact L47 (m_Model_readWords_2 n  k) ih z14.1 z14.2 h
              · rw [if_neg c34] at h
                refine J_iload_n X d_Model_readWords_37 0 rfl rfl ?_
                refine J_bipush (v := (20 : Int32)) X d_Model_readWords_38 (by decide) ?_
                refine J_icmp_ge X 47 d_Model_readWords_40 (by decide) (fun c40 => ?_) (fun c40 => ?_)
                · rw [if_pos c40] at h
                  refine J_lv [1, 0] [(0, .ref (a 0)), (2, .int z14.1)] rfl ?_
                  exact L47 (m_Model_readWords_2 n  k) ih z14.1 z14.2 h
                · rw [if_neg c40] at h
                  refine J_lv [1, 0] [(0, .ref (a 0)), (2, .int z14.1)] rfl ?_
                  exact L43 (m_Model_readWords_2 n  k) ih z14.1 z14.2 h
  refine J_lv [0] [(0, .ref (a 0))] rfl ?_
  unfold m_Model_readWords at h
  refine J_iconst (v := (1 : Int32)) X d_Model_readWords_0 (by decide) ?_
  refine J_istore_n X [(1, .int (1 : Int32)), (0, .ref (a 0))] d_Model_readWords_1 rfl (by decide) rfl ?_
  refine J_lv [1, 0] [(0, .ref (a 0)), (1, .int (1 : Int32))] rfl ?_
  exact L2  n (1 : Int32) t h
