set_option maxHeartbeats 4000000 in
set_option maxRecDepth 100000 in
theorem ct_Model_needs (l : Launch) (dC : Nat → ClassId) (dI : Nat → Nat → Nat) (cI cB cJ cZ : ClassId) (a : Nat → Nat) (n : Nat) (x1 : Int32) (t : St) {z : St} (h : m_Model_needs n x1 t = some z) : jMv l y_Model_needs w_Model_needs ({ frames := 1, cells := 0, slots := 0, locals := 22 }) (dC, dI) vwCl (tyA cI cB cJ cZ) [.ref (a 0), .int x1] (wM cI cB cJ cZ a t) (fun _ : Unit => wM cI cB cJ cZ a z) := by
  refine jMv.of (cc := c_Model_needs) (maxL := 4) (ret := none) (by decide) rfl (Nat.le_of_ble_eq_true rfl) ?_
  intro p e s m args below meth c A X hr hlk hnm
  have L93 : ∀ (x1 : Int32) (t : St), m_Model_needs_93 n  x1 t = some z → J p l e { frames := 1, cells := 0, slots := 0, locals := 22 } s m args below meth c 4 (dC, dI) vwCl A (MQ below (jQv (dC, dI) vwCl (tyA cI cB cJ cZ) (fun _ : Unit => wM cI cB cJ cZ a z) A) args s 0 0 A) 0 0 93 [(0, .ref (a 0)), (1, .int x1)] [] (wM cI cB cJ cZ a t) := by
    intro x1 t h
    unfold m_Model_needs_93 at h
    refine J_aload_n X d_Model_needs_93 0 rfl rfl ?_
    refine J_bipush (v := (8 : Int32)) X d_Model_needs_94 (by decide) ?_
    refine J_aload_n X d_Model_needs_96 0 rfl rfl ?_
    refine J_get (v := .ref (a 18)) X (fun w h => mm (in_Model w h)) 0 rfl rfl 33 (by decide) (mm k_fl_Model_68) rfl rfl d_Model_needs_97 ?_
    refine J_iload_n X d_Model_needs_100 1 rfl rfl ?_
    obtain ⟨b101, h⟩ := j_ifn h
    refine J_iald (f := (t.2.1 17)) X 18 0 rfl rfl b101 d_Model_needs_101 ?_
    refine J_iconst (v := (1 : Int32)) X d_Model_needs_102 (by decide) ?_
    refine J_iadd X d_Model_needs_103 ?_
    obtain ⟨z104, hz104, h⟩ := j_bind h
    refine J_callVi0 (n := 2) (wc := (wM cI cB cJ cZ a t)) (r := z104.1) (w1 := fun _ : Unit => wM cI cB cJ cZ a z104.2) X isM (hCM cI cB cJ cZ a t) (hDM cI cB cJ cZ a t) rfl [.int (8 : Int32), .int (((t.2.1 17) (x1).toNatClampNeg) + (1 : Int32))] [] (ct_Model_wrong l dC dI cI cB cJ cZ a n (8 : Int32) (((t.2.1 17) (x1).toNatClampNeg) + (1 : Int32)) t hz104) (aw_V (fun w h => mm h) k_ml_Model_120 k_im_Model_wrong k_se_Model_wrong k_in_Model k_cd_Model_wrong) rfl (by decide +kernel) ⟨(Nat.le_of_ble_eq_true rfl), (Nat.le_of_ble_eq_true rfl)⟩ (q0 := 0) rfl rfl rfl rfl (Nat.le_of_ble_eq_true rfl) d_Model_needs_104 ⟨(Nat.le_of_ble_eq_true rfl), (Nat.le_of_ble_eq_true rfl)⟩ (fun _ => ?_)
    refine J_istore_n X [(3, .int z104.1), (0, .ref (a 0)), (1, .int x1)] d_Model_needs_107 rfl (by decide) rfl ?_
    exact J_vret X hr hlk () (Nat.le_of_ble_eq_true rfl) (Nat.le_of_ble_eq_true rfl) (congrArg (fun q => wM cI cB cJ cZ a q) (j_s h)) d_Model_needs_108
  have L70 : ∀ (x1 : Int32) (t : St), m_Model_needs_70 n  x1 t = some z → J p l e { frames := 1, cells := 0, slots := 0, locals := 22 } s m args below meth c 4 (dC, dI) vwCl A (MQ below (jQv (dC, dI) vwCl (tyA cI cB cJ cZ) (fun _ : Unit => wM cI cB cJ cZ a z) A) args s 0 0 A) 0 0 70 [(0, .ref (a 0)), (1, .int x1)] [] (wM cI cB cJ cZ a t) := by
    intro x1 t h
    unfold m_Model_needs_70 at h
    refine J_aload_n X d_Model_needs_70 0 rfl rfl ?_
    refine J_get (v := .int (t.1 18)) X (fun w h => mm (in_Model w h)) 0 rfl rfl 37 (by decide) (mm k_fl_Model_159) rfl rfl d_Model_needs_71 ?_
    refine J_if_le X 108 d_Model_needs_74 (by decide) (fun c74 => ?_) (fun c74 => ?_)
    · rw [if_pos c74] at h
      exact J_vret X hr hlk () (Nat.le_of_ble_eq_true rfl) (Nat.le_of_ble_eq_true rfl) (congrArg (fun q => wM cI cB cJ cZ a q) (j_s h)) d_Model_needs_108
    · rw [if_neg c74] at h
      refine J_aload_n X d_Model_needs_77 0 rfl rfl ?_
      refine J_get (v := .ref (a 9)) X (fun w h => mm (in_Model w h)) 0 rfl rfl 22 (by decide) (mm k_fl_Model_40) rfl rfl d_Model_needs_78 ?_
      refine J_iconst (v := (4 : Int32)) X d_Model_needs_81 (by decide) ?_
      refine J_aload_n X d_Model_needs_82 0 rfl rfl ?_
      refine J_get (v := .ref (a 17)) X (fun w h => mm (in_Model w h)) 0 rfl rfl 32 (by decide) (mm k_fl_Model_65) rfl rfl d_Model_needs_83 ?_
      refine J_iload_n X d_Model_needs_86 1 rfl rfl ?_
      obtain ⟨b87, h⟩ := j_ifn h
      refine J_iald (f := (t.2.1 16)) X 17 0 rfl rfl b87 d_Model_needs_87 ?_
      refine J_iadd X d_Model_needs_88 ?_
      obtain ⟨b89, h⟩ := j_ifn h
      refine J_zald (f := (t.2.1 8)) X 9 3 rfl rfl b89 d_Model_needs_89 ?_
      refine J_if_ne X 108 d_Model_needs_90 (by decide) (fun c90 => ?_) (fun c90 => ?_)
      · rw [if_neg c90] at h
        exact J_vret X hr hlk () (Nat.le_of_ble_eq_true rfl) (Nat.le_of_ble_eq_true rfl) (congrArg (fun q => wM cI cB cJ cZ a q) (j_s h)) d_Model_needs_108
      · rw [if_pos c90] at h
        refine J_lv [0, 1] [(0, .ref (a 0)), (1, .int x1)] rfl ?_
        exact L93  x1 t h
  have L51 : ∀ (x1 : Int32) (y0 : Int32) (t : St), m_Model_needs_51 n  x1 y0 t = some z → J p l e { frames := 1, cells := 0, slots := 0, locals := 22 } s m args below meth c 4 (dC, dI) vwCl A (MQ below (jQv (dC, dI) vwCl (tyA cI cB cJ cZ) (fun _ : Unit => wM cI cB cJ cZ a z) A) args s 0 0 A) 0 0 51 [(0, .ref (a 0)), (1, .int x1)] [.int y0] (wM cI cB cJ cZ a t) := by
    intro x1 y0 t h
    unfold m_Model_needs_51 at h
    refine J_istore_n X [(2, .int y0), (0, .ref (a 0)), (1, .int x1)] d_Model_needs_51 rfl (by decide) rfl ?_
    refine J_iload_n X d_Model_needs_52 0 rfl rfl ?_
    refine J_if_eq X 70 d_Model_needs_53 (by decide) (fun c53 => ?_) (fun c53 => ?_)
    · rw [if_pos c53] at h
      refine J_lv [1, 2] [(0, .ref (a 0)), (1, .int x1)] rfl ?_
      exact L70  x1 t h
    · rw [if_neg c53] at h
      refine J_aload_n X d_Model_needs_56 1 rfl rfl ?_
      refine J_get (v := .ref (a 9)) X (fun w h => mm (in_Model w h)) 0 rfl rfl 22 (by decide) (mm k_fl_Model_40) rfl rfl d_Model_needs_57 ?_
      refine J_aload_n X d_Model_needs_60 1 rfl rfl ?_
      refine J_get (v := .ref (a 16)) X (fun w h => mm (in_Model w h)) 0 rfl rfl 31 (by decide) (mm k_fl_Model_62) rfl rfl d_Model_needs_61 ?_
      refine J_iload_n X d_Model_needs_64 2 rfl rfl ?_
      obtain ⟨b65, h⟩ := j_ifn h
      refine J_iald (f := (t.2.1 15)) X 16 0 rfl rfl b65 d_Model_needs_65 ?_
      obtain ⟨b66, h⟩ := j_ifn h
      refine J_zald (f := (t.2.1 8)) X 9 3 rfl rfl b66 d_Model_needs_66 ?_
      refine J_if_eq X 93 d_Model_needs_67 (by decide) (fun c67 => ?_) (fun c67 => ?_)
      · rw [if_pos c67] at h
        refine J_lv [1, 2] [(0, .ref (a 0)), (1, .int x1)] rfl ?_
        exact L93  x1 t h
      · rw [if_neg c67] at h
        refine J_lv [1, 2] [(0, .ref (a 0)), (1, .int x1)] rfl ?_
        exact L70  x1 t h
  have L50 : ∀ (x1 : Int32) (t : St), m_Model_needs_50 n  x1 t = some z → J p l e { frames := 1, cells := 0, slots := 0, locals := 22 } s m args below meth c 4 (dC, dI) vwCl A (MQ below (jQv (dC, dI) vwCl (tyA cI cB cJ cZ) (fun _ : Unit => wM cI cB cJ cZ a z) A) args s 0 0 A) 0 0 50 [(0, .ref (a 0)), (1, .int x1)] [] (wM cI cB cJ cZ a t) := by
    intro x1 t h
    unfold m_Model_needs_50 at h
    refine J_iconst (v := (0 : Int32)) X d_Model_needs_50 (by decide) ?_
    refine J_lv [0, 1] [(0, .ref (a 0)), (1, .int x1)] rfl ?_
    exact L51  x1 (0 : Int32) t h
  have L32 : ∀ (x1 : Int32) (t : St), m_Model_needs_32 n  x1 t = some z → J p l e { frames := 1, cells := 0, slots := 0, locals := 22 } s m args below meth c 4 (dC, dI) vwCl A (MQ below (jQv (dC, dI) vwCl (tyA cI cB cJ cZ) (fun _ : Unit => wM cI cB cJ cZ a z) A) args s 0 0 A) 0 0 32 [(0, .ref (a 0)), (1, .int x1)] [] (wM cI cB cJ cZ a t) := by
    intro x1 t h
    unfold m_Model_needs_32 at h
    refine J_aload_n X d_Model_needs_32 0 rfl rfl ?_
    refine J_get (v := .int (t.1 17)) X (fun w h => mm (in_Model w h)) 0 rfl rfl 36 (by decide) (mm k_fl_Model_156) rfl rfl d_Model_needs_33 ?_
    refine J_if_ne X 50 d_Model_needs_36 (by decide) (fun c36 => ?_) (fun c36 => ?_)
    · rw [if_neg c36] at h
      refine J_lv [0, 1] [(0, .ref (a 0)), (1, .int x1)] rfl ?_
      exact L50  x1 t h
    · rw [if_pos c36] at h
      refine J_aload_n X d_Model_needs_39 0 rfl rfl ?_
      refine J_get (v := .int (t.1 19)) X (fun w h => mm (in_Model w h)) 0 rfl rfl 38 (by decide) (mm k_fl_Model_162) rfl rfl d_Model_needs_40 ?_
      refine J_if_ne X 50 d_Model_needs_43 (by decide) (fun c43 => ?_) (fun c43 => ?_)
      · rw [if_neg c43] at h
        refine J_lv [0, 1] [(0, .ref (a 0)), (1, .int x1)] rfl ?_
        exact L50  x1 t h
      · rw [if_pos c43] at h
        refine J_iconst (v := (1 : Int32)) X d_Model_needs_46 (by decide) ?_
        refine J_goto X 51 d_Model_needs_47 (by decide) ?_
        refine J_lv [0, 1] [(0, .ref (a 0)), (1, .int x1)] rfl ?_
        exact L51  x1 (1 : Int32) t h
  refine J_lv [0, 1] [(0, .ref (a 0)), (1, .int x1)] rfl ?_
  unfold m_Model_needs at h
  refine J_aload_n X d_Model_needs_0 0 rfl rfl ?_
  refine J_get (v := .ref (a 7)) X (fun w h => mm (in_Model w h)) 0 rfl rfl 20 (by decide) (mm k_fl_Model_33) rfl rfl d_Model_needs_1 ?_
  refine J_aload_n X d_Model_needs_4 0 rfl rfl ?_
  refine J_get (v := .ref (a 6)) X (fun w h => mm (in_Model w h)) 0 rfl rfl 18 (by decide) (mm k_fl_Model_30) rfl rfl d_Model_needs_5 ?_
  refine J_aload_n X d_Model_needs_8 0 rfl rfl ?_
  refine J_get (v := .ref (a 15)) X (fun w h => mm (in_Model w h)) 0 rfl rfl 30 (by decide) (mm k_fl_Model_59) rfl rfl d_Model_needs_9 ?_
  refine J_iload_n X d_Model_needs_12 1 rfl rfl ?_
  obtain ⟨b13, h⟩ := j_ifn h
  refine J_iald (f := (t.2.1 14)) X 15 0 rfl rfl b13 d_Model_needs_13 ?_
  obtain ⟨b14, h⟩ := j_ifn h
  refine J_iald (f := (t.2.1 5)) X 6 0 rfl rfl b14 d_Model_needs_14 ?_
  obtain ⟨b15, h⟩ := j_ifn h
  refine J_zald (f := (t.2.1 6)) X 7 3 rfl rfl b15 d_Model_needs_15 ?_
  refine J_if_ne X 32 d_Model_needs_16 (by decide) (fun c16 => ?_) (fun c16 => ?_)
  · rw [if_neg c16] at h
    refine J_lv [0, 1] [(0, .ref (a 0)), (1, .int x1)] rfl ?_
    exact L32  x1 t h
  · rw [if_pos c16] at h
    refine J_aload_n X d_Model_needs_19 0 rfl rfl ?_
    refine J_bipush (v := (8 : Int32)) X d_Model_needs_20 (by decide) ?_
    refine J_aload_n X d_Model_needs_22 0 rfl rfl ?_
    refine J_get (v := .ref (a 18)) X (fun w h => mm (in_Model w h)) 0 rfl rfl 33 (by decide) (mm k_fl_Model_68) rfl rfl d_Model_needs_23 ?_
    refine J_iload_n X d_Model_needs_26 1 rfl rfl ?_
    obtain ⟨b27, h⟩ := j_ifn h
    refine J_iald (f := (t.2.1 17)) X 18 0 rfl rfl b27 d_Model_needs_27 ?_
    obtain ⟨z28, hz28, h⟩ := j_bind h
    refine J_callVi0 (n := 2) (wc := (wM cI cB cJ cZ a t)) (r := z28.1) (w1 := fun _ : Unit => wM cI cB cJ cZ a z28.2) X isM (hCM cI cB cJ cZ a t) (hDM cI cB cJ cZ a t) rfl [.int (8 : Int32), .int ((t.2.1 17) (x1).toNatClampNeg)] [] (ct_Model_wrong l dC dI cI cB cJ cZ a n (8 : Int32) ((t.2.1 17) (x1).toNatClampNeg) t hz28) (aw_V (fun w h => mm h) k_ml_Model_120 k_im_Model_wrong k_se_Model_wrong k_in_Model k_cd_Model_wrong) rfl (by decide +kernel) ⟨(Nat.le_of_ble_eq_true rfl), (Nat.le_of_ble_eq_true rfl)⟩ (q0 := 0) rfl rfl rfl rfl (Nat.le_of_ble_eq_true rfl) d_Model_needs_28 ⟨(Nat.le_of_ble_eq_true rfl), (Nat.le_of_ble_eq_true rfl)⟩ (fun _ => ?_)
    refine J_istore_n X [(2, .int z28.1), (0, .ref (a 0)), (1, .int x1)] d_Model_needs_31 rfl (by decide) rfl ?_
    refine J_lv [1, 2] [(0, .ref (a 0)), (1, .int x1)] rfl ?_
    exact L32  x1 z28.2 h
set_option maxHeartbeats 4000000 in
set_option maxRecDepth 100000 in
theorem ct_Model_readScan (l : Launch) (dC : Nat → ClassId) (dI : Nat → Nat → Nat) (cI cB cJ cZ : ClassId) (a : Nat → Nat) (n : Nat)  (t : St) {z : St} (h : m_Model_readScan n t = some z) : jMv l y_Model_readScan w_Model_readScan ({ frames := 2, cells := 0, slots := 0, locals := 48 }) (dC, dI) vwCl (tyA cI cB cJ cZ) [.ref (a 0)] (wM cI cB cJ cZ a t) (fun _ : Unit => wM cI cB cJ cZ a z) := by
  refine jMv.of (cc := c_Model_readScan) (maxL := 6) (ret := none) (by decide) rfl (Nat.le_of_ble_eq_true rfl) ?_
  intro p e s m args below meth c A X hr hlk hnm
  have L507 : ∀ (k : Nat) (x5 : Int32) (t : St), m_Model_readScan_507 n  k x5 t = some z → J p l e { frames := 2, cells := 0, slots := 0, locals := 48 } s m args below meth c 6 (dC, dI) vwCl A (MQ below (jQv (dC, dI) vwCl (tyA cI cB cJ cZ) (fun _ : Unit => wM cI cB cJ cZ a z) A) args s 0 0 A) 0 0 507 [(0, .ref (a 0)), (5, .int x5)] [] (wM cI cB cJ cZ a t) := by
    intro k
    induction k with
    | zero => intro x5 t h; exact absurd (show none = some z from h) (by simp)
    | succ k ih =>
      intro x5 t h
      change m_Model_readScan_507b n  (m_Model_readScan_507 n  k) x5 t = some z at h
      unfold m_Model_readScan_507b at h
      refine J_iload X d_Model_readScan_507 1 rfl ?_
      refine J_aload_n X d_Model_readScan_509 0 rfl rfl ?_
      refine J_get (v := .int (t.1 15)) X (fun w h => mm (in_Model w h)) 0 rfl rfl 29 (by decide) (mm k_fl_Model_150) rfl rfl d_Model_readScan_510 ?_
      refine J_icmp_ge X 535 d_Model_readScan_513 (by decide) (fun c513 => ?_) (fun c513 => ?_)
      · rw [if_pos c513] at h
        exact J_vret X hr hlk () (Nat.le_of_ble_eq_true rfl) (Nat.le_of_ble_eq_true rfl) (congrArg (fun q => wM cI cB cJ cZ a q) (j_s h)) d_Model_readScan_535
      · rw [if_neg c513] at h
        refine J_aload_n X d_Model_readScan_516 0 rfl rfl ?_
        refine J_get (v := .int (t.1 2)) X (fun w h => mm (in_Model w h)) 0 rfl rfl 3 (by decide) (mm k_fl_Model_107) rfl rfl d_Model_readScan_517 ?_
        refine J_if_ne X 535 d_Model_readScan_520 (by decide) (fun c520 => ?_) (fun c520 => ?_)
        · rw [if_neg c520] at h
          exact J_vret X hr hlk () (Nat.le_of_ble_eq_true rfl) (Nat.le_of_ble_eq_true rfl) (congrArg (fun q => wM cI cB cJ cZ a q) (j_s h)) d_Model_readScan_535
        · rw [if_pos c520] at h
          refine J_aload_n X d_Model_readScan_523 0 rfl rfl ?_
          refine J_iload X d_Model_readScan_524 1 rfl ?_
          obtain ⟨z526, hz526, h⟩ := j_bind h
          refine J_callVv0 (n := 1) (wc := (wM cI cB cJ cZ a t)) (w1 := fun _ : Unit => wM cI cB cJ cZ a z526) X isM (hCM cI cB cJ cZ a t) (hDM cI cB cJ cZ a t) rfl [.int x5] [] (ct_Model_needs l dC dI cI cB cJ cZ a n x5 t hz526) (aw_V (fun w h => mm h) k_ml_Model_172 k_im_Model_needs k_se_Model_needs k_in_Model k_cd_Model_needs) rfl (by decide +kernel) ⟨(Nat.le_of_ble_eq_true rfl), (Nat.le_of_ble_eq_true rfl)⟩ (q0 := 0) rfl rfl rfl rfl (Nat.le_of_ble_eq_true rfl) d_Model_readScan_526 ⟨(Nat.le_of_ble_eq_true rfl), (Nat.le_of_ble_eq_true rfl)⟩ (fun _ => ?_)
          refine J_iinc (v := (x5 + 1)) X [(5, .int (x5 + 1)), (0, .ref (a 0))] d_Model_readScan_529 1 rfl rfl (by decide) rfl ?_
          refine J_goto X 507 d_Model_readScan_532 (by decide) ?_
          refine J_lv [1, 0] [(0, .ref (a 0)), (5, .int (x5 + 1))] rfl ?_
          exact ih (x5 + 1) z526 h
  have L504 : ∀  (t : St), m_Model_readScan_504 n   t = some z → J p l e { frames := 2, cells := 0, slots := 0, locals := 48 } s m args below meth c 6 (dC, dI) vwCl A (MQ below (jQv (dC, dI) vwCl (tyA cI cB cJ cZ) (fun _ : Unit => wM cI cB cJ cZ a z) A) args s 0 0 A) 0 0 504 [(0, .ref (a 0))] [] (wM cI cB cJ cZ a t) := by
    intro  t h
    unfold m_Model_readScan_504 at h
    refine J_iconst (v := (0 : Int32)) X d_Model_readScan_504 (by decide) ?_
    refine J_istore X [(5, .int (0 : Int32)), (0, .ref (a 0))] d_Model_readScan_505 (by decide) rfl ?_
    refine J_lv [1, 0] [(0, .ref (a 0)), (5, .int (0 : Int32))] rfl ?_
    exact L507  n (0 : Int32) t h
  have L475 : ∀ (k : Nat) (x3 : Int32) (x5 : Int32) (t : St), m_Model_readScan_475 n  k x3 x5 t = some z → J p l e { frames := 2, cells := 0, slots := 0, locals := 48 } s m args below meth c 6 (dC, dI) vwCl A (MQ below (jQv (dC, dI) vwCl (tyA cI cB cJ cZ) (fun _ : Unit => wM cI cB cJ cZ a z) A) args s 0 0 A) 0 0 475 [(0, .ref (a 0)), (3, .int x3), (5, .int x5)] [] (wM cI cB cJ cZ a t) := by
    intro k
    induction k with
    | zero => intro x3 x5 t h; exact absurd (show none = some z from h) (by simp)
    | succ k ih =>
      intro x3 x5 t h
      change m_Model_readScan_475b n  (m_Model_readScan_475 n  k) x3 x5 t = some z at h
      unfold m_Model_readScan_475b at h
      refine J_iload X d_Model_readScan_475 2 rfl ?_
      refine J_aload_n X d_Model_readScan_477 0 rfl rfl ?_
      refine J_get (v := .int (t.1 15)) X (fun w h => mm (in_Model w h)) 0 rfl rfl 29 (by decide) (mm k_fl_Model_150) rfl rfl d_Model_readScan_478 ?_
      refine J_icmp_ge X 504 d_Model_readScan_481 (by decide) (fun c481 => ?_) (fun c481 => ?_)
      · rw [if_pos c481] at h
        refine J_lv [0] [(0, .ref (a 0))] rfl ?_
        exact L504  t h
      · rw [if_neg c481] at h
        refine J_aload_n X d_Model_readScan_484 0 rfl rfl ?_
        refine J_get (v := .int (t.1 2)) X (fun w h => mm (in_Model w h)) 0 rfl rfl 3 (by decide) (mm k_fl_Model_107) rfl rfl d_Model_readScan_485 ?_
        refine J_if_ne X 504 d_Model_readScan_488 (by decide) (fun c488 => ?_) (fun c488 => ?_)
        · rw [if_neg c488] at h
          refine J_lv [0] [(0, .ref (a 0))] rfl ?_
          exact L504  t h
        · rw [if_pos c488] at h
          refine J_aload_n X d_Model_readScan_491 0 rfl rfl ?_
          refine J_iload X d_Model_readScan_492 2 rfl ?_
          refine J_iload_n X d_Model_readScan_494 1 rfl rfl ?_
          obtain ⟨z495, hz495, h⟩ := j_bind h
          refine J_callVv0 (n := 2) (wc := (wM cI cB cJ cZ a t)) (w1 := fun _ : Unit => wM cI cB cJ cZ a z495) X isM (hCM cI cB cJ cZ a t) (hDM cI cB cJ cZ a t) rfl [.int x5, .int x3] [] (ct_Model_order l dC dI cI cB cJ cZ a n x5 x3 t hz495) (aw_V (fun w h => mm h) k_ml_Model_168 k_im_Model_order k_se_Model_order k_in_Model k_cd_Model_order) rfl (by decide +kernel) ⟨(Nat.le_of_ble_eq_true rfl), (Nat.le_of_ble_eq_true rfl)⟩ (q0 := 0) rfl rfl rfl rfl (Nat.le_of_ble_eq_true rfl) d_Model_readScan_495 ⟨(Nat.le_of_ble_eq_true rfl), (Nat.le_of_ble_eq_true rfl)⟩ (fun _ => ?_)
          refine J_iinc (v := (x5 + 1)) X [(5, .int (x5 + 1)), (0, .ref (a 0)), (3, .int x3)] d_Model_readScan_498 2 rfl rfl (by decide) rfl ?_
          refine J_goto X 475 d_Model_readScan_501 (by decide) ?_
          refine J_lv [1, 2, 0] [(0, .ref (a 0)), (3, .int x3), (5, .int (x5 + 1))] rfl ?_
          exact ih x3 (x5 + 1) z495 h
  have L469 : ∀ (x3 : Int32) (y1 : Int32) (t : St), m_Model_readScan_469 n  x3 y1 t = some z → J p l e { frames := 2, cells := 0, slots := 0, locals := 48 } s m args below meth c 6 (dC, dI) vwCl A (MQ below (jQv (dC, dI) vwCl (tyA cI cB cJ cZ) (fun _ : Unit => wM cI cB cJ cZ a z) A) args s 0 0 A) 0 0 469 [(0, .ref (a 0)), (3, .int x3)] [.int y1, .ref (a 0)] (wM cI cB cJ cZ a t) := by
    intro x3 y1 t h
    unfold m_Model_readScan_469 at h
    obtain ⟨z469, hz469, h⟩ := j_bind h
    refine J_callVv0 (n := 1) (wc := (wM cI cB cJ cZ a t)) (w1 := fun _ : Unit => wM cI cB cJ cZ a z469) X isM (hCM cI cB cJ cZ a t) (hDM cI cB cJ cZ a t) rfl [.int y1] [] (ct_Model_must l dC dI cI cB cJ cZ a n y1 t hz469) (aw_V (fun w h => mm h) k_ml_Model_140 k_im_Model_must k_se_Model_must k_in_Model k_cd_Model_must) rfl (by decide +kernel) ⟨(Nat.le_of_ble_eq_true rfl), (Nat.le_of_ble_eq_true rfl)⟩ (q0 := 0) rfl rfl rfl rfl (Nat.le_of_ble_eq_true rfl) d_Model_readScan_469 ⟨(Nat.le_of_ble_eq_true rfl), (Nat.le_of_ble_eq_true rfl)⟩ (fun _ => ?_)
    refine J_iconst (v := (0 : Int32)) X d_Model_readScan_472 (by decide) ?_
    refine J_istore X [(5, .int (0 : Int32)), (0, .ref (a 0)), (3, .int x3)] d_Model_readScan_473 (by decide) rfl ?_
    refine J_lv [1, 2, 0] [(0, .ref (a 0)), (3, .int x3), (5, .int (0 : Int32))] rfl ?_
    exact L475  n x3 (0 : Int32) z469 h
  have L464 : ∀ (x3 : Int32) (t : St), m_Model_readScan_464 n  x3 t = some z → J p l e { frames := 2, cells := 0, slots := 0, locals := 48 } s m args below meth c 6 (dC, dI) vwCl A (MQ below (jQv (dC, dI) vwCl (tyA cI cB cJ cZ) (fun _ : Unit => wM cI cB cJ cZ a z) A) args s 0 0 A) 0 0 464 [(0, .ref (a 0)), (3, .int x3)] [.ref (a 0)] (wM cI cB cJ cZ a t) := by
    intro x3 t h
    unfold m_Model_readScan_464 at h
    refine J_iconst (v := (1 : Int32)) X d_Model_readScan_464 (by decide) ?_
    refine J_goto X 469 d_Model_readScan_465 (by decide) ?_
    refine J_lv [0, 1] [(0, .ref (a 0)), (3, .int x3)] rfl ?_
    exact L469  x3 (1 : Int32) t h
  have L468 : ∀ (x3 : Int32) (t : St), m_Model_readScan_468 n  x3 t = some z → J p l e { frames := 2, cells := 0, slots := 0, locals := 48 } s m args below meth c 6 (dC, dI) vwCl A (MQ below (jQv (dC, dI) vwCl (tyA cI cB cJ cZ) (fun _ : Unit => wM cI cB cJ cZ a z) A) args s 0 0 A) 0 0 468 [(0, .ref (a 0)), (3, .int x3)] [.ref (a 0)] (wM cI cB cJ cZ a t) := by
    intro x3 t h
    unfold m_Model_readScan_468 at h
    refine J_iconst (v := (0 : Int32)) X d_Model_readScan_468 (by decide) ?_
    refine J_lv [0, 1] [(0, .ref (a 0)), (3, .int x3)] rfl ?_
    exact L469  x3 (0 : Int32) t h
  have L388 : ∀ (x3 : Int32) (y1 : Int32) (t : St), m_Model_readScan_388 n  x3 y1 t = some z → J p l e { frames := 2, cells := 0, slots := 0, locals := 48 } s m args below meth c 6 (dC, dI) vwCl A (MQ below (jQv (dC, dI) vwCl (tyA cI cB cJ cZ) (fun _ : Unit => wM cI cB cJ cZ a z) A) args s 0 0 A) 0 0 388 [(0, .ref (a 0)), (3, .int x3)] [.int y1, .ref (a 0)] (wM cI cB cJ cZ a t) := by
    intro x3 y1 t h
    unfold m_Model_readScan_388 at h
    obtain ⟨z388, hz388, h⟩ := j_bind h
    refine J_callVv0 (n := 1) (wc := (wM cI cB cJ cZ a t)) (w1 := fun _ : Unit => wM cI cB cJ cZ a z388) X isM (hCM cI cB cJ cZ a t) (hDM cI cB cJ cZ a t) rfl [.int y1] [] (ct_Model_must l dC dI cI cB cJ cZ a n y1 t hz388) (aw_V (fun w h => mm h) k_ml_Model_140 k_im_Model_must k_se_Model_must k_in_Model k_cd_Model_must) rfl (by decide +kernel) ⟨(Nat.le_of_ble_eq_true rfl), (Nat.le_of_ble_eq_true rfl)⟩ (q0 := 0) rfl rfl rfl rfl (Nat.le_of_ble_eq_true rfl) d_Model_readScan_388 ⟨(Nat.le_of_ble_eq_true rfl), (Nat.le_of_ble_eq_true rfl)⟩ (fun _ => ?_)
    refine J_aload_n X d_Model_readScan_391 0 rfl rfl ?_
    obtain ⟨z392, hz392, h⟩ := j_bind h
    refine J_callVi0 (n := 0) (wc := (wM cI cB cJ cZ a z388)) (r := z392.1) (w1 := fun _ : Unit => wM cI cB cJ cZ a z392.2) X isM (hCM cI cB cJ cZ a z388) (hDM cI cB cJ cZ a z388) rfl [] [] (ct_Model_next l dC dI cI cB cJ cZ a n z388 hz392) (aw_V (fun w h => mm h) k_ml_Model_128 k_im_Model_next k_se_Model_next k_in_Model k_cd_Model_next) rfl (by decide +kernel) ⟨(Nat.le_of_ble_eq_true rfl), (Nat.le_of_ble_eq_true rfl)⟩ (q0 := 0) rfl rfl rfl rfl (Nat.le_of_ble_eq_true rfl) d_Model_readScan_392 ⟨(Nat.le_of_ble_eq_true rfl), (Nat.le_of_ble_eq_true rfl)⟩ (fun _ => ?_)
    refine J_istore X [(4, .int z392.1), (0, .ref (a 0)), (3, .int x3)] d_Model_readScan_395 (by decide) rfl ?_
    refine J_aload_n X d_Model_readScan_397 1 rfl rfl ?_
    refine J_iload X d_Model_readScan_398 0 rfl ?_
    refine J_bipush (v := (16 : Int32)) X d_Model_readScan_400 (by decide) ?_
    refine J_idiv X d_Model_readScan_402 (by decide) ?_
    refine J_put (ty := .int) (v := .int (z392.1 / (16 : Int32))) X (fun w h => mm (in_Model w h)) ty_Model tyk_Model nm_Model 0 rfl rfl 38 (by decide) (mm k_fl_Model_162) rfl rfl (by decide +kernel) rfl rfl (Nat.le_of_ble_eq_true rfl) d_Model_readScan_403 (wM cI cB cJ cZ a (sG z392.2 19 (z392.1 / (16 : Int32)))) rfl ?_
    refine J_aload_n X d_Model_readScan_406 1 rfl rfl ?_
    refine J_iload X d_Model_readScan_407 0 rfl ?_
    refine J_bipush (v := (16 : Int32)) X d_Model_readScan_409 (by decide) ?_
    refine J_irem X d_Model_readScan_411 (by decide) ?_
    refine J_put (ty := .int) (v := .int (z392.1 - z392.1 / (16 : Int32) * (16 : Int32))) X (fun w h => mm (in_Model w h)) ty_Model tyk_Model nm_Model 0 rfl rfl 39 (by decide) (mm k_fl_Model_165) rfl rfl (by decide +kernel) rfl rfl (Nat.le_of_ble_eq_true rfl) d_Model_readScan_412 (wM cI cB cJ cZ a (sG (sG z392.2 19 (z392.1 / (16 : Int32))) 20 (z392.1 - z392.1 / (16 : Int32) * (16 : Int32)))) rfl ?_
    refine J_aload_n X d_Model_readScan_415 1 rfl rfl ?_
    refine J_aload_n X d_Model_readScan_416 1 rfl rfl ?_
    refine J_get (v := .int (z392.2.1 2)) X (fun w h => mm (in_Model w h)) 0 rfl rfl 3 (by decide) (mm k_fl_Model_107) rfl rfl d_Model_readScan_417 ?_
    refine J_if_gt X 464 d_Model_readScan_420 (by decide) (fun c420 => ?_) (fun c420 => ?_)
    · rw [if_pos c420] at h
      refine J_lv [1, 2] [(0, .ref (a 0)), (3, .int x3)] rfl ?_
      exact L464  x3 (sG (sG z392.2 19 (z392.1 / (16 : Int32))) 20 (z392.1 - z392.1 / (16 : Int32) * (16 : Int32))) h
    · rw [if_neg c420] at h
      refine J_iload_n X d_Model_readScan_423 2 rfl rfl ?_
      refine J_if_eq X 459 d_Model_readScan_424 (by decide) (fun c424 => ?_) (fun c424 => ?_)
      · rw [if_pos c424] at h
        refine J_iload X d_Model_readScan_459 0 rfl ?_
        refine J_if_ne X 468 d_Model_readScan_461 (by decide) (fun c461 => ?_) (fun c461 => ?_)
        · rw [if_neg c461] at h
          refine J_lv [1, 2] [(0, .ref (a 0)), (3, .int x3)] rfl ?_
          exact L468  x3 (sG (sG z392.2 19 (z392.1 / (16 : Int32))) 20 (z392.1 - z392.1 / (16 : Int32) * (16 : Int32))) h
        · rw [if_pos c461] at h
          refine J_lv [1, 2] [(0, .ref (a 0)), (3, .int x3)] rfl ?_
          exact L464  x3 (sG (sG z392.2 19 (z392.1 / (16 : Int32))) 20 (z392.1 - z392.1 / (16 : Int32) * (16 : Int32))) h
      · rw [if_neg c424] at h
        refine J_aload_n X d_Model_readScan_427 1 rfl rfl ?_
        refine J_get (v := .int (z392.1 - z392.1 / (16 : Int32) * (16 : Int32))) X (fun w h => mm (in_Model w h)) 0 rfl rfl 39 (by decide) (mm k_fl_Model_165) rfl rfl d_Model_readScan_428 ?_
        refine J_bipush (v := (13 : Int32)) X d_Model_readScan_431 (by decide) ?_
        refine J_icmp_gt X 468 d_Model_readScan_433 (by decide) (fun c433 => ?_) (fun c433 => ?_)
        · rw [if_pos c433] at h
          refine J_lv [1, 2] [(0, .ref (a 0)), (3, .int x3)] rfl ?_
          exact L468  x3 (sG (sG z392.2 19 (z392.1 / (16 : Int32))) 20 (z392.1 - z392.1 / (16 : Int32) * (16 : Int32))) h
        · rw [if_neg c433] at h
          refine J_aload_n X d_Model_readScan_436 1 rfl rfl ?_
          refine J_get (v := .int (z392.1 / (16 : Int32))) X (fun w h => mm (in_Model w h)) 0 rfl rfl 38 (by decide) (mm k_fl_Model_162) rfl rfl d_Model_readScan_437 ?_
          refine J_if_eq X 464 d_Model_readScan_440 (by decide) (fun c440 => ?_) (fun c440 => ?_)
          · rw [if_pos c440] at h
            refine J_lv [1, 2] [(0, .ref (a 0)), (3, .int x3)] rfl ?_
            exact L464  x3 (sG (sG z392.2 19 (z392.1 / (16 : Int32))) 20 (z392.1 - z392.1 / (16 : Int32) * (16 : Int32))) h
          · rw [if_neg c440] at h
            refine J_aload_n X d_Model_readScan_443 1 rfl rfl ?_
            refine J_get (v := .int (z392.1 / (16 : Int32))) X (fun w h => mm (in_Model w h)) 0 rfl rfl 38 (by decide) (mm k_fl_Model_162) rfl rfl d_Model_readScan_444 ?_
            refine J_aload_n X d_Model_readScan_447 1 rfl rfl ?_
            refine J_get (v := .int (z392.1 - z392.1 / (16 : Int32) * (16 : Int32))) X (fun w h => mm (in_Model w h)) 0 rfl rfl 39 (by decide) (mm k_fl_Model_165) rfl rfl d_Model_readScan_448 ?_
            refine J_iconst (v := (1 : Int32)) X d_Model_readScan_451 (by decide) ?_
            refine J_iadd X d_Model_readScan_452 ?_
            refine J_icmp_ne X 468 d_Model_readScan_453 (by decide) (fun c453 => ?_) (fun c453 => ?_)
            · rw [if_neg c453] at h
              refine J_lv [1, 2] [(0, .ref (a 0)), (3, .int x3)] rfl ?_
              exact L468  x3 (sG (sG z392.2 19 (z392.1 / (16 : Int32))) 20 (z392.1 - z392.1 / (16 : Int32) * (16 : Int32))) h
            · rw [if_pos c453] at h
              refine J_goto X 464 d_Model_readScan_456 (by decide) ?_
              refine J_lv [1, 2] [(0, .ref (a 0)), (3, .int x3)] rfl ?_
              exact L464  x3 (sG (sG z392.2 19 (z392.1 / (16 : Int32))) 20 (z392.1 - z392.1 / (16 : Int32) * (16 : Int32))) h
  have L383 : ∀ (x3 : Int32) (t : St), m_Model_readScan_383 n  x3 t = some z → J p l e { frames := 2, cells := 0, slots := 0, locals := 48 } s m args below meth c 6 (dC, dI) vwCl A (MQ below (jQv (dC, dI) vwCl (tyA cI cB cJ cZ) (fun _ : Unit => wM cI cB cJ cZ a z) A) args s 0 0 A) 0 0 383 [(0, .ref (a 0)), (3, .int x3)] [.ref (a 0)] (wM cI cB cJ cZ a t) := by
    intro x3 t h
    unfold m_Model_readScan_383 at h
    refine J_iconst (v := (1 : Int32)) X d_Model_readScan_383 (by decide) ?_
    refine J_goto X 388 d_Model_readScan_384 (by decide) ?_
    refine J_lv [0, 1] [(0, .ref (a 0)), (3, .int x3)] rfl ?_
    exact L388  x3 (1 : Int32) t h
  have L387 : ∀ (x3 : Int32) (t : St), m_Model_readScan_387 n  x3 t = some z → J p l e { frames := 2, cells := 0, slots := 0, locals := 48 } s m args below meth c 6 (dC, dI) vwCl A (MQ below (jQv (dC, dI) vwCl (tyA cI cB cJ cZ) (fun _ : Unit => wM cI cB cJ cZ a z) A) args s 0 0 A) 0 0 387 [(0, .ref (a 0)), (3, .int x3)] [.ref (a 0)] (wM cI cB cJ cZ a t) := by
    intro x3 t h
    unfold m_Model_readScan_387 at h
    refine J_iconst (v := (0 : Int32)) X d_Model_readScan_387 (by decide) ?_
    refine J_lv [0, 1] [(0, .ref (a 0)), (3, .int x3)] rfl ?_
    exact L388  x3 (0 : Int32) t h
  have L311 : ∀ (x3 : Int32) (y1 : Int32) (t : St), m_Model_readScan_311 n  x3 y1 t = some z → J p l e { frames := 2, cells := 0, slots := 0, locals := 48 } s m args below meth c 6 (dC, dI) vwCl A (MQ below (jQv (dC, dI) vwCl (tyA cI cB cJ cZ) (fun _ : Unit => wM cI cB cJ cZ a z) A) args s 0 0 A) 0 0 311 [(0, .ref (a 0)), (3, .int x3)] [.int y1, .ref (a 0)] (wM cI cB cJ cZ a t) := by
    intro x3 y1 t h
    unfold m_Model_readScan_311 at h
    obtain ⟨z311, hz311, h⟩ := j_bind h
    refine J_callVv0 (n := 1) (wc := (wM cI cB cJ cZ a t)) (w1 := fun _ : Unit => wM cI cB cJ cZ a z311) X isM (hCM cI cB cJ cZ a t) (hDM cI cB cJ cZ a t) rfl [.int y1] [] (ct_Model_must l dC dI cI cB cJ cZ a n y1 t hz311) (aw_V (fun w h => mm h) k_ml_Model_140 k_im_Model_must k_se_Model_must k_in_Model k_cd_Model_must) rfl (by decide +kernel) ⟨(Nat.le_of_ble_eq_true rfl), (Nat.le_of_ble_eq_true rfl)⟩ (q0 := 0) rfl rfl rfl rfl (Nat.le_of_ble_eq_true rfl) d_Model_readScan_311 ⟨(Nat.le_of_ble_eq_true rfl), (Nat.le_of_ble_eq_true rfl)⟩ (fun _ => ?_)
    refine J_aload_n X d_Model_readScan_314 0 rfl rfl ?_
    refine J_aload_n X d_Model_readScan_315 0 rfl rfl ?_
    obtain ⟨z316, hz316, h⟩ := j_bind h
    refine J_callVi0 (n := 0) (wc := (wM cI cB cJ cZ a z311)) (r := z316.1) (w1 := fun _ : Unit => wM cI cB cJ cZ a z316.2) X isM (hCM cI cB cJ cZ a z311) (hDM cI cB cJ cZ a z311) rfl [] [.ref (a 0)] (ct_Model_next l dC dI cI cB cJ cZ a n z311 hz316) (aw_V (fun w h => mm h) k_ml_Model_128 k_im_Model_next k_se_Model_next k_in_Model k_cd_Model_next) rfl (by decide +kernel) ⟨(Nat.le_of_ble_eq_true rfl), (Nat.le_of_ble_eq_true rfl)⟩ (q0 := 0) rfl rfl rfl rfl (Nat.le_of_ble_eq_true rfl) d_Model_readScan_316 ⟨(Nat.le_of_ble_eq_true rfl), (Nat.le_of_ble_eq_true rfl)⟩ (fun _ => ?_)
    refine J_put (ty := .int) (v := .int z316.1) X (fun w h => mm (in_Model w h)) ty_Model tyk_Model nm_Model 0 rfl rfl 37 (by decide) (mm k_fl_Model_159) rfl rfl (by decide +kernel) rfl rfl (Nat.le_of_ble_eq_true rfl) d_Model_readScan_319 (wM cI cB cJ cZ a (sG z316.2 18 z316.1)) rfl ?_
    refine J_aload_n X d_Model_readScan_322 0 rfl rfl ?_
    refine J_aload_n X d_Model_readScan_323 0 rfl rfl ?_
    refine J_get (v := .int (z316.2.1 2)) X (fun w h => mm (in_Model w h)) 0 rfl rfl 3 (by decide) (mm k_fl_Model_107) rfl rfl d_Model_readScan_324 ?_
    refine J_if_gt X 383 d_Model_readScan_327 (by decide) (fun c327 => ?_) (fun c327 => ?_)
    · rw [if_pos c327] at h
      refine J_lv [0, 1] [(0, .ref (a 0)), (3, .int x3)] rfl ?_
      exact L383  x3 (sG z316.2 18 z316.1) h
    · rw [if_neg c327] at h
      refine J_iload_n X d_Model_readScan_330 1 rfl rfl ?_
      refine J_if_ne X 346 d_Model_readScan_331 (by decide) (fun c331 => ?_) (fun c331 => ?_)
      · rw [if_neg c331] at h
        refine J_aload_n X d_Model_readScan_346 0 rfl rfl ?_
        refine J_get (v := .int (z316.2.1 17)) X (fun w h => mm (in_Model w h)) 0 rfl rfl 36 (by decide) (mm k_fl_Model_156) rfl rfl d_Model_readScan_347 ?_
        refine J_if_ne X 363 d_Model_readScan_350 (by decide) (fun c350 => ?_) (fun c350 => ?_)
        · rw [if_neg c350] at h
          refine J_aload_n X d_Model_readScan_363 0 rfl rfl ?_
          refine J_get (v := .int z316.1) X (fun w h => mm (in_Model w h)) 0 rfl rfl 37 (by decide) (mm k_fl_Model_159) rfl rfl d_Model_readScan_364 ?_
          refine J_aload_n X d_Model_readScan_367 0 rfl rfl ?_
          refine J_get (v := .int (z316.2.1 17)) X (fun w h => mm (in_Model w h)) 0 rfl rfl 36 (by decide) (mm k_fl_Model_156) rfl rfl d_Model_readScan_368 ?_
          refine J_icmp_lt X 387 d_Model_readScan_371 (by decide) (fun c371 => ?_) (fun c371 => ?_)
          · rw [if_pos c371] at h
            refine J_lv [0, 1] [(0, .ref (a 0)), (3, .int x3)] rfl ?_
            exact L387  x3 (sG z316.2 18 z316.1) h
          · rw [if_neg c371] at h
            refine J_aload_n X d_Model_readScan_374 0 rfl rfl ?_
            refine J_get (v := .int z316.1) X (fun w h => mm (in_Model w h)) 0 rfl rfl 37 (by decide) (mm k_fl_Model_159) rfl rfl d_Model_readScan_375 ?_
            refine J_bipush (v := (64 : Int32)) X d_Model_readScan_378 (by decide) ?_
            refine J_icmp_ge X 387 d_Model_readScan_380 (by decide) (fun c380 => ?_) (fun c380 => ?_)
            · rw [if_pos c380] at h
              refine J_lv [0, 1] [(0, .ref (a 0)), (3, .int x3)] rfl ?_
              exact L387  x3 (sG z316.2 18 z316.1) h
            · rw [if_neg c380] at h
              refine J_lv [0, 1] [(0, .ref (a 0)), (3, .int x3)] rfl ?_
              exact L383  x3 (sG z316.2 18 z316.1) h
        · rw [if_pos c350] at h
          refine J_aload_n X d_Model_readScan_353 0 rfl rfl ?_
          refine J_get (v := .int z316.1) X (fun w h => mm (in_Model w h)) 0 rfl rfl 37 (by decide) (mm k_fl_Model_159) rfl rfl d_Model_readScan_354 ?_
          refine J_if_ne X 387 d_Model_readScan_357 (by decide) (fun c357 => ?_) (fun c357 => ?_)
          · rw [if_neg c357] at h
            refine J_lv [0, 1] [(0, .ref (a 0)), (3, .int x3)] rfl ?_
            exact L387  x3 (sG z316.2 18 z316.1) h
          · rw [if_pos c357] at h
            refine J_goto X 383 d_Model_readScan_360 (by decide) ?_
            refine J_lv [0, 1] [(0, .ref (a 0)), (3, .int x3)] rfl ?_
            exact L383  x3 (sG z316.2 18 z316.1) h
      · rw [if_pos c331] at h
        refine J_aload_n X d_Model_readScan_334 0 rfl rfl ?_
        refine J_get (v := .int z316.1) X (fun w h => mm (in_Model w h)) 0 rfl rfl 37 (by decide) (mm k_fl_Model_159) rfl rfl d_Model_readScan_335 ?_
        refine J_bipush (v := (63 : Int32)) X d_Model_readScan_338 (by decide) ?_
        refine J_icmp_ne X 387 d_Model_readScan_340 (by decide) (fun c340 => ?_) (fun c340 => ?_)
        · rw [if_neg c340] at h
          refine J_lv [0, 1] [(0, .ref (a 0)), (3, .int x3)] rfl ?_
          exact L387  x3 (sG z316.2 18 z316.1) h
        · rw [if_pos c340] at h
          refine J_goto X 383 d_Model_readScan_343 (by decide) ?_
          refine J_lv [0, 1] [(0, .ref (a 0)), (3, .int x3)] rfl ?_
          exact L383  x3 (sG z316.2 18 z316.1) h
  have L306 : ∀ (x3 : Int32) (t : St), m_Model_readScan_306 n  x3 t = some z → J p l e { frames := 2, cells := 0, slots := 0, locals := 48 } s m args below meth c 6 (dC, dI) vwCl A (MQ below (jQv (dC, dI) vwCl (tyA cI cB cJ cZ) (fun _ : Unit => wM cI cB cJ cZ a z) A) args s 0 0 A) 0 0 306 [(0, .ref (a 0)), (3, .int x3)] [.ref (a 0)] (wM cI cB cJ cZ a t) := by
    intro x3 t h
    unfold m_Model_readScan_306 at h
    refine J_iconst (v := (1 : Int32)) X d_Model_readScan_306 (by decide) ?_
    refine J_goto X 311 d_Model_readScan_307 (by decide) ?_
    refine J_lv [0, 1] [(0, .ref (a 0)), (3, .int x3)] rfl ?_
    exact L311  x3 (1 : Int32) t h
  have L310 : ∀ (x3 : Int32) (t : St), m_Model_readScan_310 n  x3 t = some z → J p l e { frames := 2, cells := 0, slots := 0, locals := 48 } s m args below meth c 6 (dC, dI) vwCl A (MQ below (jQv (dC, dI) vwCl (tyA cI cB cJ cZ) (fun _ : Unit => wM cI cB cJ cZ a z) A) args s 0 0 A) 0 0 310 [(0, .ref (a 0)), (3, .int x3)] [.ref (a 0)] (wM cI cB cJ cZ a t) := by
    intro x3 t h
    unfold m_Model_readScan_310 at h
    refine J_iconst (v := (0 : Int32)) X d_Model_readScan_310 (by decide) ?_
    refine J_lv [0, 1] [(0, .ref (a 0)), (3, .int x3)] rfl ?_
    exact L311  x3 (0 : Int32) t h
  have L251 : ∀ (y0 : Int32) (t : St), m_Model_readScan_251 n  y0 t = some z → J p l e { frames := 2, cells := 0, slots := 0, locals := 48 } s m args below meth c 6 (dC, dI) vwCl A (MQ below (jQv (dC, dI) vwCl (tyA cI cB cJ cZ) (fun _ : Unit => wM cI cB cJ cZ a z) A) args s 0 0 A) 0 0 251 [(0, .ref (a 0))] [.int y0] (wM cI cB cJ cZ a t) := by
    intro y0 t h
    unfold m_Model_readScan_251 at h
    refine J_istore_n X [(3, .int y0), (0, .ref (a 0))] d_Model_readScan_251 rfl (by decide) rfl ?_
    refine J_aload_n X d_Model_readScan_252 1 rfl rfl ?_
    refine J_aload_n X d_Model_readScan_253 1 rfl rfl ?_
    obtain ⟨z254, hz254, h⟩ := j_bind h
    refine J_callVi0 (n := 0) (wc := (wM cI cB cJ cZ a t)) (r := z254.1) (w1 := fun _ : Unit => wM cI cB cJ cZ a z254.2) X isM (hCM cI cB cJ cZ a t) (hDM cI cB cJ cZ a t) rfl [] [.ref (a 0)] (ct_Model_next l dC dI cI cB cJ cZ a n t hz254) (aw_V (fun w h => mm h) k_ml_Model_128 k_im_Model_next k_se_Model_next k_in_Model k_cd_Model_next) rfl (by decide +kernel) ⟨(Nat.le_of_ble_eq_true rfl), (Nat.le_of_ble_eq_true rfl)⟩ (q0 := 0) rfl rfl rfl rfl (Nat.le_of_ble_eq_true rfl) d_Model_readScan_254 ⟨(Nat.le_of_ble_eq_true rfl), (Nat.le_of_ble_eq_true rfl)⟩ (fun _ => ?_)
    refine J_put (ty := .int) (v := .int z254.1) X (fun w h => mm (in_Model w h)) ty_Model tyk_Model nm_Model 0 rfl rfl 36 (by decide) (mm k_fl_Model_156) rfl rfl (by decide +kernel) rfl rfl (Nat.le_of_ble_eq_true rfl) d_Model_readScan_257 (wM cI cB cJ cZ a (sG z254.2 17 z254.1)) rfl ?_
    refine J_aload_n X d_Model_readScan_260 1 rfl rfl ?_
    refine J_aload_n X d_Model_readScan_261 1 rfl rfl ?_
    refine J_get (v := .int (z254.2.1 2)) X (fun w h => mm (in_Model w h)) 0 rfl rfl 3 (by decide) (mm k_fl_Model_107) rfl rfl d_Model_readScan_262 ?_
    refine J_if_gt X 306 d_Model_readScan_265 (by decide) (fun c265 => ?_) (fun c265 => ?_)
    · rw [if_pos c265] at h
      refine J_lv [1, 0] [(0, .ref (a 0)), (3, .int y0)] rfl ?_
      exact L306  y0 (sG z254.2 17 z254.1) h
    · rw [if_neg c265] at h
      refine J_iload_n X d_Model_readScan_268 0 rfl rfl ?_
      refine J_if_eq X 299 d_Model_readScan_269 (by decide) (fun c269 => ?_) (fun c269 => ?_)
      · rw [if_pos c269] at h
        refine J_aload_n X d_Model_readScan_299 1 rfl rfl ?_
        refine J_get (v := .int z254.1) X (fun w h => mm (in_Model w h)) 0 rfl rfl 36 (by decide) (mm k_fl_Model_156) rfl rfl d_Model_readScan_300 ?_
        refine J_if_ne X 310 d_Model_readScan_303 (by decide) (fun c303 => ?_) (fun c303 => ?_)
        · rw [if_neg c303] at h
          refine J_lv [1, 0] [(0, .ref (a 0)), (3, .int y0)] rfl ?_
          exact L310  y0 (sG z254.2 17 z254.1) h
        · rw [if_pos c303] at h
          refine J_lv [1, 0] [(0, .ref (a 0)), (3, .int y0)] rfl ?_
          exact L306  y0 (sG z254.2 17 z254.1) h
      · rw [if_neg c269] at h
        refine J_aload_n X d_Model_readScan_272 1 rfl rfl ?_
        refine J_get (v := .int z254.1) X (fun w h => mm (in_Model w h)) 0 rfl rfl 36 (by decide) (mm k_fl_Model_156) rfl rfl d_Model_readScan_273 ?_
        refine J_bipush (v := (64 : Int32)) X d_Model_readScan_276 (by decide) ?_
        refine J_icmp_ge X 310 d_Model_readScan_278 (by decide) (fun c278 => ?_) (fun c278 => ?_)
        · rw [if_pos c278] at h
          refine J_lv [1, 0] [(0, .ref (a 0)), (3, .int y0)] rfl ?_
          exact L310  y0 (sG z254.2 17 z254.1) h
        · rw [if_neg c278] at h
          refine J_aload_n X d_Model_readScan_281 1 rfl rfl ?_
          refine J_get (v := .int z254.1) X (fun w h => mm (in_Model w h)) 0 rfl rfl 36 (by decide) (mm k_fl_Model_156) rfl rfl d_Model_readScan_282 ?_
          refine J_if_eq X 306 d_Model_readScan_285 (by decide) (fun c285 => ?_) (fun c285 => ?_)
          · rw [if_pos c285] at h
            refine J_lv [1, 0] [(0, .ref (a 0)), (3, .int y0)] rfl ?_
            exact L306  y0 (sG z254.2 17 z254.1) h
          · rw [if_neg c285] at h
            refine J_aload_n X d_Model_readScan_288 1 rfl rfl ?_
            refine J_get (v := .int (z254.2.1 15)) X (fun w h => mm (in_Model w h)) 0 rfl rfl 29 (by decide) (mm k_fl_Model_150) rfl rfl d_Model_readScan_289 ?_
            refine J_iconst (v := (1 : Int32)) X d_Model_readScan_292 (by decide) ?_
            refine J_icmp_ne X 310 d_Model_readScan_293 (by decide) (fun c293 => ?_) (fun c293 => ?_)
            · rw [if_neg c293] at h
              refine J_lv [1, 0] [(0, .ref (a 0)), (3, .int y0)] rfl ?_
              exact L310  y0 (sG z254.2 17 z254.1) h
            · rw [if_pos c293] at h
              refine J_goto X 306 d_Model_readScan_296 (by decide) ?_
              refine J_lv [1, 0] [(0, .ref (a 0)), (3, .int y0)] rfl ?_
              exact L306  y0 (sG z254.2 17 z254.1) h
  have L236 : ∀  (t : St), m_Model_readScan_236 n   t = some z → J p l e { frames := 2, cells := 0, slots := 0, locals := 48 } s m args below meth c 6 (dC, dI) vwCl A (MQ below (jQv (dC, dI) vwCl (tyA cI cB cJ cZ) (fun _ : Unit => wM cI cB cJ cZ a z) A) args s 0 0 A) 0 0 236 [(0, .ref (a 0))] [] (wM cI cB cJ cZ a t) := by
    intro  t h
    unfold m_Model_readScan_236 at h
    refine J_aload_n X d_Model_readScan_236 0 rfl rfl ?_
    refine J_get (v := .int (t.1 9)) X (fun w h => mm (in_Model w h)) 0 rfl rfl 11 (by decide) (mm k_fl_Model_86) rfl rfl d_Model_readScan_237 ?_
    refine J_sipush (v := (194 : Int32)) X d_Model_readScan_240 (by decide) ?_
    refine J_icmp_ne X 250 d_Model_readScan_243 (by decide) (fun c243 => ?_) (fun c243 => ?_)
    · rw [if_neg c243] at h
      refine J_iconst (v := (0 : Int32)) X d_Model_readScan_250 (by decide) ?_
      refine J_lv [0] [(0, .ref (a 0))] rfl ?_
      exact L251  (0 : Int32) t h
    · rw [if_pos c243] at h
      refine J_iconst (v := (1 : Int32)) X d_Model_readScan_246 (by decide) ?_
      refine J_goto X 251 d_Model_readScan_247 (by decide) ?_
      refine J_lv [0] [(0, .ref (a 0))] rfl ?_
      exact L251  (1 : Int32) t h
  have L227 : ∀ (K45 : Int32 → Int32 → Int32 → St → Option (St)) (hK45 : ∀ (x1 : Int32) (x2 : Int32) (x3 : Int32) (t : St), K45 x1 x2 x3 t = some z → J p l e { frames := 2, cells := 0, slots := 0, locals := 48 } s m args below meth c 6 (dC, dI) vwCl A (MQ below (jQv (dC, dI) vwCl (tyA cI cB cJ cZ) (fun _ : Unit => wM cI cB cJ cZ a z) A) args s 0 0 A) 0 0 45 [(0, .ref (a 0)), (1, .int x1), (2, .int x2), (3, .int x3)] [] (wM cI cB cJ cZ a t)) (x1 : Int32) (x2 : Int32) (x3 : Int32) (y1 : Int32) (t : St), m_Model_readScan_227 n K45 x1 x2 x3 y1 t = some z → J p l e { frames := 2, cells := 0, slots := 0, locals := 48 } s m args below meth c 6 (dC, dI) vwCl A (MQ below (jQv (dC, dI) vwCl (tyA cI cB cJ cZ) (fun _ : Unit => wM cI cB cJ cZ a z) A) args s 0 0 A) 0 0 227 [(0, .ref (a 0)), (1, .int x1), (2, .int x2), (3, .int x3)] [.int y1, .ref (a 0)] (wM cI cB cJ cZ a t) := by
    intro K45 hK45 x1 x2 x3 y1 t h
    unfold m_Model_readScan_227 at h
    obtain ⟨z227, hz227, h⟩ := j_bind h
    refine J_callVv0 (n := 1) (wc := (wM cI cB cJ cZ a t)) (w1 := fun _ : Unit => wM cI cB cJ cZ a z227) X isM (hCM cI cB cJ cZ a t) (hDM cI cB cJ cZ a t) rfl [.int y1] [] (ct_Model_must l dC dI cI cB cJ cZ a n y1 t hz227) (aw_V (fun w h => mm h) k_ml_Model_140 k_im_Model_must k_se_Model_must k_in_Model k_cd_Model_must) rfl (by decide +kernel) ⟨(Nat.le_of_ble_eq_true rfl), (Nat.le_of_ble_eq_true rfl)⟩ (q0 := 0) rfl rfl rfl rfl (Nat.le_of_ble_eq_true rfl) d_Model_readScan_227 ⟨(Nat.le_of_ble_eq_true rfl), (Nat.le_of_ble_eq_true rfl)⟩ (fun _ => ?_)
    refine J_iinc (v := (x3 + 1)) X [(3, .int (x3 + 1)), (0, .ref (a 0)), (1, .int x1), (2, .int x2)] d_Model_readScan_230 3 rfl rfl (by decide) rfl ?_
    refine J_goto X 45 d_Model_readScan_233 (by decide) ?_
    refine J_lv [1, 2, 3, 0] [(0, .ref (a 0)), (1, .int x1), (2, .int x2), (3, .int (x3 + 1))] rfl ?_
    exact hK45 x1 x2 (x3 + 1) z227 h
  have L222 : ∀ (K45 : Int32 → Int32 → Int32 → St → Option (St)) (hK45 : ∀ (x1 : Int32) (x2 : Int32) (x3 : Int32) (t : St), K45 x1 x2 x3 t = some z → J p l e { frames := 2, cells := 0, slots := 0, locals := 48 } s m args below meth c 6 (dC, dI) vwCl A (MQ below (jQv (dC, dI) vwCl (tyA cI cB cJ cZ) (fun _ : Unit => wM cI cB cJ cZ a z) A) args s 0 0 A) 0 0 45 [(0, .ref (a 0)), (1, .int x1), (2, .int x2), (3, .int x3)] [] (wM cI cB cJ cZ a t)) (x1 : Int32) (x2 : Int32) (x3 : Int32) (t : St), m_Model_readScan_222 n K45 x1 x2 x3 t = some z → J p l e { frames := 2, cells := 0, slots := 0, locals := 48 } s m args below meth c 6 (dC, dI) vwCl A (MQ below (jQv (dC, dI) vwCl (tyA cI cB cJ cZ) (fun _ : Unit => wM cI cB cJ cZ a z) A) args s 0 0 A) 0 0 222 [(0, .ref (a 0)), (1, .int x1), (2, .int x2), (3, .int x3)] [.ref (a 0)] (wM cI cB cJ cZ a t) := by
    intro K45 hK45 x1 x2 x3 t h
    unfold m_Model_readScan_222 at h
    refine J_iconst (v := (1 : Int32)) X d_Model_readScan_222 (by decide) ?_
    refine J_goto X 227 d_Model_readScan_223 (by decide) ?_
    refine J_lv [0, 1, 2, 3] [(0, .ref (a 0)), (1, .int x1), (2, .int x2), (3, .int x3)] rfl ?_
    exact L227 K45 hK45 x1 x2 x3 (1 : Int32) t h
  have L226 : ∀ (K45 : Int32 → Int32 → Int32 → St → Option (St)) (hK45 : ∀ (x1 : Int32) (x2 : Int32) (x3 : Int32) (t : St), K45 x1 x2 x3 t = some z → J p l e { frames := 2, cells := 0, slots := 0, locals := 48 } s m args below meth c 6 (dC, dI) vwCl A (MQ below (jQv (dC, dI) vwCl (tyA cI cB cJ cZ) (fun _ : Unit => wM cI cB cJ cZ a z) A) args s 0 0 A) 0 0 45 [(0, .ref (a 0)), (1, .int x1), (2, .int x2), (3, .int x3)] [] (wM cI cB cJ cZ a t)) (x1 : Int32) (x2 : Int32) (x3 : Int32) (t : St), m_Model_readScan_226 n K45 x1 x2 x3 t = some z → J p l e { frames := 2, cells := 0, slots := 0, locals := 48 } s m args below meth c 6 (dC, dI) vwCl A (MQ below (jQv (dC, dI) vwCl (tyA cI cB cJ cZ) (fun _ : Unit => wM cI cB cJ cZ a z) A) args s 0 0 A) 0 0 226 [(0, .ref (a 0)), (1, .int x1), (2, .int x2), (3, .int x3)] [.ref (a 0)] (wM cI cB cJ cZ a t) := by
    intro K45 hK45 x1 x2 x3 t h
    unfold m_Model_readScan_226 at h
    refine J_iconst (v := (0 : Int32)) X d_Model_readScan_226 (by decide) ?_
    refine J_lv [0, 1, 2, 3] [(0, .ref (a 0)), (1, .int x1), (2, .int x2), (3, .int x3)] rfl ?_
    exact L227 K45 hK45 x1 x2 x3 (0 : Int32) t h
  have L166 : ∀ (K45 : Int32 → Int32 → Int32 → St → Option (St)) (hK45 : ∀ (x1 : Int32) (x2 : Int32) (x3 : Int32) (t : St), K45 x1 x2 x3 t = some z → J p l e { frames := 2, cells := 0, slots := 0, locals := 48 } s m args below meth c 6 (dC, dI) vwCl A (MQ below (jQv (dC, dI) vwCl (tyA cI cB cJ cZ) (fun _ : Unit => wM cI cB cJ cZ a z) A) args s 0 0 A) 0 0 45 [(0, .ref (a 0)), (1, .int x1), (2, .int x2), (3, .int x3)] [] (wM cI cB cJ cZ a t)) (x1 : Int32) (x2 : Int32) (x3 : Int32) (t : St), m_Model_readScan_166 n K45 x1 x2 x3 t = some z → J p l e { frames := 2, cells := 0, slots := 0, locals := 48 } s m args below meth c 6 (dC, dI) vwCl A (MQ below (jQv (dC, dI) vwCl (tyA cI cB cJ cZ) (fun _ : Unit => wM cI cB cJ cZ a z) A) args s 0 0 A) 0 0 166 [(0, .ref (a 0)), (1, .int x1), (2, .int x2), (3, .int x3)] [] (wM cI cB cJ cZ a t) := by
    intro K45 hK45 x1 x2 x3 t h
    unfold m_Model_readScan_166 at h
    refine J_aload_n X d_Model_readScan_166 0 rfl rfl ?_
    obtain ⟨z167, hz167, h⟩ := j_bind h
    refine J_callVi0 (n := 0) (wc := (wM cI cB cJ cZ a t)) (r := z167.1) (w1 := fun _ : Unit => wM cI cB cJ cZ a z167.2) X isM (hCM cI cB cJ cZ a t) (hDM cI cB cJ cZ a t) rfl [] [] (ct_Model_next l dC dI cI cB cJ cZ a n t hz167) (aw_V (fun w h => mm h) k_ml_Model_128 k_im_Model_next k_se_Model_next k_in_Model k_cd_Model_next) rfl (by decide +kernel) ⟨(Nat.le_of_ble_eq_true rfl), (Nat.le_of_ble_eq_true rfl)⟩ (q0 := 0) rfl rfl rfl rfl (Nat.le_of_ble_eq_true rfl) d_Model_readScan_167 ⟨(Nat.le_of_ble_eq_true rfl), (Nat.le_of_ble_eq_true rfl)⟩ (fun _ => ?_)
    refine J_istore X [(5, .int z167.1), (0, .ref (a 0)), (1, .int x1), (2, .int x2), (3, .int x3)] d_Model_readScan_170 (by decide) rfl ?_
    refine J_aload_n X d_Model_readScan_172 1 rfl rfl ?_
    refine J_get (v := .ref (a 16)) X (fun w h => mm (in_Model w h)) 0 rfl rfl 31 (by decide) (mm k_fl_Model_62) rfl rfl d_Model_readScan_173 ?_
    refine J_iload_n X d_Model_readScan_176 4 rfl rfl ?_
    refine J_iload X d_Model_readScan_177 0 rfl ?_
    refine J_bipush (v := (16 : Int32)) X d_Model_readScan_179 (by decide) ?_
    refine J_idiv X d_Model_readScan_181 (by decide) ?_
    obtain ⟨b182, h⟩ := j_ifn h
    refine J_iast (f := (z167.2.2.1 15)) X 16 0 rfl rfl b182 d_Model_readScan_182 (wM cI cB cJ cZ a (sH z167.2 15 (x3).toNatClampNeg (z167.1 / (16 : Int32)))) rfl ?_
    refine J_aload_n X d_Model_readScan_183 1 rfl rfl ?_
    refine J_get (v := .ref (a 17)) X (fun w h => mm (in_Model w h)) 0 rfl rfl 32 (by decide) (mm k_fl_Model_65) rfl rfl d_Model_readScan_184 ?_
    refine J_iload_n X d_Model_readScan_187 4 rfl rfl ?_
    refine J_iload X d_Model_readScan_188 0 rfl ?_
    refine J_bipush (v := (16 : Int32)) X d_Model_readScan_190 (by decide) ?_
    refine J_irem X d_Model_readScan_192 (by decide) ?_
    obtain ⟨w193, hw193, h⟩ := j_bind h
    refine J_to _ _ (wM cI cB cJ cZ a w193) rfl rfl (congrArg (fun q => wM cI cB cJ cZ a q) (j_s hw193)) ?_
    obtain ⟨b193, h⟩ := j_ifn h
    refine J_iast (f := (w193.2.1 16)) X 17 0 rfl rfl b193 d_Model_readScan_193 (wM cI cB cJ cZ a (sH w193 16 (x3).toNatClampNeg (z167.1 - z167.1 / (16 : Int32) * (16 : Int32)))) rfl ?_
    refine J_aload_n X d_Model_readScan_194 1 rfl rfl ?_
    refine J_aload_n X d_Model_readScan_195 1 rfl rfl ?_
    refine J_get (v := .int (w193.1 2)) X (fun w h => mm (in_Model w h)) 0 rfl rfl 3 (by decide) (mm k_fl_Model_107) rfl rfl d_Model_readScan_196 ?_
    refine J_if_gt X 222 d_Model_readScan_199 (by decide) (fun c199 => ?_) (fun c199 => ?_)
    · rw [if_pos c199] at h
      refine J_lv [1, 2, 3, 4] [(0, .ref (a 0)), (1, .int x1), (2, .int x2), (3, .int x3)] rfl ?_
      exact L222 K45 hK45 x1 x2 x3 (sH w193 16 (x3).toNatClampNeg (z167.1 - z167.1 / (16 : Int32) * (16 : Int32))) h
    · rw [if_neg c199] at h
      refine J_aload_n X d_Model_readScan_202 1 rfl rfl ?_
      refine J_get (v := .ref (a 16)) X (fun w h => mm (in_Model w h)) 0 rfl rfl 31 (by decide) (mm k_fl_Model_62) rfl rfl d_Model_readScan_203 ?_
      refine J_iload_n X d_Model_readScan_206 4 rfl rfl ?_
      obtain ⟨b207, h⟩ := j_ifn h
      refine J_iald (f := (w193.2.1 15)) X 16 0 rfl rfl b207 d_Model_readScan_207 ?_
      refine J_iconst (v := (4 : Int32)) X d_Model_readScan_208 (by decide) ?_
      refine J_icmp_ge X 226 d_Model_readScan_209 (by decide) (fun c209 => ?_) (fun c209 => ?_)
      · rw [if_pos c209] at h
        refine J_lv [1, 2, 3, 4] [(0, .ref (a 0)), (1, .int x1), (2, .int x2), (3, .int x3)] rfl ?_
        exact L226 K45 hK45 x1 x2 x3 (sH w193 16 (x3).toNatClampNeg (z167.1 - z167.1 / (16 : Int32) * (16 : Int32))) h
      · rw [if_neg c209] at h
        refine J_aload_n X d_Model_readScan_212 1 rfl rfl ?_
        refine J_get (v := .ref (a 17)) X (fun w h => mm (in_Model w h)) 0 rfl rfl 32 (by decide) (mm k_fl_Model_65) rfl rfl d_Model_readScan_213 ?_
        refine J_iload_n X d_Model_readScan_216 4 rfl rfl ?_
        obtain ⟨b217, h⟩ := j_ifn h
        refine J_iald (f := ((sH w193 16 (x3).toNatClampNeg (z167.1 - z167.1 / (16 : Int32) * (16 : Int32))).2.1 16)) X 17 0 rfl rfl b217 d_Model_readScan_217 ?_
        refine J_iconst (v := (4 : Int32)) X d_Model_readScan_218 (by decide) ?_
        refine J_icmp_ge X 226 d_Model_readScan_219 (by decide) (fun c219 => ?_) (fun c219 => ?_)
        · rw [if_pos c219] at h
          refine J_lv [1, 2, 3, 4] [(0, .ref (a 0)), (1, .int x1), (2, .int x2), (3, .int x3)] rfl ?_
          exact L226 K45 hK45 x1 x2 x3 (sH w193 16 (x3).toNatClampNeg (z167.1 - z167.1 / (16 : Int32) * (16 : Int32))) h
        · rw [if_neg c219] at h
          refine J_lv [1, 2, 3, 4] [(0, .ref (a 0)), (1, .int x1), (2, .int x2), (3, .int x3)] rfl ?_
          exact L222 K45 hK45 x1 x2 x3 (sH w193 16 (x3).toNatClampNeg (z167.1 - z167.1 / (16 : Int32) * (16 : Int32))) h
  have L163 : ∀ (K45 : Int32 → Int32 → Int32 → St → Option (St)) (hK45 : ∀ (x1 : Int32) (x2 : Int32) (x3 : Int32) (t : St), K45 x1 x2 x3 t = some z → J p l e { frames := 2, cells := 0, slots := 0, locals := 48 } s m args below meth c 6 (dC, dI) vwCl A (MQ below (jQv (dC, dI) vwCl (tyA cI cB cJ cZ) (fun _ : Unit => wM cI cB cJ cZ a z) A) args s 0 0 A) 0 0 45 [(0, .ref (a 0)), (1, .int x1), (2, .int x2), (3, .int x3)] [] (wM cI cB cJ cZ a t)) (x1 : Int32) (x2 : Int32) (x3 : Int32) (y1 : Int32) (t : St), m_Model_readScan_163 n K45 x1 x2 x3 y1 t = some z → J p l e { frames := 2, cells := 0, slots := 0, locals := 48 } s m args below meth c 6 (dC, dI) vwCl A (MQ below (jQv (dC, dI) vwCl (tyA cI cB cJ cZ) (fun _ : Unit => wM cI cB cJ cZ a z) A) args s 0 0 A) 0 0 163 [(0, .ref (a 0)), (1, .int x1), (2, .int x2), (3, .int x3)] [.int y1, .ref (a 0)] (wM cI cB cJ cZ a t) := by
    intro K45 hK45 x1 x2 x3 y1 t h
    unfold m_Model_readScan_163 at h
    obtain ⟨z163, hz163, h⟩ := j_bind h
    refine J_callVv0 (n := 1) (wc := (wM cI cB cJ cZ a t)) (w1 := fun _ : Unit => wM cI cB cJ cZ a z163) X isM (hCM cI cB cJ cZ a t) (hDM cI cB cJ cZ a t) rfl [.int y1] [] (ct_Model_must l dC dI cI cB cJ cZ a n y1 t hz163) (aw_V (fun w h => mm h) k_ml_Model_140 k_im_Model_must k_se_Model_must k_in_Model k_cd_Model_must) rfl (by decide +kernel) ⟨(Nat.le_of_ble_eq_true rfl), (Nat.le_of_ble_eq_true rfl)⟩ (q0 := 0) rfl rfl rfl rfl (Nat.le_of_ble_eq_true rfl) d_Model_readScan_163 ⟨(Nat.le_of_ble_eq_true rfl), (Nat.le_of_ble_eq_true rfl)⟩ (fun _ => ?_)
    refine J_lv [0, 1, 2, 3] [(0, .ref (a 0)), (1, .int x1), (2, .int x2), (3, .int x3)] rfl ?_
    exact L166 K45 hK45 x1 x2 x3 z163 h
  have L158 : ∀ (K45 : Int32 → Int32 → Int32 → St → Option (St)) (hK45 : ∀ (x1 : Int32) (x2 : Int32) (x3 : Int32) (t : St), K45 x1 x2 x3 t = some z → J p l e { frames := 2, cells := 0, slots := 0, locals := 48 } s m args below meth c 6 (dC, dI) vwCl A (MQ below (jQv (dC, dI) vwCl (tyA cI cB cJ cZ) (fun _ : Unit => wM cI cB cJ cZ a z) A) args s 0 0 A) 0 0 45 [(0, .ref (a 0)), (1, .int x1), (2, .int x2), (3, .int x3)] [] (wM cI cB cJ cZ a t)) (x1 : Int32) (x2 : Int32) (x3 : Int32) (t : St), m_Model_readScan_158 n K45 x1 x2 x3 t = some z → J p l e { frames := 2, cells := 0, slots := 0, locals := 48 } s m args below meth c 6 (dC, dI) vwCl A (MQ below (jQv (dC, dI) vwCl (tyA cI cB cJ cZ) (fun _ : Unit => wM cI cB cJ cZ a z) A) args s 0 0 A) 0 0 158 [(0, .ref (a 0)), (1, .int x1), (2, .int x2), (3, .int x3)] [.ref (a 0)] (wM cI cB cJ cZ a t) := by
    intro K45 hK45 x1 x2 x3 t h
    unfold m_Model_readScan_158 at h
    refine J_iconst (v := (1 : Int32)) X d_Model_readScan_158 (by decide) ?_
    refine J_goto X 163 d_Model_readScan_159 (by decide) ?_
    refine J_lv [0, 1, 2, 3] [(0, .ref (a 0)), (1, .int x1), (2, .int x2), (3, .int x3)] rfl ?_
    exact L163 K45 hK45 x1 x2 x3 (1 : Int32) t h
  have L107 : ∀ (K45 : Int32 → Int32 → Int32 → St → Option (St)) (hK45 : ∀ (x1 : Int32) (x2 : Int32) (x3 : Int32) (t : St), K45 x1 x2 x3 t = some z → J p l e { frames := 2, cells := 0, slots := 0, locals := 48 } s m args below meth c 6 (dC, dI) vwCl A (MQ below (jQv (dC, dI) vwCl (tyA cI cB cJ cZ) (fun _ : Unit => wM cI cB cJ cZ a z) A) args s 0 0 A) 0 0 45 [(0, .ref (a 0)), (1, .int x1), (2, .int x2), (3, .int x3)] [] (wM cI cB cJ cZ a t)) (x1 : Int32) (x2 : Int32) (x3 : Int32) (x4 : Int32) (t : St), m_Model_readScan_107 n K45 x1 x2 x3 x4 t = some z → J p l e { frames := 2, cells := 0, slots := 0, locals := 48 } s m args below meth c 6 (dC, dI) vwCl A (MQ below (jQv (dC, dI) vwCl (tyA cI cB cJ cZ) (fun _ : Unit => wM cI cB cJ cZ a z) A) args s 0 0 A) 0 0 107 [(0, .ref (a 0)), (1, .int x1), (2, .int x2), (3, .int x3), (4, .int x4)] [] (wM cI cB cJ cZ a t) := by
    intro K45 hK45 x1 x2 x3 x4 t h
    unfold m_Model_readScan_107 at h
    refine J_aload_n X d_Model_readScan_107 0 rfl rfl ?_
    refine J_get (v := .int (t.1 2)) X (fun w h => mm (in_Model w h)) 0 rfl rfl 3 (by decide) (mm k_fl_Model_107) rfl rfl d_Model_readScan_108 ?_
    refine J_if_ne X 166 d_Model_readScan_111 (by decide) (fun c111 => ?_) (fun c111 => ?_)
    · rw [if_neg c111] at h
      refine J_lv [0, 1, 2, 3] [(0, .ref (a 0)), (1, .int x1), (2, .int x2), (3, .int x3)] rfl ?_
      exact L166 K45 hK45 x1 x2 x3 t h
    · rw [if_pos c111] at h
      refine J_aload_n X d_Model_readScan_114 0 rfl rfl ?_
      refine J_get (v := .ref (a 15)) X (fun w h => mm (in_Model w h)) 0 rfl rfl 30 (by decide) (mm k_fl_Model_59) rfl rfl d_Model_readScan_115 ?_
      refine J_iload_n X d_Model_readScan_118 3 rfl rfl ?_
      refine J_iload X d_Model_readScan_119 4 rfl ?_
      obtain ⟨b121, h⟩ := j_ifn h
      refine J_iast (f := (t.2.1 14)) X 15 0 rfl rfl b121 d_Model_readScan_121 (wM cI cB cJ cZ a (sH t 14 (x3).toNatClampNeg x4)) rfl ?_
      refine J_iload X d_Model_readScan_122 4 rfl ?_
      refine J_istore_n X [(2, .int x4), (0, .ref (a 0)), (1, .int x1), (3, .int x3), (4, .int x4)] d_Model_readScan_124 rfl (by decide) rfl ?_
      refine J_iload_n X d_Model_readScan_125 2 rfl rfl ?_
      refine J_aload_n X d_Model_readScan_126 1 rfl rfl ?_
      refine J_get (v := .ref (a 4)) X (fun w h => mm (in_Model w h)) 0 rfl rfl 16 (by decide) (mm k_fl_Model_24) rfl rfl d_Model_readScan_127 ?_
      refine J_iload X d_Model_readScan_130 4 rfl ?_
      obtain ⟨b132, h⟩ := j_ifn h
      refine J_iald (f := (t.2.1 3)) X 4 0 rfl rfl b132 d_Model_readScan_132 ?_
      refine J_aload_n X d_Model_readScan_133 1 rfl rfl ?_
      refine J_get (v := .ref (a 5)) X (fun w h => mm (in_Model w h)) 0 rfl rfl 17 (by decide) (mm k_fl_Model_27) rfl rfl d_Model_readScan_134 ?_
      refine J_iload X d_Model_readScan_137 4 rfl ?_
      obtain ⟨b139, h⟩ := j_ifn h
      refine J_iald (f := (t.2.1 4)) X 5 0 rfl rfl b139 d_Model_readScan_139 ?_
      refine J_imul X d_Model_readScan_140 ?_
      refine J_iadd X d_Model_readScan_141 ?_
      refine J_istore_n X [(1, .int (x1 + (((t.2.1 3) (x4).toNatClampNeg) * ((t.2.1 4) (x4).toNatClampNeg)))), (2, .int x4), (0, .ref (a 0)), (3, .int x3), (4, .int x4)] d_Model_readScan_142 rfl (by decide) rfl ?_
      refine J_aload_n X d_Model_readScan_143 2 rfl rfl ?_
      refine J_aload_n X d_Model_readScan_144 2 rfl rfl ?_
      refine J_get (v := .int (t.1 15)) X (fun w h => mm (in_Model w h)) 0 rfl rfl 29 (by decide) (mm k_fl_Model_150) rfl rfl d_Model_readScan_145 ?_
      refine J_iconst (v := (1 : Int32)) X d_Model_readScan_148 (by decide) ?_
      refine J_icmp_eq X 158 d_Model_readScan_149 (by decide) (fun c149 => ?_) (fun c149 => ?_)
      · rw [if_pos c149] at h
        refine J_lv [2, 0, 1, 3] [(0, .ref (a 0)), (1, .int (x1 + (((t.2.1 3) (x4).toNatClampNeg) * ((t.2.1 4) (x4).toNatClampNeg)))), (2, .int x4), (3, .int x3)] rfl ?_
        exact L158 K45 hK45 (x1 + (((t.2.1 3) (x4).toNatClampNeg) * ((t.2.1 4) (x4).toNatClampNeg))) x4 x3 (sH t 14 (x3).toNatClampNeg x4) h
      · rw [if_neg c149] at h
        refine J_iload_n X d_Model_readScan_152 0 rfl rfl ?_
        refine J_bipush (v := (10 : Int32)) X d_Model_readScan_153 (by decide) ?_
        refine J_icmp_gt X 162 d_Model_readScan_155 (by decide) (fun c155 => ?_) (fun c155 => ?_)
        · rw [if_pos c155] at h
          refine J_iconst (v := (0 : Int32)) X d_Model_readScan_162 (by decide) ?_
          refine J_lv [2, 0, 1, 3] [(0, .ref (a 0)), (1, .int (x1 + (((t.2.1 3) (x4).toNatClampNeg) * ((t.2.1 4) (x4).toNatClampNeg)))), (2, .int x4), (3, .int x3)] rfl ?_
          exact L163 K45 hK45 (x1 + (((t.2.1 3) (x4).toNatClampNeg) * ((t.2.1 4) (x4).toNatClampNeg))) x4 x3 (0 : Int32) (sH t 14 (x3).toNatClampNeg x4) h
        · rw [if_neg c155] at h
          refine J_lv [2, 0, 1, 3] [(0, .ref (a 0)), (1, .int (x1 + (((t.2.1 3) (x4).toNatClampNeg) * ((t.2.1 4) (x4).toNatClampNeg)))), (2, .int x4), (3, .int x3)] rfl ?_
          exact L158 K45 hK45 (x1 + (((t.2.1 3) (x4).toNatClampNeg) * ((t.2.1 4) (x4).toNatClampNeg))) x4 x3 (sH t 14 (x3).toNatClampNeg x4) h
  have L45 : ∀ (k : Nat) (x1 : Int32) (x2 : Int32) (x3 : Int32) (t : St), m_Model_readScan_45 n  k x1 x2 x3 t = some z → J p l e { frames := 2, cells := 0, slots := 0, locals := 48 } s m args below meth c 6 (dC, dI) vwCl A (MQ below (jQv (dC, dI) vwCl (tyA cI cB cJ cZ) (fun _ : Unit => wM cI cB cJ cZ a z) A) args s 0 0 A) 0 0 45 [(0, .ref (a 0)), (1, .int x1), (2, .int x2), (3, .int x3)] [] (wM cI cB cJ cZ a t) := by
    intro k
    induction k with
    | zero => intro x1 x2 x3 t h; exact absurd (show none = some z from h) (by simp)
    | succ k ih =>
      intro x1 x2 x3 t h
      change m_Model_readScan_45b n  (m_Model_readScan_45 n  k) x1 x2 x3 t = some z at h
      unfold m_Model_readScan_45b at h
      refine J_iload_n X d_Model_readScan_45 3 rfl rfl ?_
      refine J_aload_n X d_Model_readScan_46 0 rfl rfl ?_
      refine J_get (v := .int (t.1 15)) X (fun w h => mm (in_Model w h)) 0 rfl rfl 29 (by decide) (mm k_fl_Model_150) rfl rfl d_Model_readScan_47 ?_
      refine J_icmp_ge X 236 d_Model_readScan_50 (by decide) (fun c50 => ?_) (fun c50 => ?_)
      · rw [if_pos c50] at h
        refine J_lv [0] [(0, .ref (a 0))] rfl ?_
        exact L236  t h
      · rw [if_neg c50] at h
        refine J_aload_n X d_Model_readScan_53 0 rfl rfl ?_
        refine J_get (v := .int (t.1 2)) X (fun w h => mm (in_Model w h)) 0 rfl rfl 3 (by decide) (mm k_fl_Model_107) rfl rfl d_Model_readScan_54 ?_
        refine J_if_ne X 236 d_Model_readScan_57 (by decide) (fun c57 => ?_) (fun c57 => ?_)
        · rw [if_neg c57] at h
          refine J_lv [0] [(0, .ref (a 0))] rfl ?_
          exact L236  t h
        · rw [if_pos c57] at h
          refine J_aload_n X d_Model_readScan_60 0 rfl rfl ?_
          refine J_get (v := .ref (a 18)) X (fun w h => mm (in_Model w h)) 0 rfl rfl 33 (by decide) (mm k_fl_Model_68) rfl rfl d_Model_readScan_61 ?_
          refine J_iload_n X d_Model_readScan_64 3 rfl rfl ?_
          refine J_aload_n X d_Model_readScan_65 0 rfl rfl ?_
          refine J_get (v := .int (t.1 4)) X (fun w h => mm (in_Model w h)) 0 rfl rfl 5 (by decide) (mm k_fl_Model_113) rfl rfl d_Model_readScan_66 ?_
          obtain ⟨b69, h⟩ := j_ifn h
          refine J_iast (f := (t.2.1 17)) X 18 0 rfl rfl b69 d_Model_readScan_69 (wM cI cB cJ cZ a (sH t 17 (x3).toNatClampNeg (t.1 4))) rfl ?_
          refine J_aload_n X d_Model_readScan_70 0 rfl rfl ?_
          refine J_aload_n X d_Model_readScan_71 0 rfl rfl ?_
          obtain ⟨z72, hz72, h⟩ := j_bind h
          refine J_callVi0 (n := 0) (wc := (wM cI cB cJ cZ a (sH t 17 (x3).toNatClampNeg (t.1 4)))) (r := z72.1) (w1 := fun _ : Unit => wM cI cB cJ cZ a z72.2) X isM (hCM cI cB cJ cZ a (sH t 17 (x3).toNatClampNeg (t.1 4))) (hDM cI cB cJ cZ a (sH t 17 (x3).toNatClampNeg (t.1 4))) rfl [] [.ref (a 0)] (ct_Model_next l dC dI cI cB cJ cZ a n (sH t 17 (x3).toNatClampNeg (t.1 4)) hz72) (aw_V (fun w h => mm h) k_ml_Model_128 k_im_Model_next k_se_Model_next k_in_Model k_cd_Model_next) rfl (by decide +kernel) ⟨(Nat.le_of_ble_eq_true rfl), (Nat.le_of_ble_eq_true rfl)⟩ (q0 := 0) rfl rfl rfl rfl (Nat.le_of_ble_eq_true rfl) d_Model_readScan_72 ⟨(Nat.le_of_ble_eq_true rfl), (Nat.le_of_ble_eq_true rfl)⟩ (fun _ => ?_)
          obtain ⟨z75, hz75, h⟩ := j_bind h
          refine J_callVi0 (n := 1) (wc := (wM cI cB cJ cZ a z72.2)) (r := z75.1) (w1 := fun _ : Unit => wM cI cB cJ cZ a z75.2) X isM (hCM cI cB cJ cZ a z72.2) (hDM cI cB cJ cZ a z72.2) rfl [.int z72.1] [] (ct_Model_named l dC dI cI cB cJ cZ a n z72.1 z72.2 hz75) (aw_V (fun w h => mm h) k_ml_Model_153 k_im_Model_named k_se_Model_named k_in_Model k_cd_Model_named) rfl (by decide +kernel) ⟨(Nat.le_of_ble_eq_true rfl), (Nat.le_of_ble_eq_true rfl)⟩ (q0 := 0) rfl rfl rfl rfl (Nat.le_of_ble_eq_true rfl) d_Model_readScan_75 ⟨(Nat.le_of_ble_eq_true rfl), (Nat.le_of_ble_eq_true rfl)⟩ (fun _ => ?_)
          refine J_istore X [(4, .int z75.1), (0, .ref (a 0)), (1, .int x1), (2, .int x2), (3, .int x3)] d_Model_readScan_78 (by decide) rfl ?_
          refine J_aload_n X d_Model_readScan_80 1 rfl rfl ?_
          refine J_get (v := .int (z75.2.1 2)) X (fun w h => mm (in_Model w h)) 0 rfl rfl 3 (by decide) (mm k_fl_Model_107) rfl rfl d_Model_readScan_81 ?_
          refine J_if_ne X 107 d_Model_readScan_84 (by decide) (fun c84 => ?_) (fun c84 => ?_)
          · rw [if_neg c84] at h
            refine J_lv [1, 2, 3, 4, 0] [(0, .ref (a 0)), (1, .int x1), (2, .int x2), (3, .int x3), (4, .int z75.1)] rfl ?_
            exact L107 (m_Model_readScan_45 n  k) ih x1 x2 x3 z75.1 z75.2 h
          · rw [if_pos c84] at h
            refine J_iload X d_Model_readScan_87 0 rfl ?_
            refine J_iload_n X d_Model_readScan_89 3 rfl rfl ?_
            refine J_icmp_gt X 107 d_Model_readScan_90 (by decide) (fun c90 => ?_) (fun c90 => ?_)
            · rw [if_pos c90] at h
              refine J_lv [1, 2, 3, 4, 0] [(0, .ref (a 0)), (1, .int x1), (2, .int x2), (3, .int x3), (4, .int z75.1)] rfl ?_
              exact L107 (m_Model_readScan_45 n  k) ih x1 x2 x3 z75.1 z75.2 h
            · rw [if_neg c90] at h
              refine J_aload_n X d_Model_readScan_93 1 rfl rfl ?_
              refine J_bipush (v := (7 : Int32)) X d_Model_readScan_94 (by decide) ?_
              refine J_aload_n X d_Model_readScan_96 1 rfl rfl ?_
              refine J_get (v := .ref (a 18)) X (fun w h => mm (in_Model w h)) 0 rfl rfl 33 (by decide) (mm k_fl_Model_68) rfl rfl d_Model_readScan_97 ?_
              refine J_iload_n X d_Model_readScan_100 4 rfl rfl ?_
              obtain ⟨b101, h⟩ := j_ifn h
              refine J_iald (f := (z75.2.2.1 17)) X 18 0 rfl rfl b101 d_Model_readScan_101 ?_
              obtain ⟨z102, hz102, h⟩ := j_bind h
              refine J_callVi0 (n := 2) (wc := (wM cI cB cJ cZ a z75.2)) (r := z102.1) (w1 := fun _ : Unit => wM cI cB cJ cZ a z102.2) X isM (hCM cI cB cJ cZ a z75.2) (hDM cI cB cJ cZ a z75.2) rfl [.int (7 : Int32), .int ((z75.2.2.1 17) (x3).toNatClampNeg)] [] (ct_Model_wrong l dC dI cI cB cJ cZ a n (7 : Int32) ((z75.2.2.1 17) (x3).toNatClampNeg) z75.2 hz102) (aw_V (fun w h => mm h) k_ml_Model_120 k_im_Model_wrong k_se_Model_wrong k_in_Model k_cd_Model_wrong) rfl (by decide +kernel) ⟨(Nat.le_of_ble_eq_true rfl), (Nat.le_of_ble_eq_true rfl)⟩ (q0 := 0) rfl rfl rfl rfl (Nat.le_of_ble_eq_true rfl) d_Model_readScan_102 ⟨(Nat.le_of_ble_eq_true rfl), (Nat.le_of_ble_eq_true rfl)⟩ (fun _ => ?_)
              refine J_istore X [(5, .int z102.1), (4, .int z75.1), (0, .ref (a 0)), (1, .int x1), (2, .int x2), (3, .int x3)] d_Model_readScan_105 (by decide) rfl ?_
              refine J_lv [2, 3, 4, 5, 1] [(0, .ref (a 0)), (1, .int x1), (2, .int x2), (3, .int x3), (4, .int z75.1)] rfl ?_
              exact L107 (m_Model_readScan_45 n  k) ih x1 x2 x3 z75.1 z102.2 h
  have L36 : ∀ (y1 : Int32) (t : St), m_Model_readScan_36 n  y1 t = some z → J p l e { frames := 2, cells := 0, slots := 0, locals := 48 } s m args below meth c 6 (dC, dI) vwCl A (MQ below (jQv (dC, dI) vwCl (tyA cI cB cJ cZ) (fun _ : Unit => wM cI cB cJ cZ a z) A) args s 0 0 A) 0 0 36 [(0, .ref (a 0))] [.int y1, .ref (a 0)] (wM cI cB cJ cZ a t) := by
    intro y1 t h
    unfold m_Model_readScan_36 at h
    obtain ⟨z36, hz36, h⟩ := j_bind h
    refine J_callVv0 (n := 1) (wc := (wM cI cB cJ cZ a t)) (w1 := fun _ : Unit => wM cI cB cJ cZ a z36) X isM (hCM cI cB cJ cZ a t) (hDM cI cB cJ cZ a t) rfl [.int y1] [] (ct_Model_must l dC dI cI cB cJ cZ a n y1 t hz36) (aw_V (fun w h => mm h) k_ml_Model_140 k_im_Model_must k_se_Model_must k_in_Model k_cd_Model_must) rfl (by decide +kernel) ⟨(Nat.le_of_ble_eq_true rfl), (Nat.le_of_ble_eq_true rfl)⟩ (q0 := 0) rfl rfl rfl rfl (Nat.le_of_ble_eq_true rfl) d_Model_readScan_36 ⟨(Nat.le_of_ble_eq_true rfl), (Nat.le_of_ble_eq_true rfl)⟩ (fun _ => ?_)
    refine J_iconst (v := (0 : Int32)) X d_Model_readScan_39 (by decide) ?_
    refine J_istore_n X [(1, .int (0 : Int32)), (0, .ref (a 0))] d_Model_readScan_40 rfl (by decide) rfl ?_
    refine J_iconst (v := (-1 : Int32)) X d_Model_readScan_41 (by decide) ?_
    refine J_istore_n X [(2, .int (-1 : Int32)), (1, .int (0 : Int32)), (0, .ref (a 0))] d_Model_readScan_42 rfl (by decide) rfl ?_
    refine J_iconst (v := (0 : Int32)) X d_Model_readScan_43 (by decide) ?_
    refine J_istore_n X [(3, .int (0 : Int32)), (2, .int (-1 : Int32)), (1, .int (0 : Int32)), (0, .ref (a 0))] d_Model_readScan_44 rfl (by decide) rfl ?_
    refine J_lv [3, 2, 1, 0] [(0, .ref (a 0)), (1, .int (0 : Int32)), (2, .int (-1 : Int32)), (3, .int (0 : Int32))] rfl ?_
    exact L45  n (0 : Int32) (-1 : Int32) (0 : Int32) z36 h
  have L31 : ∀  (t : St), m_Model_readScan_31 n   t = some z → J p l e { frames := 2, cells := 0, slots := 0, locals := 48 } s m args below meth c 6 (dC, dI) vwCl A (MQ below (jQv (dC, dI) vwCl (tyA cI cB cJ cZ) (fun _ : Unit => wM cI cB cJ cZ a z) A) args s 0 0 A) 0 0 31 [(0, .ref (a 0))] [.ref (a 0)] (wM cI cB cJ cZ a t) := by
    intro  t h
    unfold m_Model_readScan_31 at h
    refine J_iconst (v := (1 : Int32)) X d_Model_readScan_31 (by decide) ?_
    refine J_goto X 36 d_Model_readScan_32 (by decide) ?_
    refine J_lv [0] [(0, .ref (a 0))] rfl ?_
    exact L36  (1 : Int32) t h
  have L35 : ∀  (t : St), m_Model_readScan_35 n   t = some z → J p l e { frames := 2, cells := 0, slots := 0, locals := 48 } s m args below meth c 6 (dC, dI) vwCl A (MQ below (jQv (dC, dI) vwCl (tyA cI cB cJ cZ) (fun _ : Unit => wM cI cB cJ cZ a z) A) args s 0 0 A) 0 0 35 [(0, .ref (a 0))] [.ref (a 0)] (wM cI cB cJ cZ a t) := by
    intro  t h
    unfold m_Model_readScan_35 at h
    refine J_iconst (v := (0 : Int32)) X d_Model_readScan_35 (by decide) ?_
    refine J_lv [0] [(0, .ref (a 0))] rfl ?_
    exact L36  (0 : Int32) t h
  refine J_lv [0] [(0, .ref (a 0))] rfl ?_
  unfold m_Model_readScan at h
  refine J_aload_n X d_Model_readScan_0 0 rfl rfl ?_
  refine J_aload_n X d_Model_readScan_1 0 rfl rfl ?_
  obtain ⟨z2, hz2, h⟩ := j_bind h
  refine J_callVi0 (n := 0) (wc := (wM cI cB cJ cZ a t)) (r := z2.1) (w1 := fun _ : Unit => wM cI cB cJ cZ a z2.2) X isM (hCM cI cB cJ cZ a t) (hDM cI cB cJ cZ a t) rfl [] [.ref (a 0)] (ct_Model_next l dC dI cI cB cJ cZ a n t hz2) (aw_V (fun w h => mm h) k_ml_Model_128 k_im_Model_next k_se_Model_next k_in_Model k_cd_Model_next) rfl (by decide +kernel) ⟨(Nat.le_of_ble_eq_true rfl), (Nat.le_of_ble_eq_true rfl)⟩ (q0 := 0) rfl rfl rfl rfl (Nat.le_of_ble_eq_true rfl) d_Model_readScan_2 ⟨(Nat.le_of_ble_eq_true rfl), (Nat.le_of_ble_eq_true rfl)⟩ (fun _ => ?_)
  refine J_put (ty := .int) (v := .int z2.1) X (fun w h => mm (in_Model w h)) ty_Model tyk_Model nm_Model 0 rfl rfl 29 (by decide) (mm k_fl_Model_150) rfl rfl (by decide +kernel) rfl rfl (Nat.le_of_ble_eq_true rfl) d_Model_readScan_5 (wM cI cB cJ cZ a (sG z2.2 15 z2.1)) rfl ?_
  refine J_aload_n X d_Model_readScan_8 0 rfl rfl ?_
  refine J_aload_n X d_Model_readScan_9 0 rfl rfl ?_
  refine J_get (v := .int (z2.2.1 2)) X (fun w h => mm (in_Model w h)) 0 rfl rfl 3 (by decide) (mm k_fl_Model_107) rfl rfl d_Model_readScan_10 ?_
  refine J_if_gt X 31 d_Model_readScan_13 (by decide) (fun c13 => ?_) (fun c13 => ?_)
  · rw [if_pos c13] at h
    refine J_lv [0] [(0, .ref (a 0))] rfl ?_
    exact L31  (sG z2.2 15 z2.1) h
  · rw [if_neg c13] at h
    refine J_aload_n X d_Model_readScan_16 0 rfl rfl ?_
    refine J_get (v := .int z2.1) X (fun w h => mm (in_Model w h)) 0 rfl rfl 29 (by decide) (mm k_fl_Model_150) rfl rfl d_Model_readScan_17 ?_
    refine J_if_le X 35 d_Model_readScan_20 (by decide) (fun c20 => ?_) (fun c20 => ?_)
    · rw [if_pos c20] at h
      refine J_lv [0] [(0, .ref (a 0))] rfl ?_
      exact L35  (sG z2.2 15 z2.1) h
    · rw [if_neg c20] at h
      refine J_aload_n X d_Model_readScan_23 0 rfl rfl ?_
      refine J_get (v := .int z2.1) X (fun w h => mm (in_Model w h)) 0 rfl rfl 29 (by decide) (mm k_fl_Model_150) rfl rfl d_Model_readScan_24 ?_
      refine J_iconst (v := (5 : Int32)) X d_Model_readScan_27 (by decide) ?_
      refine J_icmp_ge X 35 d_Model_readScan_28 (by decide) (fun c28 => ?_) (fun c28 => ?_)
      · rw [if_pos c28] at h
        refine J_lv [0] [(0, .ref (a 0))] rfl ?_
        exact L35  (sG z2.2 15 z2.1) h
      · rw [if_neg c28] at h
        refine J_lv [0] [(0, .ref (a 0))] rfl ?_
        exact L31  (sG z2.2 15 z2.1) h
