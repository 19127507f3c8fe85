set_option maxHeartbeats 4000000 in
set_option maxRecDepth 100000 in
theorem ct_Model_forget (l : Launch) (dC : Nat → ClassId) (dI : Nat → Nat → Nat) (cI cB cJ cZ : ClassId) (a : Nat → Nat) (n : Nat)  (t : St) {z : St} (h : m_Model_forget n t = some z) : jMv l y_Model_forget w_Model_forget ({ frames := 0, cells := 0, slots := 0, locals := 0 }) (dC, dI) vwCl (tyA cI cB cJ cZ) [.ref (a 0)] (wM cI cB cJ cZ a t) (fun _ : Unit => wM cI cB cJ cZ a z) := by
  refine jMv.of (cc := c_Model_forget) (maxL := 2) (ret := none) (by decide) rfl (Nat.le_of_ble_eq_true rfl) ?_
  intro p e s m args below meth c A X hr hlk hnm
  have L83 : ∀ (k : Nat) (x1 : Int32) (t : St), m_Model_forget_83 n  k x1 t = some z → J p l e { frames := 0, cells := 0, slots := 0, locals := 0 } s m args below meth c 2 (dC, dI) vwCl A (MQ below (jQv (dC, dI) vwCl (tyA cI cB cJ cZ) (fun _ : Unit => wM cI cB cJ cZ a z) A) args s 0 0 A) 0 0 83 [(0, .ref (a 0)), (1, .int x1)] [] (wM cI cB cJ cZ a t) := by
    intro k
    induction k with
    | zero => intro x1 t h; exact absurd (show none = some z from h) (by simp)
    | succ k ih =>
      intro x1 t h
      change m_Model_forget_83b n  (m_Model_forget_83 n  k) x1 t = some z at h
      unfold m_Model_forget_83b at h
      refine J_iload_n X d_Model_forget_83 1 rfl rfl ?_
      refine J_sipush (v := (256 : Int32)) X d_Model_forget_84 (by decide) ?_
      refine J_icmp_ge X 103 d_Model_forget_87 (by decide) (fun c87 => ?_) (fun c87 => ?_)
      · rw [if_pos c87] at h
        exact J_vret X hr hlk () (Nat.le_of_ble_eq_true rfl) (Nat.le_of_ble_eq_true rfl) (congrArg (fun q => wM cI cB cJ cZ a q) (j_s h)) d_Model_forget_103
      · rw [if_neg c87] at h
        refine J_aload_n X d_Model_forget_90 0 rfl rfl ?_
        refine J_get (v := .ref (a 14)) X (fun w h => mm (in_Model w h)) 0 rfl rfl 28 (by decide) (mm k_fl_Model_56) rfl rfl d_Model_forget_91 ?_
        refine J_iload_n X d_Model_forget_94 1 rfl rfl ?_
        refine J_iconst (v := (-1 : Int32)) X d_Model_forget_95 (by decide) ?_
        obtain ⟨b96, h⟩ := j_ifn h
        refine J_iast (f := (t.2.1 13)) X 14 0 rfl rfl b96 d_Model_forget_96 (wM cI cB cJ cZ a (sH t 13 (x1).toNatClampNeg (-1 : Int32))) rfl ?_
        refine J_iinc (v := (x1 + 1)) X [(1, .int (x1 + 1)), (0, .ref (a 0))] d_Model_forget_97 1 rfl rfl (by decide) rfl ?_
        refine J_goto X 83 d_Model_forget_100 (by decide) ?_
        refine J_lv [1, 0] [(0, .ref (a 0)), (1, .int (x1 + 1))] rfl ?_
        exact ih (x1 + 1) (sH t 13 (x1).toNatClampNeg (-1 : Int32)) h
  have L62 : ∀ (k : Nat) (x1 : Int32) (t : St), m_Model_forget_62 n  k x1 t = some z → J p l e { frames := 0, cells := 0, slots := 0, locals := 0 } s m args below meth c 2 (dC, dI) vwCl A (MQ below (jQv (dC, dI) vwCl (tyA cI cB cJ cZ) (fun _ : Unit => wM cI cB cJ cZ a z) A) args s 0 0 A) 0 0 62 [(0, .ref (a 0)), (1, .int x1)] [] (wM cI cB cJ cZ a t) := by
    intro k
    induction k with
    | zero => intro x1 t h; exact absurd (show none = some z from h) (by simp)
    | succ k ih =>
      intro x1 t h
      change m_Model_forget_62b n  (m_Model_forget_62 n  k) x1 t = some z at h
      unfold m_Model_forget_62b at h
      refine J_iload_n X d_Model_forget_62 1 rfl rfl ?_
      refine J_bipush (v := (8 : Int32)) X d_Model_forget_63 (by decide) ?_
      refine J_icmp_ge X 81 d_Model_forget_65 (by decide) (fun c65 => ?_) (fun c65 => ?_)
      · rw [if_pos c65] at h
        refine J_iconst (v := (0 : Int32)) X d_Model_forget_81 (by decide) ?_
        refine J_istore_n X [(1, .int (0 : Int32)), (0, .ref (a 0))] d_Model_forget_82 rfl (by decide) rfl ?_
        refine J_lv [1, 0] [(0, .ref (a 0)), (1, .int (0 : Int32))] rfl ?_
        exact L83  n (0 : Int32) t h
      · rw [if_neg c65] at h
        refine J_aload_n X d_Model_forget_68 0 rfl rfl ?_
        refine J_get (v := .ref (a 9)) X (fun w h => mm (in_Model w h)) 0 rfl rfl 22 (by decide) (mm k_fl_Model_40) rfl rfl d_Model_forget_69 ?_
        refine J_iload_n X d_Model_forget_72 1 rfl rfl ?_
        refine J_iconst (v := (0 : Int32)) X d_Model_forget_73 (by decide) ?_
        obtain ⟨b74, h⟩ := j_ifn h
        refine J_zast (f := (t.2.1 8)) X 9 3 rfl rfl b74 d_Model_forget_74 (wM cI cB cJ cZ a (sH t 8 (x1).toNatClampNeg (vp_nar .boolean (0 : Int32)))) rfl ?_
        refine J_iinc (v := (x1 + 1)) X [(1, .int (x1 + 1)), (0, .ref (a 0))] d_Model_forget_75 1 rfl rfl (by decide) rfl ?_
        refine J_goto X 62 d_Model_forget_78 (by decide) ?_
        refine J_lv [1, 0] [(0, .ref (a 0)), (1, .int (x1 + 1))] rfl ?_
        exact ih (x1 + 1) (sH t 8 (x1).toNatClampNeg (vp_nar .boolean (0 : Int32))) h
  have L42 : ∀ (k : Nat) (x1 : Int32) (t : St), m_Model_forget_42 n  k x1 t = some z → J p l e { frames := 0, cells := 0, slots := 0, locals := 0 } s m args below meth c 2 (dC, dI) vwCl A (MQ below (jQv (dC, dI) vwCl (tyA cI cB cJ cZ) (fun _ : Unit => wM cI cB cJ cZ a z) A) args s 0 0 A) 0 0 42 [(0, .ref (a 0)), (1, .int x1)] [] (wM cI cB cJ cZ a t) := by
    intro k
    induction k with
    | zero => intro x1 t h; exact absurd (show none = some z from h) (by simp)
    | succ k ih =>
      intro x1 t h
      change m_Model_forget_42b n  (m_Model_forget_42 n  k) x1 t = some z at h
      unfold m_Model_forget_42b at h
      refine J_iload_n X d_Model_forget_42 1 rfl rfl ?_
      refine J_iconst (v := (4 : Int32)) X d_Model_forget_43 (by decide) ?_
      refine J_icmp_ge X 60 d_Model_forget_44 (by decide) (fun c44 => ?_) (fun c44 => ?_)
      · rw [if_pos c44] at h
        refine J_iconst (v := (0 : Int32)) X d_Model_forget_60 (by decide) ?_
        refine J_istore_n X [(1, .int (0 : Int32)), (0, .ref (a 0))] d_Model_forget_61 rfl (by decide) rfl ?_
        refine J_lv [1, 0] [(0, .ref (a 0)), (1, .int (0 : Int32))] rfl ?_
        exact L62  n (0 : Int32) t h
      · rw [if_neg c44] at h
        refine J_aload_n X d_Model_forget_47 0 rfl rfl ?_
        refine J_get (v := .ref (a 7)) X (fun w h => mm (in_Model w h)) 0 rfl rfl 20 (by decide) (mm k_fl_Model_33) rfl rfl d_Model_forget_48 ?_
        refine J_iload_n X d_Model_forget_51 1 rfl rfl ?_
        refine J_iconst (v := (0 : Int32)) X d_Model_forget_52 (by decide) ?_
        obtain ⟨b53, h⟩ := j_ifn h
        refine J_zast (f := (t.2.1 6)) X 7 3 rfl rfl b53 d_Model_forget_53 (wM cI cB cJ cZ a (sH t 6 (x1).toNatClampNeg (vp_nar .boolean (0 : Int32)))) rfl ?_
        refine J_iinc (v := (x1 + 1)) X [(1, .int (x1 + 1)), (0, .ref (a 0))] d_Model_forget_54 1 rfl rfl (by decide) rfl ?_
        refine J_goto X 42 d_Model_forget_57 (by decide) ?_
        refine J_lv [1, 0] [(0, .ref (a 0)), (1, .int (x1 + 1))] rfl ?_
        exact ih (x1 + 1) (sH t 6 (x1).toNatClampNeg (vp_nar .boolean (0 : Int32))) h
  refine J_lv [0] [(0, .ref (a 0))] rfl ?_
  unfold m_Model_forget at h
  refine J_aload_n X d_Model_forget_0 0 rfl rfl ?_
  refine J_iconst (v := (-1 : Int32)) X d_Model_forget_1 (by decide) ?_
  refine J_put (ty := .int) (v := .int (-1 : Int32)) X (fun w h => mm (in_Model w h)) ty_Model tyk_Model nm_Model 0 rfl rfl 8 (by decide) (mm k_fl_Model_80) rfl rfl (by decide +kernel) rfl rfl (Nat.le_of_ble_eq_true rfl) d_Model_forget_2 (wM cI cB cJ cZ a (sG t 7 (-1 : Int32))) rfl ?_
  refine J_aload_n X d_Model_forget_5 0 rfl rfl ?_
  refine J_iconst (v := (0 : Int32)) X d_Model_forget_6 (by decide) ?_
  refine J_put (ty := .int) (v := .int (0 : Int32)) X (fun w h => mm (in_Model w h)) ty_Model tyk_Model nm_Model 0 rfl rfl 9 (by decide) (mm k_fl_Model_83) rfl rfl (by decide +kernel) rfl rfl (Nat.le_of_ble_eq_true rfl) d_Model_forget_7 (wM cI cB cJ cZ a (sG (sG t 7 (-1 : Int32)) 8 (0 : Int32))) rfl ?_
  refine J_aload_n X d_Model_forget_10 0 rfl rfl ?_
  refine J_iconst (v := (0 : Int32)) X d_Model_forget_11 (by decide) ?_
  refine J_put (ty := .int) (v := .int (0 : Int32)) X (fun w h => mm (in_Model w h)) ty_Model tyk_Model nm_Model 0 rfl rfl 11 (by decide) (mm k_fl_Model_86) rfl rfl (by decide +kernel) rfl rfl (Nat.le_of_ble_eq_true rfl) d_Model_forget_12 (wM cI cB cJ cZ a (sG (sG (sG t 7 (-1 : Int32)) 8 (0 : Int32)) 9 (0 : Int32))) rfl ?_
  refine J_aload_n X d_Model_forget_15 0 rfl rfl ?_
  refine J_iconst (v := (0 : Int32)) X d_Model_forget_16 (by decide) ?_
  refine J_put (ty := .int) (v := .int (0 : Int32)) X (fun w h => mm (in_Model w h)) ty_Model tyk_Model nm_Model 0 rfl rfl 12 (by decide) (mm k_fl_Model_89) rfl rfl (by decide +kernel) rfl rfl (Nat.le_of_ble_eq_true rfl) d_Model_forget_17 (wM cI cB cJ cZ a (sG (sG (sG (sG t 7 (-1 : Int32)) 8 (0 : Int32)) 9 (0 : Int32)) 10 (0 : Int32))) rfl ?_
  refine J_aload_n X d_Model_forget_20 0 rfl rfl ?_
  refine J_iconst (v := (0 : Int32)) X d_Model_forget_21 (by decide) ?_
  refine J_put (ty := .int) (v := .int (0 : Int32)) X (fun w h => mm (in_Model w h)) ty_Model tyk_Model nm_Model 0 rfl rfl 13 (by decide) (mm k_fl_Model_92) rfl rfl (by decide +kernel) rfl rfl (Nat.le_of_ble_eq_true rfl) d_Model_forget_22 (wM cI cB cJ cZ a (sG (sG (sG (sG (sG t 7 (-1 : Int32)) 8 (0 : Int32)) 9 (0 : Int32)) 10 (0 : Int32)) 11 (0 : Int32))) rfl ?_
  refine J_aload_n X d_Model_forget_25 0 rfl rfl ?_
  refine J_iconst (v := (0 : Int32)) X d_Model_forget_26 (by decide) ?_
  refine J_put (ty := .int) (v := .int (0 : Int32)) X (fun w h => mm (in_Model w h)) ty_Model tyk_Model nm_Model 0 rfl rfl 14 (by decide) (mm k_fl_Model_95) rfl rfl (by decide +kernel) rfl rfl (Nat.le_of_ble_eq_true rfl) d_Model_forget_27 (wM cI cB cJ cZ a (sG (sG (sG (sG (sG (sG t 7 (-1 : Int32)) 8 (0 : Int32)) 9 (0 : Int32)) 10 (0 : Int32)) 11 (0 : Int32)) 12 (0 : Int32))) rfl ?_
  refine J_aload_n X d_Model_forget_30 0 rfl rfl ?_
  refine J_iconst (v := (0 : Int32)) X d_Model_forget_31 (by decide) ?_
  refine J_put (ty := .int) (v := .int (0 : Int32)) X (fun w h => mm (in_Model w h)) ty_Model tyk_Model nm_Model 0 rfl rfl 19 (by decide) (mm k_fl_Model_98) rfl rfl (by decide +kernel) rfl rfl (Nat.le_of_ble_eq_true rfl) d_Model_forget_32 (wM cI cB cJ cZ a (sG (sG (sG (sG (sG (sG (sG t 7 (-1 : Int32)) 8 (0 : Int32)) 9 (0 : Int32)) 10 (0 : Int32)) 11 (0 : Int32)) 12 (0 : Int32)) 13 (0 : Int32))) rfl ?_
  refine J_aload_n X d_Model_forget_35 0 rfl rfl ?_
  refine J_iconst (v := (0 : Int32)) X d_Model_forget_36 (by decide) ?_
  refine J_put (ty := .int) (v := .int (0 : Int32)) X (fun w h => mm (in_Model w h)) ty_Model tyk_Model nm_Model 0 rfl rfl 26 (by decide) (mm k_fl_Model_101) rfl rfl (by decide +kernel) rfl rfl (Nat.le_of_ble_eq_true rfl) d_Model_forget_37 (wM cI cB cJ cZ a (sG (sG (sG (sG (sG (sG (sG (sG t 7 (-1 : Int32)) 8 (0 : Int32)) 9 (0 : Int32)) 10 (0 : Int32)) 11 (0 : Int32)) 12 (0 : Int32)) 13 (0 : Int32)) 14 (0 : Int32))) rfl ?_
  refine J_iconst (v := (0 : Int32)) X d_Model_forget_40 (by decide) ?_
  refine J_istore_n X [(1, .int (0 : Int32)), (0, .ref (a 0))] d_Model_forget_41 rfl (by decide) rfl ?_
  refine J_lv [1, 0] [(0, .ref (a 0)), (1, .int (0 : Int32))] rfl ?_
  exact L42  n (0 : Int32) (sG (sG (sG (sG (sG (sG (sG (sG t 7 (-1 : Int32)) 8 (0 : Int32)) 9 (0 : Int32)) 10 (0 : Int32)) 11 (0 : Int32)) 12 (0 : Int32)) 13 (0 : Int32)) 14 (0 : Int32)) h
set_option maxHeartbeats 4000000 in
set_option maxRecDepth 100000 in
theorem ct_Model_give (l : Launch) (dC : Nat → ClassId) (dI : Nat → Nat → Nat) (cI cB cJ cZ : ClassId) (a : Nat → Nat) (n : Nat) (x1 : Int64) (x3 : Int32) (t : St) {z : Int32 × St} (h : m_Model_give n x1 x3 t = some z) : jMi l y_Model_give w_Model_give ({ frames := 1, cells := 0, slots := 0, locals := 21 }) (dC, dI) vwCl (tyA cI cB cJ cZ) [.ref (a 0), .long x1, .int x3] (wM cI cB cJ cZ a t) z.1 (fun _ : Unit => wM cI cB cJ cZ a z.2) := by
  refine jMi.of (cc := c_Model_give) (maxL := 5) (ret := (some .boolean)) (by decide) rfl (Nat.le_of_ble_eq_true rfl) ?_
  intro p e s m args below meth c A X hr hlk hnm
  have L35 : ∀ (k : Nat) (x1 : Int64) (x4 : Int32) (t : St), m_Model_give_35 n  k x1 x4 t = some z → J p l e { frames := 1, cells := 0, slots := 0, locals := 21 } s m args below meth c 5 (dC, dI) vwCl A (MQ below (jQi (dC, dI) vwCl (tyA cI cB cJ cZ) z.1 (fun _ : Unit => wM cI cB cJ cZ a z.2) A) args s 0 0 A) 0 0 35 [(0, .ref (a 0)), (1, .long x1), (4, .int x4)] [] (wM cI cB cJ cZ a t) := by
    intro k
    induction k with
    | zero => intro x1 x4 t h; exact absurd (show none = some z from h) (by simp)
    | succ k ih =>
      intro x1 x4 t h
      change m_Model_give_35b n  (m_Model_give_35 n  k) x1 x4 t = some z at h
      unfold m_Model_give_35b at h
      refine J_iload X d_Model_give_35 2 rfl ?_
      refine J_if_lt X 74 d_Model_give_37 (by decide) (fun c37 => ?_) (fun c37 => ?_)
      · rw [if_pos c37] at h
        refine J_aload_n X d_Model_give_74 0 rfl rfl ?_
        refine J_iconst (v := (0 : Int32)) X d_Model_give_75 (by decide) ?_
        refine J_put (ty := .int) (v := .int (0 : Int32)) X (fun w h => mm (in_Model w h)) ty_Model tyk_Model nm_Model 0 rfl rfl 3 (by decide) (mm k_fl_Model_107) rfl rfl (by decide +kernel) rfl rfl (Nat.le_of_ble_eq_true rfl) d_Model_give_76 (wM cI cB cJ cZ a (sG t 2 (0 : Int32))) rfl ?_
        refine J_aload_n X d_Model_give_79 0 rfl rfl ?_
        refine J_iconst (v := (-1 : Int32)) X d_Model_give_80 (by decide) ?_
        refine J_put (ty := .int) (v := .int (-1 : Int32)) X (fun w h => mm (in_Model w h)) ty_Model tyk_Model nm_Model 0 rfl rfl 4 (by decide) (mm k_fl_Model_13) rfl rfl (by decide +kernel) rfl rfl (Nat.le_of_ble_eq_true rfl) d_Model_give_81 (wM cI cB cJ cZ a (sG (sG t 2 (0 : Int32)) 3 (-1 : Int32))) rfl ?_
        refine J_aload_n X d_Model_give_84 0 rfl rfl ?_
        obtain ⟨z85, hz85, h⟩ := j_bind h
        refine J_callVv0 (n := 0) (wc := (wM cI cB cJ cZ a (sG (sG t 2 (0 : Int32)) 3 (-1 : Int32)))) (w1 := fun _ : Unit => wM cI cB cJ cZ a z85) X isM (hCM cI cB cJ cZ a (sG (sG t 2 (0 : Int32)) 3 (-1 : Int32))) (hDM cI cB cJ cZ a (sG (sG t 2 (0 : Int32)) 3 (-1 : Int32))) rfl [] [] (ct_Model_forget l dC dI cI cB cJ cZ a n (sG (sG t 2 (0 : Int32)) 3 (-1 : Int32)) hz85) (aw_V (fun w h => mm h) k_ml_Model_74 k_im_Model_forget k_se_Model_forget k_in_Model k_cd_Model_forget) rfl (by decide +kernel) ⟨(Nat.le_of_ble_eq_true rfl), (Nat.le_of_ble_eq_true rfl)⟩ (q0 := 0) rfl rfl rfl rfl (Nat.le_of_ble_eq_true rfl) d_Model_give_85 ⟨(Nat.le_of_ble_eq_true rfl), (Nat.le_of_ble_eq_true rfl)⟩ (fun _ => ?_)
        refine J_iconst (v := (1 : Int32)) X d_Model_give_88 (by decide) ?_
        exact J_zret X hr hlk () rfl (Nat.le_of_ble_eq_true rfl) (Nat.le_of_ble_eq_true rfl) (j_r1 h) (congrArg (fun q => wM cI cB cJ cZ a q) (j_r2 h)) d_Model_give_89
      · rw [if_neg c37] at h
        refine J_aload_n X d_Model_give_40 0 rfl rfl ?_
        refine J_get (v := .ref (a 1)) X (fun w h => mm (in_Model w h)) 0 rfl rfl 1 (by decide) (mm k_fl_Model_7) rfl rfl d_Model_give_41 ?_
        refine J_aload_n X d_Model_give_44 0 rfl rfl ?_
        refine J_get (v := .int (t.1 1)) X (fun w h => mm (in_Model w h)) 0 rfl rfl 2 (by decide) (mm k_fl_Model_104) rfl rfl d_Model_give_45 ?_
        refine J_lload_n X d_Model_give_48 1 rfl rfl ?_
        refine J_bipush (v := (8 : Int32)) X d_Model_give_49 (by decide) ?_
        refine J_iload X d_Model_give_51 2 rfl ?_
        refine J_imul X d_Model_give_53 ?_
        refine J_lshr X d_Model_give_54 ?_
        refine J_l2i X d_Model_give_55 ?_
        refine J_i2b X d_Model_give_56 ?_
        obtain ⟨b57, h⟩ := j_ifn h
        refine J_bast (f := (t.2.1 0)) X 1 1 rfl rfl b57 d_Model_give_57 (wM cI cB cJ cZ a (sH t 0 ((t.1 1)).toNatClampNeg (vp_nar .byte (((x1 >>> ((((8 : Int32) * x4)).toInt64 &&& 63))).toInt32).toInt8.toInt32))) rfl ?_
        refine J_aload_n X d_Model_give_58 0 rfl rfl ?_
        refine J_dup X d_Model_give_59 rfl ?_
        refine J_get (v := .int (t.1 1)) X (fun w h => mm (in_Model w h)) 0 rfl rfl 2 (by decide) (mm k_fl_Model_104) rfl rfl d_Model_give_60 ?_
        refine J_iconst (v := (1 : Int32)) X d_Model_give_63 (by decide) ?_
        refine J_iadd X d_Model_give_64 ?_
        refine J_put (ty := .int) (v := .int ((t.1 1) + (1 : Int32))) X (fun w h => mm (in_Model w h)) ty_Model tyk_Model nm_Model 0 rfl rfl 2 (by decide) (mm k_fl_Model_104) rfl rfl (by decide +kernel) rfl rfl (Nat.le_of_ble_eq_true rfl) d_Model_give_65 (wM cI cB cJ cZ a (sG (sH t 0 ((t.1 1)).toNatClampNeg (vp_nar .byte (((x1 >>> ((((8 : Int32) * x4)).toInt64 &&& 63))).toInt32).toInt8.toInt32)) 1 ((t.1 1) + (1 : Int32)))) rfl ?_
        refine J_iinc (v := (x4 + (-1))) X [(4, .int (x4 + (-1))), (0, .ref (a 0)), (1, .long x1)] d_Model_give_68 2 rfl rfl (by decide) rfl ?_
        refine J_goto X 35 d_Model_give_71 (by decide) ?_
        refine J_lv [1, 2, 0] [(0, .ref (a 0)), (1, .long x1), (4, .int (x4 + (-1)))] rfl ?_
        exact ih x1 (x4 + (-1)) (sG (sH t 0 ((t.1 1)).toNatClampNeg (vp_nar .byte (((x1 >>> ((((8 : Int32) * x4)).toInt64 &&& 63))).toInt32).toInt8.toInt32)) 1 ((t.1 1) + (1 : Int32))) h
  refine J_lv [0, 1, 2] [(0, .ref (a 0)), (1, .long x1), (3, .int x3)] rfl ?_
  unfold m_Model_give at h
  refine J_aload_n X d_Model_give_0 0 rfl rfl ?_
  refine J_iconst (v := (0 : Int32)) X d_Model_give_1 (by decide) ?_
  refine J_put (ty := .int) (v := .int (0 : Int32)) X (fun w h => mm (in_Model w h)) ty_Model tyk_Model nm_Model 0 rfl rfl 0 (by decide) (mm k_fl_Model_77) rfl rfl (by decide +kernel) rfl rfl (Nat.le_of_ble_eq_true rfl) d_Model_give_2 (wM cI cB cJ cZ a (sG t 0 (0 : Int32))) rfl ?_
  refine J_iload_n X d_Model_give_5 2 rfl rfl ?_
  refine J_iconst (v := (1 : Int32)) X d_Model_give_6 (by decide) ?_
  refine J_icmp_lt X 28 d_Model_give_7 (by decide) (fun c7 => ?_) (fun c7 => ?_)
  · rw [if_pos c7] at h
    refine J_iconst (v := (0 : Int32)) X d_Model_give_28 (by decide) ?_
    exact J_zret X hr hlk () rfl (Nat.le_of_ble_eq_true rfl) (Nat.le_of_ble_eq_true rfl) (j_r1 h) (congrArg (fun q => wM cI cB cJ cZ a q) (j_r2 h)) d_Model_give_29
  · rw [if_neg c7] at h
    refine J_iload_n X d_Model_give_10 2 rfl rfl ?_
    refine J_bipush (v := (8 : Int32)) X d_Model_give_11 (by decide) ?_
    refine J_icmp_gt X 28 d_Model_give_13 (by decide) (fun c13 => ?_) (fun c13 => ?_)
    · rw [if_pos c13] at h
      refine J_iconst (v := (0 : Int32)) X d_Model_give_28 (by decide) ?_
      exact J_zret X hr hlk () rfl (Nat.le_of_ble_eq_true rfl) (Nat.le_of_ble_eq_true rfl) (j_r1 h) (congrArg (fun q => wM cI cB cJ cZ a q) (j_r2 h)) d_Model_give_29
    · rw [if_neg c13] at h
      refine J_aload_n X d_Model_give_16 0 rfl rfl ?_
      refine J_get (v := .int (t.1 1)) X (fun w h => mm (in_Model w h)) 0 rfl rfl 2 (by decide) (mm k_fl_Model_104) rfl rfl d_Model_give_17 ?_
      refine J_iload_n X d_Model_give_20 2 rfl rfl ?_
      refine J_iadd X d_Model_give_21 ?_
      refine J_sipush (v := (16384 : Int32)) X d_Model_give_22 (by decide) ?_
      refine J_icmp_le X 30 d_Model_give_25 (by decide) (fun c25 => ?_) (fun c25 => ?_)
      · rw [if_pos c25] at h
        refine J_iload_n X d_Model_give_30 2 rfl rfl ?_
        refine J_iconst (v := (1 : Int32)) X d_Model_give_31 (by decide) ?_
        refine J_isub X d_Model_give_32 ?_
        refine J_istore X [(4, .int (x3 - (1 : Int32))), (0, .ref (a 0)), (1, .long x1), (3, .int x3)] d_Model_give_33 (by decide) rfl ?_
        refine J_lv [1, 2, 0] [(0, .ref (a 0)), (1, .long x1), (4, .int (x3 - (1 : Int32)))] rfl ?_
        exact L35  n x1 (x3 - (1 : Int32)) (sG t 0 (0 : Int32)) h
      · rw [if_neg c25] at h
        refine J_iconst (v := (0 : Int32)) X d_Model_give_28 (by decide) ?_
        exact J_zret X hr hlk () rfl (Nat.le_of_ble_eq_true rfl) (Nat.le_of_ble_eq_true rfl) (j_r1 h) (congrArg (fun q => wM cI cB cJ cZ a q) (j_r2 h)) d_Model_give_29
set_option maxHeartbeats 4000000 in
set_option maxRecDepth 100000 in
theorem ct_Model_wipe (l : Launch) (dC : Nat → ClassId) (dI : Nat → Nat → Nat) (cI cB cJ cZ : ClassId) (a : Nat → Nat) (n : Nat)  (t : St) {z : St} (h : m_Model_wipe n t = some z) : jMv l y_Model_wipe w_Model_wipe ({ frames := 1, cells := 0, slots := 0, locals := 21 }) (dC, dI) vwCl (tyA cI cB cJ cZ) [.ref (a 0)] (wM cI cB cJ cZ a t) (fun _ : Unit => wM cI cB cJ cZ a z) := by
  refine jMv.of (cc := c_Model_wipe) (maxL := 1) (ret := none) (by decide) rfl (Nat.le_of_ble_eq_true rfl) ?_
  intro p e s m args below meth c A X hr hlk hnm
  refine J_lv [0] [(0, .ref (a 0))] rfl ?_
  unfold m_Model_wipe at h
  refine J_aload_n X d_Model_wipe_0 0 rfl rfl ?_
  refine J_iconst (v := (0 : Int32)) X d_Model_wipe_1 (by decide) ?_
  refine J_put (ty := .int) (v := .int (0 : Int32)) X (fun w h => mm (in_Model w h)) ty_Model tyk_Model nm_Model 0 rfl rfl 0 (by decide) (mm k_fl_Model_77) rfl rfl (by decide +kernel) rfl rfl (Nat.le_of_ble_eq_true rfl) d_Model_wipe_2 (wM cI cB cJ cZ a (sG t 0 (0 : Int32))) rfl ?_
  refine J_aload_n X d_Model_wipe_5 0 rfl rfl ?_
  refine J_iconst (v := (0 : Int32)) X d_Model_wipe_6 (by decide) ?_
  refine J_put (ty := .int) (v := .int (0 : Int32)) X (fun w h => mm (in_Model w h)) ty_Model tyk_Model nm_Model 0 rfl rfl 2 (by decide) (mm k_fl_Model_104) rfl rfl (by decide +kernel) rfl rfl (Nat.le_of_ble_eq_true rfl) d_Model_wipe_7 (wM cI cB cJ cZ a (sG (sG t 0 (0 : Int32)) 1 (0 : Int32))) rfl ?_
  refine J_aload_n X d_Model_wipe_10 0 rfl rfl ?_
  refine J_iconst (v := (0 : Int32)) X d_Model_wipe_11 (by decide) ?_
  refine J_put (ty := .int) (v := .int (0 : Int32)) X (fun w h => mm (in_Model w h)) ty_Model tyk_Model nm_Model 0 rfl rfl 3 (by decide) (mm k_fl_Model_107) rfl rfl (by decide +kernel) rfl rfl (Nat.le_of_ble_eq_true rfl) d_Model_wipe_12 (wM cI cB cJ cZ a (sG (sG (sG t 0 (0 : Int32)) 1 (0 : Int32)) 2 (0 : Int32))) rfl ?_
  refine J_aload_n X d_Model_wipe_15 0 rfl rfl ?_
  refine J_iconst (v := (-1 : Int32)) X d_Model_wipe_16 (by decide) ?_
  refine J_put (ty := .int) (v := .int (-1 : Int32)) X (fun w h => mm (in_Model w h)) ty_Model tyk_Model nm_Model 0 rfl rfl 4 (by decide) (mm k_fl_Model_13) rfl rfl (by decide +kernel) rfl rfl (Nat.le_of_ble_eq_true rfl) d_Model_wipe_17 (wM cI cB cJ cZ a (sG (sG (sG (sG t 0 (0 : Int32)) 1 (0 : Int32)) 2 (0 : Int32)) 3 (-1 : Int32))) rfl ?_
  refine J_aload_n X d_Model_wipe_20 0 rfl rfl ?_
  obtain ⟨z21, hz21, h⟩ := j_bind h
  refine J_callVv0 (n := 0) (wc := (wM cI cB cJ cZ a (sG (sG (sG (sG t 0 (0 : Int32)) 1 (0 : Int32)) 2 (0 : Int32)) 3 (-1 : Int32)))) (w1 := fun _ : Unit => wM cI cB cJ cZ a z21) X isM (hCM cI cB cJ cZ a (sG (sG (sG (sG t 0 (0 : Int32)) 1 (0 : Int32)) 2 (0 : Int32)) 3 (-1 : Int32))) (hDM cI cB cJ cZ a (sG (sG (sG (sG t 0 (0 : Int32)) 1 (0 : Int32)) 2 (0 : Int32)) 3 (-1 : Int32))) rfl [] [] (ct_Model_forget l dC dI cI cB cJ cZ a n (sG (sG (sG (sG t 0 (0 : Int32)) 1 (0 : Int32)) 2 (0 : Int32)) 3 (-1 : Int32)) hz21) (aw_V (fun w h => mm h) k_ml_Model_74 k_im_Model_forget k_se_Model_forget k_in_Model k_cd_Model_forget) rfl (by decide +kernel) ⟨(Nat.le_of_ble_eq_true rfl), (Nat.le_of_ble_eq_true rfl)⟩ (q0 := 0) rfl rfl rfl rfl (Nat.le_of_ble_eq_true rfl) d_Model_wipe_21 ⟨(Nat.le_of_ble_eq_true rfl), (Nat.le_of_ble_eq_true rfl)⟩ (fun _ => ?_)
  exact J_vret X hr hlk () (Nat.le_of_ble_eq_true rfl) (Nat.le_of_ble_eq_true rfl) (congrArg (fun q => wM cI cB cJ cZ a q) (j_s h)) d_Model_wipe_24
set_option maxHeartbeats 4000000 in
set_option maxRecDepth 100000 in
theorem ct_Model_lengthAt (l : Launch) (dC : Nat → ClassId) (dI : Nat → Nat → Nat) (cI cB cJ cZ : ClassId) (a : Nat → Nat) (n : Nat)  (t : St) {z : Int32 × St} (h : m_Model_lengthAt n t = some z) : jMi l y_Model_lengthAt w_Model_lengthAt ({ frames := 0, cells := 0, slots := 0, locals := 0 }) (dC, dI) vwCl (tyA cI cB cJ cZ) [.ref (a 0)] (wM cI cB cJ cZ a t) z.1 (fun _ : Unit => wM cI cB cJ cZ a z.2) := by
  refine jMi.of (cc := c_Model_lengthAt) (maxL := 1) (ret := (some .int)) (by decide) rfl (Nat.le_of_ble_eq_true rfl) ?_
  intro p e s m args below meth c A X hr hlk hnm
  refine J_lv [0] [(0, .ref (a 0))] rfl ?_
  unfold m_Model_lengthAt at h
  refine J_aload_n X d_Model_lengthAt_0 0 rfl rfl ?_
  refine J_get (v := .int (t.1 16)) X (fun w h => mm (in_Model w h)) 0 rfl rfl 35 (by decide) (mm k_fl_Model_131) rfl rfl d_Model_lengthAt_1 ?_
  exact J_iret X hr hlk () (Nat.le_of_ble_eq_true rfl) (Nat.le_of_ble_eq_true rfl) (j_r1 h) (congrArg (fun q => wM cI cB cJ cZ a q) (j_r2 h)) d_Model_lengthAt_4
set_option maxHeartbeats 4000000 in
set_option maxRecDepth 100000 in
theorem ct_Model_wrong (l : Launch) (dC : Nat → ClassId) (dI : Nat → Nat → Nat) (cI cB cJ cZ : ClassId) (a : Nat → Nat) (n : Nat) (x1 : Int32) (x2 : Int32) (t : St) {z : Int32 × St} (h : m_Model_wrong n x1 x2 t = some z) : jMi l y_Model_wrong w_Model_wrong ({ frames := 0, cells := 0, slots := 0, locals := 0 }) (dC, dI) vwCl (tyA cI cB cJ cZ) [.ref (a 0), .int x1, .int x2] (wM cI cB cJ cZ a t) z.1 (fun _ : Unit => wM cI cB cJ cZ a z.2) := by
  refine jMi.of (cc := c_Model_wrong) (maxL := 3) (ret := (some .int)) (by decide) rfl (Nat.le_of_ble_eq_true rfl) ?_
  intro p e s m args below meth c A X hr hlk hnm
  refine J_lv [0, 1, 2] [(0, .ref (a 0)), (1, .int x1), (2, .int x2)] rfl ?_
  unfold m_Model_wrong at h
  refine J_aload_n X d_Model_wrong_0 0 rfl rfl ?_
  refine J_get (v := .int (t.1 2)) X (fun w h => mm (in_Model w h)) 0 rfl rfl 3 (by decide) (mm k_fl_Model_107) rfl rfl d_Model_wrong_1 ?_
  refine J_if_ne X 17 d_Model_wrong_4 (by decide) (fun c4 => ?_) (fun c4 => ?_)
  · rw [if_neg c4] at h
    refine J_iconst (v := (0 : Int32)) X d_Model_wrong_17 (by decide) ?_
    exact J_iret X hr hlk () (Nat.le_of_ble_eq_true rfl) (Nat.le_of_ble_eq_true rfl) (j_r1 h) (congrArg (fun q => wM cI cB cJ cZ a q) (j_r2 h)) d_Model_wrong_18
  · rw [if_pos c4] at h
    refine J_aload_n X d_Model_wrong_7 0 rfl rfl ?_
    refine J_iload_n X d_Model_wrong_8 1 rfl rfl ?_
    refine J_put (ty := .int) (v := .int x1) X (fun w h => mm (in_Model w h)) ty_Model tyk_Model nm_Model 0 rfl rfl 3 (by decide) (mm k_fl_Model_107) rfl rfl (by decide +kernel) rfl rfl (Nat.le_of_ble_eq_true rfl) d_Model_wrong_9 (wM cI cB cJ cZ a (sG t 2 x1)) rfl ?_
    refine J_aload_n X d_Model_wrong_12 0 rfl rfl ?_
    refine J_iload_n X d_Model_wrong_13 2 rfl rfl ?_
    refine J_put (ty := .int) (v := .int x2) X (fun w h => mm (in_Model w h)) ty_Model tyk_Model nm_Model 0 rfl rfl 4 (by decide) (mm k_fl_Model_13) rfl rfl (by decide +kernel) rfl rfl (Nat.le_of_ble_eq_true rfl) d_Model_wrong_14 (wM cI cB cJ cZ a (sG (sG t 2 x1) 3 x2)) rfl ?_
    refine J_iconst (v := (0 : Int32)) X d_Model_wrong_17 (by decide) ?_
    exact J_iret X hr hlk () (Nat.le_of_ble_eq_true rfl) (Nat.le_of_ble_eq_true rfl) (j_r1 h) (congrArg (fun q => wM cI cB cJ cZ a q) (j_r2 h)) d_Model_wrong_18
set_option maxHeartbeats 4000000 in
set_option maxRecDepth 100000 in
theorem ct_Model_byteAt (l : Launch) (dC : Nat → ClassId) (dI : Nat → Nat → Nat) (cI cB cJ cZ : ClassId) (a : Nat → Nat) (n : Nat) (x1 : Int32) (t : St) {z : Int32 × St} (h : m_Model_byteAt n x1 t = some z) : jMi l y_Model_byteAt w_Model_byteAt ({ frames := 0, cells := 0, slots := 0, locals := 0 }) (dC, dI) vwCl (tyA cI cB cJ cZ) [.ref (a 0), .int x1] (wM cI cB cJ cZ a t) z.1 (fun _ : Unit => wM cI cB cJ cZ a z.2) := by
  refine jMi.of (cc := c_Model_byteAt) (maxL := 2) (ret := (some .int)) (by decide) rfl (Nat.le_of_ble_eq_true rfl) ?_
  intro p e s m args below meth c A X hr hlk hnm
  refine J_lv [0, 1] [(0, .ref (a 0)), (1, .int x1)] rfl ?_
  unfold m_Model_byteAt at h
  refine J_aload_n X d_Model_byteAt_0 0 rfl rfl ?_
  refine J_get (v := .ref (a 1)) X (fun w h => mm (in_Model w h)) 0 rfl rfl 1 (by decide) (mm k_fl_Model_7) rfl rfl d_Model_byteAt_1 ?_
  refine J_iload_n X d_Model_byteAt_4 1 rfl rfl ?_
  obtain ⟨b5, h⟩ := j_ifn h
  refine J_bald (f := (t.2.1 0)) X 1 1 rfl rfl b5 d_Model_byteAt_5 ?_
  refine J_sipush (v := (255 : Int32)) X d_Model_byteAt_6 (by decide) ?_
  refine J_iand X d_Model_byteAt_9 ?_
  exact J_iret X hr hlk () (Nat.le_of_ble_eq_true rfl) (Nat.le_of_ble_eq_true rfl) (j_r1 h) (congrArg (fun q => wM cI cB cJ cZ a q) (j_r2 h)) d_Model_byteAt_10
set_option maxHeartbeats 4000000 in
set_option maxRecDepth 100000 in
theorem ct_Model_next (l : Launch) (dC : Nat → ClassId) (dI : Nat → Nat → Nat) (cI cB cJ cZ : ClassId) (a : Nat → Nat) (n : Nat)  (t : St) {z : Int32 × St} (h : m_Model_next n t = some z) : jMi l y_Model_next w_Model_next ({ frames := 1, cells := 0, slots := 0, locals := 22 }) (dC, dI) vwCl (tyA cI cB cJ cZ) [.ref (a 0)] (wM cI cB cJ cZ a t) z.1 (fun _ : Unit => wM cI cB cJ cZ a z.2) := by
  refine jMi.of (cc := c_Model_next) (maxL := 1) (ret := (some .int)) (by decide) rfl (Nat.le_of_ble_eq_true rfl) ?_
  intro p e s m args below meth c A X hr hlk hnm
  have L37 : ∀  (t : St), m_Model_next_37 n   t = some z → J p l e { frames := 1, cells := 0, slots := 0, locals := 22 } s m args below meth c 1 (dC, dI) vwCl A (MQ below (jQi (dC, dI) vwCl (tyA cI cB cJ cZ) z.1 (fun _ : Unit => wM cI cB cJ cZ a z.2) A) args s 0 0 A) 0 0 37 [(0, .ref (a 0))] [] (wM cI cB cJ cZ a t) := by
    intro  t h
    unfold m_Model_next_37 at h
    refine J_aload_n X d_Model_next_37 0 rfl rfl ?_
    refine J_get (v := .int (t.1 4)) X (fun w h => mm (in_Model w h)) 0 rfl rfl 5 (by decide) (mm k_fl_Model_113) rfl rfl d_Model_next_38 ?_
    refine J_aload_n X d_Model_next_41 0 rfl rfl ?_
    refine J_get (v := .int (t.1 1)) X (fun w h => mm (in_Model w h)) 0 rfl rfl 2 (by decide) (mm k_fl_Model_104) rfl rfl d_Model_next_42 ?_
    refine J_icmp_ne X 58 d_Model_next_45 (by decide) (fun c45 => ?_) (fun c45 => ?_)
    · rw [if_neg c45] at h
      refine J_aload_n X d_Model_next_58 0 rfl rfl ?_
      refine J_dup X d_Model_next_59 rfl ?_
      refine J_get (v := .int (t.1 4)) X (fun w h => mm (in_Model w h)) 0 rfl rfl 5 (by decide) (mm k_fl_Model_113) rfl rfl d_Model_next_60 ?_
      refine J_iconst (v := (1 : Int32)) X d_Model_next_63 (by decide) ?_
      refine J_iadd X d_Model_next_64 ?_
      refine J_put (ty := .int) (v := .int ((t.1 4) + (1 : Int32))) X (fun w h => mm (in_Model w h)) ty_Model tyk_Model nm_Model 0 rfl rfl 5 (by decide) (mm k_fl_Model_113) rfl rfl (by decide +kernel) rfl rfl (Nat.le_of_ble_eq_true rfl) d_Model_next_65 (wM cI cB cJ cZ a (sG t 4 ((t.1 4) + (1 : Int32)))) rfl ?_
      refine J_aload_n X d_Model_next_68 0 rfl rfl ?_
      refine J_aload_n X d_Model_next_69 0 rfl rfl ?_
      refine J_get (v := .int ((t.1 4) + (1 : Int32))) X (fun w h => mm (in_Model w h)) 0 rfl rfl 5 (by decide) (mm k_fl_Model_113) rfl rfl d_Model_next_70 ?_
      refine J_iconst (v := (1 : Int32)) X d_Model_next_73 (by decide) ?_
      refine J_isub X d_Model_next_74 ?_
      obtain ⟨z75, hz75, h⟩ := j_bind h
      refine J_callVi0 (n := 1) (wc := (wM cI cB cJ cZ a (sG t 4 ((t.1 4) + (1 : Int32))))) (r := z75.1) (w1 := fun _ : Unit => wM cI cB cJ cZ a z75.2) X isM (hCM cI cB cJ cZ a (sG t 4 ((t.1 4) + (1 : Int32)))) (hDM cI cB cJ cZ a (sG t 4 ((t.1 4) + (1 : Int32)))) rfl [.int (((t.1 4) + (1 : Int32)) - (1 : Int32))] [] (ct_Model_byteAt l dC dI cI cB cJ cZ a n (((t.1 4) + (1 : Int32)) - (1 : Int32)) (sG t 4 ((t.1 4) + (1 : Int32))) hz75) (aw_V (fun w h => mm h) k_ml_Model_124 k_im_Model_byteAt k_se_Model_byteAt k_in_Model k_cd_Model_byteAt) rfl (by decide +kernel) ⟨(Nat.le_of_ble_eq_true rfl), (Nat.le_of_ble_eq_true rfl)⟩ (q0 := 0) rfl rfl rfl rfl (Nat.le_of_ble_eq_true rfl) d_Model_next_75 ⟨(Nat.le_of_ble_eq_true rfl), (Nat.le_of_ble_eq_true rfl)⟩ (fun _ => ?_)
      exact J_iret X hr hlk () (Nat.le_of_ble_eq_true rfl) (Nat.le_of_ble_eq_true rfl) (j_r1 h) (congrArg (fun q => wM cI cB cJ cZ a q) (j_r2 h)) d_Model_next_78
    · rw [if_pos c45] at h
      refine J_aload_n X d_Model_next_48 0 rfl rfl ?_
      refine J_iconst (v := (1 : Int32)) X d_Model_next_49 (by decide) ?_
      refine J_aload_n X d_Model_next_50 0 rfl rfl ?_
      refine J_get (v := .int (t.1 1)) X (fun w h => mm (in_Model w h)) 0 rfl rfl 2 (by decide) (mm k_fl_Model_104) rfl rfl d_Model_next_51 ?_
      obtain ⟨z54, hz54, h⟩ := j_bind h
      refine J_callVi0 (n := 2) (wc := (wM cI cB cJ cZ a t)) (r := z54.1) (w1 := fun _ : Unit => wM cI cB cJ cZ a z54.2) X isM (hCM cI cB cJ cZ a t) (hDM cI cB cJ cZ a t) rfl [.int (1 : Int32), .int (t.1 1)] [] (ct_Model_wrong l dC dI cI cB cJ cZ a n (1 : Int32) (t.1 1) t hz54) (aw_V (fun w h => mm h) k_ml_Model_120 k_im_Model_wrong k_se_Model_wrong k_in_Model k_cd_Model_wrong) rfl (by decide +kernel) ⟨(Nat.le_of_ble_eq_true rfl), (Nat.le_of_ble_eq_true rfl)⟩ (q0 := 0) rfl rfl rfl rfl (Nat.le_of_ble_eq_true rfl) d_Model_next_54 ⟨(Nat.le_of_ble_eq_true rfl), (Nat.le_of_ble_eq_true rfl)⟩ (fun _ => ?_)
      exact J_iret X hr hlk () (Nat.le_of_ble_eq_true rfl) (Nat.le_of_ble_eq_true rfl) (j_r1 h) (congrArg (fun q => wM cI cB cJ cZ a q) (j_r2 h)) d_Model_next_57
  refine J_lv [0] [(0, .ref (a 0))] rfl ?_
  unfold m_Model_next at h
  refine J_aload_n X d_Model_next_0 0 rfl rfl ?_
  refine J_get (v := .int (t.1 2)) X (fun w h => mm (in_Model w h)) 0 rfl rfl 3 (by decide) (mm k_fl_Model_107) rfl rfl d_Model_next_1 ?_
  refine J_if_le X 9 d_Model_next_4 (by decide) (fun c4 => ?_) (fun c4 => ?_)
  · rw [if_pos c4] at h
    refine J_aload_n X d_Model_next_9 0 rfl rfl ?_
    refine J_get (v := .int (t.1 5)) X (fun w h => mm (in_Model w h)) 0 rfl rfl 6 (by decide) (mm k_fl_Model_110) rfl rfl d_Model_next_10 ?_
    refine J_if_lt X 37 d_Model_next_13 (by decide) (fun c13 => ?_) (fun c13 => ?_)
    · rw [if_pos c13] at h
      refine J_lv [0] [(0, .ref (a 0))] rfl ?_
      exact L37  t h
    · rw [if_neg c13] at h
      refine J_aload_n X d_Model_next_16 0 rfl rfl ?_
      refine J_get (v := .int (t.1 4)) X (fun w h => mm (in_Model w h)) 0 rfl rfl 5 (by decide) (mm k_fl_Model_113) rfl rfl d_Model_next_17 ?_
      refine J_aload_n X d_Model_next_20 0 rfl rfl ?_
      refine J_get (v := .int (t.1 5)) X (fun w h => mm (in_Model w h)) 0 rfl rfl 6 (by decide) (mm k_fl_Model_110) rfl rfl d_Model_next_21 ?_
      refine J_icmp_ne X 37 d_Model_next_24 (by decide) (fun c24 => ?_) (fun c24 => ?_)
      · rw [if_neg c24] at h
        refine J_lv [0] [(0, .ref (a 0))] rfl ?_
        exact L37  t h
      · rw [if_pos c24] at h
        refine J_aload_n X d_Model_next_27 0 rfl rfl ?_
        refine J_iconst (v := (5 : Int32)) X d_Model_next_28 (by decide) ?_
        refine J_aload_n X d_Model_next_29 0 rfl rfl ?_
        obtain ⟨z30, hz30, h⟩ := j_bind h
        refine J_callVi0 (n := 0) (wc := (wM cI cB cJ cZ a t)) (r := z30.1) (w1 := fun _ : Unit => wM cI cB cJ cZ a z30.2) X isM (hCM cI cB cJ cZ a t) (hDM cI cB cJ cZ a t) rfl [] [.int (5 : Int32), .ref (a 0)] (ct_Model_lengthAt l dC dI cI cB cJ cZ a n t hz30) (aw_V (fun w h => mm h) k_ml_Model_116 k_im_Model_lengthAt k_se_Model_lengthAt k_in_Model k_cd_Model_lengthAt) rfl (by decide +kernel) ⟨(Nat.le_of_ble_eq_true rfl), (Nat.le_of_ble_eq_true rfl)⟩ (q0 := 0) rfl rfl rfl rfl (Nat.le_of_ble_eq_true rfl) d_Model_next_30 ⟨(Nat.le_of_ble_eq_true rfl), (Nat.le_of_ble_eq_true rfl)⟩ (fun _ => ?_)
        obtain ⟨z33, hz33, h⟩ := j_bind h
        refine J_callVi0 (n := 2) (wc := (wM cI cB cJ cZ a z30.2)) (r := z33.1) (w1 := fun _ : Unit => wM cI cB cJ cZ a z33.2) X isM (hCM cI cB cJ cZ a z30.2) (hDM cI cB cJ cZ a z30.2) rfl [.int (5 : Int32), .int z30.1] [] (ct_Model_wrong l dC dI cI cB cJ cZ a n (5 : Int32) z30.1 z30.2 hz33) (aw_V (fun w h => mm h) k_ml_Model_120 k_im_Model_wrong k_se_Model_wrong k_in_Model k_cd_Model_wrong) rfl (by decide +kernel) ⟨(Nat.le_of_ble_eq_true rfl), (Nat.le_of_ble_eq_true rfl)⟩ (q0 := 0) rfl rfl rfl rfl (Nat.le_of_ble_eq_true rfl) d_Model_next_33 ⟨(Nat.le_of_ble_eq_true rfl), (Nat.le_of_ble_eq_true rfl)⟩ (fun _ => ?_)
        exact J_iret X hr hlk () (Nat.le_of_ble_eq_true rfl) (Nat.le_of_ble_eq_true rfl) (j_r1 h) (congrArg (fun q => wM cI cB cJ cZ a q) (j_r2 h)) d_Model_next_36
  · rw [if_neg c4] at h
    refine J_iconst (v := (0 : Int32)) X d_Model_next_7 (by decide) ?_
    exact J_iret X hr hlk () (Nat.le_of_ble_eq_true rfl) (Nat.le_of_ble_eq_true rfl) (j_r1 h) (congrArg (fun q => wM cI cB cJ cZ a q) (j_r2 h)) d_Model_next_8
set_option maxHeartbeats 4000000 in
set_option maxRecDepth 100000 in
theorem ct_Model_marker (l : Launch) (dC : Nat → ClassId) (dI : Nat → Nat → Nat) (cI cB cJ cZ : ClassId) (a : Nat → Nat) (n : Nat)  (t : St) {z : Int32 × St} (h : m_Model_marker n t = some z) : jMi l y_Model_marker w_Model_marker ({ frames := 2, cells := 0, slots := 0, locals := 42 }) (dC, dI) vwCl (tyA cI cB cJ cZ) [.ref (a 0)] (wM cI cB cJ cZ a t) z.1 (fun _ : Unit => wM cI cB cJ cZ a z.2) := by
  refine jMi.of (cc := c_Model_marker) (maxL := 2) (ret := (some .int)) (by decide) rfl (Nat.le_of_ble_eq_true rfl) ?_
  intro p e s m args below meth c A X hr hlk hnm
  have L61 : ∀ (x1 : Int32) (t : St), m_Model_marker_61 n  x1 t = some z → J p l e { frames := 2, cells := 0, slots := 0, locals := 42 } s m args below meth c 2 (dC, dI) vwCl A (MQ below (jQi (dC, dI) vwCl (tyA cI cB cJ cZ) z.1 (fun _ : Unit => wM cI cB cJ cZ a z.2) A) args s 0 0 A) 0 0 61 [(0, .ref (a 0)), (1, .int x1)] [] (wM cI cB cJ cZ a t) := by
    intro x1 t h
    unfold m_Model_marker_61 at h
    refine J_aload_n X d_Model_marker_61 0 rfl rfl ?_
    refine J_get (v := .int (t.1 2)) X (fun w h => mm (in_Model w h)) 0 rfl rfl 3 (by decide) (mm k_fl_Model_107) rfl rfl d_Model_marker_62 ?_
    refine J_if_ne X 84 d_Model_marker_65 (by decide) (fun c65 => ?_) (fun c65 => ?_)
    · rw [if_neg c65] at h
      refine J_iload_n X d_Model_marker_84 1 rfl rfl ?_
      exact J_iret X hr hlk () (Nat.le_of_ble_eq_true rfl) (Nat.le_of_ble_eq_true rfl) (j_r1 h) (congrArg (fun q => wM cI cB cJ cZ a q) (j_r2 h)) d_Model_marker_85
    · rw [if_pos c65] at h
      refine J_iload_n X d_Model_marker_68 1 rfl rfl ?_
      refine J_if_ne X 84 d_Model_marker_69 (by decide) (fun c69 => ?_) (fun c69 => ?_)
      · rw [if_neg c69] at h
        refine J_iload_n X d_Model_marker_84 1 rfl rfl ?_
        exact J_iret X hr hlk () (Nat.le_of_ble_eq_true rfl) (Nat.le_of_ble_eq_true rfl) (j_r1 h) (congrArg (fun q => wM cI cB cJ cZ a q) (j_r2 h)) d_Model_marker_85
      · rw [if_pos c69] at h
        refine J_aload_n X d_Model_marker_72 0 rfl rfl ?_
        refine J_iconst (v := (4 : Int32)) X d_Model_marker_73 (by decide) ?_
        refine J_aload_n X d_Model_marker_74 0 rfl rfl ?_
        refine J_get (v := .int (t.1 4)) X (fun w h => mm (in_Model w h)) 0 rfl rfl 5 (by decide) (mm k_fl_Model_113) rfl rfl d_Model_marker_75 ?_
        refine J_iconst (v := (1 : Int32)) X d_Model_marker_78 (by decide) ?_
        refine J_isub X d_Model_marker_79 ?_
        obtain ⟨z80, hz80, h⟩ := j_bind h
        refine J_callVi0 (n := 2) (wc := (wM cI cB cJ cZ a t)) (r := z80.1) (w1 := fun _ : Unit => wM cI cB cJ cZ a z80.2) X isM (hCM cI cB cJ cZ a t) (hDM cI cB cJ cZ a t) rfl [.int (4 : Int32), .int ((t.1 4) - (1 : Int32))] [] (ct_Model_wrong l dC dI cI cB cJ cZ a n (4 : Int32) ((t.1 4) - (1 : Int32)) t hz80) (aw_V (fun w h => mm h) k_ml_Model_120 k_im_Model_wrong k_se_Model_wrong k_in_Model k_cd_Model_wrong) rfl (by decide +kernel) ⟨(Nat.le_of_ble_eq_true rfl), (Nat.le_of_ble_eq_true rfl)⟩ (q0 := 0) rfl rfl rfl rfl (Nat.le_of_ble_eq_true rfl) d_Model_marker_80 ⟨(Nat.le_of_ble_eq_true rfl), (Nat.le_of_ble_eq_true rfl)⟩ (fun _ => ?_)
        exact J_iret X hr hlk () (Nat.le_of_ble_eq_true rfl) (Nat.le_of_ble_eq_true rfl) (j_r1 h) (congrArg (fun q => wM cI cB cJ cZ a q) (j_r2 h)) d_Model_marker_83
  have L39 : ∀ (k : Nat) (x1 : Int32) (t : St), m_Model_marker_39 n  k x1 t = some z → J p l e { frames := 2, cells := 0, slots := 0, locals := 42 } s m args below meth c 2 (dC, dI) vwCl A (MQ below (jQi (dC, dI) vwCl (tyA cI cB cJ cZ) z.1 (fun _ : Unit => wM cI cB cJ cZ a z.2) A) args s 0 0 A) 0 0 39 [(0, .ref (a 0)), (1, .int x1)] [] (wM cI cB cJ cZ a t) := by
    intro k
    induction k with
    | zero => intro x1 t h; exact absurd (show none = some z from h) (by simp)
    | succ k ih =>
      intro x1 t h
      change m_Model_marker_39b n  (m_Model_marker_39 n  k) x1 t = some z at h
      unfold m_Model_marker_39b at h
      refine J_aload_n X d_Model_marker_39 0 rfl rfl ?_
      refine J_get (v := .int (t.1 2)) X (fun w h => mm (in_Model w h)) 0 rfl rfl 3 (by decide) (mm k_fl_Model_107) rfl rfl d_Model_marker_40 ?_
      refine J_if_ne X 61 d_Model_marker_43 (by decide) (fun c43 => ?_) (fun c43 => ?_)
      · rw [if_neg c43] at h
        refine J_lv [0, 1] [(0, .ref (a 0)), (1, .int x1)] rfl ?_
        exact L61  x1 t h
      · rw [if_pos c43] at h
        refine J_iload_n X d_Model_marker_46 1 rfl rfl ?_
        refine J_sipush (v := (255 : Int32)) X d_Model_marker_47 (by decide) ?_
        refine J_icmp_ne X 61 d_Model_marker_50 (by decide) (fun c50 => ?_) (fun c50 => ?_)
        · rw [if_neg c50] at h
          refine J_lv [0, 1] [(0, .ref (a 0)), (1, .int x1)] rfl ?_
          exact L61  x1 t h
        · rw [if_pos c50] at h
          refine J_aload_n X d_Model_marker_53 0 rfl rfl ?_
          obtain ⟨z54, hz54, h⟩ := j_bind h
          refine J_callVi0 (n := 0) (wc := (wM cI cB cJ cZ a t)) (r := z54.1) (w1 := fun _ : Unit => wM cI cB cJ cZ a z54.2) X isM (hCM cI cB cJ cZ a t) (hDM cI cB cJ cZ a t) rfl [] [] (ct_Model_next l dC dI cI cB cJ cZ a n t hz54) (aw_V (fun w h => mm h) k_ml_Model_128 k_im_Model_next k_se_Model_next k_in_Model k_cd_Model_next) rfl (by decide +kernel) ⟨(Nat.le_of_ble_eq_true rfl), (Nat.le_of_ble_eq_true rfl)⟩ (q0 := 0) rfl rfl rfl rfl (Nat.le_of_ble_eq_true rfl) d_Model_marker_54 ⟨(Nat.le_of_ble_eq_true rfl), (Nat.le_of_ble_eq_true rfl)⟩ (fun _ => ?_)
          refine J_istore_n X [(1, .int z54.1), (0, .ref (a 0))] d_Model_marker_57 rfl (by decide) rfl ?_
          refine J_goto X 39 d_Model_marker_58 (by decide) ?_
          refine J_lv [1, 0] [(0, .ref (a 0)), (1, .int z54.1)] rfl ?_
          exact ih z54.1 z54.2 h
  refine J_lv [0] [(0, .ref (a 0))] rfl ?_
  unfold m_Model_marker at h
  refine J_aload_n X d_Model_marker_0 0 rfl rfl ?_
  refine J_aload_n X d_Model_marker_1 0 rfl rfl ?_
  refine J_get (v := .int (t.1 4)) X (fun w h => mm (in_Model w h)) 0 rfl rfl 5 (by decide) (mm k_fl_Model_113) rfl rfl d_Model_marker_2 ?_
  refine J_put (ty := .int) (v := .int (t.1 4)) X (fun w h => mm (in_Model w h)) ty_Model tyk_Model nm_Model 0 rfl rfl 7 (by decide) (mm k_fl_Model_134) rfl rfl (by decide +kernel) rfl rfl (Nat.le_of_ble_eq_true rfl) d_Model_marker_5 (wM cI cB cJ cZ a (sG t 6 (t.1 4))) rfl ?_
  refine J_aload_n X d_Model_marker_8 0 rfl rfl ?_
  obtain ⟨z9, hz9, h⟩ := j_bind h
  refine J_callVi0 (n := 0) (wc := (wM cI cB cJ cZ a (sG t 6 (t.1 4)))) (r := z9.1) (w1 := fun _ : Unit => wM cI cB cJ cZ a z9.2) X isM (hCM cI cB cJ cZ a (sG t 6 (t.1 4))) (hDM cI cB cJ cZ a (sG t 6 (t.1 4))) rfl [] [] (ct_Model_next l dC dI cI cB cJ cZ a n (sG t 6 (t.1 4)) hz9) (aw_V (fun w h => mm h) k_ml_Model_128 k_im_Model_next k_se_Model_next k_in_Model k_cd_Model_next) rfl (by decide +kernel) ⟨(Nat.le_of_ble_eq_true rfl), (Nat.le_of_ble_eq_true rfl)⟩ (q0 := 0) rfl rfl rfl rfl (Nat.le_of_ble_eq_true rfl) d_Model_marker_9 ⟨(Nat.le_of_ble_eq_true rfl), (Nat.le_of_ble_eq_true rfl)⟩ (fun _ => ?_)
  refine J_istore_n X [(1, .int z9.1), (0, .ref (a 0))] d_Model_marker_12 rfl (by decide) rfl ?_
  refine J_aload_n X d_Model_marker_13 1 rfl rfl ?_
  refine J_get (v := .int (z9.2.1 2)) X (fun w h => mm (in_Model w h)) 0 rfl rfl 3 (by decide) (mm k_fl_Model_107) rfl rfl d_Model_marker_14 ?_
  refine J_if_ne X 39 d_Model_marker_17 (by decide) (fun c17 => ?_) (fun c17 => ?_)
  · rw [if_neg c17] at h
    refine J_lv [1, 0] [(0, .ref (a 0)), (1, .int z9.1)] rfl ?_
    exact L39  n z9.1 z9.2 h
  · rw [if_pos c17] at h
    refine J_iload_n X d_Model_marker_20 0 rfl rfl ?_
    refine J_sipush (v := (255 : Int32)) X d_Model_marker_21 (by decide) ?_
    refine J_icmp_eq X 39 d_Model_marker_24 (by decide) (fun c24 => ?_) (fun c24 => ?_)
    · rw [if_pos c24] at h
      refine J_lv [1, 0] [(0, .ref (a 0)), (1, .int z9.1)] rfl ?_
      exact L39  n z9.1 z9.2 h
    · rw [if_neg c24] at h
      refine J_aload_n X d_Model_marker_27 1 rfl rfl ?_
      refine J_iconst (v := (3 : Int32)) X d_Model_marker_28 (by decide) ?_
      refine J_aload_n X d_Model_marker_29 1 rfl rfl ?_
      refine J_get (v := .int (z9.2.1 4)) X (fun w h => mm (in_Model w h)) 0 rfl rfl 5 (by decide) (mm k_fl_Model_113) rfl rfl d_Model_marker_30 ?_
      refine J_iconst (v := (1 : Int32)) X d_Model_marker_33 (by decide) ?_
      refine J_isub X d_Model_marker_34 ?_
      obtain ⟨z35, hz35, h⟩ := j_bind h
      refine J_callVi0 (n := 2) (wc := (wM cI cB cJ cZ a z9.2)) (r := z35.1) (w1 := fun _ : Unit => wM cI cB cJ cZ a z35.2) X isM (hCM cI cB cJ cZ a z9.2) (hDM cI cB cJ cZ a z9.2) rfl [.int (3 : Int32), .int ((z9.2.1 4) - (1 : Int32))] [] (ct_Model_wrong l dC dI cI cB cJ cZ a n (3 : Int32) ((z9.2.1 4) - (1 : Int32)) z9.2 hz35) (aw_V (fun w h => mm h) k_ml_Model_120 k_im_Model_wrong k_se_Model_wrong k_in_Model k_cd_Model_wrong) rfl (by decide +kernel) ⟨(Nat.le_of_ble_eq_true rfl), (Nat.le_of_ble_eq_true rfl)⟩ (q0 := 0) rfl rfl rfl rfl (Nat.le_of_ble_eq_true rfl) d_Model_marker_35 ⟨(Nat.le_of_ble_eq_true rfl), (Nat.le_of_ble_eq_true rfl)⟩ (fun _ => ?_)
      exact J_iret X hr hlk () (Nat.le_of_ble_eq_true rfl) (Nat.le_of_ble_eq_true rfl) (j_r1 h) (congrArg (fun q => wM cI cB cJ cZ a q) (j_r2 h)) d_Model_marker_38
set_option maxHeartbeats 4000000 in
set_option maxRecDepth 100000 in
theorem ct_Model_isSent (l : Launch) (dC : Nat → ClassId) (dI : Nat → Nat → Nat) (cI cB cJ cZ : ClassId) (a : Nat → Nat) (n : Nat)  (t : St) {z : Int32 × St} (h : m_Model_isSent n t = some z) : jMi l y_Model_isSent w_Model_isSent ({ frames := 0, cells := 0, slots := 0, locals := 0 }) (dC, dI) vwCl (tyA cI cB cJ cZ) [.ref (a 0)] (wM cI cB cJ cZ a t) z.1 (fun _ : Unit => wM cI cB cJ cZ a z.2) := by
  refine jMi.of (cc := c_Model_isSent) (maxL := 3) (ret := (some .boolean)) (by decide) rfl (Nat.le_of_ble_eq_true rfl) ?_
  intro p e s m args below meth c A X hr hlk hnm
  have L44 : ∀ (K15 : Int32 → Int32 → St → Option (Int32 × St)) (hK15 : ∀ (x1 : Int32) (x2 : Int32) (t : St), K15 x1 x2 t = some z → J p l e { frames := 0, cells := 0, slots := 0, locals := 0 } s m args below meth c 3 (dC, dI) vwCl A (MQ below (jQi (dC, dI) vwCl (tyA cI cB cJ cZ) z.1 (fun _ : Unit => wM cI cB cJ cZ a z.2) A) args s 0 0 A) 0 0 15 [(0, .ref (a 0)), (1, .int x1), (2, .int x2)] [] (wM cI cB cJ cZ a t)) (x2 : Int32) (y0 : Int32) (t : St), m_Model_isSent_44 n K15 x2 y0 t = some z → J p l e { frames := 0, cells := 0, slots := 0, locals := 0 } s m args below meth c 3 (dC, dI) vwCl A (MQ below (jQi (dC, dI) vwCl (tyA cI cB cJ cZ) z.1 (fun _ : Unit => wM cI cB cJ cZ a z.2) A) args s 0 0 A) 0 0 44 [(0, .ref (a 0)), (2, .int x2)] [.int y0] (wM cI cB cJ cZ a t) := by
    intro K15 hK15 x2 y0 t h
    unfold m_Model_isSent_44 at h
    refine J_istore_n X [(1, .int y0), (0, .ref (a 0)), (2, .int x2)] d_Model_isSent_44 rfl (by decide) rfl ?_
    refine J_iinc (v := (x2 + 1)) X [(2, .int (x2 + 1)), (1, .int y0), (0, .ref (a 0))] d_Model_isSent_45 2 rfl rfl (by decide) rfl ?_
    refine J_goto X 15 d_Model_isSent_48 (by decide) ?_
    refine J_lv [2, 1, 0] [(0, .ref (a 0)), (1, .int y0), (2, .int (x2 + 1))] rfl ?_
    exact hK15 y0 (x2 + 1) t h
  have L43 : ∀ (K15 : Int32 → Int32 → St → Option (Int32 × St)) (hK15 : ∀ (x1 : Int32) (x2 : Int32) (t : St), K15 x1 x2 t = some z → J p l e { frames := 0, cells := 0, slots := 0, locals := 0 } s m args below meth c 3 (dC, dI) vwCl A (MQ below (jQi (dC, dI) vwCl (tyA cI cB cJ cZ) z.1 (fun _ : Unit => wM cI cB cJ cZ a z.2) A) args s 0 0 A) 0 0 15 [(0, .ref (a 0)), (1, .int x1), (2, .int x2)] [] (wM cI cB cJ cZ a t)) (x2 : Int32) (t : St), m_Model_isSent_43 n K15 x2 t = some z → J p l e { frames := 0, cells := 0, slots := 0, locals := 0 } s m args below meth c 3 (dC, dI) vwCl A (MQ below (jQi (dC, dI) vwCl (tyA cI cB cJ cZ) z.1 (fun _ : Unit => wM cI cB cJ cZ a z.2) A) args s 0 0 A) 0 0 43 [(0, .ref (a 0)), (2, .int x2)] [] (wM cI cB cJ cZ a t) := by
    intro K15 hK15 x2 t h
    unfold m_Model_isSent_43 at h
    refine J_iconst (v := (0 : Int32)) X d_Model_isSent_43 (by decide) ?_
    refine J_lv [0, 1] [(0, .ref (a 0)), (2, .int x2)] rfl ?_
    exact L44 K15 hK15 x2 (0 : Int32) t h
  have L15 : ∀ (k : Nat) (x1 : Int32) (x2 : Int32) (t : St), m_Model_isSent_15 n  k x1 x2 t = some z → J p l e { frames := 0, cells := 0, slots := 0, locals := 0 } s m args below meth c 3 (dC, dI) vwCl A (MQ below (jQi (dC, dI) vwCl (tyA cI cB cJ cZ) z.1 (fun _ : Unit => wM cI cB cJ cZ a z.2) A) args s 0 0 A) 0 0 15 [(0, .ref (a 0)), (1, .int x1), (2, .int x2)] [] (wM cI cB cJ cZ a t) := by
    intro k
    induction k with
    | zero => intro x1 x2 t h; exact absurd (show none = some z from h) (by simp)
    | succ k ih =>
      intro x1 x2 t h
      change m_Model_isSent_15b n  (m_Model_isSent_15 n  k) x1 x2 t = some z at h
      unfold m_Model_isSent_15b at h
      refine J_iload_n X d_Model_isSent_15 2 rfl rfl ?_
      refine J_aload_n X d_Model_isSent_16 0 rfl rfl ?_
      refine J_get (v := .int (t.1 12)) X (fun w h => mm (in_Model w h)) 0 rfl rfl 14 (by decide) (mm k_fl_Model_95) rfl rfl d_Model_isSent_17 ?_
      refine J_icmp_ge X 51 d_Model_isSent_20 (by decide) (fun c20 => ?_) (fun c20 => ?_)
      · rw [if_pos c20] at h
        refine J_iload_n X d_Model_isSent_51 1 rfl rfl ?_
        obtain ⟨b52, h⟩ := j_ifn h
        exact J_zret X hr hlk () (j_nz b52) (Nat.le_of_ble_eq_true rfl) (Nat.le_of_ble_eq_true rfl) (j_r1 h) (congrArg (fun q => wM cI cB cJ cZ a q) (j_r2 h)) d_Model_isSent_52
      · rw [if_neg c20] at h
        refine J_iload_n X d_Model_isSent_23 1 rfl rfl ?_
        refine J_if_eq X 43 d_Model_isSent_24 (by decide) (fun c24 => ?_) (fun c24 => ?_)
        · rw [if_pos c24] at h
          refine J_lv [0, 2] [(0, .ref (a 0)), (2, .int x2)] rfl ?_
          exact L43 (m_Model_isSent_15 n  k) ih x2 t h
        · rw [if_neg c24] at h
          refine J_aload_n X d_Model_isSent_27 0 rfl rfl ?_
          refine J_get (v := .ref (a 14)) X (fun w h => mm (in_Model w h)) 0 rfl rfl 28 (by decide) (mm k_fl_Model_56) rfl rfl d_Model_isSent_28 ?_
          refine J_bipush (v := (64 : Int32)) X d_Model_isSent_31 (by decide) ?_
          refine J_iload_n X d_Model_isSent_33 2 rfl rfl ?_
          refine J_imul X d_Model_isSent_34 ?_
          obtain ⟨b35, h⟩ := j_ifn h
          refine J_iald (f := (t.2.1 13)) X 14 0 rfl rfl b35 d_Model_isSent_35 ?_
          refine J_if_lt X 43 d_Model_isSent_36 (by decide) (fun c36 => ?_) (fun c36 => ?_)
          · rw [if_pos c36] at h
            refine J_lv [0, 2] [(0, .ref (a 0)), (2, .int x2)] rfl ?_
            exact L43 (m_Model_isSent_15 n  k) ih x2 t h
          · rw [if_neg c36] at h
            refine J_iconst (v := (1 : Int32)) X d_Model_isSent_39 (by decide) ?_
            refine J_goto X 44 d_Model_isSent_40 (by decide) ?_
            refine J_lv [0, 2] [(0, .ref (a 0)), (2, .int x2)] rfl ?_
            exact L44 (m_Model_isSent_15 n  k) ih x2 (1 : Int32) t h
  have L12 : ∀ (y0 : Int32) (t : St), m_Model_isSent_12 n  y0 t = some z → J p l e { frames := 0, cells := 0, slots := 0, locals := 0 } s m args below meth c 3 (dC, dI) vwCl A (MQ below (jQi (dC, dI) vwCl (tyA cI cB cJ cZ) z.1 (fun _ : Unit => wM cI cB cJ cZ a z.2) A) args s 0 0 A) 0 0 12 [(0, .ref (a 0))] [.int y0] (wM cI cB cJ cZ a t) := by
    intro y0 t h
    unfold m_Model_isSent_12 at h
    refine J_istore_n X [(1, .int y0), (0, .ref (a 0))] d_Model_isSent_12 rfl (by decide) rfl ?_
    refine J_iconst (v := (0 : Int32)) X d_Model_isSent_13 (by decide) ?_
    refine J_istore_n X [(2, .int (0 : Int32)), (1, .int y0), (0, .ref (a 0))] d_Model_isSent_14 rfl (by decide) rfl ?_
    refine J_lv [2, 1, 0] [(0, .ref (a 0)), (1, .int y0), (2, .int (0 : Int32))] rfl ?_
    exact L15  n y0 (0 : Int32) t h
  refine J_lv [0] [(0, .ref (a 0))] rfl ?_
  unfold m_Model_isSent at h
  refine J_aload_n X d_Model_isSent_0 0 rfl rfl ?_
  refine J_get (v := .int (t.1 12)) X (fun w h => mm (in_Model w h)) 0 rfl rfl 14 (by decide) (mm k_fl_Model_95) rfl rfl d_Model_isSent_1 ?_
  refine J_if_le X 11 d_Model_isSent_4 (by decide) (fun c4 => ?_) (fun c4 => ?_)
  · rw [if_pos c4] at h
    refine J_iconst (v := (0 : Int32)) X d_Model_isSent_11 (by decide) ?_
    refine J_lv [0] [(0, .ref (a 0))] rfl ?_
    exact L12  (0 : Int32) t h
  · rw [if_neg c4] at h
    refine J_iconst (v := (1 : Int32)) X d_Model_isSent_7 (by decide) ?_
    refine J_goto X 12 d_Model_isSent_8 (by decide) ?_
    refine J_lv [0] [(0, .ref (a 0))] rfl ?_
    exact L12  (1 : Int32) t h
set_option maxHeartbeats 4000000 in
set_option maxRecDepth 100000 in
theorem ct_Model_two (l : Launch) (dC : Nat → ClassId) (dI : Nat → Nat → Nat) (cI cB cJ cZ : ClassId) (a : Nat → Nat) (n : Nat)  (t : St) {z : Int32 × St} (h : m_Model_two n t = some z) : jMi l y_Model_two w_Model_two ({ frames := 2, cells := 0, slots := 0, locals := 42 }) (dC, dI) vwCl (tyA cI cB cJ cZ) [.ref (a 0)] (wM cI cB cJ cZ a t) z.1 (fun _ : Unit => wM cI cB cJ cZ a z.2) := by
  refine jMi.of (cc := c_Model_two) (maxL := 2) (ret := (some .int)) (by decide) rfl (Nat.le_of_ble_eq_true rfl) ?_
  intro p e s m args below meth c A X hr hlk hnm
  refine J_lv [0] [(0, .ref (a 0))] rfl ?_
  unfold m_Model_two at h
  refine J_aload_n X d_Model_two_0 0 rfl rfl ?_
  obtain ⟨z1, hz1, h⟩ := j_bind h
  refine J_callVi0 (n := 0) (wc := (wM cI cB cJ cZ a t)) (r := z1.1) (w1 := fun _ : Unit => wM cI cB cJ cZ a z1.2) X isM (hCM cI cB cJ cZ a t) (hDM cI cB cJ cZ a t) rfl [] [] (ct_Model_next l dC dI cI cB cJ cZ a n t hz1) (aw_V (fun w h => mm h) k_ml_Model_128 k_im_Model_next k_se_Model_next k_in_Model k_cd_Model_next) rfl (by decide +kernel) ⟨(Nat.le_of_ble_eq_true rfl), (Nat.le_of_ble_eq_true rfl)⟩ (q0 := 0) rfl rfl rfl rfl (Nat.le_of_ble_eq_true rfl) d_Model_two_1 ⟨(Nat.le_of_ble_eq_true rfl), (Nat.le_of_ble_eq_true rfl)⟩ (fun _ => ?_)
  refine J_istore_n X [(1, .int z1.1), (0, .ref (a 0))] d_Model_two_4 rfl (by decide) rfl ?_
  refine J_sipush (v := (256 : Int32)) X d_Model_two_5 (by decide) ?_
  refine J_iload_n X d_Model_two_8 0 rfl rfl ?_
  refine J_imul X d_Model_two_9 ?_
  refine J_aload_n X d_Model_two_10 1 rfl rfl ?_
  obtain ⟨z11, hz11, h⟩ := j_bind h
  refine J_callVi0 (n := 0) (wc := (wM cI cB cJ cZ a z1.2)) (r := z11.1) (w1 := fun _ : Unit => wM cI cB cJ cZ a z11.2) X isM (hCM cI cB cJ cZ a z1.2) (hDM cI cB cJ cZ a z1.2) rfl [] [.int ((256 : Int32) * z1.1)] (ct_Model_next l dC dI cI cB cJ cZ a n z1.2 hz11) (aw_V (fun w h => mm h) k_ml_Model_128 k_im_Model_next k_se_Model_next k_in_Model k_cd_Model_next) rfl (by decide +kernel) ⟨(Nat.le_of_ble_eq_true rfl), (Nat.le_of_ble_eq_true rfl)⟩ (q0 := 0) rfl rfl rfl rfl (Nat.le_of_ble_eq_true rfl) d_Model_two_11 ⟨(Nat.le_of_ble_eq_true rfl), (Nat.le_of_ble_eq_true rfl)⟩ (fun _ => ?_)
  refine J_iadd X d_Model_two_14 ?_
  exact J_iret X hr hlk () (Nat.le_of_ble_eq_true rfl) (Nat.le_of_ble_eq_true rfl) (j_r1 h) (congrArg (fun q => wM cI cB cJ cZ a q) (j_r2 h)) d_Model_two_15
set_option maxHeartbeats 4000000 in
set_option maxRecDepth 100000 in
theorem ct_Model_open (l : Launch) (dC : Nat → ClassId) (dI : Nat → Nat → Nat) (cI cB cJ cZ : ClassId) (a : Nat → Nat) (n : Nat)  (t : St) {z : St} (h : m_Model_open n t = some z) : jMv l y_Model_open w_Model_open ({ frames := 3, cells := 0, slots := 0, locals := 63 }) (dC, dI) vwCl (tyA cI cB cJ cZ) [.ref (a 0)] (wM cI cB cJ cZ a t) (fun _ : Unit => wM cI cB cJ cZ a z) := by
  refine jMv.of (cc := c_Model_open) (maxL := 3) (ret := none) (by decide) rfl (Nat.le_of_ble_eq_true rfl) ?_
  intro p e s m args below meth c A X hr hlk hnm
  have L35 : ∀ (x1 : Int32) (t : St), m_Model_open_35 n  x1 t = some z → J p l e { frames := 3, cells := 0, slots := 0, locals := 63 } s m args below meth c 3 (dC, dI) vwCl A (MQ below (jQv (dC, dI) vwCl (tyA cI cB cJ cZ) (fun _ : Unit => wM cI cB cJ cZ a z) A) args s 0 0 A) 0 0 35 [(0, .ref (a 0)), (1, .int x1)] [] (wM cI cB cJ cZ a t) := by
    intro x1 t h
    unfold m_Model_open_35 at h
    refine J_aload_n X d_Model_open_35 0 rfl rfl ?_
    refine J_aload_n X d_Model_open_36 0 rfl rfl ?_
    refine J_get (v := .int (t.1 16)) X (fun w h => mm (in_Model w h)) 0 rfl rfl 35 (by decide) (mm k_fl_Model_131) rfl rfl d_Model_open_37 ?_
    refine J_iload_n X d_Model_open_40 1 rfl rfl ?_
    refine J_iadd X d_Model_open_41 ?_
    refine J_put (ty := .int) (v := .int ((t.1 16) + x1)) X (fun w h => mm (in_Model w h)) ty_Model tyk_Model nm_Model 0 rfl rfl 6 (by decide) (mm k_fl_Model_110) rfl rfl (by decide +kernel) rfl rfl (Nat.le_of_ble_eq_true rfl) d_Model_open_42 (wM cI cB cJ cZ a (sG t 5 ((t.1 16) + x1))) rfl ?_
    exact J_vret X hr hlk () (Nat.le_of_ble_eq_true rfl) (Nat.le_of_ble_eq_true rfl) (congrArg (fun q => wM cI cB cJ cZ a q) (j_s h)) d_Model_open_45
  refine J_lv [0] [(0, .ref (a 0))] rfl ?_
  unfold m_Model_open at h
  refine J_aload_n X d_Model_open_0 0 rfl rfl ?_
  refine J_aload_n X d_Model_open_1 0 rfl rfl ?_
  refine J_get (v := .int (t.1 4)) X (fun w h => mm (in_Model w h)) 0 rfl rfl 5 (by decide) (mm k_fl_Model_113) rfl rfl d_Model_open_2 ?_
  refine J_put (ty := .int) (v := .int (t.1 4)) X (fun w h => mm (in_Model w h)) ty_Model tyk_Model nm_Model 0 rfl rfl 35 (by decide) (mm k_fl_Model_131) rfl rfl (by decide +kernel) rfl rfl (Nat.le_of_ble_eq_true rfl) d_Model_open_5 (wM cI cB cJ cZ a (sG t 16 (t.1 4))) rfl ?_
  refine J_aload_n X d_Model_open_8 0 rfl rfl ?_
  obtain ⟨z9, hz9, h⟩ := j_bind h
  refine J_callVi0 (n := 0) (wc := (wM cI cB cJ cZ a (sG t 16 (t.1 4)))) (r := z9.1) (w1 := fun _ : Unit => wM cI cB cJ cZ a z9.2) X isM (hCM cI cB cJ cZ a (sG t 16 (t.1 4))) (hDM cI cB cJ cZ a (sG t 16 (t.1 4))) rfl [] [] (ct_Model_two l dC dI cI cB cJ cZ a n (sG t 16 (t.1 4)) hz9) (aw_V (fun w h => mm h) k_ml_Model_137 k_im_Model_two k_se_Model_two k_in_Model k_cd_Model_two) rfl (by decide +kernel) ⟨(Nat.le_of_ble_eq_true rfl), (Nat.le_of_ble_eq_true rfl)⟩ (q0 := 0) rfl rfl rfl rfl (Nat.le_of_ble_eq_true rfl) d_Model_open_9 ⟨(Nat.le_of_ble_eq_true rfl), (Nat.le_of_ble_eq_true rfl)⟩ (fun _ => ?_)
  refine J_istore_n X [(1, .int z9.1), (0, .ref (a 0))] d_Model_open_12 rfl (by decide) rfl ?_
  refine J_aload_n X d_Model_open_13 1 rfl rfl ?_
  refine J_get (v := .int (z9.2.1 2)) X (fun w h => mm (in_Model w h)) 0 rfl rfl 3 (by decide) (mm k_fl_Model_107) rfl rfl d_Model_open_14 ?_
  refine J_if_ne X 35 d_Model_open_17 (by decide) (fun c17 => ?_) (fun c17 => ?_)
  · rw [if_neg c17] at h
    refine J_lv [1, 0] [(0, .ref (a 0)), (1, .int z9.1)] rfl ?_
    exact L35  z9.1 z9.2 h
  · rw [if_pos c17] at h
    refine J_iload_n X d_Model_open_20 0 rfl rfl ?_
    refine J_iconst (v := (2 : Int32)) X d_Model_open_21 (by decide) ?_
    refine J_icmp_ge X 35 d_Model_open_22 (by decide) (fun c22 => ?_) (fun c22 => ?_)
    · rw [if_pos c22] at h
      refine J_lv [1, 0] [(0, .ref (a 0)), (1, .int z9.1)] rfl ?_
      exact L35  z9.1 z9.2 h
    · rw [if_neg c22] at h
      refine J_aload_n X d_Model_open_25 1 rfl rfl ?_
      refine J_iconst (v := (5 : Int32)) X d_Model_open_26 (by decide) ?_
      refine J_aload_n X d_Model_open_27 1 rfl rfl ?_
      refine J_get (v := .int (z9.2.1 16)) X (fun w h => mm (in_Model w h)) 0 rfl rfl 35 (by decide) (mm k_fl_Model_131) rfl rfl d_Model_open_28 ?_
      obtain ⟨z31, hz31, h⟩ := j_bind h
      refine J_callVi0 (n := 2) (wc := (wM cI cB cJ cZ a z9.2)) (r := z31.1) (w1 := fun _ : Unit => wM cI cB cJ cZ a z31.2) X isM (hCM cI cB cJ cZ a z9.2) (hDM cI cB cJ cZ a z9.2) rfl [.int (5 : Int32), .int (z9.2.1 16)] [] (ct_Model_wrong l dC dI cI cB cJ cZ a n (5 : Int32) (z9.2.1 16) z9.2 hz31) (aw_V (fun w h => mm h) k_ml_Model_120 k_im_Model_wrong k_se_Model_wrong k_in_Model k_cd_Model_wrong) rfl (by decide +kernel) ⟨(Nat.le_of_ble_eq_true rfl), (Nat.le_of_ble_eq_true rfl)⟩ (q0 := 0) rfl rfl rfl rfl (Nat.le_of_ble_eq_true rfl) d_Model_open_31 ⟨(Nat.le_of_ble_eq_true rfl), (Nat.le_of_ble_eq_true rfl)⟩ (fun _ => ?_)
      refine J_istore_n X [(2, .int z31.1), (1, .int z9.1), (0, .ref (a 0))] d_Model_open_34 rfl (by decide) rfl ?_
      refine J_lv [2, 1] [(0, .ref (a 0)), (1, .int z9.1)] rfl ?_
      exact L35  z9.1 z31.2 h
set_option maxHeartbeats 4000000 in
set_option maxRecDepth 100000 in
theorem ct_Model_must (l : Launch) (dC : Nat → ClassId) (dI : Nat → Nat → Nat) (cI cB cJ cZ : ClassId) (a : Nat → Nat) (n : Nat) (x1 : Int32) (t : St) {z : St} (h : m_Model_must n x1 t = some z) : jMv l y_Model_must w_Model_must ({ frames := 1, cells := 0, slots := 0, locals := 22 }) (dC, dI) vwCl (tyA cI cB cJ cZ) [.ref (a 0), .int x1] (wM cI cB cJ cZ a t) (fun _ : Unit => wM cI cB cJ cZ a z) := by
  refine jMv.of (cc := c_Model_must) (maxL := 3) (ret := none) (by decide) rfl (Nat.le_of_ble_eq_true rfl) ?_
  intro p e s m args below meth c A X hr hlk hnm
  refine J_lv [0, 1] [(0, .ref (a 0)), (1, .int x1)] rfl ?_
  unfold m_Model_must at h
  refine J_iload_n X d_Model_must_0 1 rfl rfl ?_
  refine J_if_ne X 17 d_Model_must_1 (by decide) (fun c1 => ?_) (fun c1 => ?_)
  · rw [if_neg c1] at h
    exact J_vret X hr hlk () (Nat.le_of_ble_eq_true rfl) (Nat.le_of_ble_eq_true rfl) (congrArg (fun q => wM cI cB cJ cZ a q) (j_s h)) d_Model_must_17
  · rw [if_pos c1] at h
    refine J_aload_n X d_Model_must_4 0 rfl rfl ?_
    refine J_bipush (v := (6 : Int32)) X d_Model_must_5 (by decide) ?_
    refine J_aload_n X d_Model_must_7 0 rfl rfl ?_
    refine J_get (v := .int (t.1 4)) X (fun w h => mm (in_Model w h)) 0 rfl rfl 5 (by decide) (mm k_fl_Model_113) rfl rfl d_Model_must_8 ?_
    refine J_iconst (v := (1 : Int32)) X d_Model_must_11 (by decide) ?_
    refine J_isub X d_Model_must_12 ?_
    obtain ⟨z13, hz13, h⟩ := j_bind h
    refine J_callVi0 (n := 2) (wc := (wM cI cB cJ cZ a t)) (r := z13.1) (w1 := fun _ : Unit => wM cI cB cJ cZ a z13.2) X isM (hCM cI cB cJ cZ a t) (hDM cI cB cJ cZ a t) rfl [.int (6 : Int32), .int ((t.1 4) - (1 : Int32))] [] (ct_Model_wrong l dC dI cI cB cJ cZ a n (6 : Int32) ((t.1 4) - (1 : Int32)) t hz13) (aw_V (fun w h => mm h) k_ml_Model_120 k_im_Model_wrong k_se_Model_wrong k_in_Model k_cd_Model_wrong) rfl (by decide +kernel) ⟨(Nat.le_of_ble_eq_true rfl), (Nat.le_of_ble_eq_true rfl)⟩ (q0 := 0) rfl rfl rfl rfl (Nat.le_of_ble_eq_true rfl) d_Model_must_13 ⟨(Nat.le_of_ble_eq_true rfl), (Nat.le_of_ble_eq_true rfl)⟩ (fun _ => ?_)
    refine J_istore_n X [(2, .int z13.1), (0, .ref (a 0)), (1, .int x1)] d_Model_must_16 rfl (by decide) rfl ?_
    exact J_vret X hr hlk () (Nat.le_of_ble_eq_true rfl) (Nat.le_of_ble_eq_true rfl) (congrArg (fun q => wM cI cB cJ cZ a q) (j_s h)) d_Model_must_17
