set_option maxHeartbeats 4000000 in
set_option maxRecDepth 100000 in
theorem ct_Model_look (l : Launch) (dC : Nat → ClassId) (dI : Nat → Nat → Nat) (cI cB cJ cZ : ClassId) (a : Nat → Nat) (n : Nat) (x1 : Int32) (t : St) {z : Int32 × St} (h : m_Model_look n x1 t = some z) : jMi l y_Model_look w_Model_look ({ frames := 0, cells := 0, slots := 0, locals := 0 }) (dC, dI) vwCl (tyA cI cB cJ cZ) [.ref (a 0), .int x1] (wM cI cB cJ cZ a t) z.1 (fun _ : Unit => wM cI cB cJ cZ a z.2) := by
  refine jMi.of (cc := c_Model_look) (maxL := 2) (ret := (some .int)) (by decide) rfl (Nat.le_of_ble_eq_true rfl) ?_
  intro p e s m args below meth c A X hr hlk hnm
  refine J_lv [0, 1] [(0, .ref (a 0)), (1, .int x1)] rfl ?_
  unfold m_Model_look at h
  refine J_aload_n X d_Model_look_0 0 rfl rfl ?_
  refine J_iconst (v := (0 : Int32)) X d_Model_look_1 (by decide) ?_
  refine J_put (ty := .int) (v := .int (0 : Int32)) X (fun w h => mm (in_Model w h)) ty_Model tyk_Model nm_Model 0 rfl rfl 0 (by decide) (mm k_fl_Model_77) rfl rfl (by decide +kernel) rfl rfl (Nat.le_of_ble_eq_true rfl) d_Model_look_2 (wM cI cB cJ cZ a (sG t 0 (0 : Int32))) rfl ?_
  refine J_iload_n X d_Model_look_5 1 rfl rfl ?_
  by_cases c6_0 : x1 = (0 : Int32)
  · rw [if_pos c6_0] at h
    refine J_tableIn X 48 d_Model_look_6 (by rw [c6_0]; decide) (by rw [c6_0]; decide) (by rw [c6_0]; rfl) (by decide) ?_
    refine J_aload_n X d_Model_look_48 0 rfl rfl ?_
    refine J_get (v := .int (t.1 1)) X (fun w h => mm (in_Model w h)) 0 rfl rfl 2 (by decide) (mm k_fl_Model_104) rfl rfl d_Model_look_49 ?_
    exact J_iret X hr hlk () (Nat.le_of_ble_eq_true rfl) (Nat.le_of_ble_eq_true rfl) (congrArg Prod.fst (j_s h)) (congrArg (fun q => wM cI cB cJ cZ a q.2) (j_s h)) d_Model_look_52
  rw [if_neg c6_0] at h
  by_cases c6_1 : x1 = (1 : Int32)
  · rw [if_pos c6_1] at h
    refine J_tableIn X 53 d_Model_look_6 (by rw [c6_1]; decide) (by rw [c6_1]; decide) (by rw [c6_1]; rfl) (by decide) ?_
    refine J_aload_n X d_Model_look_53 0 rfl rfl ?_
    refine J_get (v := .int (t.1 2)) X (fun w h => mm (in_Model w h)) 0 rfl rfl 3 (by decide) (mm k_fl_Model_107) rfl rfl d_Model_look_54 ?_
    exact J_iret X hr hlk () (Nat.le_of_ble_eq_true rfl) (Nat.le_of_ble_eq_true rfl) (congrArg Prod.fst (j_s h)) (congrArg (fun q => wM cI cB cJ cZ a q.2) (j_s h)) d_Model_look_57
  rw [if_neg c6_1] at h
  by_cases c6_2 : x1 = (2 : Int32)
  · rw [if_pos c6_2] at h
    refine J_tableIn X 58 d_Model_look_6 (by rw [c6_2]; decide) (by rw [c6_2]; decide) (by rw [c6_2]; rfl) (by decide) ?_
    refine J_aload_n X d_Model_look_58 0 rfl rfl ?_
    refine J_get (v := .int (t.1 3)) X (fun w h => mm (in_Model w h)) 0 rfl rfl 4 (by decide) (mm k_fl_Model_13) rfl rfl d_Model_look_59 ?_
    exact J_iret X hr hlk () (Nat.le_of_ble_eq_true rfl) (Nat.le_of_ble_eq_true rfl) (congrArg Prod.fst (j_s h)) (congrArg (fun q => wM cI cB cJ cZ a q.2) (j_s h)) d_Model_look_62
  rw [if_neg c6_2] at h
  by_cases c6_3 : x1 = (3 : Int32)
  · rw [if_pos c6_3] at h
    refine J_tableIn X 63 d_Model_look_6 (by rw [c6_3]; decide) (by rw [c6_3]; decide) (by rw [c6_3]; rfl) (by decide) ?_
    refine J_aload_n X d_Model_look_63 0 rfl rfl ?_
    refine J_get (v := .int (t.1 8)) X (fun w h => mm (in_Model w h)) 0 rfl rfl 9 (by decide) (mm k_fl_Model_83) rfl rfl d_Model_look_64 ?_
    exact J_iret X hr hlk () (Nat.le_of_ble_eq_true rfl) (Nat.le_of_ble_eq_true rfl) (congrArg Prod.fst (j_s h)) (congrArg (fun q => wM cI cB cJ cZ a q.2) (j_s h)) d_Model_look_67
  rw [if_neg c6_3] at h
  by_cases c6_4 : x1 = (4 : Int32)
  · rw [if_pos c6_4] at h
    refine J_tableIn X 68 d_Model_look_6 (by rw [c6_4]; decide) (by rw [c6_4]; decide) (by rw [c6_4]; rfl) (by decide) ?_
    refine J_aload_n X d_Model_look_68 0 rfl rfl ?_
    refine J_get (v := .int (t.1 14)) X (fun w h => mm (in_Model w h)) 0 rfl rfl 26 (by decide) (mm k_fl_Model_101) rfl rfl d_Model_look_69 ?_
    exact J_iret X hr hlk () (Nat.le_of_ble_eq_true rfl) (Nat.le_of_ble_eq_true rfl) (congrArg Prod.fst (j_s h)) (congrArg (fun q => wM cI cB cJ cZ a q.2) (j_s h)) d_Model_look_72
  rw [if_neg c6_4] at h
  by_cases c6_5 : x1 = (5 : Int32)
  · rw [if_pos c6_5] at h
    refine J_tableIn X 73 d_Model_look_6 (by rw [c6_5]; decide) (by rw [c6_5]; decide) (by rw [c6_5]; rfl) (by decide) ?_
    refine J_aload_n X d_Model_look_73 0 rfl rfl ?_
    refine J_get (v := .int (t.1 13)) X (fun w h => mm (in_Model w h)) 0 rfl rfl 19 (by decide) (mm k_fl_Model_98) rfl rfl d_Model_look_74 ?_
    exact J_iret X hr hlk () (Nat.le_of_ble_eq_true rfl) (Nat.le_of_ble_eq_true rfl) (congrArg Prod.fst (j_s h)) (congrArg (fun q => wM cI cB cJ cZ a q.2) (j_s h)) d_Model_look_77
  rw [if_neg c6_5] at h
  by_cases c6_6 : x1 = (6 : Int32)
  · rw [if_pos c6_6] at h
    refine J_tableIn X 78 d_Model_look_6 (by rw [c6_6]; decide) (by rw [c6_6]; decide) (by rw [c6_6]; rfl) (by decide) ?_
    refine J_aload_n X d_Model_look_78 0 rfl rfl ?_
    refine J_get (v := .int (t.1 7)) X (fun w h => mm (in_Model w h)) 0 rfl rfl 8 (by decide) (mm k_fl_Model_80) rfl rfl d_Model_look_79 ?_
    exact J_iret X hr hlk () (Nat.le_of_ble_eq_true rfl) (Nat.le_of_ble_eq_true rfl) (congrArg Prod.fst (j_s h)) (congrArg (fun q => wM cI cB cJ cZ a q.2) (j_s h)) d_Model_look_82
  rw [if_neg c6_6] at h
  refine J_tableOut X 83 d_Model_look_6 (by have g0 := lv_neT (a := 0) c6_0 rfl; have g1 := lv_neT (a := 1) c6_1 rfl; have g2 := lv_neT (a := 2) c6_2 rfl; have g3 := lv_neT (a := 3) c6_3 rfl; have g4 := lv_neT (a := 4) c6_4 rfl; have g5 := lv_neT (a := 5) c6_5 rfl; have g6 := lv_neT (a := 6) c6_6 rfl; omega) (by decide) ?_
  refine J_iconst (v := (-1 : Int32)) X d_Model_look_83 (by decide) ?_
  exact J_iret X hr hlk () (Nat.le_of_ble_eq_true rfl) (Nat.le_of_ble_eq_true rfl) (congrArg Prod.fst (j_s h)) (congrArg (fun q => wM cI cB cJ cZ a q.2) (j_s h)) d_Model_look_84
