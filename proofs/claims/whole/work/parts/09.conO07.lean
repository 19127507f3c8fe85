set_option maxHeartbeats 4000000 in
set_option maxRecDepth 100000 in
theorem ct_Reader_word (l : Launch) (dC : Nat → ClassId) (dI : Nat → Nat → Nat) (cI cB cJ cZ : ClassId) (a : Nat → Nat) (n : Nat) (x1 : Int32) (x2 : Int32) (x3 : Int32) (t : St) {z : Int32 × St} (h : m_Reader_word n x1 x2 x3 t = some z) : jMi l y_Reader_word w_Reader_word ({ frames := 3, cells := 0, slots := 0, locals := 68 }) (dC, dI) vwCl (tyA cI cB cJ cZ) [.ref (a 0), .int x1, .int x2, .int x3] (wO cI cB cJ cZ a t) z.1 (fun _ : Unit => wO cI cB cJ cZ a z.2) := by
  refine jMi.of (cc := c_Reader_word) (maxL := 4) (ret := (some .int)) (by decide) rfl (Nat.le_of_ble_eq_true rfl) ?_
  intro p e s m args below meth c A X hr hlk hnm
  refine J_lv [0, 1, 2, 3] [(0, .ref (a 0)), (1, .int x1), (2, .int x2), (3, .int x3)] rfl ?_
  unfold m_Reader_word at h
  refine J_aload_n X d_Reader_word_0 0 rfl rfl ?_
  refine J_get (v := .ref (a 3)) X (fun w h => mm (in_Reader w h)) 0 rfl rfl 1 (by decide) (mm k_fl_Reader_21) rfl rfl d_Reader_word_1 ?_
  refine J_iload_n X d_Reader_word_4 1 rfl rfl ?_
  refine J_iload_n X d_Reader_word_5 2 rfl rfl ?_
  refine J_iload_n X d_Reader_word_6 3 rfl rfl ?_
  obtain ⟨z7, hz7, h⟩ := j_bind h
  refine J_callVi0 (n := 3) (wc := (wO cI cB cJ cZ a t)) (r := z7.1) (w1 := fun _ : Unit => wO cI cB cJ cZ a z7.2) X isO (hCO cI cB cJ cZ a t) (hDO cI cB cJ cZ a t) rfl [.int x1, .int x2, .int x3] [] (ct_Picture_ofWords l dC dI cI cB cJ cZ a n x1 x2 x3 t hz7) (aw_V (fun w h => mm h) k_ml_Reader_79 k_im_Picture_ofWords k_se_Picture_ofWords k_in_Picture k_cd_Picture_ofWords) rfl (by decide +kernel) ⟨(Nat.le_of_ble_eq_true rfl), (Nat.le_of_ble_eq_true rfl)⟩ (q0 := 3) rfl rfl rfl rfl (Nat.le_of_ble_eq_true rfl) d_Reader_word_7 ⟨(Nat.le_of_ble_eq_true rfl), (Nat.le_of_ble_eq_true rfl)⟩ (fun _ => ?_)
  exact J_iret X hr hlk () (Nat.le_of_ble_eq_true rfl) (Nat.le_of_ble_eq_true rfl) (j_r1 h) (congrArg (fun q => wO cI cB cJ cZ a q) (j_r2 h)) d_Reader_word_10
set_option maxHeartbeats 4000000 in
set_option maxRecDepth 100000 in
theorem ct_Reader_look (l : Launch) (dC : Nat → ClassId) (dI : Nat → Nat → Nat) (cI cB cJ cZ : ClassId) (a : Nat → Nat) (n : Nat) (x1 : Int32) (t : St) {z : Int32 × St} (h : m_Reader_look n x1 t = some z) : jMi l y_Reader_look w_Reader_look ({ frames := 1, cells := 0, slots := 0, locals := 20 }) (dC, dI) vwCl (tyA cI cB cJ cZ) [.ref (a 0), .int x1] (wO cI cB cJ cZ a t) z.1 (fun _ : Unit => wO cI cB cJ cZ a z.2) := by
  refine jMi.of (cc := c_Reader_look) (maxL := 2) (ret := (some .int)) (by decide) rfl (Nat.le_of_ble_eq_true rfl) ?_
  intro p e s m args below meth c A X hr hlk hnm
  refine J_lv [0, 1] [(0, .ref (a 0)), (1, .int x1)] rfl ?_
  unfold m_Reader_look at h
  refine J_iload_n X d_Reader_look_0 1 rfl rfl ?_
  by_cases c1_0 : x1 = (0 : Int32)
  · rw [if_pos c1_0] at h
    refine J_tableIn X 44 d_Reader_look_1 (by rw [c1_0]; decide) (by rw [c1_0]; decide) (by rw [c1_0] <;> rfl) (by decide) ?_
    refine J_aload_n X d_Reader_look_44 0 rfl rfl ?_
    refine J_get (v := .ref (a 1)) X (fun w h => mm (in_Reader w h)) 0 rfl rfl 0 (by decide) (mm k_fl_Reader_10) rfl rfl d_Reader_look_45 ?_
    refine J_getN (v := .int (t.1 0)) X (fun w h => mm (in_Bytes w h)) 1 rfl rfl 1 (by decide) k_fln_Reader_34 rfl rfl d_Reader_look_48 ?_
    exact J_iret X hr hlk () (Nat.le_of_ble_eq_true rfl) (Nat.le_of_ble_eq_true rfl) (j_r1 h) (congrArg (fun q => wO cI cB cJ cZ a q) (j_r2 h)) d_Reader_look_51
  rw [if_neg c1_0] at h
  by_cases c1_1 : x1 = (1 : Int32)
  · rw [if_pos c1_1] at h
    refine J_tableIn X 52 d_Reader_look_1 (by rw [c1_1]; decide) (by rw [c1_1]; decide) (by rw [c1_1] <;> rfl) (by decide) ?_
    refine J_aload_n X d_Reader_look_52 0 rfl rfl ?_
    refine J_get (v := .ref (a 11)) X (fun w h => mm (in_Reader w h)) 0 rfl rfl 2 (by decide) (mm k_fl_Reader_30) rfl rfl d_Reader_look_53 ?_
    refine J_getN (v := .int (t.1 13)) X (fun w h => mm (in_Parser w h)) 11 rfl rfl 9 (by decide) k_fln_Reader_83 rfl rfl d_Reader_look_56 ?_
    exact J_iret X hr hlk () (Nat.le_of_ble_eq_true rfl) (Nat.le_of_ble_eq_true rfl) (j_r1 h) (congrArg (fun q => wO cI cB cJ cZ a q) (j_r2 h)) d_Reader_look_59
  rw [if_neg c1_1] at h
  by_cases c1_2 : x1 = (2 : Int32)
  · rw [if_pos c1_2] at h
    refine J_tableIn X 60 d_Reader_look_1 (by rw [c1_2]; decide) (by rw [c1_2]; decide) (by rw [c1_2] <;> rfl) (by decide) ?_
    refine J_aload_n X d_Reader_look_60 0 rfl rfl ?_
    refine J_get (v := .ref (a 11)) X (fun w h => mm (in_Reader w h)) 0 rfl rfl 2 (by decide) (mm k_fl_Reader_30) rfl rfl d_Reader_look_61 ?_
    refine J_getN (v := .int (t.1 14)) X (fun w h => mm (in_Parser w h)) 11 rfl rfl 10 (by decide) k_fln_Reader_86 rfl rfl d_Reader_look_64 ?_
    exact J_iret X hr hlk () (Nat.le_of_ble_eq_true rfl) (Nat.le_of_ble_eq_true rfl) (j_r1 h) (congrArg (fun q => wO cI cB cJ cZ a q) (j_r2 h)) d_Reader_look_67
  rw [if_neg c1_2] at h
  by_cases c1_3 : x1 = (3 : Int32)
  · rw [if_pos c1_3] at h
    refine J_tableIn X 68 d_Reader_look_1 (by rw [c1_3]; decide) (by rw [c1_3]; decide) (by rw [c1_3] <;> rfl) (by decide) ?_
    refine J_aload_n X d_Reader_look_68 0 rfl rfl ?_
    refine J_get (v := .ref (a 3)) X (fun w h => mm (in_Reader w h)) 0 rfl rfl 1 (by decide) (mm k_fl_Reader_21) rfl rfl d_Reader_look_69 ?_
    obtain ⟨z72, hz72, h⟩ := j_bind h
    refine J_callVi0 (n := 0) (wc := (wO cI cB cJ cZ a t)) (r := z72.1) (w1 := fun _ : Unit => wO cI cB cJ cZ a z72.2) X isO (hCO cI cB cJ cZ a t) (hDO cI cB cJ cZ a t) rfl [] [] (ct_Picture_segmentCount l dC dI cI cB cJ cZ a n t hz72) (aw_V (fun w h => mm h) k_ml_Reader_89 k_im_Picture_segmentCount k_se_Picture_segmentCount k_in_Picture k_cd_Picture_segmentCount) rfl (by decide +kernel) ⟨(Nat.le_of_ble_eq_true rfl), (Nat.le_of_ble_eq_true rfl)⟩ (q0 := 3) rfl rfl rfl rfl (Nat.le_of_ble_eq_true rfl) d_Reader_look_72 ⟨(Nat.le_of_ble_eq_true rfl), (Nat.le_of_ble_eq_true rfl)⟩ (fun _ => ?_)
    exact J_iret X hr hlk () (Nat.le_of_ble_eq_true rfl) (Nat.le_of_ble_eq_true rfl) (j_r1 h) (congrArg (fun q => wO cI cB cJ cZ a q) (j_r2 h)) d_Reader_look_75
  rw [if_neg c1_3] at h
  by_cases c1_4 : x1 = (4 : Int32)
  · rw [if_pos c1_4] at h
    refine J_tableIn X 76 d_Reader_look_1 (by rw [c1_4]; decide) (by rw [c1_4]; decide) (by rw [c1_4] <;> rfl) (by decide) ?_
    refine J_aload_n X d_Reader_look_76 0 rfl rfl ?_
    refine J_get (v := .ref (a 3)) X (fun w h => mm (in_Reader w h)) 0 rfl rfl 1 (by decide) (mm k_fl_Reader_21) rfl rfl d_Reader_look_77 ?_
    obtain ⟨z80, hz80, h⟩ := j_bind h
    refine J_callVi0 (n := 0) (wc := (wO cI cB cJ cZ a t)) (r := z80.1) (w1 := fun _ : Unit => wO cI cB cJ cZ a z80.2) X isO (hCO cI cB cJ cZ a t) (hDO cI cB cJ cZ a t) rfl [] [] (ct_Picture_scanCount l dC dI cI cB cJ cZ a n t hz80) (aw_V (fun w h => mm h) k_ml_Reader_92 k_im_Picture_scanCount k_se_Picture_scanCount k_in_Picture k_cd_Picture_scanCount) rfl (by decide +kernel) ⟨(Nat.le_of_ble_eq_true rfl), (Nat.le_of_ble_eq_true rfl)⟩ (q0 := 3) rfl rfl rfl rfl (Nat.le_of_ble_eq_true rfl) d_Reader_look_80 ⟨(Nat.le_of_ble_eq_true rfl), (Nat.le_of_ble_eq_true rfl)⟩ (fun _ => ?_)
    exact J_iret X hr hlk () (Nat.le_of_ble_eq_true rfl) (Nat.le_of_ble_eq_true rfl) (j_r1 h) (congrArg (fun q => wO cI cB cJ cZ a q) (j_r2 h)) d_Reader_look_83
  rw [if_neg c1_4] at h
  by_cases c1_5 : x1 = (5 : Int32)
  · rw [if_pos c1_5] at h
    refine J_tableIn X 84 d_Reader_look_1 (by rw [c1_5]; decide) (by rw [c1_5]; decide) (by rw [c1_5] <;> rfl) (by decide) ?_
    refine J_aload_n X d_Reader_look_84 0 rfl rfl ?_
    refine J_get (v := .ref (a 3)) X (fun w h => mm (in_Reader w h)) 0 rfl rfl 1 (by decide) (mm k_fl_Reader_21) rfl rfl d_Reader_look_85 ?_
    refine J_getN (v := .int (t.1 5)) X (fun w h => mm (in_Picture w h)) 3 rfl rfl 10 (by decide) k_fln_Reader_95 rfl rfl d_Reader_look_88 ?_
    exact J_iret X hr hlk () (Nat.le_of_ble_eq_true rfl) (Nat.le_of_ble_eq_true rfl) (j_r1 h) (congrArg (fun q => wO cI cB cJ cZ a q) (j_r2 h)) d_Reader_look_91
  rw [if_neg c1_5] at h
  by_cases c1_6 : x1 = (6 : Int32)
  · rw [if_pos c1_6] at h
    refine J_tableIn X 92 d_Reader_look_1 (by rw [c1_6]; decide) (by rw [c1_6]; decide) (by rw [c1_6] <;> rfl) (by decide) ?_
    refine J_aload_n X d_Reader_look_92 0 rfl rfl ?_
    refine J_get (v := .ref (a 3)) X (fun w h => mm (in_Reader w h)) 0 rfl rfl 1 (by decide) (mm k_fl_Reader_21) rfl rfl d_Reader_look_93 ?_
    refine J_getN (v := .int (t.1 6)) X (fun w h => mm (in_Picture w h)) 3 rfl rfl 11 (by decide) k_fln_Reader_98 rfl rfl d_Reader_look_96 ?_
    exact J_iret X hr hlk () (Nat.le_of_ble_eq_true rfl) (Nat.le_of_ble_eq_true rfl) (j_r1 h) (congrArg (fun q => wO cI cB cJ cZ a q) (j_r2 h)) d_Reader_look_99
  rw [if_neg c1_6] at h
  refine J_tableOut X 100 d_Reader_look_1 (by have g0 := lv_neT (a := 0) c1_0 rfl; have g1 := lv_neT (a := 1) c1_1 rfl; have g2 := lv_neT (a := 2) c1_2 rfl; have g3 := lv_neT (a := 3) c1_3 rfl; have g4 := lv_neT (a := 4) c1_4 rfl; have g5 := lv_neT (a := 5) c1_5 rfl; have g6 := lv_neT (a := 6) c1_6 rfl; omega) (by decide) ?_
  refine J_iconst (v := (-1 : Int32)) X d_Reader_look_100 (by decide) ?_
  exact J_iret X hr hlk () (Nat.le_of_ble_eq_true rfl) (Nat.le_of_ble_eq_true rfl) (j_r1 h) (congrArg (fun q => wO cI cB cJ cZ a q) (j_r2 h)) d_Reader_look_101
