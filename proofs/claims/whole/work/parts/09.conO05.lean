set_option maxHeartbeats 4000000 in
set_option maxRecDepth 100000 in
theorem ct_Parser_readContents (l : Launch) (dC : Nat → ClassId) (dI : Nat → Nat → Nat) (cI cB cJ cZ : ClassId) (a : Nat → Nat) (n : Nat) (x1 : Int32) (t : St) {z : St} (h : m_Parser_readContents n x1 t = some z) : jMv l y_Parser_readContents w_Parser_readContents ({ frames := 4, cells := 0, slots := 0, locals := 97 }) (dC, dI) vwCl (tyA cI cB cJ cZ) [.ref (a 11), .int x1] (wO cI cB cJ cZ a t) (fun _ : Unit => wO cI cB cJ cZ a z) := by
  refine jMv.of (cc := c_Parser_readContents) (maxL := 2) (ret := none) (by decide) rfl (Nat.le_of_ble_eq_true rfl) ?_
  intro p e s m args below meth c A X hr hlk hnm
  have L140 : ∀  (t : St), m_Parser_readContents_140 n   t = some z → J p l e { frames := 4, cells := 0, slots := 0, locals := 97 } s m args below meth c 2 (dC, dI) vwCl A (MQ below (jQv (dC, dI) vwCl (tyA cI cB cJ cZ) (fun _ : Unit => wO cI cB cJ cZ a z) A) args s 0 0 A) 0 0 140 [(0, .ref (a 11))] [] (wO cI cB cJ cZ a t) := by
    intro  t h
    unfold m_Parser_readContents_140 at h
    refine J_aload_n X d_Parser_readContents_140 0 rfl rfl ?_
    refine J_get (v := .int (t.1 9)) X (fun w h => mm (in_Parser w h)) 11 rfl rfl 5 (by decide) (mm k_fl_Parser_26) rfl rfl d_Parser_readContents_141 ?_
    refine J_aload_n X d_Parser_readContents_144 0 rfl rfl ?_
    refine J_get (v := .int (t.1 11)) X (fun w h => mm (in_Parser w h)) 11 rfl rfl 7 (by decide) (mm k_fl_Parser_33) rfl rfl d_Parser_readContents_145 ?_
    refine J_icmp_eq X 161 d_Parser_readContents_148 (by decide) (fun c148 => ?_) (fun c148 => ?_)
    · rw [if_pos c148] at h
      exact J_vret X hr hlk () (Nat.le_of_ble_eq_true rfl) (Nat.le_of_ble_eq_true rfl) (congrArg (fun q => wO cI cB cJ cZ a q) (j_s h)) d_Parser_readContents_161
    · rw [if_neg c148] at h
      refine J_aload_n X d_Parser_readContents_151 0 rfl rfl ?_
      refine J_iconst (v := (5 : Int32)) X d_Parser_readContents_152 (by decide) ?_
      refine J_aload_n X d_Parser_readContents_153 0 rfl rfl ?_
      refine J_get (v := .int (t.1 10)) X (fun w h => mm (in_Parser w h)) 11 rfl rfl 6 (by decide) (mm k_fl_Parser_30) rfl rfl d_Parser_readContents_154 ?_
      obtain ⟨z157, hz157, h⟩ := j_bind h
      refine J_callVi0 (n := 2) (wc := (wO cI cB cJ cZ a t)) (r := z157.1) (w1 := fun _ : Unit => wO cI cB cJ cZ a z157.2) X isO (hCO cI cB cJ cZ a t) (hDO cI cB cJ cZ a t) rfl [.int (5 : Int32), .int (t.1 10)] [] (ct_Parser_fail l dC dI cI cB cJ cZ a n (5 : Int32) (t.1 10) t hz157) (aw_V (fun w h => mm h) k_ml_Parser_77 k_im_Parser_fail k_se_Parser_fail k_in_Parser k_cd_Parser_fail) rfl (by decide +kernel) ⟨(Nat.le_of_ble_eq_true rfl), (Nat.le_of_ble_eq_true rfl)⟩ (q0 := 11) rfl rfl rfl rfl (Nat.le_of_ble_eq_true rfl) d_Parser_readContents_157 ⟨(Nat.le_of_ble_eq_true rfl), (Nat.le_of_ble_eq_true rfl)⟩ (fun _ => ?_)
      refine J_pop X d_Parser_readContents_160 rfl ?_
      exact J_vret X hr hlk () (Nat.le_of_ble_eq_true rfl) (Nat.le_of_ble_eq_true rfl) (congrArg (fun q => wO cI cB cJ cZ a q) (j_s h)) d_Parser_readContents_161
  refine J_lv [0, 1] [(0, .ref (a 11)), (1, .int x1)] rfl ?_
  unfold m_Parser_readContents at h
  refine J_iload_n X d_Parser_readContents_0 1 rfl rfl ?_
  by_cases c1_192 : x1 = (192 : Int32)
  · rw [if_pos c1_192] at h
    refine J_lookup X 99 d_Parser_readContents_1 (by decide) (by rw [c1_192] <;> rfl) (by decide) ?_
    refine J_aload_n X d_Parser_readContents_99 0 rfl rfl ?_
    refine J_iload_n X d_Parser_readContents_100 1 rfl rfl ?_
    obtain ⟨z101, hz101, h⟩ := j_bind h
    refine J_callVv0 (n := 1) (wc := (wO cI cB cJ cZ a t)) (w1 := fun _ : Unit => wO cI cB cJ cZ a z101) X isO (hCO cI cB cJ cZ a t) (hDO cI cB cJ cZ a t) rfl [.int x1] [] (ct_Parser_readFrame l dC dI cI cB cJ cZ a n x1 t hz101) (aw_V (fun w h => mm h) k_ml_Parser_135 k_im_Parser_readFrame k_se_Parser_readFrame k_in_Parser k_cd_Parser_readFrame) rfl (by decide +kernel) ⟨(Nat.le_of_ble_eq_true rfl), (Nat.le_of_ble_eq_true rfl)⟩ (q0 := 11) rfl rfl rfl rfl (Nat.le_of_ble_eq_true rfl) d_Parser_readContents_101 ⟨(Nat.le_of_ble_eq_true rfl), (Nat.le_of_ble_eq_true rfl)⟩ (fun _ => ?_)
    refine J_goto X 140 d_Parser_readContents_104 (by decide) ?_
    refine J_lv [0] [(0, .ref (a 11))] rfl ?_
    exact L140  z101 h
  rw [if_neg c1_192] at h
  by_cases c1_194 : x1 = (194 : Int32)
  · rw [if_pos c1_194] at h
    refine J_lookup X 99 d_Parser_readContents_1 (by decide) (by rw [c1_194] <;> rfl) (by decide) ?_
    refine J_aload_n X d_Parser_readContents_99 0 rfl rfl ?_
    refine J_iload_n X d_Parser_readContents_100 1 rfl rfl ?_
    obtain ⟨z101, hz101, h⟩ := j_bind h
    refine J_callVv0 (n := 1) (wc := (wO cI cB cJ cZ a t)) (w1 := fun _ : Unit => wO cI cB cJ cZ a z101) X isO (hCO cI cB cJ cZ a t) (hDO cI cB cJ cZ a t) rfl [.int x1] [] (ct_Parser_readFrame l dC dI cI cB cJ cZ a n x1 t hz101) (aw_V (fun w h => mm h) k_ml_Parser_135 k_im_Parser_readFrame k_se_Parser_readFrame k_in_Parser k_cd_Parser_readFrame) rfl (by decide +kernel) ⟨(Nat.le_of_ble_eq_true rfl), (Nat.le_of_ble_eq_true rfl)⟩ (q0 := 11) rfl rfl rfl rfl (Nat.le_of_ble_eq_true rfl) d_Parser_readContents_101 ⟨(Nat.le_of_ble_eq_true rfl), (Nat.le_of_ble_eq_true rfl)⟩ (fun _ => ?_)
    refine J_goto X 140 d_Parser_readContents_104 (by decide) ?_
    refine J_lv [0] [(0, .ref (a 11))] rfl ?_
    exact L140  z101 h
  rw [if_neg c1_194] at h
  by_cases c1_196 : x1 = (196 : Int32)
  · rw [if_pos c1_196] at h
    refine J_lookup X 75 d_Parser_readContents_1 (by decide) (by rw [c1_196] <;> rfl) (by decide) ?_
    refine J_aload_n X d_Parser_readContents_75 0 rfl rfl ?_
    obtain ⟨z76, hz76, h⟩ := j_bind h
    refine J_callVv0 (n := 0) (wc := (wO cI cB cJ cZ a t)) (w1 := fun _ : Unit => wO cI cB cJ cZ a z76) X isO (hCO cI cB cJ cZ a t) (hDO cI cB cJ cZ a t) rfl [] [] (ct_Parser_readWords l dC dI cI cB cJ cZ a n t hz76) (aw_V (fun w h => mm h) k_ml_Parser_129 k_im_Parser_readWords k_se_Parser_readWords k_in_Parser k_cd_Parser_readWords) rfl (by decide +kernel) ⟨(Nat.le_of_ble_eq_true rfl), (Nat.le_of_ble_eq_true rfl)⟩ (q0 := 11) rfl rfl rfl rfl (Nat.le_of_ble_eq_true rfl) d_Parser_readContents_76 ⟨(Nat.le_of_ble_eq_true rfl), (Nat.le_of_ble_eq_true rfl)⟩ (fun _ => ?_)
    refine J_goto X 140 d_Parser_readContents_79 (by decide) ?_
    refine J_lv [0] [(0, .ref (a 11))] rfl ?_
    exact L140  z76 h
  rw [if_neg c1_196] at h
  by_cases c1_218 : x1 = (218 : Int32)
  · rw [if_pos c1_218] at h
    refine J_lookup X 107 d_Parser_readContents_1 (by decide) (by rw [c1_218] <;> rfl) (by decide) ?_
    refine J_aload_n X d_Parser_readContents_107 0 rfl rfl ?_
    obtain ⟨z108, hz108, h⟩ := j_bind h
    refine J_callVv0 (n := 0) (wc := (wO cI cB cJ cZ a t)) (w1 := fun _ : Unit => wO cI cB cJ cZ a z108) X isO (hCO cI cB cJ cZ a t) (hDO cI cB cJ cZ a t) rfl [] [] (ct_Parser_readScan l dC dI cI cB cJ cZ a n t hz108) (aw_V (fun w h => mm h) k_ml_Parser_138 k_im_Parser_readScan k_se_Parser_readScan k_in_Parser k_cd_Parser_readScan) rfl (by decide +kernel) ⟨(Nat.le_of_ble_eq_true rfl), (Nat.le_of_ble_eq_true rfl)⟩ (q0 := 11) rfl rfl rfl rfl (Nat.le_of_ble_eq_true rfl) d_Parser_readContents_108 ⟨(Nat.le_of_ble_eq_true rfl), (Nat.le_of_ble_eq_true rfl)⟩ (fun _ => ?_)
    refine J_goto X 140 d_Parser_readContents_111 (by decide) ?_
    refine J_lv [0] [(0, .ref (a 11))] rfl ?_
    exact L140  z108 h
  rw [if_neg c1_218] at h
  by_cases c1_219 : x1 = (219 : Int32)
  · rw [if_pos c1_219] at h
    refine J_lookup X 68 d_Parser_readContents_1 (by decide) (by rw [c1_219] <;> rfl) (by decide) ?_
    refine J_aload_n X d_Parser_readContents_68 0 rfl rfl ?_
    obtain ⟨z69, hz69, h⟩ := j_bind h
    refine J_callVv0 (n := 0) (wc := (wO cI cB cJ cZ a t)) (w1 := fun _ : Unit => wO cI cB cJ cZ a z69) X isO (hCO cI cB cJ cZ a t) (hDO cI cB cJ cZ a t) rfl [] [] (ct_Parser_readQuantisers l dC dI cI cB cJ cZ a n t hz69) (aw_V (fun w h => mm h) k_ml_Parser_126 k_im_Parser_readQuantisers k_se_Parser_readQuantisers k_in_Parser k_cd_Parser_readQuantisers) rfl (by decide +kernel) ⟨(Nat.le_of_ble_eq_true rfl), (Nat.le_of_ble_eq_true rfl)⟩ (q0 := 11) rfl rfl rfl rfl (Nat.le_of_ble_eq_true rfl) d_Parser_readContents_69 ⟨(Nat.le_of_ble_eq_true rfl), (Nat.le_of_ble_eq_true rfl)⟩ (fun _ => ?_)
    refine J_goto X 140 d_Parser_readContents_72 (by decide) ?_
    refine J_lv [0] [(0, .ref (a 11))] rfl ?_
    exact L140  z69 h
  rw [if_neg c1_219] at h
  by_cases c1_220 : x1 = (220 : Int32)
  · rw [if_pos c1_220] at h
    refine J_lookup X 114 d_Parser_readContents_1 (by decide) (by rw [c1_220] <;> rfl) (by decide) ?_
    refine J_aload_n X d_Parser_readContents_114 0 rfl rfl ?_
    refine J_get (v := .ref (a 3)) X (fun w h => mm (in_Parser w h)) 11 rfl rfl 1 (by decide) (mm k_fl_Parser_50) rfl rfl d_Parser_readContents_115 ?_
    refine J_aload_n X d_Parser_readContents_118 0 rfl rfl ?_
    refine J_iconst (v := (1 : Int32)) X d_Parser_readContents_119 (by decide) ?_
    refine J_bipush (v := (64 : Int32)) X d_Parser_readContents_120 (by decide) ?_
    obtain ⟨z122, hz122, h⟩ := j_bind h
    refine J_callVi0 (n := 2) (wc := (wO cI cB cJ cZ a t)) (r := z122.1) (w1 := fun _ : Unit => wO cI cB cJ cZ a z122.2) X isO (hCO cI cB cJ cZ a t) (hDO cI cB cJ cZ a t) rfl [.int (1 : Int32), .int (64 : Int32)] [.ref (a 3)] (ct_Parser_takePair l dC dI cI cB cJ cZ a n (1 : Int32) (64 : Int32) t hz122) (aw_V (fun w h => mm h) k_ml_Parser_123 k_im_Parser_takePair k_se_Parser_takePair k_in_Parser k_cd_Parser_takePair) rfl (by decide +kernel) ⟨(Nat.le_of_ble_eq_true rfl), (Nat.le_of_ble_eq_true rfl)⟩ (q0 := 11) rfl rfl rfl rfl (Nat.le_of_ble_eq_true rfl) d_Parser_readContents_122 ⟨(Nat.le_of_ble_eq_true rfl), (Nat.le_of_ble_eq_true rfl)⟩ (fun _ => ?_)
    refine J_putN (ty := .int) (v := .int z122.1) X (fun w h => mm (in_Picture w h)) ty_Picture tyk_Picture nm_Picture 3 rfl rfl 8 (by decide) k_fln_Parser_141 rfl rfl (by decide +kernel) rfl rfl (Nat.le_of_ble_eq_true rfl) d_Parser_readContents_125 (wO cI cB cJ cZ a (sG z122.2 3 z122.1)) rfl ?_
    refine J_aload_n X d_Parser_readContents_128 0 rfl rfl ?_
    refine J_iconst (v := (0 : Int32)) X d_Parser_readContents_129 (by decide) ?_
    refine J_put (ty := .boolean) (v := .int (0 : Int32)) X (fun w h => mm (in_Parser w h)) ty_Parser tyk_Parser nm_Parser 11 rfl rfl 8 (by decide) (mm k_fl_Parser_36) rfl rfl (by decide +kernel) rfl rfl (Nat.le_of_ble_eq_true rfl) d_Parser_readContents_130 (wO cI cB cJ cZ a (sG (sG z122.2 3 z122.1) 12 (0 : Int32))) rfl ?_
    refine J_goto X 140 d_Parser_readContents_133 (by decide) ?_
    refine J_lv [0] [(0, .ref (a 11))] rfl ?_
    exact L140  (sG (sG z122.2 3 z122.1) 12 (0 : Int32)) h
  rw [if_neg c1_220] at h
  by_cases c1_221 : x1 = (221 : Int32)
  · rw [if_pos c1_221] at h
    refine J_lookup X 82 d_Parser_readContents_1 (by decide) (by rw [c1_221] <;> rfl) (by decide) ?_
    refine J_aload_n X d_Parser_readContents_82 0 rfl rfl ?_
    refine J_get (v := .ref (a 3)) X (fun w h => mm (in_Parser w h)) 11 rfl rfl 1 (by decide) (mm k_fl_Parser_50) rfl rfl d_Parser_readContents_83 ?_
    refine J_aload_n X d_Parser_readContents_86 0 rfl rfl ?_
    refine J_iconst (v := (0 : Int32)) X d_Parser_readContents_87 (by decide) ?_
    refine J_ldc (v := (65535 : Int32)) X (by decide +kernel) d_Parser_readContents_88 ?_
    obtain ⟨z90, hz90, h⟩ := j_bind h
    refine J_callVi0 (n := 2) (wc := (wO cI cB cJ cZ a t)) (r := z90.1) (w1 := fun _ : Unit => wO cI cB cJ cZ a z90.2) X isO (hCO cI cB cJ cZ a t) (hDO cI cB cJ cZ a t) rfl [.int (0 : Int32), .int (65535 : Int32)] [.ref (a 3)] (ct_Parser_takePair l dC dI cI cB cJ cZ a n (0 : Int32) (65535 : Int32) t hz90) (aw_V (fun w h => mm h) k_ml_Parser_123 k_im_Parser_takePair k_se_Parser_takePair k_in_Parser k_cd_Parser_takePair) rfl (by decide +kernel) ⟨(Nat.le_of_ble_eq_true rfl), (Nat.le_of_ble_eq_true rfl)⟩ (q0 := 11) rfl rfl rfl rfl (Nat.le_of_ble_eq_true rfl) d_Parser_readContents_90 ⟨(Nat.le_of_ble_eq_true rfl), (Nat.le_of_ble_eq_true rfl)⟩ (fun _ => ?_)
    refine J_putN (ty := .int) (v := .int z90.1) X (fun w h => mm (in_Picture w h)) ty_Picture tyk_Picture nm_Picture 3 rfl rfl 10 (by decide) k_fln_Parser_132 rfl rfl (by decide +kernel) rfl rfl (Nat.le_of_ble_eq_true rfl) d_Parser_readContents_93 (wO cI cB cJ cZ a (sG z90.2 5 z90.1)) rfl ?_
    refine J_goto X 140 d_Parser_readContents_96 (by decide) ?_
    refine J_lv [0] [(0, .ref (a 11))] rfl ?_
    exact L140  (sG z90.2 5 z90.1) h
  rw [if_neg c1_221] at h
  refine J_lookup (off := 135) X 136 d_Parser_readContents_1 (by decide) (by simp only [List.toList_toArray]; rw [lv_osw (a := 192) c1_192 rfl, lv_osw (a := 194) c1_194 rfl, lv_osw (a := 196) c1_196 rfl, lv_osw (a := 218) c1_218 rfl, lv_osw (a := 219) c1_219 rfl, lv_osw (a := 220) c1_220 rfl, lv_osw (a := 221) c1_221 rfl] <;> rfl) (by decide) ?_
  refine J_aload_n X d_Parser_readContents_136 0 rfl rfl ?_
  obtain ⟨z137, hz137, h⟩ := j_bind h
  refine J_callVv0 (n := 0) (wc := (wO cI cB cJ cZ a t)) (w1 := fun _ : Unit => wO cI cB cJ cZ a z137) X isO (hCO cI cB cJ cZ a t) (hDO cI cB cJ cZ a t) rfl [] [] (ct_Parser_skipContents l dC dI cI cB cJ cZ a n t hz137) (aw_V (fun w h => mm h) k_ml_Parser_144 k_im_Parser_skipContents k_se_Parser_skipContents k_in_Parser k_cd_Parser_skipContents) rfl (by decide +kernel) ⟨(Nat.le_of_ble_eq_true rfl), (Nat.le_of_ble_eq_true rfl)⟩ (q0 := 11) rfl rfl rfl rfl (Nat.le_of_ble_eq_true rfl) d_Parser_readContents_137 ⟨(Nat.le_of_ble_eq_true rfl), (Nat.le_of_ble_eq_true rfl)⟩ (fun _ => ?_)
  refine J_lv [0] [(0, .ref (a 11))] rfl ?_
  exact L140  z137 h
set_option maxHeartbeats 4000000 in
set_option maxRecDepth 100000 in
theorem ct_Picture_scanCount (l : Launch) (dC : Nat → ClassId) (dI : Nat → Nat → Nat) (cI cB cJ cZ : ClassId) (a : Nat → Nat) (n : Nat)  (t : St) {z : Int32 × St} (h : m_Picture_scanCount n t = some z) : jMi l y_Picture_scanCount w_Picture_scanCount ({ frames := 0, cells := 0, slots := 0, locals := 0 }) (dC, dI) vwCl (tyA cI cB cJ cZ) [.ref (a 3)] (wO cI cB cJ cZ a t) z.1 (fun _ : Unit => wO cI cB cJ cZ a z.2) := by
  refine jMi.of (cc := c_Picture_scanCount) (maxL := 1) (ret := (some .int)) (by decide) rfl (Nat.le_of_ble_eq_true rfl) ?_
  intro p e s m args below meth c A X hr hlk hnm
  refine J_lv [0] [(0, .ref (a 3))] rfl ?_
  unfold m_Picture_scanCount at h
  refine J_aload_n X d_Picture_scanCount_0 0 rfl rfl ?_
  refine J_get (v := .ref (a 6)) X (fun w h => mm (in_Picture w h)) 3 rfl rfl 2 (by decide) (mm k_fl_Picture_18) rfl rfl d_Picture_scanCount_1 ?_
  refine J_getN (v := .int (t.1 8)) X (fun w h => mm (in_Numbers w h)) 6 rfl rfl 1 (by decide) k_fln_Picture_38 rfl rfl d_Picture_scanCount_4 ?_
  refine J_iconst (v := (5 : Int32)) X d_Picture_scanCount_7 (by decide) ?_
  refine J_idiv X d_Picture_scanCount_8 (by decide) ?_
  exact J_iret X hr hlk () (Nat.le_of_ble_eq_true rfl) (Nat.le_of_ble_eq_true rfl) (j_r1 h) (congrArg (fun q => wO cI cB cJ cZ a q) (j_r2 h)) d_Picture_scanCount_9
set_option maxHeartbeats 4000000 in
set_option maxRecDepth 100000 in
theorem ct_Parser_finish (l : Launch) (dC : Nat → ClassId) (dI : Nat → Nat → Nat) (cI cB cJ cZ : ClassId) (a : Nat → Nat) (n : Nat)  (t : St) {z : Int32 × St} (h : m_Parser_finish n t = some z) : jMi l y_Parser_finish w_Parser_finish ({ frames := 2, cells := 0, slots := 0, locals := 43 }) (dC, dI) vwCl (tyA cI cB cJ cZ) [.ref (a 11)] (wO cI cB cJ cZ a t) z.1 (fun _ : Unit => wO cI cB cJ cZ a z.2) := by
  refine jMi.of (cc := c_Parser_finish) (maxL := 1) (ret := (some .int)) (by decide) rfl (Nat.le_of_ble_eq_true rfl) ?_
  intro p e s m args below meth c A X hr hlk hnm
  refine J_lv [0] [(0, .ref (a 11))] rfl ?_
  unfold m_Parser_finish at h
  refine J_aload_n X d_Parser_finish_0 0 rfl rfl ?_
  refine J_get (v := .int (t.1 13)) X (fun w h => mm (in_Parser w h)) 11 rfl rfl 9 (by decide) (mm k_fl_Parser_40) rfl rfl d_Parser_finish_1 ?_
  refine J_if_eq X 14 d_Parser_finish_4 (by decide) (fun c4 => ?_) (fun c4 => ?_)
  · rw [if_pos c4] at h
    refine J_aload_n X d_Parser_finish_14 0 rfl rfl ?_
    refine J_get (v := .int (t.1 13)) X (fun w h => mm (in_Parser w h)) 11 rfl rfl 9 (by decide) (mm k_fl_Parser_40) rfl rfl d_Parser_finish_15 ?_
    exact J_iret X hr hlk () (Nat.le_of_ble_eq_true rfl) (Nat.le_of_ble_eq_true rfl) (j_r1 h) (congrArg (fun q => wO cI cB cJ cZ a q) (j_r2 h)) d_Parser_finish_18
  · rw [if_neg c4] at h
    refine J_aload_n X d_Parser_finish_7 0 rfl rfl ?_
    refine J_get (v := .ref (a 3)) X (fun w h => mm (in_Parser w h)) 11 rfl rfl 1 (by decide) (mm k_fl_Parser_50) rfl rfl d_Parser_finish_8 ?_
    obtain ⟨z11, hz11, h⟩ := j_bind h
    refine J_callVv0 (n := 0) (wc := (wO cI cB cJ cZ a t)) (w1 := fun _ : Unit => wO cI cB cJ cZ a z11) X isO (hCO cI cB cJ cZ a t) (hDO cI cB cJ cZ a t) rfl [] [] (ct_Picture_clear l dC dI cI cB cJ cZ a n t hz11) (aw_V (fun w h => mm h) k_ml_Parser_54 k_im_Picture_clear k_se_Picture_clear k_in_Picture k_cd_Picture_clear) rfl (by decide +kernel) ⟨(Nat.le_of_ble_eq_true rfl), (Nat.le_of_ble_eq_true rfl)⟩ (q0 := 3) rfl rfl rfl rfl (Nat.le_of_ble_eq_true rfl) d_Parser_finish_11 ⟨(Nat.le_of_ble_eq_true rfl), (Nat.le_of_ble_eq_true rfl)⟩ (fun _ => ?_)
    refine J_aload_n X d_Parser_finish_14 0 rfl rfl ?_
    refine J_get (v := .int (z11.1 13)) X (fun w h => mm (in_Parser w h)) 11 rfl rfl 9 (by decide) (mm k_fl_Parser_40) rfl rfl d_Parser_finish_15 ?_
    exact J_iret X hr hlk () (Nat.le_of_ble_eq_true rfl) (Nat.le_of_ble_eq_true rfl) (j_r1 h) (congrArg (fun q => wO cI cB cJ cZ a q) (j_r2 h)) d_Parser_finish_18
set_option maxHeartbeats 4000000 in
set_option maxRecDepth 100000 in
theorem ct_Picture_segmentCount (l : Launch) (dC : Nat → ClassId) (dI : Nat → Nat → Nat) (cI cB cJ cZ : ClassId) (a : Nat → Nat) (n : Nat)  (t : St) {z : Int32 × St} (h : m_Picture_segmentCount n t = some z) : jMi l y_Picture_segmentCount w_Picture_segmentCount ({ frames := 0, cells := 0, slots := 0, locals := 0 }) (dC, dI) vwCl (tyA cI cB cJ cZ) [.ref (a 3)] (wO cI cB cJ cZ a t) z.1 (fun _ : Unit => wO cI cB cJ cZ a z.2) := by
  refine jMi.of (cc := c_Picture_segmentCount) (maxL := 1) (ret := (some .int)) (by decide) rfl (Nat.le_of_ble_eq_true rfl) ?_
  intro p e s m args below meth c A X hr hlk hnm
  refine J_lv [0] [(0, .ref (a 3))] rfl ?_
  unfold m_Picture_segmentCount at h
  refine J_aload_n X d_Picture_segmentCount_0 0 rfl rfl ?_
  refine J_get (v := .ref (a 4)) X (fun w h => mm (in_Picture w h)) 3 rfl rfl 1 (by decide) (mm k_fl_Picture_12) rfl rfl d_Picture_segmentCount_1 ?_
  refine J_getN (v := .int (t.1 7)) X (fun w h => mm (in_Numbers w h)) 4 rfl rfl 1 (by decide) k_fln_Picture_38 rfl rfl d_Picture_segmentCount_4 ?_
  refine J_iconst (v := (2 : Int32)) X d_Picture_segmentCount_7 (by decide) ?_
  refine J_idiv X d_Picture_segmentCount_8 (by decide) ?_
  exact J_iret X hr hlk () (Nat.le_of_ble_eq_true rfl) (Nat.le_of_ble_eq_true rfl) (j_r1 h) (congrArg (fun q => wO cI cB cJ cZ a q) (j_r2 h)) d_Picture_segmentCount_9
set_option maxHeartbeats 4000000 in
set_option maxRecDepth 100000 in
theorem ct_Numbers_at_4 (l : Launch) (dC : Nat → ClassId) (dI : Nat → Nat → Nat) (cI cB cJ cZ : ClassId) (a : Nat → Nat) (n : Nat) (x1 : Int32) (t : St) {z : Int32 × St} (h : m_Numbers_at_4 n x1 t = some z) : jMi l y_Numbers_at w_Numbers_at ({ frames := 0, cells := 0, slots := 0, locals := 0 }) (dC, dI) vwCl (tyA cI cB cJ cZ) [.ref (a 4), .int x1] (wO cI cB cJ cZ a t) z.1 (fun _ : Unit => wO cI cB cJ cZ a z.2) := by
  refine jMi.of (cc := c_Numbers_at) (maxL := 2) (ret := (some .int)) (by decide) rfl (Nat.le_of_ble_eq_true rfl) ?_
  intro p e s m args below meth c A X hr hlk hnm
  have L21 : ∀  (t : St), m_Numbers_at_4_21 n   t = some z → J p l e { frames := 0, cells := 0, slots := 0, locals := 0 } s m args below meth c 2 (dC, dI) vwCl A (MQ below (jQi (dC, dI) vwCl (tyA cI cB cJ cZ) z.1 (fun _ : Unit => wO cI cB cJ cZ a z.2) A) args s 0 0 A) 0 0 21 [] [] (wO cI cB cJ cZ a t) := by
    intro  t h
    unfold m_Numbers_at_4_21 at h
    refine J_iconst (v := (-1 : Int32)) X d_Numbers_at_21 (by decide) ?_
    exact J_iret X hr hlk () (Nat.le_of_ble_eq_true rfl) (Nat.le_of_ble_eq_true rfl) (j_r1 h) (congrArg (fun q => wO cI cB cJ cZ a q) (j_r2 h)) d_Numbers_at_22
  refine J_lv [0, 1] [(0, .ref (a 4)), (1, .int x1)] rfl ?_
  unfold m_Numbers_at_4 at h
  refine J_iload_n X d_Numbers_at_0 1 rfl rfl ?_
  refine J_if_lt X 21 d_Numbers_at_1 (by decide) (fun c1 => ?_) (fun c1 => ?_)
  · rw [if_pos c1] at h
    refine J_lv [] [] rfl ?_
    exact L21  t h
  · rw [if_neg c1] at h
    refine J_iload_n X d_Numbers_at_4 1 rfl rfl ?_
    refine J_aload_n X d_Numbers_at_5 0 rfl rfl ?_
    refine J_get (v := .int (t.1 7)) X (fun w h => mm (in_Numbers w h)) 4 rfl rfl 1 (by decide) (mm k_fl_Numbers_15) rfl rfl d_Numbers_at_6 ?_
    refine J_icmp_ge X 21 d_Numbers_at_9 (by decide) (fun c9 => ?_) (fun c9 => ?_)
    · rw [if_pos c9] at h
      refine J_lv [] [] rfl ?_
      exact L21  t h
    · rw [if_neg c9] at h
      refine J_aload_n X d_Numbers_at_12 0 rfl rfl ?_
      refine J_get (v := .ref (a 5)) X (fun w h => mm (in_Numbers w h)) 4 rfl rfl 0 (by decide) (mm k_fl_Numbers_9) rfl rfl d_Numbers_at_13 ?_
      refine J_iload_n X d_Numbers_at_16 1 rfl rfl ?_
      obtain ⟨b17, h⟩ := j_ifn h
      refine J_iald (f := (t.2.1 1)) X 5 0 rfl rfl b17 d_Numbers_at_17 ?_
      refine J_goto X 22 d_Numbers_at_18 (by decide) ?_
      exact J_iret X hr hlk () (Nat.le_of_ble_eq_true rfl) (Nat.le_of_ble_eq_true rfl) (j_r1 h) (congrArg (fun q => wO cI cB cJ cZ a q) (j_r2 h)) d_Numbers_at_22
set_option maxHeartbeats 4000000 in
set_option maxRecDepth 100000 in
theorem ct_Numbers_at_6 (l : Launch) (dC : Nat → ClassId) (dI : Nat → Nat → Nat) (cI cB cJ cZ : ClassId) (a : Nat → Nat) (n : Nat) (x1 : Int32) (t : St) {z : Int32 × St} (h : m_Numbers_at_6 n x1 t = some z) : jMi l y_Numbers_at w_Numbers_at ({ frames := 0, cells := 0, slots := 0, locals := 0 }) (dC, dI) vwCl (tyA cI cB cJ cZ) [.ref (a 6), .int x1] (wO cI cB cJ cZ a t) z.1 (fun _ : Unit => wO cI cB cJ cZ a z.2) := by
  refine jMi.of (cc := c_Numbers_at) (maxL := 2) (ret := (some .int)) (by decide) rfl (Nat.le_of_ble_eq_true rfl) ?_
  intro p e s m args below meth c A X hr hlk hnm
  have L21 : ∀  (t : St), m_Numbers_at_6_21 n   t = some z → J p l e { frames := 0, cells := 0, slots := 0, locals := 0 } s m args below meth c 2 (dC, dI) vwCl A (MQ below (jQi (dC, dI) vwCl (tyA cI cB cJ cZ) z.1 (fun _ : Unit => wO cI cB cJ cZ a z.2) A) args s 0 0 A) 0 0 21 [] [] (wO cI cB cJ cZ a t) := by
    intro  t h
    unfold m_Numbers_at_6_21 at h
    refine J_iconst (v := (-1 : Int32)) X d_Numbers_at_21 (by decide) ?_
    exact J_iret X hr hlk () (Nat.le_of_ble_eq_true rfl) (Nat.le_of_ble_eq_true rfl) (j_r1 h) (congrArg (fun q => wO cI cB cJ cZ a q) (j_r2 h)) d_Numbers_at_22
  refine J_lv [0, 1] [(0, .ref (a 6)), (1, .int x1)] rfl ?_
  unfold m_Numbers_at_6 at h
  refine J_iload_n X d_Numbers_at_0 1 rfl rfl ?_
  refine J_if_lt X 21 d_Numbers_at_1 (by decide) (fun c1 => ?_) (fun c1 => ?_)
  · rw [if_pos c1] at h
    refine J_lv [] [] rfl ?_
    exact L21  t h
  · rw [if_neg c1] at h
    refine J_iload_n X d_Numbers_at_4 1 rfl rfl ?_
    refine J_aload_n X d_Numbers_at_5 0 rfl rfl ?_
    refine J_get (v := .int (t.1 8)) X (fun w h => mm (in_Numbers w h)) 6 rfl rfl 1 (by decide) (mm k_fl_Numbers_15) rfl rfl d_Numbers_at_6 ?_
    refine J_icmp_ge X 21 d_Numbers_at_9 (by decide) (fun c9 => ?_) (fun c9 => ?_)
    · rw [if_pos c9] at h
      refine J_lv [] [] rfl ?_
      exact L21  t h
    · rw [if_neg c9] at h
      refine J_aload_n X d_Numbers_at_12 0 rfl rfl ?_
      refine J_get (v := .ref (a 7)) X (fun w h => mm (in_Numbers w h)) 6 rfl rfl 0 (by decide) (mm k_fl_Numbers_9) rfl rfl d_Numbers_at_13 ?_
      refine J_iload_n X d_Numbers_at_16 1 rfl rfl ?_
      obtain ⟨b17, h⟩ := j_ifn h
      refine J_iald (f := (t.2.1 2)) X 7 0 rfl rfl b17 d_Numbers_at_17 ?_
      refine J_goto X 22 d_Numbers_at_18 (by decide) ?_
      exact J_iret X hr hlk () (Nat.le_of_ble_eq_true rfl) (Nat.le_of_ble_eq_true rfl) (j_r1 h) (congrArg (fun q => wO cI cB cJ cZ a q) (j_r2 h)) d_Numbers_at_22
set_option maxHeartbeats 4000000 in
set_option maxRecDepth 100000 in
theorem ct_Picture_ofSegment (l : Launch) (dC : Nat → ClassId) (dI : Nat → Nat → Nat) (cI cB cJ cZ : ClassId) (a : Nat → Nat) (n : Nat) (x1 : Int32) (x2 : Int32) (t : St) {z : Int32 × St} (h : m_Picture_ofSegment n x1 x2 t = some z) : jMi l y_Picture_ofSegment w_Picture_ofSegment ({ frames := 1, cells := 0, slots := 0, locals := 21 }) (dC, dI) vwCl (tyA cI cB cJ cZ) [.ref (a 3), .int x1, .int x2] (wO cI cB cJ cZ a t) z.1 (fun _ : Unit => wO cI cB cJ cZ a z.2) := by
  refine jMi.of (cc := c_Picture_ofSegment) (maxL := 4) (ret := (some .int)) (by decide) rfl (Nat.le_of_ble_eq_true rfl) ?_
  intro p e s m args below meth c A X hr hlk hnm
  refine J_lv [0, 1, 2] [(0, .ref (a 3)), (1, .int x1), (2, .int x2)] rfl ?_
  unfold m_Picture_ofSegment at h
  refine J_iload_n X d_Picture_ofSegment_0 1 rfl rfl ?_
  refine J_if_lt X 12 d_Picture_ofSegment_1 (by decide) (fun c1 => ?_) (fun c1 => ?_)
  · rw [if_pos c1] at h
    refine J_iconst (v := (-1 : Int32)) X d_Picture_ofSegment_12 (by decide) ?_
    exact J_iret X hr hlk () (Nat.le_of_ble_eq_true rfl) (Nat.le_of_ble_eq_true rfl) (j_r1 h) (congrArg (fun q => wO cI cB cJ cZ a q) (j_r2 h)) d_Picture_ofSegment_13
  · rw [if_neg c1] at h
    refine J_iload_n X d_Picture_ofSegment_4 1 rfl rfl ?_
    refine J_aload_n X d_Picture_ofSegment_5 0 rfl rfl ?_
    obtain ⟨z6, hz6, h⟩ := j_bind h
    refine J_callVi0 (n := 0) (wc := (wO cI cB cJ cZ a t)) (r := z6.1) (w1 := fun _ : Unit => wO cI cB cJ cZ a z6.2) X isO (hCO cI cB cJ cZ a t) (hDO cI cB cJ cZ a t) rfl [] [.int x1] (ct_Picture_segmentCount l dC dI cI cB cJ cZ a n t hz6) (aw_V (fun w h => mm h) k_ml_Picture_70 k_im_Picture_segmentCount k_se_Picture_segmentCount k_in_Picture k_cd_Picture_segmentCount) rfl (by decide +kernel) ⟨(Nat.le_of_ble_eq_true rfl), (Nat.le_of_ble_eq_true rfl)⟩ (q0 := 3) rfl rfl rfl rfl (Nat.le_of_ble_eq_true rfl) d_Picture_ofSegment_6 ⟨(Nat.le_of_ble_eq_true rfl), (Nat.le_of_ble_eq_true rfl)⟩ (fun _ => ?_)
    refine J_icmp_lt X 14 d_Picture_ofSegment_9 (by decide) (fun c9 => ?_) (fun c9 => ?_)
    · rw [if_pos c9] at h
      refine J_aload_n X d_Picture_ofSegment_14 0 rfl rfl ?_
      refine J_get (v := .ref (a 4)) X (fun w h => mm (in_Picture w h)) 3 rfl rfl 1 (by decide) (mm k_fl_Picture_12) rfl rfl d_Picture_ofSegment_15 ?_
      refine J_iload_n X d_Picture_ofSegment_18 1 rfl rfl ?_
      refine J_iconst (v := (2 : Int32)) X d_Picture_ofSegment_19 (by decide) ?_
      refine J_imul X d_Picture_ofSegment_20 ?_
      refine J_iconst (v := (1 : Int32)) X d_Picture_ofSegment_21 (by decide) ?_
      refine J_iadd X d_Picture_ofSegment_22 ?_
      obtain ⟨z23, hz23, h⟩ := j_bind h
      refine J_callVi0 (n := 1) (wc := (wO cI cB cJ cZ a z6.2)) (r := z23.1) (w1 := fun _ : Unit => wO cI cB cJ cZ a z23.2) X isO (hCO cI cB cJ cZ a z6.2) (hDO cI cB cJ cZ a z6.2) rfl [.int ((x1 * (2 : Int32)) + (1 : Int32))] [] (ct_Numbers_at_4 l dC dI cI cB cJ cZ a n ((x1 * (2 : Int32)) + (1 : Int32)) z6.2 hz23) (aw_V (fun w h => mm h) k_ml_Picture_74 k_im_Numbers_at k_se_Numbers_at k_in_Numbers k_cd_Numbers_at) rfl (by decide +kernel) ⟨(Nat.le_of_ble_eq_true rfl), (Nat.le_of_ble_eq_true rfl)⟩ (q0 := 4) rfl rfl rfl rfl (Nat.le_of_ble_eq_true rfl) d_Picture_ofSegment_23 ⟨(Nat.le_of_ble_eq_true rfl), (Nat.le_of_ble_eq_true rfl)⟩ (fun _ => ?_)
      refine J_istore_n X [(3, .int z23.1), (0, .ref (a 3)), (1, .int x1), (2, .int x2)] d_Picture_ofSegment_26 rfl (by decide) rfl ?_
      refine J_iload_n X d_Picture_ofSegment_27 3 rfl rfl ?_
      by_cases c28_0 : x2 = (0 : Int32)
      · rw [if_pos c28_0] at h
        refine J_tableIn X 60 d_Picture_ofSegment_28 (by rw [c28_0]; decide) (by rw [c28_0]; decide) (by rw [c28_0] <;> rfl) (by decide) ?_
        refine J_aload_n X d_Picture_ofSegment_60 1 rfl rfl ?_
        refine J_get (v := .ref (a 1)) X (fun w h => mm (in_Picture w h)) 3 rfl rfl 0 (by decide) (mm k_fl_Picture_31) rfl rfl d_Picture_ofSegment_61 ?_
        refine J_iload_n X d_Picture_ofSegment_64 0 rfl rfl ?_
        refine J_iconst (v := (3 : Int32)) X d_Picture_ofSegment_65 (by decide) ?_
        refine J_isub X d_Picture_ofSegment_66 ?_
        obtain ⟨z67, hz67, h⟩ := j_bind h
        refine J_callVi0 (n := 1) (wc := (wO cI cB cJ cZ a z23.2)) (r := z67.1) (w1 := fun _ : Unit => wO cI cB cJ cZ a z67.2) X isO (hCO cI cB cJ cZ a z23.2) (hDO cI cB cJ cZ a z23.2) rfl [.int (z23.1 - (3 : Int32))] [] (ct_Bytes_at l dC dI cI cB cJ cZ a n (z23.1 - (3 : Int32)) z23.2 hz67) (aw_V (fun w h => mm h) k_ml_Picture_78 k_im_Bytes_at k_se_Bytes_at k_in_Bytes k_cd_Bytes_at) rfl (by decide +kernel) ⟨(Nat.le_of_ble_eq_true rfl), (Nat.le_of_ble_eq_true rfl)⟩ (q0 := 1) rfl rfl rfl rfl (Nat.le_of_ble_eq_true rfl) d_Picture_ofSegment_67 ⟨(Nat.le_of_ble_eq_true rfl), (Nat.le_of_ble_eq_true rfl)⟩ (fun _ => ?_)
        exact J_iret X hr hlk () (Nat.le_of_ble_eq_true rfl) (Nat.le_of_ble_eq_true rfl) (j_r1 h) (congrArg (fun q => wO cI cB cJ cZ a q) (j_r2 h)) d_Picture_ofSegment_70
      rw [if_neg c28_0] at h
      by_cases c28_1 : x2 = (1 : Int32)
      · rw [if_pos c28_1] at h
        refine J_tableIn X 71 d_Picture_ofSegment_28 (by rw [c28_1]; decide) (by rw [c28_1]; decide) (by rw [c28_1] <;> rfl) (by decide) ?_
        refine J_aload_n X d_Picture_ofSegment_71 1 rfl rfl ?_
        refine J_get (v := .ref (a 4)) X (fun w h => mm (in_Picture w h)) 3 rfl rfl 1 (by decide) (mm k_fl_Picture_12) rfl rfl d_Picture_ofSegment_72 ?_
        refine J_iload_n X d_Picture_ofSegment_75 2 rfl rfl ?_
        refine J_iconst (v := (2 : Int32)) X d_Picture_ofSegment_76 (by decide) ?_
        refine J_imul X d_Picture_ofSegment_77 ?_
        obtain ⟨z78, hz78, h⟩ := j_bind h
        refine J_callVi0 (n := 1) (wc := (wO cI cB cJ cZ a z23.2)) (r := z78.1) (w1 := fun _ : Unit => wO cI cB cJ cZ a z78.2) X isO (hCO cI cB cJ cZ a z23.2) (hDO cI cB cJ cZ a z23.2) rfl [.int (x1 * (2 : Int32))] [] (ct_Numbers_at_4 l dC dI cI cB cJ cZ a n (x1 * (2 : Int32)) z23.2 hz78) (aw_V (fun w h => mm h) k_ml_Picture_74 k_im_Numbers_at k_se_Numbers_at k_in_Numbers k_cd_Numbers_at) rfl (by decide +kernel) ⟨(Nat.le_of_ble_eq_true rfl), (Nat.le_of_ble_eq_true rfl)⟩ (q0 := 4) rfl rfl rfl rfl (Nat.le_of_ble_eq_true rfl) d_Picture_ofSegment_78 ⟨(Nat.le_of_ble_eq_true rfl), (Nat.le_of_ble_eq_true rfl)⟩ (fun _ => ?_)
        exact J_iret X hr hlk () (Nat.le_of_ble_eq_true rfl) (Nat.le_of_ble_eq_true rfl) (j_r1 h) (congrArg (fun q => wO cI cB cJ cZ a q) (j_r2 h)) d_Picture_ofSegment_81
      rw [if_neg c28_1] at h
      by_cases c28_2 : x2 = (2 : Int32)
      · rw [if_pos c28_2] at h
        refine J_tableIn X 82 d_Picture_ofSegment_28 (by rw [c28_2]; decide) (by rw [c28_2]; decide) (by rw [c28_2] <;> rfl) (by decide) ?_
        refine J_iload_n X d_Picture_ofSegment_82 0 rfl rfl ?_
        exact J_iret X hr hlk () (Nat.le_of_ble_eq_true rfl) (Nat.le_of_ble_eq_true rfl) (j_r1 h) (congrArg (fun q => wO cI cB cJ cZ a q) (j_r2 h)) d_Picture_ofSegment_83
      rw [if_neg c28_2] at h
      by_cases c28_3 : x2 = (3 : Int32)
      · rw [if_pos c28_3] at h
        refine J_tableIn X 84 d_Picture_ofSegment_28 (by rw [c28_3]; decide) (by rw [c28_3]; decide) (by rw [c28_3] <;> rfl) (by decide) ?_
        refine J_sipush (v := (256 : Int32)) X d_Picture_ofSegment_84 (by decide) ?_
        refine J_aload_n X d_Picture_ofSegment_87 1 rfl rfl ?_
        refine J_get (v := .ref (a 1)) X (fun w h => mm (in_Picture w h)) 3 rfl rfl 0 (by decide) (mm k_fl_Picture_31) rfl rfl d_Picture_ofSegment_88 ?_
        refine J_iload_n X d_Picture_ofSegment_91 0 rfl rfl ?_
        refine J_iconst (v := (2 : Int32)) X d_Picture_ofSegment_92 (by decide) ?_
        refine J_isub X d_Picture_ofSegment_93 ?_
        obtain ⟨z94, hz94, h⟩ := j_bind h
        refine J_callVi0 (n := 1) (wc := (wO cI cB cJ cZ a z23.2)) (r := z94.1) (w1 := fun _ : Unit => wO cI cB cJ cZ a z94.2) X isO (hCO cI cB cJ cZ a z23.2) (hDO cI cB cJ cZ a z23.2) rfl [.int (z23.1 - (2 : Int32))] [.int (256 : Int32)] (ct_Bytes_at l dC dI cI cB cJ cZ a n (z23.1 - (2 : Int32)) z23.2 hz94) (aw_V (fun w h => mm h) k_ml_Picture_78 k_im_Bytes_at k_se_Bytes_at k_in_Bytes k_cd_Bytes_at) rfl (by decide +kernel) ⟨(Nat.le_of_ble_eq_true rfl), (Nat.le_of_ble_eq_true rfl)⟩ (q0 := 1) rfl rfl rfl rfl (Nat.le_of_ble_eq_true rfl) d_Picture_ofSegment_94 ⟨(Nat.le_of_ble_eq_true rfl), (Nat.le_of_ble_eq_true rfl)⟩ (fun _ => ?_)
        refine J_imul X d_Picture_ofSegment_97 ?_
        refine J_aload_n X d_Picture_ofSegment_98 1 rfl rfl ?_
        refine J_get (v := .ref (a 1)) X (fun w h => mm (in_Picture w h)) 3 rfl rfl 0 (by decide) (mm k_fl_Picture_31) rfl rfl d_Picture_ofSegment_99 ?_
        refine J_iload_n X d_Picture_ofSegment_102 0 rfl rfl ?_
        refine J_iconst (v := (1 : Int32)) X d_Picture_ofSegment_103 (by decide) ?_
        refine J_isub X d_Picture_ofSegment_104 ?_
        obtain ⟨z105, hz105, h⟩ := j_bind h
        refine J_callVi0 (n := 1) (wc := (wO cI cB cJ cZ a z94.2)) (r := z105.1) (w1 := fun _ : Unit => wO cI cB cJ cZ a z105.2) X isO (hCO cI cB cJ cZ a z94.2) (hDO cI cB cJ cZ a z94.2) rfl [.int (z23.1 - (1 : Int32))] [.int ((256 : Int32) * z94.1)] (ct_Bytes_at l dC dI cI cB cJ cZ a n (z23.1 - (1 : Int32)) z94.2 hz105) (aw_V (fun w h => mm h) k_ml_Picture_78 k_im_Bytes_at k_se_Bytes_at k_in_Bytes k_cd_Bytes_at) rfl (by decide +kernel) ⟨(Nat.le_of_ble_eq_true rfl), (Nat.le_of_ble_eq_true rfl)⟩ (q0 := 1) rfl rfl rfl rfl (Nat.le_of_ble_eq_true rfl) d_Picture_ofSegment_105 ⟨(Nat.le_of_ble_eq_true rfl), (Nat.le_of_ble_eq_true rfl)⟩ (fun _ => ?_)
        refine J_iadd X d_Picture_ofSegment_108 ?_
        refine J_iconst (v := (2 : Int32)) X d_Picture_ofSegment_109 (by decide) ?_
        refine J_isub X d_Picture_ofSegment_110 ?_
        exact J_iret X hr hlk () (Nat.le_of_ble_eq_true rfl) (Nat.le_of_ble_eq_true rfl) (j_r1 h) (congrArg (fun q => wO cI cB cJ cZ a q) (j_r2 h)) d_Picture_ofSegment_111
      rw [if_neg c28_3] at h
      refine J_tableOut X 112 d_Picture_ofSegment_28 (by have g0 := lv_neT (a := 0) c28_0 rfl; have g1 := lv_neT (a := 1) c28_1 rfl; have g2 := lv_neT (a := 2) c28_2 rfl; have g3 := lv_neT (a := 3) c28_3 rfl; omega) (by decide) ?_
      refine J_iconst (v := (-1 : Int32)) X d_Picture_ofSegment_112 (by decide) ?_
      exact J_iret X hr hlk () (Nat.le_of_ble_eq_true rfl) (Nat.le_of_ble_eq_true rfl) (j_r1 h) (congrArg (fun q => wO cI cB cJ cZ a q) (j_r2 h)) d_Picture_ofSegment_113
    · rw [if_neg c9] at h
      refine J_iconst (v := (-1 : Int32)) X d_Picture_ofSegment_12 (by decide) ?_
      exact J_iret X hr hlk () (Nat.le_of_ble_eq_true rfl) (Nat.le_of_ble_eq_true rfl) (j_r1 h) (congrArg (fun q => wO cI cB cJ cZ a q) (j_r2 h)) d_Picture_ofSegment_13
set_option maxHeartbeats 4000000 in
set_option maxRecDepth 100000 in
theorem ct_Reader_segment (l : Launch) (dC : Nat → ClassId) (dI : Nat → Nat → Nat) (cI cB cJ cZ : ClassId) (a : Nat → Nat) (n : Nat) (x1 : Int32) (x2 : Int32) (t : St) {z : Int32 × St} (h : m_Reader_segment n x1 x2 t = some z) : jMi l y_Reader_segment w_Reader_segment ({ frames := 2, cells := 0, slots := 0, locals := 44 }) (dC, dI) vwCl (tyA cI cB cJ cZ) [.ref (a 0), .int x1, .int x2] (wO cI cB cJ cZ a t) z.1 (fun _ : Unit => wO cI cB cJ cZ a z.2) := by
  refine jMi.of (cc := c_Reader_segment) (maxL := 3) (ret := (some .int)) (by decide) rfl (Nat.le_of_ble_eq_true rfl) ?_
  intro p e s m args below meth c A X hr hlk hnm
  refine J_lv [0, 1, 2] [(0, .ref (a 0)), (1, .int x1), (2, .int x2)] rfl ?_
  unfold m_Reader_segment at h
  refine J_aload_n X d_Reader_segment_0 0 rfl rfl ?_
  refine J_get (v := .ref (a 3)) X (fun w h => mm (in_Reader w h)) 0 rfl rfl 1 (by decide) (mm k_fl_Reader_21) rfl rfl d_Reader_segment_1 ?_
  refine J_iload_n X d_Reader_segment_4 1 rfl rfl ?_
  refine J_iload_n X d_Reader_segment_5 2 rfl rfl ?_
  obtain ⟨z6, hz6, h⟩ := j_bind h
  refine J_callVi0 (n := 2) (wc := (wO cI cB cJ cZ a t)) (r := z6.1) (w1 := fun _ : Unit => wO cI cB cJ cZ a z6.2) X isO (hCO cI cB cJ cZ a t) (hDO cI cB cJ cZ a t) rfl [.int x1, .int x2] [] (ct_Picture_ofSegment l dC dI cI cB cJ cZ a n x1 x2 t hz6) (aw_V (fun w h => mm h) k_ml_Reader_59 k_im_Picture_ofSegment k_se_Picture_ofSegment k_in_Picture k_cd_Picture_ofSegment) rfl (by decide +kernel) ⟨(Nat.le_of_ble_eq_true rfl), (Nat.le_of_ble_eq_true rfl)⟩ (q0 := 3) rfl rfl rfl rfl (Nat.le_of_ble_eq_true rfl) d_Reader_segment_6 ⟨(Nat.le_of_ble_eq_true rfl), (Nat.le_of_ble_eq_true rfl)⟩ (fun _ => ?_)
  exact J_iret X hr hlk () (Nat.le_of_ble_eq_true rfl) (Nat.le_of_ble_eq_true rfl) (j_r1 h) (congrArg (fun q => wO cI cB cJ cZ a q) (j_r2 h)) d_Reader_segment_9
set_option maxHeartbeats 4000000 in
set_option maxRecDepth 100000 in
theorem ct_Picture_greatest (l : Launch) (dC : Nat → ClassId) (dI : Nat → Nat → Nat) (cI cB cJ cZ : ClassId) (a : Nat → Nat) (n : Nat) (x1 : Int32) (t : St) {z : Int32 × St} (h : m_Picture_greatest n x1 t = some z) : jMi l y_Picture_greatest w_Picture_greatest ({ frames := 1, cells := 0, slots := 0, locals := 22 }) (dC, dI) vwCl (tyA cI cB cJ cZ) [.ref (a 3), .int x1] (wO cI cB cJ cZ a t) z.1 (fun _ : Unit => wO cI cB cJ cZ a z.2) := by
  refine jMi.of (cc := c_Picture_greatest) (maxL := 4) (ret := (some .int)) (by decide) rfl (Nat.le_of_ble_eq_true rfl) ?_
  intro p e s m args below meth c A X hr hlk hnm
  have L4 : ∀ (k : Nat) (x1 : Int32) (x2 : Int32) (x3 : Int32) (t : St), m_Picture_greatest_4 n  k x1 x2 x3 t = some z → J p l e { frames := 1, cells := 0, slots := 0, locals := 22 } s m args below meth c 4 (dC, dI) vwCl A (MQ below (jQi (dC, dI) vwCl (tyA cI cB cJ cZ) z.1 (fun _ : Unit => wO cI cB cJ cZ a z.2) A) args s 0 0 A) 0 0 4 [(0, .ref (a 3)), (1, .int x1), (2, .int x2), (3, .int x3)] [] (wO cI cB cJ cZ a t) := by
    intro k
    induction k with
    | zero => intro x1 x2 x3 t h; exact absurd (show none = some z from h) (by simp)
    | succ k ih =>
      intro x1 x2 x3 t h
      change m_Picture_greatest_4b n  (m_Picture_greatest_4 n  k) x1 x2 x3 t = some z at h
      unfold m_Picture_greatest_4b at h
      refine J_iload_n X d_Picture_greatest_4 3 rfl rfl ?_
      refine J_aload_n X d_Picture_greatest_5 0 rfl rfl ?_
      refine J_get (v := .int (t.1 4)) X (fun w h => mm (in_Picture w h)) 3 rfl rfl 9 (by decide) (mm k_fl_Picture_57) rfl rfl d_Picture_greatest_6 ?_
      refine J_icmp_ge X 29 d_Picture_greatest_9 (by decide) (fun c9 => ?_) (fun c9 => ?_)
      · rw [if_pos c9] at h
        refine J_iload_n X d_Picture_greatest_29 2 rfl rfl ?_
        exact J_iret X hr hlk () (Nat.le_of_ble_eq_true rfl) (Nat.le_of_ble_eq_true rfl) (j_r1 h) (congrArg (fun q => wO cI cB cJ cZ a q) (j_r2 h)) d_Picture_greatest_30
      · rw [if_neg c9] at h
        refine J_iload_n X d_Picture_greatest_12 2 rfl rfl ?_
        refine J_aload_n X d_Picture_greatest_13 0 rfl rfl ?_
        refine J_iload_n X d_Picture_greatest_14 3 rfl rfl ?_
        refine J_iload_n X d_Picture_greatest_15 1 rfl rfl ?_
        obtain ⟨z16, hz16, h⟩ := j_bind h
        refine J_callVi0 (n := 2) (wc := (wO cI cB cJ cZ a t)) (r := z16.1) (w1 := fun _ : Unit => wO cI cB cJ cZ a z16.2) X isO (hCO cI cB cJ cZ a t) (hDO cI cB cJ cZ a t) rfl [.int x3, .int x1] [.int x2] (ct_Picture_ofComponent l dC dI cI cB cJ cZ a n x3 x1 t hz16) (aw_V (fun w h => mm h) k_ml_Picture_84 k_im_Picture_ofComponent k_se_Picture_ofComponent k_in_Picture k_cd_Picture_ofComponent) rfl (by decide +kernel) ⟨(Nat.le_of_ble_eq_true rfl), (Nat.le_of_ble_eq_true rfl)⟩ (q0 := 3) rfl rfl rfl rfl (Nat.le_of_ble_eq_true rfl) d_Picture_greatest_16 ⟨(Nat.le_of_ble_eq_true rfl), (Nat.le_of_ble_eq_true rfl)⟩ (fun _ => ?_)
        refine J_mmax X (mm k_ml_Picture_88) (mm k_st_Math_max) (mm k_in_Math) (mm k_cd_Math_max) (Nat.le_of_ble_eq_true rfl) (Nat.le_of_ble_eq_true rfl) (Nat.le_of_ble_eq_true rfl) (Nat.le_of_ble_eq_true rfl) d_Picture_greatest_19 ?_
        refine J_istore_n X [(2, .int (if x2 < z16.1 then z16.1 else x2)), (0, .ref (a 3)), (1, .int x1), (3, .int x3)] d_Picture_greatest_22 rfl (by decide) rfl ?_
        refine J_iinc (v := (x3 + 1)) X [(3, .int (x3 + 1)), (2, .int (if x2 < z16.1 then z16.1 else x2)), (0, .ref (a 3)), (1, .int x1)] d_Picture_greatest_23 3 rfl rfl (by decide) rfl ?_
        refine J_goto X 4 d_Picture_greatest_26 (by decide) ?_
        refine J_lv [2, 3, 1, 0] [(0, .ref (a 3)), (1, .int x1), (2, .int (if x2 < z16.1 then z16.1 else x2)), (3, .int (x3 + 1))] rfl ?_
        exact ih x1 (if x2 < z16.1 then z16.1 else x2) (x3 + 1) z16.2 h
  refine J_lv [0, 1] [(0, .ref (a 3)), (1, .int x1)] rfl ?_
  unfold m_Picture_greatest at h
  refine J_iconst (v := (0 : Int32)) X d_Picture_greatest_0 (by decide) ?_
  refine J_istore_n X [(2, .int (0 : Int32)), (0, .ref (a 3)), (1, .int x1)] d_Picture_greatest_1 rfl (by decide) rfl ?_
  refine J_iconst (v := (0 : Int32)) X d_Picture_greatest_2 (by decide) ?_
  refine J_istore_n X [(3, .int (0 : Int32)), (2, .int (0 : Int32)), (0, .ref (a 3)), (1, .int x1)] d_Picture_greatest_3 rfl (by decide) rfl ?_
  refine J_lv [2, 3, 1, 0] [(0, .ref (a 3)), (1, .int x1), (2, .int (0 : Int32)), (3, .int (0 : Int32))] rfl ?_
  exact L4  n x1 (0 : Int32) (0 : Int32) t h
set_option maxHeartbeats 4000000 in
set_option maxRecDepth 100000 in
theorem ct_Picture_ofFrame (l : Launch) (dC : Nat → ClassId) (dI : Nat → Nat → Nat) (cI cB cJ cZ : ClassId) (a : Nat → Nat) (n : Nat) (x1 : Int32) (t : St) {z : Int32 × St} (h : m_Picture_ofFrame n x1 t = some z) : jMi l y_Picture_ofFrame w_Picture_ofFrame ({ frames := 2, cells := 0, slots := 0, locals := 45 }) (dC, dI) vwCl (tyA cI cB cJ cZ) [.ref (a 3), .int x1] (wO cI cB cJ cZ a t) z.1 (fun _ : Unit => wO cI cB cJ cZ a z.2) := by
  refine jMi.of (cc := c_Picture_ofFrame) (maxL := 2) (ret := (some .int)) (by decide) rfl (Nat.le_of_ble_eq_true rfl) ?_
  intro p e s m args below meth c A X hr hlk hnm
  refine J_lv [0, 1] [(0, .ref (a 3)), (1, .int x1)] rfl ?_
  unfold m_Picture_ofFrame at h
  refine J_aload_n X d_Picture_ofFrame_0 0 rfl rfl ?_
  refine J_get (v := .int (t.1 1)) X (fun w h => mm (in_Picture w h)) 3 rfl rfl 6 (by decide) (mm k_fl_Picture_48) rfl rfl d_Picture_ofFrame_1 ?_
  refine J_iconst (v := (-1 : Int32)) X d_Picture_ofFrame_4 (by decide) ?_
  refine J_icmp_ne X 10 d_Picture_ofFrame_5 (by decide) (fun c5 => ?_) (fun c5 => ?_)
  · rw [if_neg c5] at h
    refine J_iload_n X d_Picture_ofFrame_10 1 rfl rfl ?_
    by_cases c11_0 : x1 = (0 : Int32)
    · rw [if_pos c11_0] at h
      refine J_tableIn X 48 d_Picture_ofFrame_11 (by rw [c11_0]; decide) (by rw [c11_0]; decide) (by rw [c11_0] <;> rfl) (by decide) ?_
      refine J_aload_n X d_Picture_ofFrame_48 0 rfl rfl ?_
      refine J_get (v := .int (t.1 1)) X (fun w h => mm (in_Picture w h)) 3 rfl rfl 6 (by decide) (mm k_fl_Picture_48) rfl rfl d_Picture_ofFrame_49 ?_
      exact J_iret X hr hlk () (Nat.le_of_ble_eq_true rfl) (Nat.le_of_ble_eq_true rfl) (j_r1 h) (congrArg (fun q => wO cI cB cJ cZ a q) (j_r2 h)) d_Picture_ofFrame_52
    rw [if_neg c11_0] at h
    by_cases c11_1 : x1 = (1 : Int32)
    · rw [if_pos c11_1] at h
      refine J_tableIn X 53 d_Picture_ofFrame_11 (by rw [c11_1]; decide) (by rw [c11_1]; decide) (by rw [c11_1] <;> rfl) (by decide) ?_
      refine J_aload_n X d_Picture_ofFrame_53 0 rfl rfl ?_
      refine J_get (v := .int (t.1 2)) X (fun w h => mm (in_Picture w h)) 3 rfl rfl 7 (by decide) (mm k_fl_Picture_51) rfl rfl d_Picture_ofFrame_54 ?_
      exact J_iret X hr hlk () (Nat.le_of_ble_eq_true rfl) (Nat.le_of_ble_eq_true rfl) (j_r1 h) (congrArg (fun q => wO cI cB cJ cZ a q) (j_r2 h)) d_Picture_ofFrame_57
    rw [if_neg c11_1] at h
    by_cases c11_2 : x1 = (2 : Int32)
    · rw [if_pos c11_2] at h
      refine J_tableIn X 58 d_Picture_ofFrame_11 (by rw [c11_2]; decide) (by rw [c11_2]; decide) (by rw [c11_2] <;> rfl) (by decide) ?_
      refine J_aload_n X d_Picture_ofFrame_58 0 rfl rfl ?_
      refine J_get (v := .int (t.1 3)) X (fun w h => mm (in_Picture w h)) 3 rfl rfl 8 (by decide) (mm k_fl_Picture_54) rfl rfl d_Picture_ofFrame_59 ?_
      exact J_iret X hr hlk () (Nat.le_of_ble_eq_true rfl) (Nat.le_of_ble_eq_true rfl) (j_r1 h) (congrArg (fun q => wO cI cB cJ cZ a q) (j_r2 h)) d_Picture_ofFrame_62
    rw [if_neg c11_2] at h
    by_cases c11_3 : x1 = (3 : Int32)
    · rw [if_pos c11_3] at h
      refine J_tableIn X 63 d_Picture_ofFrame_11 (by rw [c11_3]; decide) (by rw [c11_3]; decide) (by rw [c11_3] <;> rfl) (by decide) ?_
      refine J_aload_n X d_Picture_ofFrame_63 0 rfl rfl ?_
      refine J_get (v := .int (t.1 4)) X (fun w h => mm (in_Picture w h)) 3 rfl rfl 9 (by decide) (mm k_fl_Picture_57) rfl rfl d_Picture_ofFrame_64 ?_
      exact J_iret X hr hlk () (Nat.le_of_ble_eq_true rfl) (Nat.le_of_ble_eq_true rfl) (j_r1 h) (congrArg (fun q => wO cI cB cJ cZ a q) (j_r2 h)) d_Picture_ofFrame_67
    rw [if_neg c11_3] at h
    by_cases c11_4 : x1 = (4 : Int32)
    · rw [if_pos c11_4] at h
      refine J_tableIn X 68 d_Picture_ofFrame_11 (by rw [c11_4]; decide) (by rw [c11_4]; decide) (by rw [c11_4] <;> rfl) (by decide) ?_
      refine J_aload_n X d_Picture_ofFrame_68 0 rfl rfl ?_
      refine J_iconst (v := (1 : Int32)) X d_Picture_ofFrame_69 (by decide) ?_
      obtain ⟨z70, hz70, h⟩ := j_bind h
      refine J_callVi0 (n := 1) (wc := (wO cI cB cJ cZ a t)) (r := z70.1) (w1 := fun _ : Unit => wO cI cB cJ cZ a z70.2) X isO (hCO cI cB cJ cZ a t) (hDO cI cB cJ cZ a t) rfl [.int (1 : Int32)] [] (ct_Picture_greatest l dC dI cI cB cJ cZ a n (1 : Int32) t hz70) (aw_V (fun w h => mm h) k_ml_Picture_81 k_im_Picture_greatest k_se_Picture_greatest k_in_Picture k_cd_Picture_greatest) rfl (by decide +kernel) ⟨(Nat.le_of_ble_eq_true rfl), (Nat.le_of_ble_eq_true rfl)⟩ (q0 := 3) rfl rfl rfl rfl (Nat.le_of_ble_eq_true rfl) d_Picture_ofFrame_70 ⟨(Nat.le_of_ble_eq_true rfl), (Nat.le_of_ble_eq_true rfl)⟩ (fun _ => ?_)
      exact J_iret X hr hlk () (Nat.le_of_ble_eq_true rfl) (Nat.le_of_ble_eq_true rfl) (j_r1 h) (congrArg (fun q => wO cI cB cJ cZ a q) (j_r2 h)) d_Picture_ofFrame_73
    rw [if_neg c11_4] at h
    by_cases c11_5 : x1 = (5 : Int32)
    · rw [if_pos c11_5] at h
      refine J_tableIn X 74 d_Picture_ofFrame_11 (by rw [c11_5]; decide) (by rw [c11_5]; decide) (by rw [c11_5] <;> rfl) (by decide) ?_
      refine J_aload_n X d_Picture_ofFrame_74 0 rfl rfl ?_
      refine J_iconst (v := (2 : Int32)) X d_Picture_ofFrame_75 (by decide) ?_
      obtain ⟨z76, hz76, h⟩ := j_bind h
      refine J_callVi0 (n := 1) (wc := (wO cI cB cJ cZ a t)) (r := z76.1) (w1 := fun _ : Unit => wO cI cB cJ cZ a z76.2) X isO (hCO cI cB cJ cZ a t) (hDO cI cB cJ cZ a t) rfl [.int (2 : Int32)] [] (ct_Picture_greatest l dC dI cI cB cJ cZ a n (2 : Int32) t hz76) (aw_V (fun w h => mm h) k_ml_Picture_81 k_im_Picture_greatest k_se_Picture_greatest k_in_Picture k_cd_Picture_greatest) rfl (by decide +kernel) ⟨(Nat.le_of_ble_eq_true rfl), (Nat.le_of_ble_eq_true rfl)⟩ (q0 := 3) rfl rfl rfl rfl (Nat.le_of_ble_eq_true rfl) d_Picture_ofFrame_76 ⟨(Nat.le_of_ble_eq_true rfl), (Nat.le_of_ble_eq_true rfl)⟩ (fun _ => ?_)
      exact J_iret X hr hlk () (Nat.le_of_ble_eq_true rfl) (Nat.le_of_ble_eq_true rfl) (j_r1 h) (congrArg (fun q => wO cI cB cJ cZ a q) (j_r2 h)) d_Picture_ofFrame_79
    rw [if_neg c11_5] at h
    refine J_tableOut X 80 d_Picture_ofFrame_11 (by have g0 := lv_neT (a := 0) c11_0 rfl; have g1 := lv_neT (a := 1) c11_1 rfl; have g2 := lv_neT (a := 2) c11_2 rfl; have g3 := lv_neT (a := 3) c11_3 rfl; have g4 := lv_neT (a := 4) c11_4 rfl; have g5 := lv_neT (a := 5) c11_5 rfl; omega) (by decide) ?_
    refine J_iconst (v := (-1 : Int32)) X d_Picture_ofFrame_80 (by decide) ?_
    exact J_iret X hr hlk () (Nat.le_of_ble_eq_true rfl) (Nat.le_of_ble_eq_true rfl) (j_r1 h) (congrArg (fun q => wO cI cB cJ cZ a q) (j_r2 h)) d_Picture_ofFrame_81
  · rw [if_pos c5] at h
    refine J_iconst (v := (-1 : Int32)) X d_Picture_ofFrame_8 (by decide) ?_
    exact J_iret X hr hlk () (Nat.le_of_ble_eq_true rfl) (Nat.le_of_ble_eq_true rfl) (j_r1 h) (congrArg (fun q => wO cI cB cJ cZ a q) (j_r2 h)) d_Picture_ofFrame_9
set_option maxHeartbeats 4000000 in
set_option maxRecDepth 100000 in
theorem ct_Reader_frame (l : Launch) (dC : Nat → ClassId) (dI : Nat → Nat → Nat) (cI cB cJ cZ : ClassId) (a : Nat → Nat) (n : Nat) (x1 : Int32) (t : St) {z : Int32 × St} (h : m_Reader_frame n x1 t = some z) : jMi l y_Reader_frame w_Reader_frame ({ frames := 3, cells := 0, slots := 0, locals := 66 }) (dC, dI) vwCl (tyA cI cB cJ cZ) [.ref (a 0), .int x1] (wO cI cB cJ cZ a t) z.1 (fun _ : Unit => wO cI cB cJ cZ a z.2) := by
  refine jMi.of (cc := c_Reader_frame) (maxL := 2) (ret := (some .int)) (by decide) rfl (Nat.le_of_ble_eq_true rfl) ?_
  intro p e s m args below meth c A X hr hlk hnm
  refine J_lv [0, 1] [(0, .ref (a 0)), (1, .int x1)] rfl ?_
  unfold m_Reader_frame at h
  refine J_aload_n X d_Reader_frame_0 0 rfl rfl ?_
  refine J_get (v := .ref (a 3)) X (fun w h => mm (in_Reader w h)) 0 rfl rfl 1 (by decide) (mm k_fl_Reader_21) rfl rfl d_Reader_frame_1 ?_
  refine J_iload_n X d_Reader_frame_4 1 rfl rfl ?_
  obtain ⟨z5, hz5, h⟩ := j_bind h
  refine J_callVi0 (n := 1) (wc := (wO cI cB cJ cZ a t)) (r := z5.1) (w1 := fun _ : Unit => wO cI cB cJ cZ a z5.2) X isO (hCO cI cB cJ cZ a t) (hDO cI cB cJ cZ a t) rfl [.int x1] [] (ct_Picture_ofFrame l dC dI cI cB cJ cZ a n x1 t hz5) (aw_V (fun w h => mm h) k_ml_Reader_63 k_im_Picture_ofFrame k_se_Picture_ofFrame k_in_Picture k_cd_Picture_ofFrame) rfl (by decide +kernel) ⟨(Nat.le_of_ble_eq_true rfl), (Nat.le_of_ble_eq_true rfl)⟩ (q0 := 3) rfl rfl rfl rfl (Nat.le_of_ble_eq_true rfl) d_Reader_frame_5 ⟨(Nat.le_of_ble_eq_true rfl), (Nat.le_of_ble_eq_true rfl)⟩ (fun _ => ?_)
  exact J_iret X hr hlk () (Nat.le_of_ble_eq_true rfl) (Nat.le_of_ble_eq_true rfl) (j_r1 h) (congrArg (fun q => wO cI cB cJ cZ a q) (j_r2 h)) d_Reader_frame_8
set_option maxHeartbeats 4000000 in
set_option maxRecDepth 100000 in
theorem ct_Reader_component (l : Launch) (dC : Nat → ClassId) (dI : Nat → Nat → Nat) (cI cB cJ cZ : ClassId) (a : Nat → Nat) (n : Nat) (x1 : Int32) (x2 : Int32) (t : St) {z : Int32 × St} (h : m_Reader_component n x1 x2 t = some z) : jMi l y_Reader_component w_Reader_component ({ frames := 1, cells := 0, slots := 0, locals := 22 }) (dC, dI) vwCl (tyA cI cB cJ cZ) [.ref (a 0), .int x1, .int x2] (wO cI cB cJ cZ a t) z.1 (fun _ : Unit => wO cI cB cJ cZ a z.2) := by
  refine jMi.of (cc := c_Reader_component) (maxL := 3) (ret := (some .int)) (by decide) rfl (Nat.le_of_ble_eq_true rfl) ?_
  intro p e s m args below meth c A X hr hlk hnm
  refine J_lv [0, 1, 2] [(0, .ref (a 0)), (1, .int x1), (2, .int x2)] rfl ?_
  unfold m_Reader_component at h
  refine J_aload_n X d_Reader_component_0 0 rfl rfl ?_
  refine J_get (v := .ref (a 3)) X (fun w h => mm (in_Reader w h)) 0 rfl rfl 1 (by decide) (mm k_fl_Reader_21) rfl rfl d_Reader_component_1 ?_
  refine J_iload_n X d_Reader_component_4 1 rfl rfl ?_
  refine J_iload_n X d_Reader_component_5 2 rfl rfl ?_
  obtain ⟨z6, hz6, h⟩ := j_bind h
  refine J_callVi0 (n := 2) (wc := (wO cI cB cJ cZ a t)) (r := z6.1) (w1 := fun _ : Unit => wO cI cB cJ cZ a z6.2) X isO (hCO cI cB cJ cZ a t) (hDO cI cB cJ cZ a t) rfl [.int x1, .int x2] [] (ct_Picture_ofComponent l dC dI cI cB cJ cZ a n x1 x2 t hz6) (aw_V (fun w h => mm h) k_ml_Reader_67 k_im_Picture_ofComponent k_se_Picture_ofComponent k_in_Picture k_cd_Picture_ofComponent) rfl (by decide +kernel) ⟨(Nat.le_of_ble_eq_true rfl), (Nat.le_of_ble_eq_true rfl)⟩ (q0 := 3) rfl rfl rfl rfl (Nat.le_of_ble_eq_true rfl) d_Reader_component_6 ⟨(Nat.le_of_ble_eq_true rfl), (Nat.le_of_ble_eq_true rfl)⟩ (fun _ => ?_)
  exact J_iret X hr hlk () (Nat.le_of_ble_eq_true rfl) (Nat.le_of_ble_eq_true rfl) (j_r1 h) (congrArg (fun q => wO cI cB cJ cZ a q) (j_r2 h)) d_Reader_component_9
set_option maxHeartbeats 4000000 in
set_option maxRecDepth 100000 in
theorem ct_Picture_ofScanComponent (l : Launch) (dC : Nat → ClassId) (dI : Nat → Nat → Nat) (cI cB cJ cZ : ClassId) (a : Nat → Nat) (n : Nat) (x1 : Int32) (x2 : Int32) (x3 : Int32) (t : St) {z : Int32 × St} (h : m_Picture_ofScanComponent n x1 x2 x3 t = some z) : jMi l y_Picture_ofScanComponent w_Picture_ofScanComponent ({ frames := 2, cells := 0, slots := 0, locals := 44 }) (dC, dI) vwCl (tyA cI cB cJ cZ) [.ref (a 3), .int x1, .int x2, .int x3] (wO cI cB cJ cZ a t) z.1 (fun _ : Unit => wO cI cB cJ cZ a z.2) := by
  refine jMi.of (cc := c_Picture_ofScanComponent) (maxL := 6) (ret := (some .int)) (by decide) rfl (Nat.le_of_ble_eq_true rfl) ?_
  intro p e s m args below meth c A X hr hlk hnm
  refine J_lv [0, 1, 2, 3] [(0, .ref (a 3)), (1, .int x1), (2, .int x2), (3, .int x3)] rfl ?_
  unfold m_Picture_ofScanComponent at h
  refine J_iload_n X d_Picture_ofScanComponent_0 3 rfl rfl ?_
  refine J_iconst (v := (4 : Int32)) X d_Picture_ofScanComponent_1 (by decide) ?_
  refine J_idiv X d_Picture_ofScanComponent_2 (by decide) ?_
  refine J_istore X [(4, .int (x3 / (4 : Int32))), (0, .ref (a 3)), (1, .int x1), (2, .int x2), (3, .int x3)] d_Picture_ofScanComponent_3 (by decide) rfl ?_
  refine J_iload X d_Picture_ofScanComponent_5 0 rfl ?_
  refine J_iload_n X d_Picture_ofScanComponent_7 3 rfl rfl ?_
  refine J_icmp_lt X 13 d_Picture_ofScanComponent_8 (by decide) (fun c8 => ?_) (fun c8 => ?_)
  · rw [if_pos c8] at h
    refine J_iload_n X d_Picture_ofScanComponent_13 2 rfl rfl ?_
    refine J_iconst (v := (1 : Int32)) X d_Picture_ofScanComponent_14 (by decide) ?_
    refine J_iadd X d_Picture_ofScanComponent_15 ?_
    refine J_iconst (v := (2 : Int32)) X d_Picture_ofScanComponent_16 (by decide) ?_
    refine J_iload X d_Picture_ofScanComponent_17 0 rfl ?_
    refine J_imul X d_Picture_ofScanComponent_19 ?_
    refine J_iadd X d_Picture_ofScanComponent_20 ?_
    refine J_istore X [(5, .int ((x1 + (1 : Int32)) + ((2 : Int32) * (x3 / (4 : Int32))))), (4, .int (x3 / (4 : Int32))), (0, .ref (a 3)), (1, .int x1), (2, .int x2), (3, .int x3)] d_Picture_ofScanComponent_21 (by decide) rfl ?_
    refine J_iload_n X d_Picture_ofScanComponent_23 5 rfl rfl ?_
    refine J_iconst (v := (4 : Int32)) X d_Picture_ofScanComponent_24 (by decide) ?_
    refine J_irem X d_Picture_ofScanComponent_25 (by decide) ?_
    by_cases c26_0 : (x3 - x3 / (4 : Int32) * (4 : Int32)) = (0 : Int32)
    · rw [if_pos c26_0] at h
      refine J_tableIn X 52 d_Picture_ofScanComponent_26 (by rw [c26_0]; decide) (by rw [c26_0]; decide) (by rw [c26_0] <;> rfl) (by decide) ?_
      refine J_aload_n X d_Picture_ofScanComponent_52 2 rfl rfl ?_
      refine J_aload_n X d_Picture_ofScanComponent_53 2 rfl rfl ?_
      refine J_get (v := .ref (a 1)) X (fun w h => mm (in_Picture w h)) 3 rfl rfl 0 (by decide) (mm k_fl_Picture_31) rfl rfl d_Picture_ofScanComponent_54 ?_
      refine J_iload X d_Picture_ofScanComponent_57 0 rfl ?_
      obtain ⟨z59, hz59, h⟩ := j_bind h
      refine J_callVi0 (n := 1) (wc := (wO cI cB cJ cZ a t)) (r := z59.1) (w1 := fun _ : Unit => wO cI cB cJ cZ a z59.2) X isO (hCO cI cB cJ cZ a t) (hDO cI cB cJ cZ a t) rfl [.int ((x1 + (1 : Int32)) + ((2 : Int32) * (x3 / (4 : Int32))))] [.ref (a 3)] (ct_Bytes_at l dC dI cI cB cJ cZ a n ((x1 + (1 : Int32)) + ((2 : Int32) * (x3 / (4 : Int32)))) t hz59) (aw_V (fun w h => mm h) k_ml_Picture_78 k_im_Bytes_at k_se_Bytes_at k_in_Bytes k_cd_Bytes_at) rfl (by decide +kernel) ⟨(Nat.le_of_ble_eq_true rfl), (Nat.le_of_ble_eq_true rfl)⟩ (q0 := 1) rfl rfl rfl rfl (Nat.le_of_ble_eq_true rfl) d_Picture_ofScanComponent_59 ⟨(Nat.le_of_ble_eq_true rfl), (Nat.le_of_ble_eq_true rfl)⟩ (fun _ => ?_)
      obtain ⟨z62, hz62, h⟩ := j_bind h
      refine J_callVi0 (n := 1) (wc := (wO cI cB cJ cZ a z59.2)) (r := z62.1) (w1 := fun _ : Unit => wO cI cB cJ cZ a z62.2) X isO (hCO cI cB cJ cZ a z59.2) (hDO cI cB cJ cZ a z59.2) rfl [.int z59.1] [] (ct_Picture_placeOfName l dC dI cI cB cJ cZ a n z59.1 z59.2 hz62) (aw_V (fun w h => mm h) k_ml_Picture_100 k_im_Picture_placeOfName k_se_Picture_placeOfName k_in_Picture k_cd_Picture_placeOfName) rfl (by decide +kernel) ⟨(Nat.le_of_ble_eq_true rfl), (Nat.le_of_ble_eq_true rfl)⟩ (q0 := 3) rfl rfl rfl rfl (Nat.le_of_ble_eq_true rfl) d_Picture_ofScanComponent_62 ⟨(Nat.le_of_ble_eq_true rfl), (Nat.le_of_ble_eq_true rfl)⟩ (fun _ => ?_)
      exact J_iret X hr hlk () (Nat.le_of_ble_eq_true rfl) (Nat.le_of_ble_eq_true rfl) (j_r1 h) (congrArg (fun q => wO cI cB cJ cZ a q) (j_r2 h)) d_Picture_ofScanComponent_65
    rw [if_neg c26_0] at h
    by_cases c26_1 : (x3 - x3 / (4 : Int32) * (4 : Int32)) = (1 : Int32)
    · rw [if_pos c26_1] at h
      refine J_tableIn X 66 d_Picture_ofScanComponent_26 (by rw [c26_1]; decide) (by rw [c26_1]; decide) (by rw [c26_1] <;> rfl) (by decide) ?_
      refine J_aload_n X d_Picture_ofScanComponent_66 2 rfl rfl ?_
      refine J_get (v := .ref (a 1)) X (fun w h => mm (in_Picture w h)) 3 rfl rfl 0 (by decide) (mm k_fl_Picture_31) rfl rfl d_Picture_ofScanComponent_67 ?_
      refine J_iload X d_Picture_ofScanComponent_70 0 rfl ?_
      refine J_iconst (v := (1 : Int32)) X d_Picture_ofScanComponent_72 (by decide) ?_
      refine J_iadd X d_Picture_ofScanComponent_73 ?_
      obtain ⟨z74, hz74, h⟩ := j_bind h
      refine J_callVi0 (n := 1) (wc := (wO cI cB cJ cZ a t)) (r := z74.1) (w1 := fun _ : Unit => wO cI cB cJ cZ a z74.2) X isO (hCO cI cB cJ cZ a t) (hDO cI cB cJ cZ a t) rfl [.int (((x1 + (1 : Int32)) + ((2 : Int32) * (x3 / (4 : Int32)))) + (1 : Int32))] [] (ct_Bytes_at l dC dI cI cB cJ cZ a n (((x1 + (1 : Int32)) + ((2 : Int32) * (x3 / (4 : Int32)))) + (1 : Int32)) t hz74) (aw_V (fun w h => mm h) k_ml_Picture_78 k_im_Bytes_at k_se_Bytes_at k_in_Bytes k_cd_Bytes_at) rfl (by decide +kernel) ⟨(Nat.le_of_ble_eq_true rfl), (Nat.le_of_ble_eq_true rfl)⟩ (q0 := 1) rfl rfl rfl rfl (Nat.le_of_ble_eq_true rfl) d_Picture_ofScanComponent_74 ⟨(Nat.le_of_ble_eq_true rfl), (Nat.le_of_ble_eq_true rfl)⟩ (fun _ => ?_)
      refine J_iconst (v := (4 : Int32)) X d_Picture_ofScanComponent_77 (by decide) ?_
      refine J_ishr X d_Picture_ofScanComponent_78 ?_
      exact J_iret X hr hlk () (Nat.le_of_ble_eq_true rfl) (Nat.le_of_ble_eq_true rfl) (j_r1 h) (congrArg (fun q => wO cI cB cJ cZ a q) (j_r2 h)) d_Picture_ofScanComponent_79
    rw [if_neg c26_1] at h
    by_cases c26_2 : (x3 - x3 / (4 : Int32) * (4 : Int32)) = (2 : Int32)
    · rw [if_pos c26_2] at h
      refine J_tableIn X 80 d_Picture_ofScanComponent_26 (by rw [c26_2]; decide) (by rw [c26_2]; decide) (by rw [c26_2] <;> rfl) (by decide) ?_
      refine J_aload_n X d_Picture_ofScanComponent_80 2 rfl rfl ?_
      refine J_get (v := .ref (a 1)) X (fun w h => mm (in_Picture w h)) 3 rfl rfl 0 (by decide) (mm k_fl_Picture_31) rfl rfl d_Picture_ofScanComponent_81 ?_
      refine J_iload X d_Picture_ofScanComponent_84 0 rfl ?_
      refine J_iconst (v := (1 : Int32)) X d_Picture_ofScanComponent_86 (by decide) ?_
      refine J_iadd X d_Picture_ofScanComponent_87 ?_
      obtain ⟨z88, hz88, h⟩ := j_bind h
      refine J_callVi0 (n := 1) (wc := (wO cI cB cJ cZ a t)) (r := z88.1) (w1 := fun _ : Unit => wO cI cB cJ cZ a z88.2) X isO (hCO cI cB cJ cZ a t) (hDO cI cB cJ cZ a t) rfl [.int (((x1 + (1 : Int32)) + ((2 : Int32) * (x3 / (4 : Int32)))) + (1 : Int32))] [] (ct_Bytes_at l dC dI cI cB cJ cZ a n (((x1 + (1 : Int32)) + ((2 : Int32) * (x3 / (4 : Int32)))) + (1 : Int32)) t hz88) (aw_V (fun w h => mm h) k_ml_Picture_78 k_im_Bytes_at k_se_Bytes_at k_in_Bytes k_cd_Bytes_at) rfl (by decide +kernel) ⟨(Nat.le_of_ble_eq_true rfl), (Nat.le_of_ble_eq_true rfl)⟩ (q0 := 1) rfl rfl rfl rfl (Nat.le_of_ble_eq_true rfl) d_Picture_ofScanComponent_88 ⟨(Nat.le_of_ble_eq_true rfl), (Nat.le_of_ble_eq_true rfl)⟩ (fun _ => ?_)
      refine J_bipush (v := (15 : Int32)) X d_Picture_ofScanComponent_91 (by decide) ?_
      refine J_iand X d_Picture_ofScanComponent_93 ?_
      exact J_iret X hr hlk () (Nat.le_of_ble_eq_true rfl) (Nat.le_of_ble_eq_true rfl) (j_r1 h) (congrArg (fun q => wO cI cB cJ cZ a q) (j_r2 h)) d_Picture_ofScanComponent_94
    rw [if_neg c26_2] at h
    refine J_tableOut X 95 d_Picture_ofScanComponent_26 (by have g0 := lv_neT (a := 0) c26_0 rfl; have g1 := lv_neT (a := 1) c26_1 rfl; have g2 := lv_neT (a := 2) c26_2 rfl; omega) (by decide) ?_
    refine J_iconst (v := (-1 : Int32)) X d_Picture_ofScanComponent_95 (by decide) ?_
    exact J_iret X hr hlk () (Nat.le_of_ble_eq_true rfl) (Nat.le_of_ble_eq_true rfl) (j_r1 h) (congrArg (fun q => wO cI cB cJ cZ a q) (j_r2 h)) d_Picture_ofScanComponent_96
  · rw [if_neg c8] at h
    refine J_iconst (v := (-1 : Int32)) X d_Picture_ofScanComponent_11 (by decide) ?_
    exact J_iret X hr hlk () (Nat.le_of_ble_eq_true rfl) (Nat.le_of_ble_eq_true rfl) (j_r1 h) (congrArg (fun q => wO cI cB cJ cZ a q) (j_r2 h)) d_Picture_ofScanComponent_12
