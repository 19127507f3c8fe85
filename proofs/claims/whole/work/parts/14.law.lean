/-! THE CLAIM OUT OF ONE WALK OF THE LAW'S BODY. Your part is whole_start (and what it stands on); all else here is the same for every law, but numbers. -/
def R_law : String := "SegmentReaderLaw"
def lw_P (b : Addr) (xs : List Int32) (args : Array Value) (s : State) : Prop := args = #[.ref b] ∧ s.IntsAt b xs ∧ xs.length ≤ 2048 ∧ (Jvm.Cond.and given_1 narrow_1).before args s = true
def lw_Q (_ : Array Value) (s : State) (o : Outcome) (t : State) : Prop := o = .returned (some (.int 1)) ∧ Framed s o t [] 600000 7302250
def lw_Z (below : List Frame) (a : Array Value) (s : State) : State → Prop := fun t => ∃ o, t.status = .running ∧ Ended t below o ∧ lw_Q a s o t
/-- the law's own end, with 1 on the stack, nothing written that was there before, its room as the claim has it -/
theorem lw_ret {p : Program} {l : Launch} {e : Env} {s : State} {m : MethodId} {below : List Frame} {meth : Method} {c : Code} {b : Nat} (hx : p.tables.exec = Jvm.exec) (hb : c.code = code) (hr : meth.sig.returnType = ret) (hlocks : meth.locks = false) {pc : Nat} {H : Heap} {ls : Array Slot} (hdg : decode code pc = .ok (.ireturn, 1)) : W p l e room_1 s m #[Value.ref b] below meth c H [] 600000 7302250 (lw_Z below #[Value.ref b] s) (F0 m pc ls [.int 1]) := by
  intro T hT X
  obtain ⟨fs, hret, hrun, hended, hW, hframe⟩ := X.leave (v := some (.int 1)) (hlocks := hlocks) (fun h => by rw [hr] at h; cases h)
  have hmeth' : T.vm.method? m = some meth := X.method'
  refine ⟨T.setFrames fs, ?_, .returned (some (.int 1)), hrun, hended, rfl, ⟨_, rfl⟩, hW, hframe⟩
  jvm_step X.here [X.here.top, hx, hb, hdg, hmeth', hr, ret, narrow_b1]
  (try refine ⟨rfl, ?_⟩); (try refine ⟨rfl, ?_⟩)
  first | (intro acts; rw [hret _ acts rfl rfl rfl]) | rw [hret _ _ rfl rfl rfl]
  exact Steps.refl _
/-- what holds at the law's entry: the machine, the code, the tables' words (any of lw_tbl by 'hts w (by decide +kernel)'), the script of L ints xs at the cell b, what the Statement gives of the start (any of its parts by flat_of_before) -/
def lw_At (p : Program) (s : State) (m : MethodId) (meth : Method) (c : Code) (b L : Nat) (xs : Nat → Int32) : Prop :=
  p.tables.exec = Jvm.exec ∧ c.code = code ∧ meth.sig.returnType = ret ∧ c.maxLocals = 4 ∧ s.vm.findClass R_law = some m.cls ∧ (∀ w ∈ lw_tbl, w.before #[Value.ref b] s = true) ∧ va_X b L xs s s.heap ∧ b < s.heap.size ∧ meth.locks = false ∧ (Jvm.Cond.and given_1 narrow_1).before #[Value.ref b] s = true
section
variable {p : Program} {l : Launch} {e : Env} {R : Room} {s : State} {m : MethodId} {args : Array Value} {below : List Frame} {meth : Method} {c : Code} {Q : State → Prop} {cc : ByteArray} {nL : Nat} {Ts : List Cond} {own : String} {D : va_G} {cl : List vw_C} {tys : List (ClassId × FieldType)} {A : Nat → Prop} {cells slots pc : Nat} {lv : List (Nat × Value)} {st : List Value} {ws : va_W}
theorem J_sld (X : jX p s m args c cc nL Ts own D cl tys A) {b L : Nat} {xs : Nat → Int32} (hX : va_X b L xs s s.heap) (hbl : b < s.heap.size) (hbA : ¬ A b) {i : Int32} (hin : vp_in i L) (hdg : decode cc pc = .ok (.iaload, 1)) (kk : J p l e R s m args below meth c nL D cl A Q cells slots (pc + 1) lv (.int (xs i.toNatClampNeg) :: st) ws) : J p l e R s m args below meth c nL D cl A Q cells slots pc lv (.int i :: .ref b :: st) ws :=
  fun ls H locs hl hP hD hS => va_sld X.1 X.2.1 hX hbl hbA hS hin hdg (kk ls H locs hl hP hD hS)
theorem J_slen (X : jX p s m args c cc nL Ts own D cl tys A) {b L : Nat} {xs : Nat → Int32} (hX : va_X b L xs s s.heap) (hbl : b < s.heap.size) (hbA : ¬ A b) (hdg : decode cc pc = .ok (.arraylength, 1)) (kk : J p l e R s m args below meth c nL D cl A Q cells slots (pc + 1) lv (.int (Int32.ofNat L) :: st) ws) : J p l e R s m args below meth c nL D cl A Q cells slots pc lv (.ref b :: st) ws :=
  fun ls H locs hl hP hD hS => va_slen X.1 X.2.1 hX hbl hbA hS hdg (kk ls H locs hl hP hD hS)
end
theorem awL : ∀ w ∈ AW, w ∈ lw_tbl := fun w h => (List.mem_filter.mp h).1
theorem nI_toI {a : Nat} (h : a < 2 ^ 31) : (nI a).toInt = (a : Int) := nI_toInt h
theorem law_go {L i : Nat} (hL : L ≤ 2048) (hi : i ≤ 2048) (h : ¬ Int32.ofNat L - 4 < nI i) : i + 4 ≤ L := by
  have h4 : (nI L - nI 4).toInt = (L : Int) - 4 := pk_sub_toInt (a := L) (b := 4) (by omega) (by omega)
  have h5 : ¬ (nI L - nI 4).toInt < (nI i).toInt := fun q => h (Int32.lt_iff_toInt_lt.mpr q)
  rw [h4, nI_toInt (by omega)] at h5
  omega
theorem law_in {L i : Nat} (j : Nat) (hj : j < 4) (hL : L ≤ 2048) (h : i + 4 ≤ L) {x : Int32} (hx : x = nI (i + j)) : vp_in x L := by rw [hx]; exact vp_in_nI (by omega) (by omega)
/-- what the law wants of the two systems, in pure terms: I holds at the k-th call, and every call answers alike and keeps it -/
def pureOK (n : Nat) (I : Nat → St → St → Prop) : Prop :=
  (∀ k t u, I k t u → 96 ≤ ph t ∧ ph t ≤ 200000) ∧
  (∀ k t u, I k t u → I (k + 1) t u) ∧
  (∀ k t u v x, k < 512 → I k t u → ∃ z w, m_Reader_give n v x t = some z ∧ m_Model_give n v x u = some w ∧ z.1 = w.1 ∧ I (k + 1) z.2 w.2) ∧
  (∀ k t u, k < 512 → I k t u → ∃ z w, m_Reader_wipe n t = some z ∧ m_Model_wipe n u = some w ∧ I (k + 1) z w) ∧
  (∀ k t u, k < 512 → I k t u → ∃ z w, m_Reader_read n t = some z ∧ m_Model_read n u = some w ∧ z.1 = w.1 ∧ I (k + 1) z.2 w.2) ∧
  (∀ k t u x1 x2, k < 512 → I k t u → ∃ z w, m_Reader_segment n x1 x2 t = some z ∧ m_Model_segment n x1 x2 u = some w ∧ z.1 = w.1 ∧ I (k + 1) z.2 w.2) ∧
  (∀ k t u x1, k < 512 → I k t u → ∃ z w, m_Reader_frame n x1 t = some z ∧ m_Model_frame n x1 u = some w ∧ z.1 = w.1 ∧ I (k + 1) z.2 w.2) ∧
  (∀ k t u x1 x2, k < 512 → I k t u → ∃ z w, m_Reader_component n x1 x2 t = some z ∧ m_Model_component n x1 x2 u = some w ∧ z.1 = w.1 ∧ I (k + 1) z.2 w.2) ∧
  (∀ k t u x1 x2, k < 512 → I k t u → ∃ z w, m_Reader_scan n x1 x2 t = some z ∧ m_Model_scan n x1 x2 u = some w ∧ z.1 = w.1 ∧ I (k + 1) z.2 w.2) ∧
  (∀ k t u x1 x2, k < 512 → I k t u → ∃ z w, m_Reader_data n x1 x2 t = some z ∧ m_Model_data n x1 x2 u = some w ∧ z.1 = w.1 ∧ I (k + 1) z.2 w.2) ∧
  (∀ k t u x1 x2, k < 512 → I k t u → ∃ z w, m_Reader_quantiser n x1 x2 t = some z ∧ m_Model_quantiser n x1 x2 u = some w ∧ z.1 = w.1 ∧ I (k + 1) z.2 w.2) ∧
  (∀ k t u x1 x2 x3, k < 512 → I k t u → ∃ z w, m_Reader_word n x1 x2 x3 t = some z ∧ m_Model_word n x1 x2 x3 u = some w ∧ z.1 = w.1 ∧ I (k + 1) z.2 w.2) ∧
  (∀ k t u x1, k < 512 → I k t u → ∃ z w, m_Reader_look n x1 t = some z ∧ m_Model_look n x1 u = some w ∧ z.1 = w.1 ∧ I (k + 1) z.2 w.2)

set_option maxHeartbeats 8000000 in
set_option maxRecDepth 100000 in
theorem law_loop {p : Program} {e : Env} {s : State} {m : MethodId} {below : List Frame} {meth : Method} {c : Code} (l : Launch) {b L : Nat} {xs : Nat → Int32} (hL : L ≤ 2048) (dC : Nat → ClassId) (dI : Nat → Nat → Nat) (cI cB cJ cZ : ClassId) (a bb : Nat → Nat) (n : Nat) (I : Nat → St → St → Prop) (hOK : pureOK n I) (hX : va_X b L xs s s.heap) (hbl : b < s.heap.size) (hr : meth.sig.returnType = ret) (hlocks : meth.locks = false) (X : jX p s m #[Value.ref b] c code 4 lw_tbl "SegmentReaderLaw" (dC, dI) vwCl (tyA cI cB cJ cZ) (fun q : Nat => s.heap.size ≤ q)) :
    ∀ (r k i : Nat) (uu : Nat × Nat × Nat) (t u : St), i = 4 * k → i ≤ 2048 → 513 ≤ r + k → I k t u → J p l e room_1 s m #[Value.ref b] below meth c 4 (dC, dI) vwCl (fun q : Nat => s.heap.size ≤ q) (lw_Z below #[Value.ref b] s) (36 + (ph t - 96)) (97679 + 2 * (ph t - 96)) 18 [(3, .int (nI i)), (2, .ref (bb 0)), (1, .ref (a 0)), (0, .ref b)] [] (wO cI cB cJ cZ (aU a uu) t ++ wM cI cB cJ cZ bb u) := by
  obtain ⟨hph, hskip, hgive, hwipe, hread, hsegment, hframe, hcomponent, hscan, hdata, hquantiser, hword, hlook⟩ := hOK
  have hbA : ¬ (fun q : Nat => s.heap.size ≤ q) b := Nat.not_le.mpr hbl
  intro r
  induction r with
  | zero => intro k i uu t u h1 h2 h3; omega
  | succ r ih =>
    intro k i uu t u h1 h2 h3 hI
    have hb1 := hph _ _ _ hI
    refine J_iload_n X d_Law_law_18 0 rfl rfl ?_
    refine J_aload_n X d_Law_law_19 3 rfl rfl ?_
    refine J_slen X hX hbl hbA d_Law_law_20 ?_
    refine J_iconst (v := 4) X d_Law_law_21 (by decide) ?_
    refine J_isub X d_Law_law_22 ?_
    refine J_icmp_gt X 439 d_Law_law_23 (by decide) (fun _ => ?_) (fun c23 => ?_)
    · refine J_iconst (v := 1) X d_Law_law_439 (by decide) ?_
      intro ls H locs hl hP hD hS
      refine W.widen (k := 600000) (n := 7302250) (by show 36 + (ph t - 96) ≤ 600000; omega) (by show 97679 + 2 * (ph t - 96) ≤ 7302250; omega) ?_
      refine va_forget (fun q hq => hS.2.2 q hq) ?_
      exact lw_ret X.1 X.2.1 hr hlocks d_Law_law_440
    have hgo := law_go hL h2 c23
    have hk : k < 512 := by omega
    have h0 : vp_in (nI i) L := law_in 0 (by omega) hL hgo rfl
    have h1 : vp_in (nI i + 1) L := law_in 1 (by omega) hL hgo (nI_add i 1)
    have h2 : vp_in (nI i + 2) L := law_in 2 (by omega) hL hgo (nI_add i 2)
    have h3 : vp_in (nI i + 3) L := law_in 3 (by omega) hL hgo (nI_add i 3)
    have hnext : ∀ (uu : Nat × Nat × Nat) (t2 u2 : St), I (k + 1) t2 u2 → J p l e room_1 s m #[Value.ref b] below meth c 4 (dC, dI) vwCl (fun q : Nat => s.heap.size ≤ q) (lw_Z below #[Value.ref b] s) (36 + (ph t2 - 96)) (97679 + 2 * (ph t2 - 96)) 433 [(3, .int (nI i)), (2, .ref (bb 0)), (1, .ref (a 0)), (0, .ref b)] [] (wO cI cB cJ cZ (aU a uu) t2 ++ wM cI cB cJ cZ bb u2) := by
      intro uu t2 u2 hI2
      refine J_iinc (v := nI (i + 4)) X [(3, .int (nI (i + 4))), (2, .ref (bb 0)), (1, .ref (a 0)), (0, .ref b)] d_Law_law_433 0 rfl (nI_add i 4) (by decide) rfl ?_
      refine J_goto X 18 d_Law_law_436 (by decide) ?_
      exact ih (k + 1) (i + 4) uu t2 u2 (by omega) (by omega) (by omega) hI2
    refine J_aload_n X d_Law_law_26 3 rfl rfl ?_
    refine J_iload_n X d_Law_law_27 0 rfl rfl ?_
    refine J_sld X hX hbl hbA h0 d_Law_law_28 ?_
    refine J_bipush (v := (15 : Int32)) X d_Law_law_29 (by decide) ?_
    refine J_iand X d_Law_law_31 ?_
    obtain ⟨y, hy⟩ : ∃ y, y = (xs (nI i).toNatClampNeg) &&& (15 : Int32) := ⟨_, rfl⟩
    rw [← hy]
    by_cases c0 : y = (0 : Int32)
    · refine J_tableIn X 92 d_Law_law_32 (by rw [c0]; decide) (by rw [c0]; decide) (by rw [c0] <;> rfl) (by decide) ?_
      obtain ⟨z, w, hz, hw, hzw, hI2⟩ := hgive k t u ((((xs (nI i + 1).toNatClampNeg).toInt64 <<< ((32 : Int32).toInt64 &&& 63)) ||| ((xs (nI i + 2).toNatClampNeg).toInt64 &&& (4294967295 : Int64)))) (xs (nI i + 3).toNatClampNeg) hk hI
      have hb2 := hph _ _ _ hI2
      have hp2 : ph t ≤ ph z.2 := p_Reader_give hz
      refine J_aload_n X d_Law_law_92 2 rfl rfl ?_
      refine J_aload_n X d_Law_law_93 3 rfl rfl ?_
      refine J_iload_n X d_Law_law_94 0 rfl rfl ?_
      refine J_iconst (v := 1) X d_Law_law_95 (by decide) ?_
      refine J_iadd X d_Law_law_96 ?_
      refine J_sld X hX hbl hbA h1 d_Law_law_97 ?_
      refine J_i2l X d_Law_law_98 ?_
      refine J_bipush (v := (32 : Int32)) X d_Law_law_99 (by decide) ?_
      refine J_lshl X d_Law_law_101 ?_
      refine J_aload_n X d_Law_law_102 3 rfl rfl ?_
      refine J_iload_n X d_Law_law_103 0 rfl rfl ?_
      refine J_iconst (v := 2) X d_Law_law_104 (by decide) ?_
      refine J_iadd X d_Law_law_105 ?_
      refine J_sld X hX hbl hbA h2 d_Law_law_106 ?_
      refine J_i2l X d_Law_law_107 ?_
      refine J_ldc2 (v := (4294967295 : Int64)) X (awL _ k_co_Law_13) d_Law_law_108 ?_
      refine J_land X d_Law_law_111 ?_
      refine J_lor X d_Law_law_112 ?_
      refine J_aload_n X d_Law_law_113 3 rfl rfl ?_
      refine J_iload_n X d_Law_law_114 0 rfl rfl ?_
      refine J_iconst (v := 3) X d_Law_law_115 (by decide) ?_
      refine J_iadd X d_Law_law_116 ?_
      refine J_sld X hX hbl hbA h3 d_Law_law_117 ?_
      refine J_callVi (n := 2) (S := Nat × Nat × Nat) (wc := wO cI cB cJ cZ (aU a uu) t) (wr := wM cI cB cJ cZ bb u) (r := z.1) (w1 := fun q : Nat × Nat × Nat => wO cI cB cJ cZ (aU (aU a uu) q) z.2) X [0, 1, 2, 3, 4, 5, 6, 7, 8, 9, 10, 11, 12, 13, 14, 15] [16, 17, 18, 19, 20, 21, 22, 23, 24, 25, 26, 27, 28, 29, 30, 31, 32, 33, 34, 35] rfl rfl rfl rfl rfl (by decide) [.long (((xs (nI i + 1).toNatClampNeg).toInt64 <<< ((32 : Int32).toInt64 &&& 63)) ||| ((xs (nI i + 2).toNatClampNeg).toInt64 &&& (4294967295 : Int64))), .int (xs (nI i + 3).toNatClampNeg)] [] (ct_Reader_give l dC dI cI cB cJ cZ (aU a uu) n (((xs (nI i + 1).toNatClampNeg).toInt64 <<< ((32 : Int32).toInt64 &&& 63)) ||| ((xs (nI i + 2).toNatClampNeg).toInt64 &&& (4294967295 : Int64))) (xs (nI i + 3).toNatClampNeg) t hz) (aw_V awL k_ml_Law_15 k_im_Reader_give k_se_Reader_give k_in_Reader k_cd_Reader_give) rfl (by decide +kernel) ⟨Nat.le_of_ble_eq_true rfl, Nat.le_of_ble_eq_true rfl⟩ (q0 := 0) rfl rfl rfl rfl (Nat.le_of_ble_eq_true rfl) d_Law_law_118 ⟨(by show 36 + (ph t - 96) + (ph z.2 - ph t) ≤ 600000; omega), (by show 97679 + 2 * (ph t - 96) + 2 * (ph z.2 - ph t) ≤ 7302250; omega)⟩ (fun uu => ?_)
      refine J_sub [20, 21, 22, 23, 24, 25, 26, 27, 28, 29, 30, 31, 32, 33, 34, 35, 0, 1, 2, 3, 4, 5, 6, 7, 8, 9, 10, 11, 12, 13, 14, 15, 16, 17, 18, 19] (wO cI cB cJ cZ (aU a uu) z.2 ++ wM cI cB cJ cZ bb u) rfl rfl rfl ?_
      refine J_widen (36 + (ph z.2 - 96)) (97679 + 2 * (ph z.2 - 96)) (by show 36 + (ph t - 96) + (ph z.2 - ph t) ≤ _; omega) (by show 97679 + 2 * (ph t - 96) + 2 * (ph z.2 - ph t) ≤ _; omega) ?_
      refine J_aload_n X d_Law_law_121 1 rfl rfl ?_
      refine J_aload_n X d_Law_law_122 3 rfl rfl ?_
      refine J_iload_n X d_Law_law_123 0 rfl rfl ?_
      refine J_iconst (v := 1) X d_Law_law_124 (by decide) ?_
      refine J_iadd X d_Law_law_125 ?_
      refine J_sld X hX hbl hbA h1 d_Law_law_126 ?_
      refine J_i2l X d_Law_law_127 ?_
      refine J_bipush (v := (32 : Int32)) X d_Law_law_128 (by decide) ?_
      refine J_lshl X d_Law_law_130 ?_
      refine J_aload_n X d_Law_law_131 3 rfl rfl ?_
      refine J_iload_n X d_Law_law_132 0 rfl rfl ?_
      refine J_iconst (v := 2) X d_Law_law_133 (by decide) ?_
      refine J_iadd X d_Law_law_134 ?_
      refine J_sld X hX hbl hbA h2 d_Law_law_135 ?_
      refine J_i2l X d_Law_law_136 ?_
      refine J_ldc2 (v := (4294967295 : Int64)) X (awL _ k_co_Law_13) d_Law_law_137 ?_
      refine J_land X d_Law_law_140 ?_
      refine J_lor X d_Law_law_141 ?_
      refine J_aload_n X d_Law_law_142 3 rfl rfl ?_
      refine J_iload_n X d_Law_law_143 0 rfl rfl ?_
      refine J_iconst (v := 3) X d_Law_law_144 (by decide) ?_
      refine J_iadd X d_Law_law_145 ?_
      refine J_sld X hX hbl hbA h3 d_Law_law_146 ?_
      refine J_callVi (n := 2) (S := Unit) (wc := wM cI cB cJ cZ bb u) (wr := wO cI cB cJ cZ (aU a uu) z.2) (r := w.1) (w1 := fun _ : Unit => wM cI cB cJ cZ bb w.2) X [16, 17, 18, 19, 20, 21, 22, 23, 24, 25, 26, 27, 28, 29, 30, 31, 32, 33, 34, 35] [0, 1, 2, 3, 4, 5, 6, 7, 8, 9, 10, 11, 12, 13, 14, 15] rfl rfl rfl rfl rfl (by decide) [.long (((xs (nI i + 1).toNatClampNeg).toInt64 <<< ((32 : Int32).toInt64 &&& 63)) ||| ((xs (nI i + 2).toNatClampNeg).toInt64 &&& (4294967295 : Int64))), .int (xs (nI i + 3).toNatClampNeg)] [.int z.1] (ct_Model_give l dC dI cI cB cJ cZ bb n (((xs (nI i + 1).toNatClampNeg).toInt64 <<< ((32 : Int32).toInt64 &&& 63)) ||| ((xs (nI i + 2).toNatClampNeg).toInt64 &&& (4294967295 : Int64))) (xs (nI i + 3).toNatClampNeg) u hw) (aw_V awL k_ml_Law_19 k_im_Model_give k_se_Model_give k_in_Model k_cd_Model_give) rfl (by decide +kernel) ⟨Nat.le_of_ble_eq_true rfl, Nat.le_of_ble_eq_true rfl⟩ (q0 := 0) rfl rfl rfl rfl (Nat.le_of_ble_eq_true rfl) d_Law_law_147 ⟨(by show 36 + (ph z.2 - 96) + 0 ≤ 600000; omega), (by show 97679 + 2 * (ph z.2 - 96) + 0 ≤ 7302250; omega)⟩ (fun _ => ?_)
      refine J_icmp_eq X 433 d_Law_law_150 (by decide) (fun _ => ?_) (fun c9 => absurd hzw c9)
      exact hnext uu z.2 w.2 hI2
    by_cases c1 : y = (1 : Int32)
    · refine J_tableIn X 155 d_Law_law_32 (by rw [c1]; decide) (by rw [c1]; decide) (by rw [c1] <;> rfl) (by decide) ?_
      obtain ⟨z, w, hz, hw, hI2⟩ := hwipe k t u hk hI
      have hb2 := hph _ _ _ hI2
      have hp2 : ph t = ph z := ph_eq (q_Reader_wipe hz)
      refine J_aload_n X d_Law_law_155 2 rfl rfl ?_
      refine J_callVv (n := 0) (S := Unit) (wc := wO cI cB cJ cZ (aU a uu) t) (wr := wM cI cB cJ cZ bb u) (w1 := fun _ : Unit => wO cI cB cJ cZ (aU a uu) z) X [0, 1, 2, 3, 4, 5, 6, 7, 8, 9, 10, 11, 12, 13, 14, 15] [16, 17, 18, 19, 20, 21, 22, 23, 24, 25, 26, 27, 28, 29, 30, 31, 32, 33, 34, 35] rfl rfl rfl rfl rfl (by decide) [] [] (ct_Reader_wipe l dC dI cI cB cJ cZ (aU a uu) n  t hz) (aw_V awL k_ml_Law_20 k_im_Reader_wipe k_se_Reader_wipe k_in_Reader k_cd_Reader_wipe) rfl (by decide +kernel) ⟨Nat.le_of_ble_eq_true rfl, Nat.le_of_ble_eq_true rfl⟩ (q0 := 0) rfl rfl rfl rfl (Nat.le_of_ble_eq_true rfl) d_Law_law_156 ⟨(by show 36 + (ph t - 96) + 0 ≤ 600000; omega), (by show 97679 + 2 * (ph t - 96) + 0 ≤ 7302250; omega)⟩ (fun _ => ?_)
      refine J_sub [20, 21, 22, 23, 24, 25, 26, 27, 28, 29, 30, 31, 32, 33, 34, 35, 0, 1, 2, 3, 4, 5, 6, 7, 8, 9, 10, 11, 12, 13, 14, 15, 16, 17, 18, 19] (wO cI cB cJ cZ (aU a uu) z ++ wM cI cB cJ cZ bb u) rfl rfl rfl ?_
      refine J_widen (36 + (ph z - 96)) (97679 + 2 * (ph z - 96)) (by show 36 + (ph t - 96) + 0 ≤ _; omega) (by show 97679 + 2 * (ph t - 96) + 0 ≤ _; omega) ?_
      refine J_aload_n X d_Law_law_159 1 rfl rfl ?_
      refine J_callVv (n := 0) (S := Unit) (wc := wM cI cB cJ cZ bb u) (wr := wO cI cB cJ cZ (aU a uu) z) (w1 := fun _ : Unit => wM cI cB cJ cZ bb w) X [16, 17, 18, 19, 20, 21, 22, 23, 24, 25, 26, 27, 28, 29, 30, 31, 32, 33, 34, 35] [0, 1, 2, 3, 4, 5, 6, 7, 8, 9, 10, 11, 12, 13, 14, 15] rfl rfl rfl rfl rfl (by decide) [] [] (ct_Model_wipe l dC dI cI cB cJ cZ bb n  u hw) (aw_V awL k_ml_Law_23 k_im_Model_wipe k_se_Model_wipe k_in_Model k_cd_Model_wipe) rfl (by decide +kernel) ⟨Nat.le_of_ble_eq_true rfl, Nat.le_of_ble_eq_true rfl⟩ (q0 := 0) rfl rfl rfl rfl (Nat.le_of_ble_eq_true rfl) d_Law_law_160 ⟨(by show 36 + (ph z - 96) + 0 ≤ 600000; omega), (by show 97679 + 2 * (ph z - 96) + 0 ≤ 7302250; omega)⟩ (fun _ => ?_)
      refine J_goto X 433 d_Law_law_163 (by decide) ?_
      exact hnext uu z w hI2
    by_cases c2 : y = (2 : Int32)
    · refine J_tableIn X 166 d_Law_law_32 (by rw [c2]; decide) (by rw [c2]; decide) (by rw [c2] <;> rfl) (by decide) ?_
      obtain ⟨z, w, hz, hw, hzw, hI2⟩ := hread k t u hk hI
      have hb2 := hph _ _ _ hI2
      have hp2 : ph t ≤ ph z.2 := p_Reader_read hz
      refine J_aload_n X d_Law_law_166 2 rfl rfl ?_
      refine J_callVi (n := 0) (S := Nat × Nat × Nat) (wc := wO cI cB cJ cZ (aU a uu) t) (wr := wM cI cB cJ cZ bb u) (r := z.1) (w1 := fun q : Nat × Nat × Nat => wO cI cB cJ cZ (aU (aU a uu) q) z.2) X [0, 1, 2, 3, 4, 5, 6, 7, 8, 9, 10, 11, 12, 13, 14, 15] [16, 17, 18, 19, 20, 21, 22, 23, 24, 25, 26, 27, 28, 29, 30, 31, 32, 33, 34, 35] rfl rfl rfl rfl rfl (by decide) [] [] (ct_Reader_read l dC dI cI cB cJ cZ (aU a uu) n  t hz) (aw_V awL k_ml_Law_24 k_im_Reader_read k_se_Reader_read k_in_Reader k_cd_Reader_read) rfl (by decide +kernel) ⟨Nat.le_of_ble_eq_true rfl, Nat.le_of_ble_eq_true rfl⟩ (q0 := 0) rfl rfl rfl rfl (Nat.le_of_ble_eq_true rfl) d_Law_law_167 ⟨(by show 36 + (ph t - 96) + (ph z.2 - ph t) ≤ 600000; omega), (by show 97679 + 2 * (ph t - 96) + 2 * (ph z.2 - ph t) ≤ 7302250; omega)⟩ (fun uu => ?_)
      refine J_sub [20, 21, 22, 23, 24, 25, 26, 27, 28, 29, 30, 31, 32, 33, 34, 35, 0, 1, 2, 3, 4, 5, 6, 7, 8, 9, 10, 11, 12, 13, 14, 15, 16, 17, 18, 19] (wO cI cB cJ cZ (aU a uu) z.2 ++ wM cI cB cJ cZ bb u) rfl rfl rfl ?_
      refine J_widen (36 + (ph z.2 - 96)) (97679 + 2 * (ph z.2 - 96)) (by show 36 + (ph t - 96) + (ph z.2 - ph t) ≤ _; omega) (by show 97679 + 2 * (ph t - 96) + 2 * (ph z.2 - ph t) ≤ _; omega) ?_
      refine J_aload_n X d_Law_law_170 1 rfl rfl ?_
      refine J_callVi (n := 0) (S := Unit) (wc := wM cI cB cJ cZ bb u) (wr := wO cI cB cJ cZ (aU a uu) z.2) (r := w.1) (w1 := fun _ : Unit => wM cI cB cJ cZ bb w.2) X [16, 17, 18, 19, 20, 21, 22, 23, 24, 25, 26, 27, 28, 29, 30, 31, 32, 33, 34, 35] [0, 1, 2, 3, 4, 5, 6, 7, 8, 9, 10, 11, 12, 13, 14, 15] rfl rfl rfl rfl rfl (by decide) [] [.int z.1] (ct_Model_read l dC dI cI cB cJ cZ bb n  u hw) (aw_V awL k_ml_Law_28 k_im_Model_read k_se_Model_read k_in_Model k_cd_Model_read) rfl (by decide +kernel) ⟨Nat.le_of_ble_eq_true rfl, Nat.le_of_ble_eq_true rfl⟩ (q0 := 0) rfl rfl rfl rfl (Nat.le_of_ble_eq_true rfl) d_Law_law_171 ⟨(by show 36 + (ph z.2 - 96) + 0 ≤ 600000; omega), (by show 97679 + 2 * (ph z.2 - 96) + 0 ≤ 7302250; omega)⟩ (fun _ => ?_)
      refine J_icmp_eq X 433 d_Law_law_174 (by decide) (fun _ => ?_) (fun c9 => absurd hzw c9)
      exact hnext uu z.2 w.2 hI2
    by_cases c3 : y = (3 : Int32)
    · refine J_tableIn X 179 d_Law_law_32 (by rw [c3]; decide) (by rw [c3]; decide) (by rw [c3] <;> rfl) (by decide) ?_
      obtain ⟨z, w, hz, hw, hzw, hI2⟩ := hsegment k t u (xs (nI i + 1).toNatClampNeg) (xs (nI i + 2).toNatClampNeg) hk hI
      have hb2 := hph _ _ _ hI2
      have hp2 : ph t = ph z.2 := ph_eq (q_Reader_segment hz)
      refine J_aload_n X d_Law_law_179 2 rfl rfl ?_
      refine J_aload_n X d_Law_law_180 3 rfl rfl ?_
      refine J_iload_n X d_Law_law_181 0 rfl rfl ?_
      refine J_iconst (v := 1) X d_Law_law_182 (by decide) ?_
      refine J_iadd X d_Law_law_183 ?_
      refine J_sld X hX hbl hbA h1 d_Law_law_184 ?_
      refine J_aload_n X d_Law_law_185 3 rfl rfl ?_
      refine J_iload_n X d_Law_law_186 0 rfl rfl ?_
      refine J_iconst (v := 2) X d_Law_law_187 (by decide) ?_
      refine J_iadd X d_Law_law_188 ?_
      refine J_sld X hX hbl hbA h2 d_Law_law_189 ?_
      refine J_callVi (n := 2) (S := Unit) (wc := wO cI cB cJ cZ (aU a uu) t) (wr := wM cI cB cJ cZ bb u) (r := z.1) (w1 := fun _ : Unit => wO cI cB cJ cZ (aU a uu) z.2) X [0, 1, 2, 3, 4, 5, 6, 7, 8, 9, 10, 11, 12, 13, 14, 15] [16, 17, 18, 19, 20, 21, 22, 23, 24, 25, 26, 27, 28, 29, 30, 31, 32, 33, 34, 35] rfl rfl rfl rfl rfl (by decide) [.int (xs (nI i + 1).toNatClampNeg), .int (xs (nI i + 2).toNatClampNeg)] [] (ct_Reader_segment l dC dI cI cB cJ cZ (aU a uu) n (xs (nI i + 1).toNatClampNeg) (xs (nI i + 2).toNatClampNeg) t hz) (aw_V awL k_ml_Law_29 k_im_Reader_segment k_se_Reader_segment k_in_Reader k_cd_Reader_segment) rfl (by decide +kernel) ⟨Nat.le_of_ble_eq_true rfl, Nat.le_of_ble_eq_true rfl⟩ (q0 := 0) rfl rfl rfl rfl (Nat.le_of_ble_eq_true rfl) d_Law_law_190 ⟨(by show 36 + (ph t - 96) + 0 ≤ 600000; omega), (by show 97679 + 2 * (ph t - 96) + 0 ≤ 7302250; omega)⟩ (fun _ => ?_)
      refine J_sub [20, 21, 22, 23, 24, 25, 26, 27, 28, 29, 30, 31, 32, 33, 34, 35, 0, 1, 2, 3, 4, 5, 6, 7, 8, 9, 10, 11, 12, 13, 14, 15, 16, 17, 18, 19] (wO cI cB cJ cZ (aU a uu) z.2 ++ wM cI cB cJ cZ bb u) rfl rfl rfl ?_
      refine J_widen (36 + (ph z.2 - 96)) (97679 + 2 * (ph z.2 - 96)) (by show 36 + (ph t - 96) + 0 ≤ _; omega) (by show 97679 + 2 * (ph t - 96) + 0 ≤ _; omega) ?_
      refine J_aload_n X d_Law_law_193 1 rfl rfl ?_
      refine J_aload_n X d_Law_law_194 3 rfl rfl ?_
      refine J_iload_n X d_Law_law_195 0 rfl rfl ?_
      refine J_iconst (v := 1) X d_Law_law_196 (by decide) ?_
      refine J_iadd X d_Law_law_197 ?_
      refine J_sld X hX hbl hbA h1 d_Law_law_198 ?_
      refine J_aload_n X d_Law_law_199 3 rfl rfl ?_
      refine J_iload_n X d_Law_law_200 0 rfl rfl ?_
      refine J_iconst (v := 2) X d_Law_law_201 (by decide) ?_
      refine J_iadd X d_Law_law_202 ?_
      refine J_sld X hX hbl hbA h2 d_Law_law_203 ?_
      refine J_callVi (n := 2) (S := Unit) (wc := wM cI cB cJ cZ bb u) (wr := wO cI cB cJ cZ (aU a uu) z.2) (r := w.1) (w1 := fun _ : Unit => wM cI cB cJ cZ bb w.2) X [16, 17, 18, 19, 20, 21, 22, 23, 24, 25, 26, 27, 28, 29, 30, 31, 32, 33, 34, 35] [0, 1, 2, 3, 4, 5, 6, 7, 8, 9, 10, 11, 12, 13, 14, 15] rfl rfl rfl rfl rfl (by decide) [.int (xs (nI i + 1).toNatClampNeg), .int (xs (nI i + 2).toNatClampNeg)] [.int z.1] (ct_Model_segment l dC dI cI cB cJ cZ bb n (xs (nI i + 1).toNatClampNeg) (xs (nI i + 2).toNatClampNeg) u hw) (aw_V awL k_ml_Law_33 k_im_Model_segment k_se_Model_segment k_in_Model k_cd_Model_segment) rfl (by decide +kernel) ⟨Nat.le_of_ble_eq_true rfl, Nat.le_of_ble_eq_true rfl⟩ (q0 := 0) rfl rfl rfl rfl (Nat.le_of_ble_eq_true rfl) d_Law_law_204 ⟨(by show 36 + (ph z.2 - 96) + 0 ≤ 600000; omega), (by show 97679 + 2 * (ph z.2 - 96) + 0 ≤ 7302250; omega)⟩ (fun _ => ?_)
      refine J_icmp_eq X 433 d_Law_law_207 (by decide) (fun _ => ?_) (fun c9 => absurd hzw c9)
      exact hnext uu z.2 w.2 hI2
    by_cases c4 : y = (4 : Int32)
    · refine J_tableIn X 212 d_Law_law_32 (by rw [c4]; decide) (by rw [c4]; decide) (by rw [c4] <;> rfl) (by decide) ?_
      obtain ⟨z, w, hz, hw, hzw, hI2⟩ := hframe k t u (xs (nI i + 1).toNatClampNeg) hk hI
      have hb2 := hph _ _ _ hI2
      have hp2 : ph t = ph z.2 := ph_eq (q_Reader_frame hz)
      refine J_aload_n X d_Law_law_212 2 rfl rfl ?_
      refine J_aload_n X d_Law_law_213 3 rfl rfl ?_
      refine J_iload_n X d_Law_law_214 0 rfl rfl ?_
      refine J_iconst (v := 1) X d_Law_law_215 (by decide) ?_
      refine J_iadd X d_Law_law_216 ?_
      refine J_sld X hX hbl hbA h1 d_Law_law_217 ?_
      refine J_callVi (n := 1) (S := Unit) (wc := wO cI cB cJ cZ (aU a uu) t) (wr := wM cI cB cJ cZ bb u) (r := z.1) (w1 := fun _ : Unit => wO cI cB cJ cZ (aU a uu) z.2) X [0, 1, 2, 3, 4, 5, 6, 7, 8, 9, 10, 11, 12, 13, 14, 15] [16, 17, 18, 19, 20, 21, 22, 23, 24, 25, 26, 27, 28, 29, 30, 31, 32, 33, 34, 35] rfl rfl rfl rfl rfl (by decide) [.int (xs (nI i + 1).toNatClampNeg)] [] (ct_Reader_frame l dC dI cI cB cJ cZ (aU a uu) n (xs (nI i + 1).toNatClampNeg) t hz) (aw_V awL k_ml_Law_34 k_im_Reader_frame k_se_Reader_frame k_in_Reader k_cd_Reader_frame) rfl (by decide +kernel) ⟨Nat.le_of_ble_eq_true rfl, Nat.le_of_ble_eq_true rfl⟩ (q0 := 0) rfl rfl rfl rfl (Nat.le_of_ble_eq_true rfl) d_Law_law_218 ⟨(by show 36 + (ph t - 96) + 0 ≤ 600000; omega), (by show 97679 + 2 * (ph t - 96) + 0 ≤ 7302250; omega)⟩ (fun _ => ?_)
      refine J_sub [20, 21, 22, 23, 24, 25, 26, 27, 28, 29, 30, 31, 32, 33, 34, 35, 0, 1, 2, 3, 4, 5, 6, 7, 8, 9, 10, 11, 12, 13, 14, 15, 16, 17, 18, 19] (wO cI cB cJ cZ (aU a uu) z.2 ++ wM cI cB cJ cZ bb u) rfl rfl rfl ?_
      refine J_widen (36 + (ph z.2 - 96)) (97679 + 2 * (ph z.2 - 96)) (by show 36 + (ph t - 96) + 0 ≤ _; omega) (by show 97679 + 2 * (ph t - 96) + 0 ≤ _; omega) ?_
      refine J_aload_n X d_Law_law_221 1 rfl rfl ?_
      refine J_aload_n X d_Law_law_222 3 rfl rfl ?_
      refine J_iload_n X d_Law_law_223 0 rfl rfl ?_
      refine J_iconst (v := 1) X d_Law_law_224 (by decide) ?_
      refine J_iadd X d_Law_law_225 ?_
      refine J_sld X hX hbl hbA h1 d_Law_law_226 ?_
      refine J_callVi (n := 1) (S := Unit) (wc := wM cI cB cJ cZ bb u) (wr := wO cI cB cJ cZ (aU a uu) z.2) (r := w.1) (w1 := fun _ : Unit => wM cI cB cJ cZ bb w.2) X [16, 17, 18, 19, 20, 21, 22, 23, 24, 25, 26, 27, 28, 29, 30, 31, 32, 33, 34, 35] [0, 1, 2, 3, 4, 5, 6, 7, 8, 9, 10, 11, 12, 13, 14, 15] rfl rfl rfl rfl rfl (by decide) [.int (xs (nI i + 1).toNatClampNeg)] [.int z.1] (ct_Model_frame l dC dI cI cB cJ cZ bb n (xs (nI i + 1).toNatClampNeg) u hw) (aw_V awL k_ml_Law_38 k_im_Model_frame k_se_Model_frame k_in_Model k_cd_Model_frame) rfl (by decide +kernel) ⟨Nat.le_of_ble_eq_true rfl, Nat.le_of_ble_eq_true rfl⟩ (q0 := 0) rfl rfl rfl rfl (Nat.le_of_ble_eq_true rfl) d_Law_law_227 ⟨(by show 36 + (ph z.2 - 96) + 0 ≤ 600000; omega), (by show 97679 + 2 * (ph z.2 - 96) + 0 ≤ 7302250; omega)⟩ (fun _ => ?_)
      refine J_icmp_eq X 433 d_Law_law_230 (by decide) (fun _ => ?_) (fun c9 => absurd hzw c9)
      exact hnext uu z.2 w.2 hI2
    by_cases c5 : y = (5 : Int32)
    · refine J_tableIn X 235 d_Law_law_32 (by rw [c5]; decide) (by rw [c5]; decide) (by rw [c5] <;> rfl) (by decide) ?_
      obtain ⟨z, w, hz, hw, hzw, hI2⟩ := hcomponent k t u (xs (nI i + 1).toNatClampNeg) (xs (nI i + 2).toNatClampNeg) hk hI
      have hb2 := hph _ _ _ hI2
      have hp2 : ph t = ph z.2 := ph_eq (q_Reader_component hz)
      refine J_aload_n X d_Law_law_235 2 rfl rfl ?_
      refine J_aload_n X d_Law_law_236 3 rfl rfl ?_
      refine J_iload_n X d_Law_law_237 0 rfl rfl ?_
      refine J_iconst (v := 1) X d_Law_law_238 (by decide) ?_
      refine J_iadd X d_Law_law_239 ?_
      refine J_sld X hX hbl hbA h1 d_Law_law_240 ?_
      refine J_aload_n X d_Law_law_241 3 rfl rfl ?_
      refine J_iload_n X d_Law_law_242 0 rfl rfl ?_
      refine J_iconst (v := 2) X d_Law_law_243 (by decide) ?_
      refine J_iadd X d_Law_law_244 ?_
      refine J_sld X hX hbl hbA h2 d_Law_law_245 ?_
      refine J_callVi (n := 2) (S := Unit) (wc := wO cI cB cJ cZ (aU a uu) t) (wr := wM cI cB cJ cZ bb u) (r := z.1) (w1 := fun _ : Unit => wO cI cB cJ cZ (aU a uu) z.2) X [0, 1, 2, 3, 4, 5, 6, 7, 8, 9, 10, 11, 12, 13, 14, 15] [16, 17, 18, 19, 20, 21, 22, 23, 24, 25, 26, 27, 28, 29, 30, 31, 32, 33, 34, 35] rfl rfl rfl rfl rfl (by decide) [.int (xs (nI i + 1).toNatClampNeg), .int (xs (nI i + 2).toNatClampNeg)] [] (ct_Reader_component l dC dI cI cB cJ cZ (aU a uu) n (xs (nI i + 1).toNatClampNeg) (xs (nI i + 2).toNatClampNeg) t hz) (aw_V awL k_ml_Law_39 k_im_Reader_component k_se_Reader_component k_in_Reader k_cd_Reader_component) rfl (by decide +kernel) ⟨Nat.le_of_ble_eq_true rfl, Nat.le_of_ble_eq_true rfl⟩ (q0 := 0) rfl rfl rfl rfl (Nat.le_of_ble_eq_true rfl) d_Law_law_246 ⟨(by show 36 + (ph t - 96) + 0 ≤ 600000; omega), (by show 97679 + 2 * (ph t - 96) + 0 ≤ 7302250; omega)⟩ (fun _ => ?_)
      refine J_sub [20, 21, 22, 23, 24, 25, 26, 27, 28, 29, 30, 31, 32, 33, 34, 35, 0, 1, 2, 3, 4, 5, 6, 7, 8, 9, 10, 11, 12, 13, 14, 15, 16, 17, 18, 19] (wO cI cB cJ cZ (aU a uu) z.2 ++ wM cI cB cJ cZ bb u) rfl rfl rfl ?_
      refine J_widen (36 + (ph z.2 - 96)) (97679 + 2 * (ph z.2 - 96)) (by show 36 + (ph t - 96) + 0 ≤ _; omega) (by show 97679 + 2 * (ph t - 96) + 0 ≤ _; omega) ?_
      refine J_aload_n X d_Law_law_249 1 rfl rfl ?_
      refine J_aload_n X d_Law_law_250 3 rfl rfl ?_
      refine J_iload_n X d_Law_law_251 0 rfl rfl ?_
      refine J_iconst (v := 1) X d_Law_law_252 (by decide) ?_
      refine J_iadd X d_Law_law_253 ?_
      refine J_sld X hX hbl hbA h1 d_Law_law_254 ?_
      refine J_aload_n X d_Law_law_255 3 rfl rfl ?_
      refine J_iload_n X d_Law_law_256 0 rfl rfl ?_
      refine J_iconst (v := 2) X d_Law_law_257 (by decide) ?_
      refine J_iadd X d_Law_law_258 ?_
      refine J_sld X hX hbl hbA h2 d_Law_law_259 ?_
      refine J_callVi (n := 2) (S := Unit) (wc := wM cI cB cJ cZ bb u) (wr := wO cI cB cJ cZ (aU a uu) z.2) (r := w.1) (w1 := fun _ : Unit => wM cI cB cJ cZ bb w.2) X [16, 17, 18, 19, 20, 21, 22, 23, 24, 25, 26, 27, 28, 29, 30, 31, 32, 33, 34, 35] [0, 1, 2, 3, 4, 5, 6, 7, 8, 9, 10, 11, 12, 13, 14, 15] rfl rfl rfl rfl rfl (by decide) [.int (xs (nI i + 1).toNatClampNeg), .int (xs (nI i + 2).toNatClampNeg)] [.int z.1] (ct_Model_component l dC dI cI cB cJ cZ bb n (xs (nI i + 1).toNatClampNeg) (xs (nI i + 2).toNatClampNeg) u hw) (aw_V awL k_ml_Law_42 k_im_Model_component k_se_Model_component k_in_Model k_cd_Model_component) rfl (by decide +kernel) ⟨Nat.le_of_ble_eq_true rfl, Nat.le_of_ble_eq_true rfl⟩ (q0 := 0) rfl rfl rfl rfl (Nat.le_of_ble_eq_true rfl) d_Law_law_260 ⟨(by show 36 + (ph z.2 - 96) + 0 ≤ 600000; omega), (by show 97679 + 2 * (ph z.2 - 96) + 0 ≤ 7302250; omega)⟩ (fun _ => ?_)
      refine J_icmp_eq X 433 d_Law_law_263 (by decide) (fun _ => ?_) (fun c9 => absurd hzw c9)
      exact hnext uu z.2 w.2 hI2
    by_cases c6 : y = (6 : Int32)
    · refine J_tableIn X 268 d_Law_law_32 (by rw [c6]; decide) (by rw [c6]; decide) (by rw [c6] <;> rfl) (by decide) ?_
      obtain ⟨z, w, hz, hw, hzw, hI2⟩ := hscan k t u (xs (nI i + 1).toNatClampNeg) (xs (nI i + 2).toNatClampNeg) hk hI
      have hb2 := hph _ _ _ hI2
      have hp2 : ph t = ph z.2 := ph_eq (q_Reader_scan hz)
      refine J_aload_n X d_Law_law_268 2 rfl rfl ?_
      refine J_aload_n X d_Law_law_269 3 rfl rfl ?_
      refine J_iload_n X d_Law_law_270 0 rfl rfl ?_
      refine J_iconst (v := 1) X d_Law_law_271 (by decide) ?_
      refine J_iadd X d_Law_law_272 ?_
      refine J_sld X hX hbl hbA h1 d_Law_law_273 ?_
      refine J_aload_n X d_Law_law_274 3 rfl rfl ?_
      refine J_iload_n X d_Law_law_275 0 rfl rfl ?_
      refine J_iconst (v := 2) X d_Law_law_276 (by decide) ?_
      refine J_iadd X d_Law_law_277 ?_
      refine J_sld X hX hbl hbA h2 d_Law_law_278 ?_
      refine J_callVi (n := 2) (S := Unit) (wc := wO cI cB cJ cZ (aU a uu) t) (wr := wM cI cB cJ cZ bb u) (r := z.1) (w1 := fun _ : Unit => wO cI cB cJ cZ (aU a uu) z.2) X [0, 1, 2, 3, 4, 5, 6, 7, 8, 9, 10, 11, 12, 13, 14, 15] [16, 17, 18, 19, 20, 21, 22, 23, 24, 25, 26, 27, 28, 29, 30, 31, 32, 33, 34, 35] rfl rfl rfl rfl rfl (by decide) [.int (xs (nI i + 1).toNatClampNeg), .int (xs (nI i + 2).toNatClampNeg)] [] (ct_Reader_scan l dC dI cI cB cJ cZ (aU a uu) n (xs (nI i + 1).toNatClampNeg) (xs (nI i + 2).toNatClampNeg) t hz) (aw_V awL k_ml_Law_43 k_im_Reader_scan k_se_Reader_scan k_in_Reader k_cd_Reader_scan) rfl (by decide +kernel) ⟨Nat.le_of_ble_eq_true rfl, Nat.le_of_ble_eq_true rfl⟩ (q0 := 0) rfl rfl rfl rfl (Nat.le_of_ble_eq_true rfl) d_Law_law_279 ⟨(by show 36 + (ph t - 96) + 0 ≤ 600000; omega), (by show 97679 + 2 * (ph t - 96) + 0 ≤ 7302250; omega)⟩ (fun _ => ?_)
      refine J_sub [20, 21, 22, 23, 24, 25, 26, 27, 28, 29, 30, 31, 32, 33, 34, 35, 0, 1, 2, 3, 4, 5, 6, 7, 8, 9, 10, 11, 12, 13, 14, 15, 16, 17, 18, 19] (wO cI cB cJ cZ (aU a uu) z.2 ++ wM cI cB cJ cZ bb u) rfl rfl rfl ?_
      refine J_widen (36 + (ph z.2 - 96)) (97679 + 2 * (ph z.2 - 96)) (by show 36 + (ph t - 96) + 0 ≤ _; omega) (by show 97679 + 2 * (ph t - 96) + 0 ≤ _; omega) ?_
      refine J_aload_n X d_Law_law_282 1 rfl rfl ?_
      refine J_aload_n X d_Law_law_283 3 rfl rfl ?_
      refine J_iload_n X d_Law_law_284 0 rfl rfl ?_
      refine J_iconst (v := 1) X d_Law_law_285 (by decide) ?_
      refine J_iadd X d_Law_law_286 ?_
      refine J_sld X hX hbl hbA h1 d_Law_law_287 ?_
      refine J_aload_n X d_Law_law_288 3 rfl rfl ?_
      refine J_iload_n X d_Law_law_289 0 rfl rfl ?_
      refine J_iconst (v := 2) X d_Law_law_290 (by decide) ?_
      refine J_iadd X d_Law_law_291 ?_
      refine J_sld X hX hbl hbA h2 d_Law_law_292 ?_
      refine J_callVi (n := 2) (S := Unit) (wc := wM cI cB cJ cZ bb u) (wr := wO cI cB cJ cZ (aU a uu) z.2) (r := w.1) (w1 := fun _ : Unit => wM cI cB cJ cZ bb w.2) X [16, 17, 18, 19, 20, 21, 22, 23, 24, 25, 26, 27, 28, 29, 30, 31, 32, 33, 34, 35] [0, 1, 2, 3, 4, 5, 6, 7, 8, 9, 10, 11, 12, 13, 14, 15] rfl rfl rfl rfl rfl (by decide) [.int (xs (nI i + 1).toNatClampNeg), .int (xs (nI i + 2).toNatClampNeg)] [.int z.1] (ct_Model_scan l dC dI cI cB cJ cZ bb n (xs (nI i + 1).toNatClampNeg) (xs (nI i + 2).toNatClampNeg) u hw) (aw_V awL k_ml_Law_46 k_im_Model_scan k_se_Model_scan k_in_Model k_cd_Model_scan) rfl (by decide +kernel) ⟨Nat.le_of_ble_eq_true rfl, Nat.le_of_ble_eq_true rfl⟩ (q0 := 0) rfl rfl rfl rfl (Nat.le_of_ble_eq_true rfl) d_Law_law_293 ⟨(by show 36 + (ph z.2 - 96) + 0 ≤ 600000; omega), (by show 97679 + 2 * (ph z.2 - 96) + 0 ≤ 7302250; omega)⟩ (fun _ => ?_)
      refine J_icmp_eq X 433 d_Law_law_296 (by decide) (fun _ => ?_) (fun c9 => absurd hzw c9)
      exact hnext uu z.2 w.2 hI2
    by_cases c7 : y = (7 : Int32)
    · refine J_tableIn X 301 d_Law_law_32 (by rw [c7]; decide) (by rw [c7]; decide) (by rw [c7] <;> rfl) (by decide) ?_
      obtain ⟨z, w, hz, hw, hzw, hI2⟩ := hdata k t u (xs (nI i + 1).toNatClampNeg) (xs (nI i + 2).toNatClampNeg) hk hI
      have hb2 := hph _ _ _ hI2
      have hp2 : ph t = ph z.2 := ph_eq (q_Reader_data hz)
      refine J_aload_n X d_Law_law_301 2 rfl rfl ?_
      refine J_aload_n X d_Law_law_302 3 rfl rfl ?_
      refine J_iload_n X d_Law_law_303 0 rfl rfl ?_
      refine J_iconst (v := 1) X d_Law_law_304 (by decide) ?_
      refine J_iadd X d_Law_law_305 ?_
      refine J_sld X hX hbl hbA h1 d_Law_law_306 ?_
      refine J_aload_n X d_Law_law_307 3 rfl rfl ?_
      refine J_iload_n X d_Law_law_308 0 rfl rfl ?_
      refine J_iconst (v := 2) X d_Law_law_309 (by decide) ?_
      refine J_iadd X d_Law_law_310 ?_
      refine J_sld X hX hbl hbA h2 d_Law_law_311 ?_
      refine J_callVi (n := 2) (S := Unit) (wc := wO cI cB cJ cZ (aU a uu) t) (wr := wM cI cB cJ cZ bb u) (r := z.1) (w1 := fun _ : Unit => wO cI cB cJ cZ (aU a uu) z.2) X [0, 1, 2, 3, 4, 5, 6, 7, 8, 9, 10, 11, 12, 13, 14, 15] [16, 17, 18, 19, 20, 21, 22, 23, 24, 25, 26, 27, 28, 29, 30, 31, 32, 33, 34, 35] rfl rfl rfl rfl rfl (by decide) [.int (xs (nI i + 1).toNatClampNeg), .int (xs (nI i + 2).toNatClampNeg)] [] (ct_Reader_data l dC dI cI cB cJ cZ (aU a uu) n (xs (nI i + 1).toNatClampNeg) (xs (nI i + 2).toNatClampNeg) t hz) (aw_V awL k_ml_Law_47 k_im_Reader_data k_se_Reader_data k_in_Reader k_cd_Reader_data) rfl (by decide +kernel) ⟨Nat.le_of_ble_eq_true rfl, Nat.le_of_ble_eq_true rfl⟩ (q0 := 0) rfl rfl rfl rfl (Nat.le_of_ble_eq_true rfl) d_Law_law_312 ⟨(by show 36 + (ph t - 96) + 0 ≤ 600000; omega), (by show 97679 + 2 * (ph t - 96) + 0 ≤ 7302250; omega)⟩ (fun _ => ?_)
      refine J_sub [20, 21, 22, 23, 24, 25, 26, 27, 28, 29, 30, 31, 32, 33, 34, 35, 0, 1, 2, 3, 4, 5, 6, 7, 8, 9, 10, 11, 12, 13, 14, 15, 16, 17, 18, 19] (wO cI cB cJ cZ (aU a uu) z.2 ++ wM cI cB cJ cZ bb u) rfl rfl rfl ?_
      refine J_widen (36 + (ph z.2 - 96)) (97679 + 2 * (ph z.2 - 96)) (by show 36 + (ph t - 96) + 0 ≤ _; omega) (by show 97679 + 2 * (ph t - 96) + 0 ≤ _; omega) ?_
      refine J_aload_n X d_Law_law_315 1 rfl rfl ?_
      refine J_aload_n X d_Law_law_316 3 rfl rfl ?_
      refine J_iload_n X d_Law_law_317 0 rfl rfl ?_
      refine J_iconst (v := 1) X d_Law_law_318 (by decide) ?_
      refine J_iadd X d_Law_law_319 ?_
      refine J_sld X hX hbl hbA h1 d_Law_law_320 ?_
      refine J_aload_n X d_Law_law_321 3 rfl rfl ?_
      refine J_iload_n X d_Law_law_322 0 rfl rfl ?_
      refine J_iconst (v := 2) X d_Law_law_323 (by decide) ?_
      refine J_iadd X d_Law_law_324 ?_
      refine J_sld X hX hbl hbA h2 d_Law_law_325 ?_
      refine J_callVi (n := 2) (S := Unit) (wc := wM cI cB cJ cZ bb u) (wr := wO cI cB cJ cZ (aU a uu) z.2) (r := w.1) (w1 := fun _ : Unit => wM cI cB cJ cZ bb w.2) X [16, 17, 18, 19, 20, 21, 22, 23, 24, 25, 26, 27, 28, 29, 30, 31, 32, 33, 34, 35] [0, 1, 2, 3, 4, 5, 6, 7, 8, 9, 10, 11, 12, 13, 14, 15] rfl rfl rfl rfl rfl (by decide) [.int (xs (nI i + 1).toNatClampNeg), .int (xs (nI i + 2).toNatClampNeg)] [.int z.1] (ct_Model_data l dC dI cI cB cJ cZ bb n (xs (nI i + 1).toNatClampNeg) (xs (nI i + 2).toNatClampNeg) u hw) (aw_V awL k_ml_Law_50 k_im_Model_data k_se_Model_data k_in_Model k_cd_Model_data) rfl (by decide +kernel) ⟨Nat.le_of_ble_eq_true rfl, Nat.le_of_ble_eq_true rfl⟩ (q0 := 0) rfl rfl rfl rfl (Nat.le_of_ble_eq_true rfl) d_Law_law_326 ⟨(by show 36 + (ph z.2 - 96) + 0 ≤ 600000; omega), (by show 97679 + 2 * (ph z.2 - 96) + 0 ≤ 7302250; omega)⟩ (fun _ => ?_)
      refine J_icmp_eq X 433 d_Law_law_329 (by decide) (fun _ => ?_) (fun c9 => absurd hzw c9)
      exact hnext uu z.2 w.2 hI2
    by_cases c8 : y = (8 : Int32)
    · refine J_tableIn X 334 d_Law_law_32 (by rw [c8]; decide) (by rw [c8]; decide) (by rw [c8] <;> rfl) (by decide) ?_
      obtain ⟨z, w, hz, hw, hzw, hI2⟩ := hquantiser k t u (xs (nI i + 1).toNatClampNeg) (xs (nI i + 2).toNatClampNeg) hk hI
      have hb2 := hph _ _ _ hI2
      have hp2 : ph t = ph z.2 := ph_eq (q_Reader_quantiser hz)
      refine J_aload_n X d_Law_law_334 2 rfl rfl ?_
      refine J_aload_n X d_Law_law_335 3 rfl rfl ?_
      refine J_iload_n X d_Law_law_336 0 rfl rfl ?_
      refine J_iconst (v := 1) X d_Law_law_337 (by decide) ?_
      refine J_iadd X d_Law_law_338 ?_
      refine J_sld X hX hbl hbA h1 d_Law_law_339 ?_
      refine J_aload_n X d_Law_law_340 3 rfl rfl ?_
      refine J_iload_n X d_Law_law_341 0 rfl rfl ?_
      refine J_iconst (v := 2) X d_Law_law_342 (by decide) ?_
      refine J_iadd X d_Law_law_343 ?_
      refine J_sld X hX hbl hbA h2 d_Law_law_344 ?_
      refine J_callVi (n := 2) (S := Unit) (wc := wO cI cB cJ cZ (aU a uu) t) (wr := wM cI cB cJ cZ bb u) (r := z.1) (w1 := fun _ : Unit => wO cI cB cJ cZ (aU a uu) z.2) X [0, 1, 2, 3, 4, 5, 6, 7, 8, 9, 10, 11, 12, 13, 14, 15] [16, 17, 18, 19, 20, 21, 22, 23, 24, 25, 26, 27, 28, 29, 30, 31, 32, 33, 34, 35] rfl rfl rfl rfl rfl (by decide) [.int (xs (nI i + 1).toNatClampNeg), .int (xs (nI i + 2).toNatClampNeg)] [] (ct_Reader_quantiser l dC dI cI cB cJ cZ (aU a uu) n (xs (nI i + 1).toNatClampNeg) (xs (nI i + 2).toNatClampNeg) t hz) (aw_V awL k_ml_Law_51 k_im_Reader_quantiser k_se_Reader_quantiser k_in_Reader k_cd_Reader_quantiser) rfl (by decide +kernel) ⟨Nat.le_of_ble_eq_true rfl, Nat.le_of_ble_eq_true rfl⟩ (q0 := 0) rfl rfl rfl rfl (Nat.le_of_ble_eq_true rfl) d_Law_law_345 ⟨(by show 36 + (ph t - 96) + 0 ≤ 600000; omega), (by show 97679 + 2 * (ph t - 96) + 0 ≤ 7302250; omega)⟩ (fun _ => ?_)
      refine J_sub [20, 21, 22, 23, 24, 25, 26, 27, 28, 29, 30, 31, 32, 33, 34, 35, 0, 1, 2, 3, 4, 5, 6, 7, 8, 9, 10, 11, 12, 13, 14, 15, 16, 17, 18, 19] (wO cI cB cJ cZ (aU a uu) z.2 ++ wM cI cB cJ cZ bb u) rfl rfl rfl ?_
      refine J_widen (36 + (ph z.2 - 96)) (97679 + 2 * (ph z.2 - 96)) (by show 36 + (ph t - 96) + 0 ≤ _; omega) (by show 97679 + 2 * (ph t - 96) + 0 ≤ _; omega) ?_
      refine J_aload_n X d_Law_law_348 1 rfl rfl ?_
      refine J_aload_n X d_Law_law_349 3 rfl rfl ?_
      refine J_iload_n X d_Law_law_350 0 rfl rfl ?_
      refine J_iconst (v := 1) X d_Law_law_351 (by decide) ?_
      refine J_iadd X d_Law_law_352 ?_
      refine J_sld X hX hbl hbA h1 d_Law_law_353 ?_
      refine J_aload_n X d_Law_law_354 3 rfl rfl ?_
      refine J_iload_n X d_Law_law_355 0 rfl rfl ?_
      refine J_iconst (v := 2) X d_Law_law_356 (by decide) ?_
      refine J_iadd X d_Law_law_357 ?_
      refine J_sld X hX hbl hbA h2 d_Law_law_358 ?_
      refine J_callVi (n := 2) (S := Unit) (wc := wM cI cB cJ cZ bb u) (wr := wO cI cB cJ cZ (aU a uu) z.2) (r := w.1) (w1 := fun _ : Unit => wM cI cB cJ cZ bb w.2) X [16, 17, 18, 19, 20, 21, 22, 23, 24, 25, 26, 27, 28, 29, 30, 31, 32, 33, 34, 35] [0, 1, 2, 3, 4, 5, 6, 7, 8, 9, 10, 11, 12, 13, 14, 15] rfl rfl rfl rfl rfl (by decide) [.int (xs (nI i + 1).toNatClampNeg), .int (xs (nI i + 2).toNatClampNeg)] [.int z.1] (ct_Model_quantiser l dC dI cI cB cJ cZ bb n (xs (nI i + 1).toNatClampNeg) (xs (nI i + 2).toNatClampNeg) u hw) (aw_V awL k_ml_Law_54 k_im_Model_quantiser k_se_Model_quantiser k_in_Model k_cd_Model_quantiser) rfl (by decide +kernel) ⟨Nat.le_of_ble_eq_true rfl, Nat.le_of_ble_eq_true rfl⟩ (q0 := 0) rfl rfl rfl rfl (Nat.le_of_ble_eq_true rfl) d_Law_law_359 ⟨(by show 36 + (ph z.2 - 96) + 0 ≤ 600000; omega), (by show 97679 + 2 * (ph z.2 - 96) + 0 ≤ 7302250; omega)⟩ (fun _ => ?_)
      refine J_icmp_eq X 433 d_Law_law_362 (by decide) (fun _ => ?_) (fun c9 => absurd hzw c9)
      exact hnext uu z.2 w.2 hI2
    by_cases c9 : y = (9 : Int32)
    · refine J_tableIn X 367 d_Law_law_32 (by rw [c9]; decide) (by rw [c9]; decide) (by rw [c9] <;> rfl) (by decide) ?_
      obtain ⟨z, w, hz, hw, hzw, hI2⟩ := hword k t u (xs (nI i + 1).toNatClampNeg) (xs (nI i + 2).toNatClampNeg) (xs (nI i + 3).toNatClampNeg) hk hI
      have hb2 := hph _ _ _ hI2
      have hp2 : ph t = ph z.2 := ph_eq (q_Reader_word hz)
      refine J_aload_n X d_Law_law_367 2 rfl rfl ?_
      refine J_aload_n X d_Law_law_368 3 rfl rfl ?_
      refine J_iload_n X d_Law_law_369 0 rfl rfl ?_
      refine J_iconst (v := 1) X d_Law_law_370 (by decide) ?_
      refine J_iadd X d_Law_law_371 ?_
      refine J_sld X hX hbl hbA h1 d_Law_law_372 ?_
      refine J_aload_n X d_Law_law_373 3 rfl rfl ?_
      refine J_iload_n X d_Law_law_374 0 rfl rfl ?_
      refine J_iconst (v := 2) X d_Law_law_375 (by decide) ?_
      refine J_iadd X d_Law_law_376 ?_
      refine J_sld X hX hbl hbA h2 d_Law_law_377 ?_
      refine J_aload_n X d_Law_law_378 3 rfl rfl ?_
      refine J_iload_n X d_Law_law_379 0 rfl rfl ?_
      refine J_iconst (v := 3) X d_Law_law_380 (by decide) ?_
      refine J_iadd X d_Law_law_381 ?_
      refine J_sld X hX hbl hbA h3 d_Law_law_382 ?_
      refine J_callVi (n := 3) (S := Unit) (wc := wO cI cB cJ cZ (aU a uu) t) (wr := wM cI cB cJ cZ bb u) (r := z.1) (w1 := fun _ : Unit => wO cI cB cJ cZ (aU a uu) z.2) X [0, 1, 2, 3, 4, 5, 6, 7, 8, 9, 10, 11, 12, 13, 14, 15] [16, 17, 18, 19, 20, 21, 22, 23, 24, 25, 26, 27, 28, 29, 30, 31, 32, 33, 34, 35] rfl rfl rfl rfl rfl (by decide) [.int (xs (nI i + 1).toNatClampNeg), .int (xs (nI i + 2).toNatClampNeg), .int (xs (nI i + 3).toNatClampNeg)] [] (ct_Reader_word l dC dI cI cB cJ cZ (aU a uu) n (xs (nI i + 1).toNatClampNeg) (xs (nI i + 2).toNatClampNeg) (xs (nI i + 3).toNatClampNeg) t hz) (aw_V awL k_ml_Law_55 k_im_Reader_word k_se_Reader_word k_in_Reader k_cd_Reader_word) rfl (by decide +kernel) ⟨Nat.le_of_ble_eq_true rfl, Nat.le_of_ble_eq_true rfl⟩ (q0 := 0) rfl rfl rfl rfl (Nat.le_of_ble_eq_true rfl) d_Law_law_383 ⟨(by show 36 + (ph t - 96) + 0 ≤ 600000; omega), (by show 97679 + 2 * (ph t - 96) + 0 ≤ 7302250; omega)⟩ (fun _ => ?_)
      refine J_sub [20, 21, 22, 23, 24, 25, 26, 27, 28, 29, 30, 31, 32, 33, 34, 35, 0, 1, 2, 3, 4, 5, 6, 7, 8, 9, 10, 11, 12, 13, 14, 15, 16, 17, 18, 19] (wO cI cB cJ cZ (aU a uu) z.2 ++ wM cI cB cJ cZ bb u) rfl rfl rfl ?_
      refine J_widen (36 + (ph z.2 - 96)) (97679 + 2 * (ph z.2 - 96)) (by show 36 + (ph t - 96) + 0 ≤ _; omega) (by show 97679 + 2 * (ph t - 96) + 0 ≤ _; omega) ?_
      refine J_aload_n X d_Law_law_386 1 rfl rfl ?_
      refine J_aload_n X d_Law_law_387 3 rfl rfl ?_
      refine J_iload_n X d_Law_law_388 0 rfl rfl ?_
      refine J_iconst (v := 1) X d_Law_law_389 (by decide) ?_
      refine J_iadd X d_Law_law_390 ?_
      refine J_sld X hX hbl hbA h1 d_Law_law_391 ?_
      refine J_aload_n X d_Law_law_392 3 rfl rfl ?_
      refine J_iload_n X d_Law_law_393 0 rfl rfl ?_
      refine J_iconst (v := 2) X d_Law_law_394 (by decide) ?_
      refine J_iadd X d_Law_law_395 ?_
      refine J_sld X hX hbl hbA h2 d_Law_law_396 ?_
      refine J_aload_n X d_Law_law_397 3 rfl rfl ?_
      refine J_iload_n X d_Law_law_398 0 rfl rfl ?_
      refine J_iconst (v := 3) X d_Law_law_399 (by decide) ?_
      refine J_iadd X d_Law_law_400 ?_
      refine J_sld X hX hbl hbA h3 d_Law_law_401 ?_
      refine J_callVi (n := 3) (S := Unit) (wc := wM cI cB cJ cZ bb u) (wr := wO cI cB cJ cZ (aU a uu) z.2) (r := w.1) (w1 := fun _ : Unit => wM cI cB cJ cZ bb w.2) X [16, 17, 18, 19, 20, 21, 22, 23, 24, 25, 26, 27, 28, 29, 30, 31, 32, 33, 34, 35] [0, 1, 2, 3, 4, 5, 6, 7, 8, 9, 10, 11, 12, 13, 14, 15] rfl rfl rfl rfl rfl (by decide) [.int (xs (nI i + 1).toNatClampNeg), .int (xs (nI i + 2).toNatClampNeg), .int (xs (nI i + 3).toNatClampNeg)] [.int z.1] (ct_Model_word l dC dI cI cB cJ cZ bb n (xs (nI i + 1).toNatClampNeg) (xs (nI i + 2).toNatClampNeg) (xs (nI i + 3).toNatClampNeg) u hw) (aw_V awL k_ml_Law_59 k_im_Model_word k_se_Model_word k_in_Model k_cd_Model_word) rfl (by decide +kernel) ⟨Nat.le_of_ble_eq_true rfl, Nat.le_of_ble_eq_true rfl⟩ (q0 := 0) rfl rfl rfl rfl (Nat.le_of_ble_eq_true rfl) d_Law_law_402 ⟨(by show 36 + (ph z.2 - 96) + 0 ≤ 600000; omega), (by show 97679 + 2 * (ph z.2 - 96) + 0 ≤ 7302250; omega)⟩ (fun _ => ?_)
      refine J_icmp_eq X 433 d_Law_law_405 (by decide) (fun _ => ?_) (fun c9 => absurd hzw c9)
      exact hnext uu z.2 w.2 hI2
    by_cases c10 : y = (10 : Int32)
    · refine J_tableIn X 410 d_Law_law_32 (by rw [c10]; decide) (by rw [c10]; decide) (by rw [c10] <;> rfl) (by decide) ?_
      obtain ⟨z, w, hz, hw, hzw, hI2⟩ := hlook k t u (xs (nI i + 1).toNatClampNeg) hk hI
      have hb2 := hph _ _ _ hI2
      have hp2 : ph t = ph z.2 := ph_eq (q_Reader_look hz)
      refine J_aload_n X d_Law_law_410 2 rfl rfl ?_
      refine J_aload_n X d_Law_law_411 3 rfl rfl ?_
      refine J_iload_n X d_Law_law_412 0 rfl rfl ?_
      refine J_iconst (v := 1) X d_Law_law_413 (by decide) ?_
      refine J_iadd X d_Law_law_414 ?_
      refine J_sld X hX hbl hbA h1 d_Law_law_415 ?_
      refine J_callVi (n := 1) (S := Unit) (wc := wO cI cB cJ cZ (aU a uu) t) (wr := wM cI cB cJ cZ bb u) (r := z.1) (w1 := fun _ : Unit => wO cI cB cJ cZ (aU a uu) z.2) X [0, 1, 2, 3, 4, 5, 6, 7, 8, 9, 10, 11, 12, 13, 14, 15] [16, 17, 18, 19, 20, 21, 22, 23, 24, 25, 26, 27, 28, 29, 30, 31, 32, 33, 34, 35] rfl rfl rfl rfl rfl (by decide) [.int (xs (nI i + 1).toNatClampNeg)] [] (ct_Reader_look l dC dI cI cB cJ cZ (aU a uu) n (xs (nI i + 1).toNatClampNeg) t hz) (aw_V awL k_ml_Law_60 k_im_Reader_look k_se_Reader_look k_in_Reader k_cd_Reader_look) rfl (by decide +kernel) ⟨Nat.le_of_ble_eq_true rfl, Nat.le_of_ble_eq_true rfl⟩ (q0 := 0) rfl rfl rfl rfl (Nat.le_of_ble_eq_true rfl) d_Law_law_416 ⟨(by show 36 + (ph t - 96) + 0 ≤ 600000; omega), (by show 97679 + 2 * (ph t - 96) + 0 ≤ 7302250; omega)⟩ (fun _ => ?_)
      refine J_sub [20, 21, 22, 23, 24, 25, 26, 27, 28, 29, 30, 31, 32, 33, 34, 35, 0, 1, 2, 3, 4, 5, 6, 7, 8, 9, 10, 11, 12, 13, 14, 15, 16, 17, 18, 19] (wO cI cB cJ cZ (aU a uu) z.2 ++ wM cI cB cJ cZ bb u) rfl rfl rfl ?_
      refine J_widen (36 + (ph z.2 - 96)) (97679 + 2 * (ph z.2 - 96)) (by show 36 + (ph t - 96) + 0 ≤ _; omega) (by show 97679 + 2 * (ph t - 96) + 0 ≤ _; omega) ?_
      refine J_aload_n X d_Law_law_419 1 rfl rfl ?_
      refine J_aload_n X d_Law_law_420 3 rfl rfl ?_
      refine J_iload_n X d_Law_law_421 0 rfl rfl ?_
      refine J_iconst (v := 1) X d_Law_law_422 (by decide) ?_
      refine J_iadd X d_Law_law_423 ?_
      refine J_sld X hX hbl hbA h1 d_Law_law_424 ?_
      refine J_callVi (n := 1) (S := Unit) (wc := wM cI cB cJ cZ bb u) (wr := wO cI cB cJ cZ (aU a uu) z.2) (r := w.1) (w1 := fun _ : Unit => wM cI cB cJ cZ bb w.2) X [16, 17, 18, 19, 20, 21, 22, 23, 24, 25, 26, 27, 28, 29, 30, 31, 32, 33, 34, 35] [0, 1, 2, 3, 4, 5, 6, 7, 8, 9, 10, 11, 12, 13, 14, 15] rfl rfl rfl rfl rfl (by decide) [.int (xs (nI i + 1).toNatClampNeg)] [.int z.1] (ct_Model_look l dC dI cI cB cJ cZ bb n (xs (nI i + 1).toNatClampNeg) u hw) (aw_V awL k_ml_Law_63 k_im_Model_look k_se_Model_look k_in_Model k_cd_Model_look) rfl (by decide +kernel) ⟨Nat.le_of_ble_eq_true rfl, Nat.le_of_ble_eq_true rfl⟩ (q0 := 0) rfl rfl rfl rfl (Nat.le_of_ble_eq_true rfl) d_Law_law_425 ⟨(by show 36 + (ph z.2 - 96) + 0 ≤ 600000; omega), (by show 97679 + 2 * (ph z.2 - 96) + 0 ≤ 7302250; omega)⟩ (fun _ => ?_)
      refine J_icmp_eq X 433 d_Law_law_428 (by decide) (fun _ => ?_) (fun c9 => absurd hzw c9)
      exact hnext uu z.2 w.2 hI2
    refine J_tableOut X 433 d_Law_law_32 (by have g0 := lv_neT (a := 0) c0 rfl; have g1 := lv_neT (a := 1) c1 rfl; have g2 := lv_neT (a := 2) c2 rfl; have g3 := lv_neT (a := 3) c3 rfl; have g4 := lv_neT (a := 4) c4 rfl; have g5 := lv_neT (a := 5) c5 rfl; have g6 := lv_neT (a := 6) c6 rfl; have g7 := lv_neT (a := 7) c7 rfl; have g8 := lv_neT (a := 8) c8 rfl; have g9 := lv_neT (a := 9) c9 rfl; have g10 := lv_neT (a := 10) c10 rfl; omega) (by decide) ?_
    exact hnext uu t u (hskip _ _ _ hI)
