theorem gv_b (x : Int64) : ∀ i, i < 8 → (((x.toUInt64 >>> ((((8 : Int32) * nI i)).toInt64.toUInt64 &&& Int64.toUInt64 63)).toInt64)).toInt32.toInt8 = ((x >>> ((((8 : Int32) * nI i)).toInt64 &&& 63))).toInt32.toInt8 := by
  intro i hi
  have h : i = 0 ∨ i = 1 ∨ i = 2 ∨ i = 3 ∨ i = 4 ∨ i = 5 ∨ i = 6 ∨ i = 7 := by omega
  have key : ∀ (s : Nat) (a : UInt64) (b : Int64), s ≤ 56 → a.toBitVec = BitVec.ofNat 64 s → b.toBitVec = BitVec.ofNat 64 s → ((BitVec.ofNat 64 s).smod 64).toNat = s → ((x.toUInt64 >>> a).toInt64).toInt32.toInt8 = (x >>> b).toInt32.toInt8 := by
    intro s a b hs ha hb hsm
    apply Int8.toBitVec_inj.mp
    apply BitVec.eq_of_getLsbD_eq
    intro j hj
    have e1 : ((x.toUInt64 >>> a).toInt64).toBitVec = x.toBitVec >>> s := by
      show (x.toUInt64 >>> a).toBitVec = _
      rw [UInt64.toBitVec_shiftRight, ha]
      show x.toBitVec >>> (BitVec.ofNat 64 s % 64) = _
      rw [BitVec.ushiftRight_eq']
      congr 1
      simp
      omega
    have e2 : (x >>> b).toBitVec = x.toBitVec.sshiftRight s := by
      rw [Int64.toBitVec_shiftRight, hb]
      rw [BitVec.sshiftRight_eq']
      rw [hsm]
    simp only [Int32.toBitVec_toInt8, Int64.toBitVec_toInt32, e1, e2, BitVec.getLsbD_signExtend, BitVec.getLsbD_ushiftRight, BitVec.getLsbD_sshiftRight]
    have a1 : j < 32 := by omega
    have a2 : j < 64 := by omega
    have a3 : s + j < 64 := by omega
    have a4 : ¬ 64 ≤ j := by omega
    simp [a1, a2, a3, a4]
  rcases h with rfl | rfl | rfl | rfl | rfl | rfl | rfl | rfl
  · exact key 0 _ _ (by omega) (by decide) (by decide) (by decide)
  · exact key 8 _ _ (by omega) (by decide) (by decide) (by decide)
  · exact key 16 _ _ (by omega) (by decide) (by decide) (by decide)
  · exact key 24 _ _ (by omega) (by decide) (by decide) (by decide)
  · exact key 32 _ _ (by omega) (by decide) (by decide) (by decide)
  · exact key 40 _ _ (by omega) (by decide) (by decide) (by decide)
  · exact key 48 _ _ (by omega) (by decide) (by decide) (by decide)
  · exact key 56 _ _ (by omega) (by decide) (by decide) (by decide)
/-- the bytes, and the room for them, on both sides -/
def Gv (B : Nat → Nat) (sz : Nat) (t u : St) : Prop := InO B sz t ∧ InM B sz u ∧ CpO 0 0 t ∧ 64 ≤ t.2.2.2 0 ∧ t.2.2.2 0 ≤ 16384 ∧ ∀ i, i < t.2.2.2 0 → fits .byte (.int (t.2.1 0 i)) = true
theorem Inp_add {B : Nat → Nat} {sz cap : Nat} {f f' : Nat → Int32} {g0 : Int32} {v : Int32} {b : Nat} (h : Inp B sz g0 f cap) (hf : ∀ j, j < sz → f' j = f j) (hv : f' sz = v) (hb : (v &&& 255) = nI b) (hb2 : b < 256) (h1 : sz + 1 ≤ 4096) {cap' : Nat} (h2 : sz + 1 ≤ cap') (h3 : cap' ≤ 1048576) : Inp (va_up B sz b) (sz + 1) (nI (sz + 1)) f' cap' := by
  refine ⟨rfl, h1, h2, h3, fun j hj => ?_⟩
  by_cases c : j = sz
  · rw [c, hv, show va_up B sz b sz = b from if_pos rfl]
    exact ⟨hb, hb2⟩
  · rw [hf j (by omega), show va_up B sz b j = B j from if_neg c]
    exact h.2.2.2.2 j (by omega)
theorem O_add {n sz b : Nat} {B : Nat → Nat} {t u : St} {x y : Int32} (h : Gv B sz t u) (hs : sz + 1 ≤ 4096) (hxy : x.toInt8 = y.toInt8) (hb : (vp_nar .byte x.toInt8.toInt32 &&& 255) = nI b) (hb2 : b < 256) : ∃ z, m_Bytes_add n x t = some z ∧ Gv (va_up B sz b) (sz + 1) z (sG (sH u 0 sz (vp_nar .byte y.toInt8.toInt32)) 1 (nI (sz + 1))) := by
  obtain ⟨h1, h2, h3, h4, h5, h6⟩ := h
  have h0 : t.1 0 = nI sz := h1.1
  have hM : InM (va_up B sz b) (sz + 1) (sG (sH u 0 sz (vp_nar .byte y.toInt8.toInt32)) 1 (nI (sz + 1))) := by
    refine Inp_add (f := u.2.1 0) (v := vp_nar .byte y.toInt8.toInt32) h2 (fun j hj => ?_) ?_ ?_ hb2 hs (by omega) (by omega)
    · show (if j = sz then _ else u.2.1 0 j) = _
      rw [if_neg (by omega)]
    · show (if sz = sz then _ else u.2.1 0 sz) = _
      rw [if_pos rfl]
    · rw [← hxy]; exact hb
  have fin : ∀ (t' : St), t'.1 = t.1 → (∀ k, k ≠ 0 → t'.2.2.2 k = t.2.2.2 k) → (∀ j, j < sz → t'.2.1 0 j = t.2.1 0 j) → sz < t'.2.2.2 0 → 64 ≤ t'.2.2.2 0 → t'.2.2.2 0 ≤ 16384 → (∀ i, i < t'.2.2.2 0 → fits .byte (.int (t'.2.1 0 i)) = true) → ∃ z, m_Bytes_add_40 n x t' = some z ∧ Gv (va_up B sz b) (sz + 1) z (sG (sH u 0 sz (vp_nar .byte y.toInt8.toInt32)) 1 (nI (sz + 1))) := by
    intro t' e1 e2 e3 e4 e5 e6 e7
    unfold m_Bytes_add_40
    rw [e1, h0, if_neg (nI_in (N := t'.2.2.2 0) (c := sz) e4 (by omega)), nI_clamp (by omega), nI_1]
    refine ⟨_, rfl, ?_, hM, ?_, e5, e6, fun i hi => ?_⟩
    · refine Inp_add (f := t.2.1 0) (v := vp_nar .byte x.toInt8.toInt32) h1 (fun j hj => ?_) ?_ hb hb2 hs (show sz + 1 ≤ t'.2.2.2 0 from e4) (show t'.2.2.2 0 ≤ 1048576 by omega)
      · show (if j = sz then _ else t'.2.1 0 j) = _
        rw [if_neg (by omega)]; exact e3 j hj
      · show (if sz = sz then _ else t'.2.1 0 sz) = _
        rw [if_pos rfl]
    · unfold CpO
      rw [show (sG (sH t' 0 sz (vp_nar .byte x.toInt8.toInt32)) 0 (nI (sz + 1))).2.2.2 = t'.2.2.2 from rfl, e2 1 (by decide), e2 2 (by decide)]
      exact h3
    · show fits .byte (.int (if i = sz then _ else t'.2.1 0 i)) = true
      by_cases c : i = sz
      · rw [if_pos c, vp_nar_byte]
        exact pk_fb _
      · rw [if_neg c]; exact e7 i hi
  unfold m_Bytes_add
  rw [h0, if_pos (show nI sz < 16384 from nI_lt (b := 16384) (by omega) (by omega))]
  by_cases c : sz < t.2.2.2 0
  · rw [if_pos (show nI sz < Int32.ofNat (t.2.2.2 0) from nI_lt (b := t.2.2.2 0) c (by omega))]
    exact fin t rfl (fun _ _ => rfl) (fun _ _ => rfl) c h4 h5 h6
  · have ec : t.2.2.2 0 = sz := by have := h1.2.2.1; omega
    have e2 : (2 : Int32) * nI sz = nI (2 * sz) := by rw [show (2 : Int32) = nI 2 from rfl, pk_mul]
    have ecl : (nI (2 * sz)).toNatClampNeg = 2 * sz := nI_clamp (by omega)
    rw [if_neg (show ¬ nI sz < Int32.ofNat (t.2.2.2 0) from nI_nlt (b := t.2.2.2 0) (by omega) (by omega)), e2, ecl]
    rw [if_neg (Classical.not_not.mpr ⟨nI_pos (by omega), fun y => absurd ((nI_eq (a := 2 * sz) (b := t.2.2.2 0) (by omega) (by omega)).mp y) (by omega), by omega, by omega, by omega, h6⟩)]
    refine fin _ rfl (fun k hk => ?_) (fun j hj => ?_) ?_ ?_ ?_ (fun i hi => ?_)
    · show (if k = 0 then _ else t.2.2.2 k) = _
      rw [if_neg hk]
    · show (if 0 ≤ j ∧ j < 0 + t.2.2.2 0 then t.2.1 0 (0 + (j - 0)) else 0) = _
      rw [if_pos ⟨by omega, by omega⟩, show 0 + (j - 0) = j by omega]
    · show sz < 2 * sz
      omega
    · show 64 ≤ 2 * sz
      omega
    · show 2 * sz ≤ 16384
      omega
    · show fits .byte (.int (if 0 ≤ i ∧ i < 0 + t.2.2.2 0 then t.2.1 0 (0 + (i - 0)) else 0)) = true
      by_cases c2 : 0 ≤ i ∧ i < 0 + t.2.2.2 0
      · rw [if_pos c2, show 0 + (i - 0) = i by omega]
        exact h6 i (by omega)
      · rw [if_neg c2]; decide
theorem wiped {n k sz : Nat} {B : Nat → Nat} {t u : St} (hn : 20000 ≤ n) (h : Gv B sz t u) (hk : sz ≤ 8 * k) : ∃ z w, m_Parser_forget n t = some z ∧ m_Model_forget n (sG (sG u 2 0) 3 (-1)) = some w ∧ IV k z w := by
  obtain ⟨h1, h2, h3, h4, h5, h6⟩ := h
  obtain ⟨a, a1, a2, a3⟩ := O_clear (n := n) (B := B) (t := sG (sG t 13 0) 14 (-1)) hn h3
  obtain ⟨b, b1, b2, b3, b4⟩ := R_forget (n := n) (B := B) (sz := sz) (u := sG (sG u 2 0) 3 (-1)) hn
  have xa := x_Picture_clear a1
  have qa := q_Picture_clear a1
  have xb := x_Model_forget b1
  have e0 : a.2.2.2 0 = t.2.2.2 0 := by rw [qa]; rfl
  have e1 : a.2.1 0 = t.2.1 0 := xa.2.1 0 (by decide)
  refine ⟨a, b, ?_, b1, B, sz, ?_, ?_, hk, QR0 a2 b2, ?_, ?_, a3.trans b3.symm, ?_, ?_, ?_⟩
  · unfold m_Parser_forget
    rw [a1, Option.bind_some]
  · show Inp B sz (a.1 0) (a.2.1 0) (a.2.2.2 0)
    rw [e0, e1, xa.1 0 (by decide)]; exact h1
  · show Inp B sz (b.1 1) (b.2.1 0) 16384
    rw [xb.1 1 (by decide), xb.2.1 0 (by decide)]; exact h2
  · rw [xa.1 13 (by decide), xb.1 2 (by decide)]; rfl
  · rw [xa.1 14 (by decide), xb.1 3 (by decide)]; rfl
  · rw [e0]; exact h4
  · rw [e0]; exact h5
  · rw [e0, e1]; exact h6
theorem IV.gv {k : Nat} {t u : St} (h : IV k t u) : ∃ B sz, Gv B sz t u ∧ sz ≤ 8 * k := by
  obtain ⟨B, sz, i1, i2, i3, i4, i5, i6, i7, i8, i9, i10⟩ := h
  obtain ⟨F, hh, ww, iv, ns, nc, qm, wm, sg, sr, hP, -⟩ := i4
  have := hP.2.2.2.2.2.2.2.2
  exact ⟨B, sz, ⟨i1, i2, ⟨by omega, this.2.1, this.2.2.1, by omega, this.2.2.2.2.1, this.2.2.2.2.2⟩, i8, i9, i10⟩, i3⟩
theorem wipe_ok {n k : Nat} {t u : St} (hn : 20000 ≤ n) (hI : IV k t u) : ∃ z w, m_Reader_wipe n t = some z ∧ m_Model_wipe n u = some w ∧ IV (k + 1) z w := by
  obtain ⟨B, sz, ⟨h1, h2, h3, h4, h5, h6⟩, hsz⟩ := hI.gv
  have hg : Gv B 0 (sG t 0 0) (sG (sG u 0 0) 1 0) := ⟨⟨rfl, by omega, Nat.zero_le _, h1.2.2.2.1, fun j hj => absurd hj (by omega)⟩, ⟨rfl, by omega, Nat.zero_le _, by omega, fun j hj => absurd hj (by omega)⟩, h3, h4, h5, h6⟩
  obtain ⟨z, w, z1, w1, hz⟩ := wiped (n := n) (k := k + 1) hn hg (by omega)
  refine ⟨z, w, ?_, ?_, hz⟩
  · unfold m_Reader_wipe
    rw [z1, Option.bind_some]
  · unfold m_Model_wipe
    rw [w1, Option.bind_some]
theorem give_loop {n k : Nat} {v : Int64} (hn : 20000 ≤ n) : ∀ (m f sz : Nat) (B : Nat → Nat) (t u : St), m ≤ 8 → sz + m ≤ 4096 → sz + m ≤ 8 * k → m < f → Gv B sz t u → ∃ z w, m_Reader_give_33 n f v (nI m - 1) t = some (1, z) ∧ m_Model_give_35 n f v (nI m - 1) u = some (1, w) ∧ IV k z w := by
  intro m
  induction m with
  | zero =>
    intro f sz B t u h1 h2 h3 h4 hG
    obtain ⟨f, rfl⟩ : ∃ q, f = q + 1 := ⟨f - 1, by omega⟩
    obtain ⟨z, w, z1, w1, hz⟩ := wiped (n := n) (k := k) hn hG (by omega)
    refine ⟨z, w, ?_, ?_, hz⟩
    · show m_Reader_give_33b n (m_Reader_give_33 n f) v (nI 0 - 1) t = _
      unfold m_Reader_give_33b
      rw [if_pos (show nI 0 - 1 < 0 by decide), z1, Option.bind_some]
    · show m_Model_give_35b n (m_Model_give_35 n f) v (nI 0 - 1) u = _
      unfold m_Model_give_35b
      rw [if_pos (show nI 0 - 1 < 0 by decide), w1, Option.bind_some]
  | succ m ih =>
    intro f sz B t u h1 h2 h3 h4 hG
    obtain ⟨f, rfl⟩ : ∃ q, f = q + 1 := ⟨f - 1, by omega⟩
    have hu1 : u.1 1 = nI sz := hG.2.1.1
    have em : nI m + (-1) = nI m - 1 := (Int32.sub_eq_add_neg _ _).symm
    obtain ⟨b, hb2, hb⟩ := pk_andE (vp_nar .byte (((((v).toUInt64 >>> ((((8 : Int32) * nI m)).toInt64.toUInt64 &&& Int64.toUInt64 63)).toInt64)).toInt32).toInt8.toInt32) (m := 255) 8 (by decide)
    obtain ⟨t', a1, a2⟩ := O_add (n := n) (x := ((((v).toUInt64 >>> ((((8 : Int32) * nI m)).toInt64.toUInt64 &&& Int64.toUInt64 63)).toInt64)).toInt32) (y := ((v >>> ((((8 : Int32) * nI m)).toInt64 &&& 63))).toInt32) hG (by omega) (gv_b v m (by omega)) hb (by omega)
    obtain ⟨z, w, z1, w1, hz⟩ := ih f (sz + 1) (va_up B sz b) t' _ (by omega) (by omega) (by omega) (by omega) a2
    refine ⟨z, w, ?_, ?_, hz⟩
    · show m_Reader_give_33b n (m_Reader_give_33 n f) v (nI (m + 1) - 1) t = _
      unfold m_Reader_give_33b
      rw [nI_pred, if_neg (nI_pos (n := m) (by omega)), a1, Option.bind_some, em]
      exact z1
    · show m_Model_give_35b n (m_Model_give_35 n f) v (nI (m + 1) - 1) u = _
      unfold m_Model_give_35b
      rw [nI_pred, if_neg (nI_pos (n := m) (by omega)), hu1, if_neg (nI_in (N := 16384) (c := sz) (by omega) (by omega)), nI_clamp (show sz < 2 ^ 31 by omega), em, nI_1]
      exact w1
theorem give_ok {n k : Nat} {t u : St} {v : Int64} {x : Int32} (hn : 20000 ≤ n) (hk : k < 512) (hI : IV k t u) : ∃ z w, m_Reader_give n v x t = some z ∧ m_Model_give n v x u = some w ∧ z.1 = w.1 ∧ IV (k + 1) z.2 w.2 := by
  obtain ⟨B, sz, hG, hsz⟩ := hI.gv
  have h0 : t.1 0 = nI sz := hG.1.1
  have hu1 : u.1 1 = nI sz := hG.2.1.1
  have no : ∃ z w, (some ((0 : Int32), t)) = some z ∧ (some ((0 : Int32), sG u 0 0)) = some w ∧ z.1 = w.1 ∧ IV (k + 1) z.2 w.2 := ⟨_, _, rfl, rfl, rfl, hI.q⟩
  unfold m_Reader_give m_Model_give
  rcases pk_ix x (n := 9) (by omega) with h | h | ⟨m, hm, rfl⟩
  · have h1 : x < 1 := by
      have e0 : (0 : Int32).toInt = 0 := by decide
      have e1 : (1 : Int32).toInt = 1 := by decide
      rw [Int32.lt_iff_toInt_lt] at h ⊢
      omega
    rw [if_pos h1, if_pos h1]
    exact no
  · have h1 : ¬ x < 1 := by
      have e1 : (1 : Int32).toInt = 1 := by decide
      rw [Int32.lt_iff_toInt_lt]
      rw [Int32.le_iff_toInt_le, nI_toInt (by omega)] at h
      omega
    have h8 : (8 : Int32) < x := by
      have e1 : (8 : Int32).toInt = 8 := by decide
      rw [Int32.lt_iff_toInt_lt]
      rw [Int32.le_iff_toInt_le, nI_toInt (by omega)] at h
      omega
    rw [if_neg h1, if_neg h1, if_pos h8, if_pos h8]
    exact no
  · by_cases c : m = 0
    · have h1 : nI m < 1 := nI_lt (b := 1) (by omega) (by omega)
      rw [if_pos h1, if_pos h1]
      exact no
    · have h1 : ¬ nI m < 1 := nI_nlt (b := 1) (by omega) (by omega)
      have h8 : ¬ (8 : Int32) < nI m := nI_nlt (a := 8) (by omega) (by omega)
      have hG' : Gv B sz t (sG u 0 0) := hG
      obtain ⟨z, w, z1, w1, hz⟩ := give_loop (n := n) (k := k + 1) (v := v) hn m n sz B t (sG u 0 0) (by omega) (by omega) (by omega) (by omega) hG'
      refine ⟨(1, z), (1, w), ?_, ?_, rfl, hz⟩
      · rw [if_neg h1, if_neg h8, h0, show (16384 : Int32) = nI 16384 from rfl, pk_sub (by omega), if_pos (nI_le (by omega) (by omega))]
        exact z1
      · rw [if_neg h1, if_neg h8, hu1, nI_add, if_pos (show nI (sz + m) ≤ 16384 from nI_le (b := 16384) (by omega) (by omega))]
        exact w1
theorem IV_ph {k : Nat} {t u : St} (h : IV k t u) : 96 ≤ ph t ∧ ph t ≤ 200000 := by
  obtain ⟨B, sz, ⟨h1, h2, h3, h4, h5, h6⟩, hsz⟩ := h.gv
  obtain ⟨c1, c2, c3, c4, c5, c6⟩ := h3
  unfold ph
  omega
theorem IV.up {k : Nat} {t u : St} (h : IV k t u) : IV (k + 1) t u := by
  obtain ⟨B, sz, i1, i2, i3, i4⟩ := h
  exact ⟨B, sz, i1, i2, by omega, i4⟩
theorem pure_start {n : Nat} (hn : 20000 ≤ n) : ∃ z w : St, m_Picture_clearP n tP0 = some z ∧ m_Model_forget n tM0 = some w ∧ IV 0 (tO0 z) w := by
  obtain ⟨z, z1, z2, z3, z4, z5⟩ := fi_6P (n := n) (t := sG (sG tP0 7 0) 8 0) hn
  obtain ⟨y, y1, y2, y3, y4, y5⟩ := fi_7P (n := n) (t := z) hn
  obtain ⟨b, b1, b2, b3, b4⟩ := R_forget (n := n) (B := fun _ => 0) (sz := 0) (u := tM0) hn
  have xb := x_Model_forget b1
  refine ⟨sG (sG (sG (sG (sG (sG y 1 (-1)) 2 0) 3 0) 4 0) 5 0) 6 (-1), b, ?_, b1, fun _ => 0, 0, ?_, ?_, by omega, QR0 ?_ b2, ?_, ?_, ?_, ?_, ?_, ?_⟩
  · unfold m_Picture_clearP
    rw [z1, Option.bind_some, y1, Option.bind_some]
  · exact ⟨rfl, by omega, Nat.zero_le _, show 64 ≤ 1048576 by decide, fun j hj => absurd hj (by omega)⟩
  · refine ⟨?_, by omega, Nat.zero_le _, by omega, fun j hj => absurd hj (by omega)⟩
    rw [xb.1 1 (by decide)]; rfl
  · refine ⟨⟨rfl, rfl⟩, rfl, rfl, rfl, fun j hj => ?_, fun j hj => y5 j hj, ⟨?_, fun i hi => absurd hi (by omega)⟩, ⟨?_, fun i hi => absurd hi (by omega)⟩, ?_⟩
    · show y.2.1 4 j = mI
      rw [y4 4 (by decide)]; exact z5 j hj
    · show y.1 7 = _
      rw [y2, z2]; rfl
    · show y.1 8 = _
      rw [y2, z2]; rfl
    · unfold CpO
      exact ⟨Nat.zero_le _, show 16 ≤ 16 by decide, show 16 ≤ 16384 by decide, Nat.zero_le _, show 16 ≤ 16 by decide, show 16 ≤ 16384 by decide⟩
  · rw [xb.1 2 (by decide)]; rfl
  · rw [xb.1 3 (by decide)]; rfl
  · rw [b3]; rfl
  · show 64 ≤ 64
    decide
  · show 64 ≤ 16384
    decide
  · intro i _
    show fits .byte (.int 0) = true
    decide
theorem pure_all : ∃ (n : Nat) (I : Nat → St → St → Prop), pureOK n I ∧ ∃ z w : St, m_Picture_clearP n tP0 = some z ∧ m_Model_forget n tM0 = some w ∧ I 0 (tO0 z) w := by
  have hn : 20000 ≤ 20000 := Nat.le_refl _
  refine ⟨20000, IV, ⟨fun k t u h => IV_ph h, fun k t u h => h.up, fun k t u v x hk h => give_ok hn hk h, fun k t u _ h => wipe_ok hn h, fun k t u _ h => read_ok hn h, fun k t u x1 x2 _ h => (seg_ok h).iv h, fun k t u x1 _ h => (frame_ok hn h).iv h, fun k t u x1 x2 _ h => (comp_ok h).iv h, fun k t u x1 x2 _ h => (scan_ok hn h).iv h, fun k t u x1 x2 _ h => (data_ok hn h).iv h, fun k t u x1 x2 _ h => (quant_ok h).iv h, fun k t u x1 x2 x3 _ h => (word_ok hn h).iv h, fun k t u x1 _ h => (look_ok h).iv h⟩, pure_start hn⟩
