/-- within contents: the class with its row added, the reference with its row to come -/
def MO (B : Nat → Nat) (sz : Nat) (F : Option (Nat × Nat × Nat)) (hh ww iv ns nc : Nat) (qm wm : Nat → Option Nat) (sg : Nat → Nat × Nat) (sr : Nat → Nat → Nat) (lt : Nat → Option Nat) (ln : Bool) (lp ce q : Nat) (t : St) : Prop := At B sz ce lp q t ∧ t.1 14 = mI ∧ t.1 12 = bI ln ∧ t.1 6 = mI ∧ PL (t.2.1 7) lt ∧ PO B F hh ww iv ns nc qm wm sg sr t
def MM (B : Nat → Nat) (sz : Nat) (F : Option (Nat × Nat × Nat)) (hh ww iv ns nc : Nat) (qm wm : Nat → Option Nat) (sg : Nat → Nat × Nat) (sr : Nat → Nat → Nat) (lt : Nat → Option Nat) (lp ce q p : Nat) (u : St) : Prop := AtM B sz ce lp q u ∧ u.1 3 = mI ∧ u.1 6 = nI p ∧ u.1 7 = mI ∧ PL (u.2.1 13) lt ∧ PM B sz F hh ww iv ns nc qm wm sg sr u
/-- a marker's code c, its length at lp, contents up to ce -/
def Bs (B : Nat → Nat) (sz p lp ce c : Nat) : Prop := c = B (lp - 1) ∧ p + 2 ≤ lp ∧ ce = lp + (256 * B lp + B (lp + 1)) ∧ 2 ≤ 256 * B lp + B (lp + 1) ∧ 256 * B lp + B (lp + 1) < 65536 ∧ lp + 2 ≤ sz ∧ sz ≤ 4096
theorem MM.close {B : Nat → Nat} {sz : Nat} {F : Option (Nat × Nat × Nat)} {hh ww iv ns nc : Nat} {qm wm : Nat → Option Nat} {sg : Nat → Nat × Nat} {sr : Nat → Nat → Nat} {lt : Nat → Option Nat} {lp ce p c : Nat} {w w' : St} (hw : MM B sz F hh ww iv ns nc qm wm sg sr lt lp ce ce p w) (hS : SegW (nI c) ns lp ce w w') (hB : Bs B sz p lp ce c) : RM B sz F hh ww iv (ns + 1) nc qm wm (va_up sg ns (p, lp + 2)) sr lt ce w' ∧ w'.1 6 = nI p := by
  obtain ⟨⟨a1, a2, a3, a4, a5, a6, a7⟩, b1, b2, b3, b4, c1, c2, c3, c4, c5, c6, c7, c8⟩ := hw
  obtain ⟨d1, d2, d3, d4, d5, d6, d7⟩ := hB
  have hx := hS.2.2.2.2.2.2.2
  refine ⟨⟨?_, (hx.1 2 (by decide)).trans a2, (hx.1 3 (by decide)).trans b1, (hx.1 4 (by decide)).trans a3, hS.1, (hx.1 7 (by decide)).trans b3, ?_, ?_, ?_, ?_, ?_, ?_, ?_, ?_, ?_⟩, (hx.1 6 (by decide)).trans b2⟩
  · unfold InM; rw [hx.1 1 (by decide), hx.2.1 0 (by decide)]; exact a1
  · rw [hx.2.1 13 (by decide)]; exact b4
  · exact c1.eq (hx.1 9 (by decide)) (hx.1 12 (by decide)) (hx.2.1 2 (by decide)) (hx.2.1 3 (by decide)) (hx.2.1 4 (by decide)) (hx.2.1 5 (by decide))
  · exact (hx.1 10 (by decide)).trans c2
  · exact (hx.1 11 (by decide)).trans c3
  · exact (hx.1 13 (by decide)).trans c4
  · rw [hx.2.1 6 (by decide), hx.2.1 7 (by decide)]; exact c5
  · rw [hx.2.1 8 (by decide), hx.2.1 9 (by decide), hx.2.1 10 (by decide), hx.2.1 11 (by decide)]; exact c6
  · exact c7.add hS b2 d1 (by omega) (by omega) d3 d4 d6
  · exact c8.eq (hx.1 14 (by decide)) (hx.2.1 12 (by decide))
theorem mkRB {B : Nat → Nat} {sz : Nat} {F : Option (Nat × Nat × Nat)} {hh ww iv ns nc : Nat} {qm wm : Nat → Option Nat} {sg : Nat → Nat × Nat} {sr : Nat → Nat → Nat} {lt : Nat → Option Nat} {lp ce p c : Nat} {z w w' : St} (hz : MO B sz F hh ww iv (ns + 1) nc qm wm (va_up sg ns (p, lp + 2)) sr lt false lp ce ce z) (hw : MM B sz F hh ww iv ns nc qm wm sg sr lt lp ce ce p w) (hS : SegW (nI c) ns lp ce w w') (hB : Bs B sz p lp ce c) (hs : SI sz F hh iv ns nc qm wm lt p) : RB B sz ce false z w' := by
  have hm := (hw.close hS hB).1
  obtain ⟨⟨y1, y2, y3, y4, y5, y6, y7⟩, z1, z2, z3, z4, z5⟩ := hz
  obtain ⟨s1, s2, s3, s4, s5, s6, s7, s8⟩ := hs
  obtain ⟨d1, d2, d3, d4, d5, d6, d7⟩ := hB
  have hce : ce ≤ sz := hw.1.2.2.2.2.2.1
  exact ⟨F, hh, ww, iv, ns + 1, nc, qm, wm, _, sr, lt, ⟨y1, y2, z1, y3, z2, z3, z4, z5⟩, hm, hce, by omega, by omega, s4, s5, s6, s7, s8⟩
theorem MO.step {B : Nat → Nat} {sz : Nat} {F : Option (Nat × Nat × Nat)} {hh ww iv ns nc : Nat} {qm wm qm' wm' : Nat → Option Nat} {sg : Nat → Nat × Nat} {sr : Nat → Nat → Nat} {lt : Nat → Option Nat} {ln : Bool} {lp ce q q' : Nat} {t z : St} (h : MO B sz F hh ww iv ns nc qm wm sg sr lt ln lp ce q t) (hx : EqX [9, 13, 14] [4, 5] [0] t z) (hc : z.2.2.2 = t.2.2.2) (hg : Gk 13 14 t z) (hA : At B sz ce lp q' z) (hQ : PQ (z.2.1 4) qm') (hW : PW (z.2.1 5) wm') : MO B sz F hh ww iv ns nc qm' wm' sg sr lt ln lp ce q' z := by
  obtain ⟨a, b1, b2, b3, b4, c1, c2, c3, c4, c5, c6, c7, c8, c9⟩ := h
  refine ⟨hA, (hg hA.2.1).2.trans b1, (hx.1 12 (by decide)).trans b2, (hx.1 6 (by decide)).trans b3, ?_, ?_, ?_, ?_, ?_, hQ, hW, ?_, ?_, ?_⟩
  · rw [hx.2.1 7 (by decide)]; exact b4
  · exact c1.eq (hx.1 1 (by decide)) (hx.1 4 (by decide)) (hx.2.1 3 (by decide))
  · exact (hx.1 2 (by decide)).trans c2
  · exact (hx.1 3 (by decide)).trans c3
  · exact (hx.1 5 (by decide)).trans c4
  · exact c7.eq (hx.1 7 (by decide)) (hx.2.1 1 (by decide))
  · exact c8.eq (hx.1 8 (by decide)) (hx.2.1 2 (by decide))
  · exact c9.eq hc
theorem MM.step {B : Nat → Nat} {sz : Nat} {F : Option (Nat × Nat × Nat)} {hh ww iv ns nc : Nat} {qm wm qm' wm' : Nat → Option Nat} {sg : Nat → Nat × Nat} {sr : Nat → Nat → Nat} {lt : Nat → Option Nat} {lp ce q q' p : Nat} {u w : St} (h : MM B sz F hh ww iv ns nc qm wm sg sr lt lp ce q p u) (hx : EqX [2, 3, 4] [6, 7, 8, 9, 10, 11, 18] [] u w) (hg : Gk 2 3 u w) (hA : AtM B sz ce lp q' w) (hQ : PMQ B sz (w.2.1 6) (w.2.1 7) qm') (hW : PMW B sz (w.2.1 8) (w.2.1 9) (w.2.1 10) (w.2.1 11) wm') : MM B sz F hh ww iv ns nc qm' wm' sg sr lt lp ce q' p w := by
  obtain ⟨a, b1, b2, b3, b4, c1, c2, c3, c4, c5, c6, c7, c8⟩ := h
  refine ⟨hA, (hg hA.2.1).2.trans b1, (hx.1 6 (by decide)).trans b2, (hx.1 7 (by decide)).trans b3, ?_, ?_, ?_, ?_, ?_, hQ, hW, ?_, ?_⟩
  · rw [hx.2.1 13 (by decide)]; exact b4
  · exact c1.eq (hx.1 9 (by decide)) (hx.1 12 (by decide)) (hx.2.1 2 (by decide)) (hx.2.1 3 (by decide)) (hx.2.1 4 (by decide)) (hx.2.1 5 (by decide))
  · exact (hx.1 10 (by decide)).trans c2
  · exact (hx.1 11 (by decide)).trans c3
  · exact (hx.1 13 (by decide)).trans c4
  · exact c7.eq (hx.1 8 (by decide)) (hx.2.1 1 (by decide))
  · exact c8.eq (hx.1 14 (by decide)) (hx.2.1 12 (by decide))
/-- the reference's contents, by the marker's code -/
def segC (n : Nat) (x1 : Int32) (z1 : St) : Option (Int32 × St) := if x1 = (219 : Int32) then (m_Model_readQuantisers n z1).bind (fun z21 => m_Model_segment1_161 n x1 z21) else if x1 = (196 : Int32) then (m_Model_readWords n z1).bind (fun z35 => m_Model_segment1_161 n x1 z35) else if x1 = (221 : Int32) then (m_Model_two n z1).bind (fun z49 => if (z49.2.1 2) = 0 then m_Model_segment1_69 n x1 z49.1 z49.2 else m_Model_segment1_69 n x1 (z49.2.1 13) z49.2) else if x1 = (192 : Int32) then m_Model_segment1_89 n x1 z1 else if x1 = (194 : Int32) then m_Model_segment1_89 n x1 z1 else if x1 = (218 : Int32) then (m_Model_readScan n z1).bind (fun z105 => m_Model_segment1_161 n x1 z105) else if x1 = (220 : Int32) then (m_Model_two n z1).bind (fun z119 => if 0 < (z119.2.1 2) then m_Model_segment1_141 n x1 z119.1 z119.2 else if z119.1 ≤ 0 then m_Model_segment1_145 n x1 z119.1 z119.2 else if (64 : Int32) < z119.1 then m_Model_segment1_145 n x1 z119.1 z119.2 else m_Model_segment1_141 n x1 z119.1 z119.2) else (m_Model_any n z1).bind (fun z158 => m_Model_segment1_161 n x1 z158)
theorem seg_C {n : Nat} {x : Int32} {u : St} : m_Model_segment1 n x u = (m_Model_open n u).bind (fun z1 => if (z1.1 2) ≤ 0 then segC n x z1 else some ((0 : Int32), z1)) := rfl
/-- what comes of contents: a fault, the same on both sides, or both before the next marker -/
def CO (n : Nat) (B : Nat → Nat) (sz ce c : Nat) (t u : St) : Prop := (∃ z w e, m_Parser_readContents n (nI c) t = some z ∧ Fz z e ∧ segC n (nI c) u = some (0, w) ∧ Gz w e) ∨ ∃ z w, m_Parser_readContents n (nI c) t = some z ∧ segC n (nI c) u = some (0, w) ∧ RB B sz ce false z w
theorem fin_R {n : Nat} {B : Nat → Nat} {sz : Nat} {F : Option (Nat × Nat × Nat)} {hh ww iv ns nc : Nat} {qm wm : Nat → Option Nat} {sg : Nat → Nat × Nat} {sr : Nat → Nat → Nat} {lt : Nat → Option Nat} {lp ce p c q : Nat} {z w : St} (hc : nI c ≠ 218) (hz : MO B sz F hh ww iv (ns + 1) nc qm wm (va_up sg ns (p, lp + 2)) sr lt false lp ce q z) (hw : MM B sz F hh ww iv ns nc qm wm sg sr lt lp ce q p w) (hB : Bs B sz p lp ce c) (hs : SI sz F hh iv ns nc qm wm lt p) : (∃ z' w' e, m_Parser_readContents_140 n z = some z' ∧ Fz z' e ∧ m_Model_segment1_161 n (nI c) w = some (0, w') ∧ Gz w' e) ∨ ∃ z' w', m_Parser_readContents_140 n z = some z' ∧ m_Model_segment1_161 n (nI c) w = some (0, w') ∧ RB B sz ce false z' w' := by
  have h8 : w.1 8 = nI ns := hw.2.2.2.2.2.2.2.2.2.2.2.1.1
  have hs' := hs
  obtain ⟨s1, s2, -⟩ := hs'
  have hB' := hB
  obtain ⟨d1, d2, d3, d4, d5, d6, d7⟩ := hB'
  rcases fin_T (n := n) (x := nI c) (ns := ns) hc hz.1 hw.1 h8 (by omega) (by omega) with h | ⟨e, h1, w', h2, h3⟩
  · exact Or.inl h
  · subst e
    exact Or.inr ⟨z, w', h1, h2, mkRB hz hw h3 hB hs⟩
theorem CO_219 {n : Nat} {B : Nat → Nat} {sz : Nat} {F : Option (Nat × Nat × Nat)} {hh ww iv ns nc : Nat} {qm wm : Nat → Option Nat} {sg : Nat → Nat × Nat} {sr : Nat → Nat → Nat} {lt : Nat → Option Nat} {lp ce p c : Nat} {t u : St} (hn : 20000 ≤ n) (hz : MO B sz F hh ww iv (ns + 1) nc qm wm (va_up sg ns (p, lp + 2)) sr lt false lp ce (lp + 2) t) (hw : MM B sz F hh ww iv ns nc qm wm sg sr lt lp ce (lp + 2) p u) (hB : Bs B sz p lp ce c) (hs : SI sz F hh iv ns nc qm wm lt p) (hc : c = 219) : CO n B sz ce c t u := by
  have hcc : nI c = 219 := by rw [hc]; rfl
  have hB' := hB
  obtain ⟨d1, d2, d3, d4, d5, d6, d7⟩ := hB'
  obtain ⟨s1, s2, s3, s4, s5, s6, s7, s8⟩ := hs
  have e1 : m_Parser_readContents n (nI c) t = (m_Parser_readQuantisers n t).bind (fun z => m_Parser_readContents_140 n z) := by
    unfold m_Parser_readContents
    rw [hcc, if_neg (by decide), if_neg (by decide), if_neg (by decide), if_neg (by decide), if_pos rfl]
  have e2 : segC n (nI c) u = (m_Model_readQuantisers n u).bind (fun z => m_Model_segment1_161 n (nI c) z) := by
    unfold segC
    rw [hcc, if_pos rfl]
  obtain ⟨A1, A2⟩ := O_qs (n := n) (B := B) (sz := sz) (ce := ce) (lp := lp) hn 5000 n 0 (lp + 2) t qm (by omega) (by omega) (by omega) (by omega) (by omega) hz.1 hz.2.2.2.2.2.2.2.2.2.1
  obtain ⟨B1, B2⟩ := R_qs (n := n) (B := B) (sz := sz) (ce := ce) (lp := lp) hn 5000 n (lp + 2) u qm (by omega) (by omega) (by omega) hw.1 hw.2.2.2.2.2.2.2.2.2.1
  unfold CO
  rw [e1, e2]
  cases hq : qs B sz ce lp 5000 (lp + 2) qm with
  | error e =>
    obtain ⟨z, z1, z2⟩ := A1 e hq
    obtain ⟨w, w1, w2⟩ := B1 e hq
    obtain ⟨z', w', f1, f2, f3, f4⟩ := fin_F (n := n) (x := nI c) z2 w2
    rw [show m_Parser_readQuantisers n t = some z from z1, show m_Model_readQuantisers n u = some w from w1]
    exact Or.inl ⟨z', w', e, f1, f2, f3, f4⟩
  | ok r =>
    obtain ⟨z, z1, z2, z3⟩ := A2 r.1 r.2 hq
    obtain ⟨w, w1, w2, w3⟩ := B2 r.1 r.2 hq
    have z1' : m_Parser_readQuantisers n t = some z := z1
    have w1' : m_Model_readQuantisers n u = some w := w1
    have xz := x_Parser_readQuantisers z1'
    have xw := x_Model_readQuantisers w1'
    have hz' := hz.step (qm' := r.2) (wm' := wm) (q' := r.1) (EqX.mono xz (by decide) (by decide) (by decide)) (q_Parser_readQuantisers z1') (g_Parser_readQuantisers z1') z2 z3 (by rw [xz.2.1 5 (by decide)]; exact hz.2.2.2.2.2.2.2.2.2.2.1)
    have hw' := hw.step (qm' := r.2) (wm' := wm) (q' := r.1) (EqX.mono xw (by decide) (by decide) (by decide)) (g_Model_readQuantisers w1') w2 w3 (by rw [xw.2.1 8 (by decide), xw.2.1 9 (by decide), xw.2.1 10 (by decide), xw.2.1 11 (by decide)]; exact hw.2.2.2.2.2.2.2.2.2.2.1)
    have hb : bdd r.2 := qs_b d7 5000 (lp + 2) qm r.2 r.1 s6 hq
    rw [z1', w1']
    exact fin_R (by rw [hcc]; decide) hz' hw' hB ⟨s1, s2, s3, s4, s5, hb, s7, s8⟩
theorem CO_196 {n : Nat} {B : Nat → Nat} {sz : Nat} {F : Option (Nat × Nat × Nat)} {hh ww iv ns nc : Nat} {qm wm : Nat → Option Nat} {sg : Nat → Nat × Nat} {sr : Nat → Nat → Nat} {lt : Nat → Option Nat} {lp ce p c : Nat} {t u : St} (hn : 20000 ≤ n) (hz : MO B sz F hh ww iv (ns + 1) nc qm wm (va_up sg ns (p, lp + 2)) sr lt false lp ce (lp + 2) t) (hw : MM B sz F hh ww iv ns nc qm wm sg sr lt lp ce (lp + 2) p u) (hB : Bs B sz p lp ce c) (hs : SI sz F hh iv ns nc qm wm lt p) (hc : c = 196) : CO n B sz ce c t u := by
  have hcc : nI c = 196 := by rw [hc]; rfl
  have hB' := hB
  obtain ⟨d1, d2, d3, d4, d5, d6, d7⟩ := hB'
  obtain ⟨s1, s2, s3, s4, s5, s6, s7, s8⟩ := hs
  have e1 : m_Parser_readContents n (nI c) t = (m_Parser_readWords n t).bind (fun z => m_Parser_readContents_140 n z) := by
    unfold m_Parser_readContents
    rw [hcc, if_neg (by decide), if_neg (by decide), if_pos rfl]
  have e2 : segC n (nI c) u = (m_Model_readWords n u).bind (fun z => m_Model_segment1_161 n (nI c) z) := by
    unfold segC
    rw [hcc, if_neg (by decide), if_pos rfl]
  obtain ⟨A1, A2⟩ := O_wd (n := n) (B := B) (sz := sz) (ce := ce) (lp := lp) hn 5000 n 0 (lp + 2) t wm (by omega) (by omega) (by omega) (by omega) (by omega) hz.1 hz.2.2.2.2.2.2.2.2.2.2.1
  obtain ⟨B1, B2⟩ := R_wd (n := n) (B := B) (sz := sz) (ce := ce) (lp := lp) hn 5000 n (lp + 2) u wm (by omega) (by omega) (by omega) hw.1 hw.2.2.2.2.2.2.2.2.2.2.1
  unfold CO
  rw [e1, e2]
  cases hq : wd B sz ce lp 5000 (lp + 2) wm with
  | error e =>
    obtain ⟨z, z1, z2⟩ := A1 e hq
    obtain ⟨w, w1, w2⟩ := B1 e hq
    obtain ⟨z', w', f1, f2, f3, f4⟩ := fin_F (n := n) (x := nI c) z2 w2
    rw [show m_Parser_readWords n t = some z from z1, show m_Model_readWords n u = some w from w1]
    exact Or.inl ⟨z', w', e, f1, f2, f3, f4⟩
  | ok r =>
    obtain ⟨z, z1, z2, z3⟩ := A2 r.1 r.2 hq
    obtain ⟨w, w1, w2, w3⟩ := B2 r.1 r.2 hq
    have z1' : m_Parser_readWords n t = some z := z1
    have w1' : m_Model_readWords n u = some w := w1
    have xz := x_Parser_readWords z1'
    have xw := x_Model_readWords w1'
    have hz' := hz.step (qm' := qm) (wm' := r.2) (q' := r.1) (EqX.mono xz (by decide) (by decide) (by decide)) (q_Parser_readWords z1') (g_Parser_readWords z1') z2 (by rw [xz.2.1 4 (by decide)]; exact hz.2.2.2.2.2.2.2.2.2.1) z3
    have hw' := hw.step (qm' := qm) (wm' := r.2) (q' := r.1) (EqX.mono xw (by decide) (by decide) (by decide)) (g_Model_readWords w1') w2 (by rw [xw.2.1 6 (by decide), xw.2.1 7 (by decide)]; exact hw.2.2.2.2.2.2.2.2.2.1) w3
    have hb : bdd r.2 := wd_b d7 5000 (lp + 2) wm r.2 r.1 s7 hq
    rw [z1', w1']
    exact fin_R (by rw [hcc]; decide) hz' hw' hB ⟨s1, s2, s3, s4, s5, s6, hb, s8⟩
