theorem RowF.eq {g h : Nat → Int32} {b c fi la bf bi d dl rs iv : Nat} {cf dc ac : Nat → Nat} (hk : RowF g b c fi la bf bi d dl rs iv cf dc ac) (hc : c ≤ 4) (e : ∀ q, q < 30 → h (b + q) = g (b + q)) : RowF h b c fi la bf bi d dl rs iv cf dc ac := by
  obtain ⟨⟨a1, a2, a3, a4, a5, a6, a7, a8⟩, a9, a10⟩ := hk
  refine ⟨⟨(e 0 (by omega)).trans a1, (e 1 (by omega)).trans a2, (e 2 (by omega)).trans a3, (e 3 (by omega)).trans a4, (e 4 (by omega)).trans a5, (e 5 (by omega)).trans a6, (e 8 (by omega)).trans a7, fun j hj => ?_⟩, (e 6 (by omega)).trans a9, (e 7 (by omega)).trans a10⟩
  obtain ⟨b1, b2, b3⟩ := a8 j hj
  have e1 := e (10 + 4 * j) (by omega)
  have e2 := e (11 + 4 * j) (by omega)
  have e3 := e (12 + 4 * j) (by omega)
  rw [show b + (10 + 4 * j) = b + 10 + 4 * j by omega] at e1
  rw [show b + (11 + 4 * j) = b + 11 + 4 * j by omega] at e2
  rw [show b + (12 + 4 * j) = b + 12 + 4 * j by omega] at e3
  exact ⟨e1.trans b1, e2.trans b2, e3.trans b3⟩
theorem SrR.eq {B : Nat → Nat} {sz b : Nat} {F : Option (Nat × Nat × Nat)} {s : Nat → Nat} {g h : Nat → Int32} (hr : SrR B sz F s g b) (e : ∀ q, q < 30 → h (b + q) = g (b + q)) : SrR B sz F s h b := by
  cases F with
  | none => exact hr
  | some x =>
    obtain ⟨cf, h1, h2, h3, h4, h5⟩ := hr
    exact ⟨cf, h1.eq h4 e, h2, h3, h4, h5⟩
theorem O_dataF {n : Nat} {t : St} {e : Er} (hn : 20000 ≤ n) (h : Fz t e) : m_Parser_readData n t = some t := by
  obtain ⟨m, rfl⟩ : ∃ m, n = m + 1 := ⟨n - 1, by omega⟩
  show m_Parser_readData_7b (m + 1) (m_Parser_readData_7 (m + 1) m) (t.1 9) 0 t = some t
  unfold m_Parser_readData_7b m_Parser_readData_139 m_Parser_fail
  rw [if_neg h.ne, if_neg h.ne, Option.bind_some]
/-- room as it was, or in bounds -/
def Cb (t z : St) : Prop := z.2.2.2 0 = t.2.2.2 0 ∧ 16 ≤ z.2.2.2 1 ∧ z.2.2.2 1 ≤ 16384 ∧ 16 ≤ z.2.2.2 2 ∧ z.2.2.2 2 ≤ 16384
/-- the class's scan, contents and data -/
def scanO (n : Nat) (t : St) : Option St := (m_Parser_readContents n (nI 218) t).bind (fun z53 => (m_Parser_readData n z53).bind (fun z64 => some z64))
/-- a row of the class's scan -/
def srN (c0 d dl rs iv : Nat) (k : Nat) : Nat := if k = 0 then c0 else if k = 1 then d else if k = 2 then dl else if k = 3 then rs else iv
/-- what comes of a scan: a fault, both before the next marker, or a restart out of turn, on which the class stands and which the reference refuses -/
def CS (n : Nat) (B : Nat → Nat) (sz ce : Nat) (t u : St) : Prop := (∃ z w e x, scanO n t = some z ∧ Fz z e ∧ Cb t z ∧ segC n (nI 218) u = some (x, w) ∧ Gz w e) ∨ (∃ z w p' ln, scanO n t = some z ∧ segC n (nI 218) u = some (bI ln, w) ∧ RB B sz p' ln z w ∧ ce ≤ p' ∧ z.2.2.2 0 = t.2.2.2 0) ∨ ∃ z w q x ln F hh ww iv ns nc qm wm sg sr lt, scanO n t = some z ∧ RO B sz F hh ww iv ns nc qm wm sg sr lt q ln z ∧ segC n (nI 218) u = some (x, w) ∧ Gz w (4, q + 1) ∧ q + 2 ≤ sz ∧ B q = 255 ∧ 208 ≤ B (q + 1) ∧ B (q + 1) ≤ 215 ∧ ce ≤ q ∧ z.2.2.2 0 = t.2.2.2 0
theorem CS_all {n : Nat} {B : Nat → Nat} {sz : Nat} {F : Option (Nat × Nat × Nat)} {hh ww iv ns nc : Nat} {qm wm : Nat → Option Nat} {sg : Nat → Nat × Nat} {sr : Nat → Nat → Nat} {lt : Nat → Option Nat} {lp ce p c : Nat} {t u : St} (hn : 20000 ≤ n) (hz : MO B sz F hh ww iv (ns + 1) nc qm wm (va_up sg ns (p, lp + 2)) sr lt false lp ce (lp + 2) t) (hw : MM B sz F hh ww iv ns nc qm wm sg sr lt lp ce (lp + 2) p u) (hB : Bs B sz p lp ce c) (hs : SI sz F hh iv ns nc qm wm lt p) (hF : F.isSome = true) (hc : c = 218) : CS n B sz ce t u := by
  subst hc
  obtain ⟨⟨cd, p0, cnt⟩, rfl⟩ := Option.isSome_iff_exists.mp hF
  have hB' := hB
  obtain ⟨d1, d2, d3, d4, d5, d6, d7⟩ := hB'
  obtain ⟨s1, s2, s3, s4, s5, s6, s7, s8⟩ := hs
  have e1 : m_Parser_readContents n (nI 218) t = (m_Parser_readScan n t).bind (fun z => m_Parser_readContents_140 n z) := by
    unfold m_Parser_readContents
    rw [if_neg (by decide), if_neg (by decide), if_neg (by decide), if_pos (by decide)]
  have e2 : segC n (nI 218) u = (m_Model_readScan n u).bind (fun z => m_Model_segment1_161 n (nI 218) z) := by
    unfold segC
    rw [if_neg (by decide), if_neg (by decide), if_neg (by decide), if_neg (by decide), if_neg (by decide), if_pos (by decide)]
  have hw0 := hw
  have hz0 := hz
  obtain ⟨m1, m2, m3, m4, m5, m6, m7, m8, m9, m10, m11, m12, m13⟩ := hw
  obtain ⟨o1, o2, o3, o4, o5, o6, o7, o8, o9, o10, o11, o12, o13, o14⟩ := hz
  obtain ⟨f1, f2, f3, f4⟩ := o6
  obtain ⟨g1, g2, g3, g4, g5⟩ := m6
  have hcd : cd = 192 ∨ cd = 194 := f3
  have h1 : (t.1 1 = 192) ↔ decide (cd = 192) = true := by
    rw [f1, decide_eq_true_iff]
    exact nI_eq (a := cd) (b := 192) (by omega) (by omega)
  have h9 : (u.1 9 = 194) ↔ decide (cd = 192) = false := by
    rw [g1, decide_eq_false_iff_not]
    refine Iff.trans (nI_eq (a := cd) (b := 194) (by omega) (by omega)) ?_
    omega
  have hss : decide (cd = 192) = true → hsS lt := by
    intro q
    rcases s8 with ⟨x, hx, hy⟩ | s8
    · cases hx
      have := of_decide_eq_true q
      dsimp only at hy
      omega
    · exact s8
  have A := O_readScan (n := n) (seq := decide (cd = 192)) (qm := qm) (wm := wm) (lt := lt) hn o1 (by omega) f2 o10 s6 o11 s7 o5 h1 (fun j hj => (g3.2.2 j hj).2.1)
  have M := R_readScan (n := n) (seq := decide (cd = 192)) (qm := qm) (wm := wm) (lt := lt) hn m1 (by omega) g2 g3 m10 m11 m5 h9 hss
  have hcap : ∀ z, m_Parser_readContents n (nI 218) t = some z → Cb t z := by
    intro z h
    have q := q_Parser_readContents h
    unfold Cb
    rw [q]
    exact ⟨rfl, o14.2.1, o14.2.2.1, o14.2.2.2.2.1, o14.2.2.2.2.2⟩
  have hfault : ∀ z w e, m_Parser_readContents n (nI 218) t = some z → Fz z e → segC n (nI 218) u = some (0, w) → Gz w e → CS n B sz ce t u := by
    intro z w e a1 a2 a3 a4
    refine Or.inl ⟨z, w, e, 0, ?_, a2, hcap z a1, a3, a4⟩
    unfold scanO
    rw [a1, Option.bind_some, O_dataF hn a2, Option.bind_some]
  cases hq : sc B sz ce lp (lp + 2) p0 cnt (decide (cd = 192)) qm wm lt with
  | error e =>
    rw [hq] at A M
    obtain ⟨z, z1, z2⟩ := A
    obtain ⟨w, w1, w2⟩ := M
    dsimp only at z2 w2
    obtain ⟨z', w', k1, k2, k3, k4⟩ := fin_F (n := n) (x := nI 218) z2 w2
    refine hfault z' w' e ?_ k2 ?_ k4
    · rw [e1, z1]; exact k1
    · rw [e2, w1]; exact k3
  | ok r =>
    rw [hq] at A M
    obtain ⟨z, z1, zA, z15, zL⟩ := A
    obtain ⟨w, w1, ⟨wA, wS, wb⟩, wr⟩ := M
    obtain ⟨r1, r2, r3, r4, r5, r6, r7, r8, r9⟩ := sc_ok hq
    have xz := x_Parser_readScan z1
    have xw := x_Model_readScan w1
    have gz := g_Parser_readScan z1
    have gw := g_Model_readScan w1
    have qz := q_Parser_readScan z1
    have h8 : w.1 8 = nI ns := (xw.1 8 (by decide)).trans m12.1
    have a140 := O_140 (n := n) zA
    have aclo := R_close (n := n) (x1 := nI 218) wA h8 (by omega) (by omega)
    rw [z1, Option.bind_some] at e1
    rw [w1, Option.bind_some] at e2
    by_cases hce : lp + 2 + 4 + 2 * r.1 = ce
    · rw [if_pos hce] at a140 aclo
      obtain ⟨z', b1, b2⟩ := a140
      obtain ⟨w', k1, k2⟩ := aclo
      dsimp only at b2 k2
      subst b2
      rw [hce] at zA wA
      rw [b1] at e1
      -- both after the contents
      have hM : MM B sz (some (cd, p0, cnt)) hh ww iv ns nc qm wm sg sr lt lp ce ce p w := by
        refine ⟨wA, (gw wA.2.1).2.trans m2, (xw.1 6 (by decide)).trans m3, (xw.1 7 (by decide)).trans m4, ?_, FM1.eq ⟨g1, g2, g3, g4, g5⟩ (xw.1 9 (by decide)) (xw.1 12 (by decide)) (xw.2.1 2 (by decide)) (xw.2.1 3 (by decide)) (xw.2.1 4 (by decide)) (xw.2.1 5 (by decide)), (xw.1 10 (by decide)).trans m7, (xw.1 11 (by decide)).trans m8, (xw.1 13 (by decide)).trans m9, ?_, ?_, m12.eq (xw.1 8 (by decide)) (xw.2.1 1 (by decide)), m13.eq (xw.1 14 (by decide)) (xw.2.1 12 (by decide))⟩
        · rw [xw.2.1 13 (by decide)]; exact m5
        · rw [xw.2.1 6 (by decide), xw.2.1 7 (by decide)]; exact m10
        · rw [xw.2.1 8 (by decide), xw.2.1 9 (by decide), xw.2.1 10 (by decide), xw.2.1 11 (by decide)]; exact m11
      obtain ⟨hR, hR6⟩ := hM.close k2 hB
      have hx5 := k2.2.2.2.2.2.2.2
      have hce2 : ce ≤ sz := wA.2.2.2.2.2.1
      obtain ⟨v1, v2, v3, v4, v5, v6, v7, v8, v9, v10, v11, v12, v13, v14, v15⟩ := hR
      have hSM : ScM B (lp + 2) r.1 r.2.2.1 r.2.2.2.1 (r.2.2.2.2 / 16) (r.2.2.2.2 % 16) cnt r.2.1 w' := by
        obtain ⟨y1, y2, y3, y4, y5, y6, y7, y8⟩ := wS
        refine ⟨(hx5.1 15 (by decide)).trans y1, (hx5.1 17 (by decide)).trans y2, (hx5.1 18 (by decide)).trans y3, (hx5.1 19 (by decide)).trans y4, (hx5.1 20 (by decide)).trans y5, ?_, ?_, y8⟩
        · rw [hx5.2.1 14 (by decide)]; exact y6
        · unfold PD
          rw [hx5.2.1 15 (by decide), hx5.2.1 16 (by decide), hx5.2.1 17 (by decide)]; exact y7
      obtain ⟨K1, K2⟩ := R_keep (n := n) (nc := nc) (d := ce) (iv := iv) (B := B) (sz := sz) (lt := lt) (u := w') hn v1 v2 v5 v4 hce2 v11 s4 v15.1 (by omega) hSM v7
      have e161 : m_Model_segment1_161 n (nI 218) w = (m_Model_keepScan n w').bind (fun z181 => if (z181.1 11) = 0 then if (z181.1 14) = (1 : Int32) then some ((1 : Int32), z181) else m_Model_segment1_203 n z181 else m_Model_segment1_203 n z181) := by
        unfold m_Model_segment1_161
        rw [k1, Option.bind_some, if_pos (by decide), if_pos v2]
      rw [e161] at e2
      have hkeepF : ∀ w'' : St, m_Model_keepScan n w' = some w'' → ∃ x, segC n (nI 218) u = some (x, w'') := by
        intro w'' hk
        rw [e2, hk, Option.bind_some]
        by_cases q1 : w''.1 11 = 0
        · rw [if_pos q1]
          by_cases q2 : w''.1 14 = 1
          · rw [if_pos q2]; exact ⟨1, rfl⟩
          · rw [if_neg q2]; exact ⟨0, rfl⟩
        · rw [if_neg q1]; exact ⟨0, rfl⟩
      -- the class's data
      have hzI : InO B sz z' := zA.1
      have hz8 : z'.1 8 = nI (5 * nc) := (xz.1 8 (by decide)).trans o13.1
      have hzR : RmS nc z' := ⟨hz8, by omega, by rw [qz]; exact o14.2.2.2.1, by rw [qz]; exact o14.2.2.2.2.1, by rw [qz]; exact o14.2.2.2.2.2⟩
      have hz5 : z'.1 5 = nI iv := (xz.1 5 (by decide)).trans o9
      have hz3 : z'.1 3 = nI hh := (xz.1 3 (by decide)).trans o8
      obtain ⟨D1, D2⟩ := O_dt (n := n) (nc := nc) (from' := ce) (hh := hh) (iv := iv) (B := B) (sz := sz) (t := z') hzI zA.2.1 hz5 s4 hzR hz3 (by omega) (sz - ce + 1) n ce 0 (by omega) (by omega) hce2 (by omega) (by omega)
      have edt : scanO n t = (m_Parser_readData_7 n n (nI ce) (nI 0) (sG z' 9 (nI ce))).bind (fun z => some z) := by
        unfold scanO
        rw [e1, Option.bind_some, sG_self zA.2.2.1]
        show (m_Parser_readData_7 n n (z'.1 9) 0 z').bind _ = _
        rw [zA.2.2.1]
        rfl
      have hz1c : z'.2.2.2 = t.2.2.2 := qz
      cases hd : dt B sz iv (sz - ce + 1) ce 0 with
      | error e =>
        obtain ⟨y, y1, y2, y3, y4, y5, y6⟩ := D1 e hd
        obtain ⟨w'', k3, k4⟩ := K1 e hd
        obtain ⟨x, hx⟩ := hkeepF w'' k3
        refine Or.inl ⟨y, w'', e, x, ?_, y2, ?_, hx, k4⟩
        · rw [edt, y1, Option.bind_some]
        · refine ⟨?_, ?_, ?_, y5, y6⟩
          · rw [y3, hz1c]
          · rw [y4, hz1c]; exact o14.2.1
          · rw [y4, hz1c]; exact o14.2.2.1
      | ok r' =>
        obtain ⟨j1, j2, j3, j4, j5, j6, j7⟩ := dt_ok _ _ _ _ hd
        have hBb := (hzI.2.2.2.2 (r'.1 + 1) (by omega)).2
        obtain ⟨zz, ln, i1, i2, i3⟩ := O_end18 (n := n) (nc := nc) (from' := ce) (pl := r'.1) (rs := r'.2.1) (hh := hh) (t := sG z' 9 (nI r'.1)) hzR rfl j1 (Or.inl hz3) (by omega)
        have eS : scanO n t = some zz := by
          rw [edt, D2 r' hd]
          unfold m_Parser_endData
          rw [if_neg (show ¬ nI (B (r'.1 + 1)) = -1 from fun y => (mI_eq (a := B (r'.1 + 1)) (by omega)).mp y.symm), i1]
          rfl
        have hln := i3 hz3
        obtain ⟨n12, n8, nr, n0, n1, n2, n3, n4, nc1, nc2, nc3, nc4, nc5, nx⟩ := i2
        have hRO : RO B sz (some (cd, p0, cnt)) hh ww iv (ns + 1) (nc + 1) qm wm (va_up sg ns (p, lp + 2)) (va_up sr nc (srN (lp + 2) ce (r'.1 - ce) r'.2.1 iv)) (nt (r.2.2.2.2 % 16) r.2.2.1 r.2.2.2.1 r.2.1 r.1 0 lt) r'.1 ln zz := by
          refine ⟨?_, (nx.1 13 (by decide)).trans zA.2.1, (nx.1 14 (by decide)).trans ((gz zA.2.1).2.trans o2), nx.1 9 (by decide), n12, (nx.1 6 (by decide)).trans ((xz.1 6 (by decide)).trans o4), ?_, ?_, (nx.1 2 (by decide)).trans ((xz.1 2 (by decide)).trans o7), (nx.1 3 (by decide)).trans hz3, (nx.1 5 (by decide)).trans hz5, ?_, ?_, ?_, ⟨n8, fun i hi k hk => ?_⟩, ?_⟩
          · unfold InO
            rw [nx.1 0 (by decide), nx.2.1 0 (by decide), nc4]
            exact hzI
          · rw [nx.2.1 7 (by decide)]; exact zL
          · exact FO1.eq (t := t) ⟨f1, f2, f3, f4⟩ ((nx.1 1 (by decide)).trans (xz.1 1 (by decide))) ((nx.1 4 (by decide)).trans (xz.1 4 (by decide))) ((nx.2.1 3 (by decide)).trans (xz.2.1 3 (by decide)))
          · rw [nx.2.1 4 (by decide)]; show PQ (z'.2.1 4) qm; rw [xz.2.1 4 (by decide)]; exact o10
          · rw [nx.2.1 5 (by decide)]; show PW (z'.2.1 5) wm; rw [xz.2.1 5 (by decide)]; exact o11
          · exact o12.eq ((nx.1 7 (by decide)).trans (xz.1 7 (by decide))) ((nx.2.1 1 (by decide)).trans (xz.2.1 1 (by decide)))
          · by_cases q : i = nc
            · rw [q, show va_up sr nc (srN (lp + 2) ce (r'.1 - ce) r'.2.1 iv) nc = srN (lp + 2) ce (r'.1 - ce) r'.2.1 iv from if_pos rfl]
              unfold srN
              by_cases q0 : k = 0
              · rw [if_pos q0, q0]; exact n0.trans z15
              · rw [if_neg q0]
                by_cases q1 : k = 1
                · rw [if_pos q1, q1]; exact n1
                · rw [if_neg q1]
                  by_cases q2 : k = 2
                  · rw [if_pos q2, q2]; exact n2
                  · rw [if_neg q2]
                    by_cases q3 : k = 3
                    · rw [if_pos q3, q3]; exact n3
                    · rw [if_neg q3, show k = 4 by omega]; exact n4.trans hz5
            · rw [show va_up sr nc (srN (lp + 2) ce (r'.1 - ce) r'.2.1 iv) i = sr i from if_neg q, nr _ (by omega)]
              show z'.2.1 2 _ = _
              rw [xz.2.1 2 (by decide)]
              exact o13.2 i (by omega) k hk
          · have c1 : zz.2.2.2 1 = t.2.2.2 1 := nc5.trans (by show z'.2.2.2 1 = _; rw [hz1c])
            exact ⟨by rw [c1]; exact o14.1, by rw [c1]; exact o14.2.1, by rw [c1]; exact o14.2.2.1, nc1, nc2, nc3⟩
        have hz0c : zz.2.2.2 0 = t.2.2.2 0 := nc4.trans (by show z'.2.2.2 0 = _; rw [hz1c])
        cases hwr : r'.2.2 with
        | true =>
          obtain ⟨w'', k3, k4⟩ := (K2 r' hd).1 hwr
          obtain ⟨x, hx⟩ := hkeepF w'' k3
          exact Or.inr (Or.inr ⟨zz, w'', r'.1, x, ln, _, _, _, _, _, _, _, _, _, _, _, eS, hRO, hx, k4, j2, j3, (j5 hwr).1, (j5 hwr).2, j1, hz0c⟩)
        | false =>
          obtain ⟨w'', k3, k4, k5, k6, k7, k8, kx⟩ := (K2 r' hd).2 hwr
          have k11 : w''.1 11 = nI hh := (kx.1 11 (by decide)).trans v10
          refine Or.inr (Or.inl ⟨zz, w'', r'.1, ln, eS, ?_, ⟨_, _, _, _, _, _, _, _, _, _, _, hRO, ?_, ?_⟩, j1, hz0c⟩)
          · rw [e2, k3, Option.bind_some, k11, k5, hln]
            by_cases q1 : hh = 0
            · rw [if_pos (show nI hh = 0 by rw [q1]; rfl), decide_eq_true q1]
              by_cases q2 : nc = 0
              · rw [if_pos (show nI (nc + 1) = 1 by rw [q2]; rfl), decide_eq_true q2]; rfl
              · rw [if_neg (show ¬ nI (nc + 1) = 1 from nI_ne (b := 1) (by omega) (by omega) (by omega)), decide_eq_false q2]; rfl
            · rw [if_neg (show ¬ nI hh = 0 from nI_ne0 (by omega) (by omega)), decide_eq_false q1, Bool.and_false]; rfl
          · refine ⟨?_, (kx.1 2 (by decide)).trans v2, (kx.1 3 (by decide)).trans v3, k4, (kx.1 5 (by decide)).trans v5, (kx.1 7 (by decide)).trans v6, k6, v8.eq (kx.1 9 (by decide)) (kx.1 12 (by decide)) (kx.2.1 2 (by decide)) (kx.2.1 3 (by decide)) (kx.2.1 4 (by decide)) (kx.2.1 5 (by decide)), (kx.1 10 (by decide)).trans v9, k11, (kx.1 13 (by decide)).trans v11, ?_, ?_, v14.eq (kx.1 8 (by decide)) (kx.2.1 1 (by decide)), k5, fun i hi => ?_⟩
            · unfold InM
              rw [kx.1 1 (by decide), kx.2.1 0 (by decide)]; exact v1
            · rw [kx.2.1 6 (by decide), kx.2.1 7 (by decide)]; exact v12
            · rw [kx.2.1 8 (by decide), kx.2.1 9 (by decide), kx.2.1 10 (by decide), kx.2.1 11 (by decide)]; exact v13
            · by_cases q : i = nc
              · rw [q, show va_up sr nc (srN (lp + 2) ce (r'.1 - ce) r'.2.1 iv) nc = srN (lp + 2) ce (r'.1 - ce) r'.2.1 iv from if_pos rfl]
                rw [r4, r3, r2, r1] at k8
                refine ⟨r.2.1, k8, fun j hj => r8 j (by rw [r1]; exact hj), ?_, ?_, ?_, ?_, ?_, s4⟩
                · show 1 ≤ B (lp + 2); omega
                · show B (lp + 2) ≤ 4; omega
                · show lp + 2 + 4 + 2 * B (lp + 2) ≤ sz; omega
                · show ce + (r'.1 - ce) + 2 ≤ sz; omega
                · show r'.2.1 ≤ sz; omega
              · rw [show va_up sr nc (srN (lp + 2) ce (r'.1 - ce) r'.2.1 iv) i = sr i from if_neg q]
                exact (v15.2 i (by omega)).eq (fun q hq => k7 _ (by omega))
          · refine ⟨by omega, by omega, by omega, s4, s5, s6, s7, ?_⟩
            rcases hcd with hcd | hcd
            · refine Or.inr ?_
              have hsq : decide (cd = 192) = true := decide_eq_true hcd
              obtain ⟨x1, x2⟩ := r9 hsq
              rw [x1, x2]
              exact nt_hs _ _ _ (hss hsq)
            · exact Or.inl ⟨_, rfl, hcd⟩
    · rw [if_neg hce] at a140 aclo
      obtain ⟨z', b1, b2⟩ := a140
      obtain ⟨w', k1, k2⟩ := aclo
      dsimp only at b2 k2
      refine hfault z' w' _ ?_ b2 ?_ k2
      · rw [e1]; exact b1
      · rw [e2]
        unfold m_Model_segment1_161
        rw [k1, Option.bind_some, if_pos (by decide), if_neg k2.ne]
