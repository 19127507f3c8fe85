theorem CO_221 {n : Nat} {B : Nat → Nat} {sz : Nat} {F : Option (Nat × Nat × Nat)} {hh ww iv ns nc : Nat} {qm wm : Nat → Option Nat} {sg : Nat → Nat × Nat} {sr : Nat → Nat → Nat} {lt : Nat → Option Nat} {lp ce p c : Nat} {t u : St} (hn : 20000 ≤ n) (hz : MO B sz F hh ww iv (ns + 1) nc qm wm (va_up sg ns (p, lp + 2)) sr lt false lp ce (lp + 2) t) (hw : MM B sz F hh ww iv ns nc qm wm sg sr lt lp ce (lp + 2) p u) (hB : Bs B sz p lp ce c) (hs : SI sz F hh iv ns nc qm wm lt p) (hc : c = 221) : CO n B sz ce c t u := by
  have hcc : nI c = 221 := by rw [hc]; rfl
  have hB' := hB
  obtain ⟨d1, d2, d3, d4, d5, d6, d7⟩ := hB'
  obtain ⟨s1, s2, s3, s4, s5, s6, s7, s8⟩ := hs
  have e1 : m_Parser_readContents n (nI c) t = (m_Parser_takePair n (nI 0) (nI 65535) t).bind (fun z90 => m_Parser_readContents_140 n (sG z90.2 5 z90.1)) := by
    unfold m_Parser_readContents
    rw [hcc, if_neg (by decide), if_neg (by decide), if_neg (by decide), if_neg (by decide), if_neg (by decide), if_neg (by decide), if_pos rfl]
    rfl
  have e2 : segC n (nI c) u = (m_Model_two n u).bind (fun z49 => if (z49.2.1 2) = 0 then m_Model_segment1_69 n (nI c) z49.1 z49.2 else m_Model_segment1_69 n (nI c) (z49.2.1 13) z49.2) := by
    unfold segC
    rw [hcc, if_neg (by decide), if_neg (by decide), if_pos rfl]
  have A := hz.1.tpE (n := n) 0 65535 (by omega) (by omega)
  have M := hw.1.twoE (n := n)
  unfold CO
  rw [e1, e2]
  cases hq : tp B sz ce lp (lp + 2) 0 65535 with
  | error e =>
    rw [hq] at A M
    obtain ⟨z, z1, z2⟩ := A
    obtain ⟨w, w1, w2⟩ := M
    dsimp only at z2 w2
    rw [z1, w1, Option.bind_some, Option.bind_some, if_neg w2.ne]
    have hf : Fz (sG z.2 5 z.1) e := z2.2
    have hg : Gz (sG w.2 13 (w.2.1 13)) e := w2
    obtain ⟨z', w', f1, f2, f3, f4⟩ := fin_F (n := n) (x := nI c) hf hg
    exact Or.inl ⟨z', w', e, f1, f2, f3, f4⟩
  | ok v =>
    rw [hq] at A M
    obtain ⟨z, z1, z2, a1, a2, a3, -⟩ := A
    obtain ⟨w, w1, w2, -⟩ := M
    subst z2 w2
    rw [z1, w1, Option.bind_some, Option.bind_some]
    dsimp only
    rw [if_pos (show (sG u 4 (nI (lp + 2 + 2))).1 2 = 0 from hw.1.2.1)]
    have hz' : MO B sz F hh ww v (ns + 1) nc qm wm (va_up sg ns (p, lp + 2)) sr lt false lp ce (lp + 2 + 2) (sG (sG t 9 (nI (lp + 2 + 2))) 5 (nI v)) := by
      obtain ⟨⟨y1, y2, y3, y4, y5, y6, y7⟩, b1, b2, b3, b4, c1, c2, c3, c4, c5, c6, c7, c8, c9⟩ := hz
      exact ⟨⟨y1, y2, rfl, y4, y5, by omega, y7⟩, b1, b2, b3, b4, c1.eq rfl rfl rfl, c2, c3, rfl, c5, c6, c7, c8, c9⟩
    have hw' : MM B sz F hh ww v ns nc qm wm sg sr lt lp ce (lp + 2 + 2) p (sG (sG u 4 (nI (lp + 2 + 2))) 13 (nI v)) := by
      obtain ⟨⟨y1, y2, y3, y4, y5, y6, y7⟩, b1, b2, b3, b4, c1, c2, c3, c4, c5, c6, c7, c8⟩ := hw
      exact ⟨⟨y1, y2, rfl, y4, y5, a1, a2, y7.2⟩, b1, b2, b3, b4, c1.eq rfl rfl rfl rfl rfl rfl, c2, c3, rfl, c5, c6, c7, c8⟩
    exact fin_R (by rw [hcc]; decide) hz' hw' hB ⟨s1, s2, s3, a3, s5, s6, s7, s8⟩
theorem CO_220 {n : Nat} {B : Nat → Nat} {sz : Nat} {F : Option (Nat × Nat × Nat)} {hh ww iv ns nc : Nat} {qm wm : Nat → Option Nat} {sg : Nat → Nat × Nat} {sr : Nat → Nat → Nat} {lt : Nat → Option Nat} {ln : Bool} {lp ce p c : Nat} {t u : St} (hn : 20000 ≤ n) (hz : MO B sz F hh ww iv (ns + 1) nc qm wm (va_up sg ns (p, lp + 2)) sr lt ln lp ce (lp + 2) t) (hw : MM B sz F hh ww iv ns nc qm wm sg sr lt lp ce (lp + 2) p u) (hB : Bs B sz p lp ce c) (hs : SI sz F hh iv ns nc qm wm lt p) (hc : c = 220) : CO n B sz ce c t u := by
  have hcc : nI c = 220 := by rw [hc]; rfl
  have hB' := hB
  obtain ⟨d1, d2, d3, d4, d5, d6, d7⟩ := hB'
  obtain ⟨s1, s2, s3, s4, s5, s6, s7, s8⟩ := hs
  have e1 : m_Parser_readContents n (nI c) t = (m_Parser_takePair n (nI 1) (nI 64) t).bind (fun z122 => m_Parser_readContents_140 n (sG (sG z122.2 3 z122.1) 12 (0 : Int32))) := by
    unfold m_Parser_readContents
    rw [hcc, if_neg (by decide), if_neg (by decide), if_neg (by decide), if_neg (by decide), if_neg (by decide), if_pos rfl]
    rfl
  have e2 : segC n (nI c) u = (m_Model_two n u).bind (fun z119 => if 0 < (z119.2.1 2) then m_Model_segment1_141 n (nI c) z119.1 z119.2 else if z119.1 ≤ 0 then m_Model_segment1_145 n (nI c) z119.1 z119.2 else if (64 : Int32) < z119.1 then m_Model_segment1_145 n (nI c) z119.1 z119.2 else m_Model_segment1_141 n (nI c) z119.1 z119.2) := by
    unfold segC
    rw [hcc, if_neg (by decide), if_neg (by decide), if_neg (by decide), if_neg (by decide), if_neg (by decide), if_neg (by decide), if_pos rfl]
  have A := hz.1.tpE (n := n) 1 64 (by omega) (by omega)
  have M := hw.1.twoE (n := n)
  unfold CO
  rw [e1, e2]
  cases hq : tp B sz ce lp (lp + 2) 0 65535 with
  | error e =>
    rw [tp_er 1 64 hq] at A
    rw [hq] at M
    obtain ⟨z, z1, z2⟩ := A
    obtain ⟨w, w1, w2⟩ := M
    dsimp only at z2 w2
    rw [z1, w1, Option.bind_some, Option.bind_some, if_pos w2.pos]
    have hf : Fz (sG (sG z.2 3 z.1) 12 0) e := z2.2
    have hg : Gz (sG w.2 11 w.1) e := w2
    obtain ⟨z', w', f1, f2, f3, f4⟩ := fin_F (n := n) (x := nI c) hf hg
    exact Or.inl ⟨z', w', e, f1, f2, f3, f4⟩
  | ok v =>
    rw [tp_rg 1 64 hq] at A
    rw [hq] at M
    obtain ⟨w, w1, w2, m1, m2, m3⟩ := M
    subst w2
    rw [w1, Option.bind_some]
    dsimp only
    have h2 : (sG u 4 (nI (lp + 2 + 2))).1 2 = 0 := hw.1.2.1
    rw [if_neg (show ¬ 0 < (sG u 4 (nI (lp + 2 + 2))).1 2 by rw [h2]; decide)]
    by_cases q : v < 1 ∨ 64 < v
    · rw [if_pos q] at A
      obtain ⟨z, z1, z2⟩ := A
      dsimp only at z2
      rw [z1, Option.bind_some]
      have hf : Fz (sG (sG z.2 3 z.1) 12 0) (6, lp + 2 + 1) := z2.2
      have e3 : m_Model_segment1_145 n (nI c) (nI v) (sG u 4 (nI (lp + 2 + 2))) = m_Model_segment1_161 n (nI c) (sG (fM (sG u 4 (nI (lp + 2 + 2))) (6, lp + 2 + 1)) 11 (nI v)) := by
        unfold m_Model_segment1_145 m_Model_segment1_146 m_Model_must m_Model_wrong
        rw [if_pos rfl, if_pos h2, Option.bind_some, Option.bind_some, sG_at, nI_pred]
        rfl
      have e4 : (if nI v ≤ 0 then m_Model_segment1_145 n (nI c) (nI v) (sG u 4 (nI (lp + 2 + 2))) else if (64 : Int32) < nI v then m_Model_segment1_145 n (nI c) (nI v) (sG u 4 (nI (lp + 2 + 2))) else m_Model_segment1_141 n (nI c) (nI v) (sG u 4 (nI (lp + 2 + 2)))) = m_Model_segment1_145 n (nI c) (nI v) (sG u 4 (nI (lp + 2 + 2))) := by
        by_cases q1 : v < 1
        · rw [if_pos (show nI v ≤ 0 from nI_le (b := 0) (by omega) (by omega))]
        · rw [if_neg (nI_nle (by omega) (by omega)), if_pos (show (64 : Int32) < nI v from nI_lt (a := 64) (by omega) (by omega))]
      rw [e4, e3]
      have hg : Gz (sG (fM (sG u 4 (nI (lp + 2 + 2))) (6, lp + 2 + 1)) 11 (nI v)) (6, lp + 2 + 1) := ⟨rfl, rfl, by simp, by simp⟩
      obtain ⟨z', w', f1, f2, f3, f4⟩ := fin_F (n := n) (x := nI c) hf hg
      exact Or.inl ⟨z', w', _, f1, f2, f3, f4⟩
    · rw [if_neg q] at A
      obtain ⟨z, z1, z2, a1, a2, a3, -⟩ := A
      subst z2
      rw [z1, Option.bind_some]
      dsimp only
      rw [if_neg (nI_nle (n := v) (by omega) (by omega)), if_neg (show ¬ (64 : Int32) < nI v from nI_nlt (b := v) (a := 64) (by omega) (by omega) |> fun h => h)]
      have hz' : MO B sz F v ww iv (ns + 1) nc qm wm (va_up sg ns (p, lp + 2)) sr lt false lp ce (lp + 2 + 2) (sG (sG (sG t 9 (nI (lp + 2 + 2))) 3 (nI v)) 12 0) := by
        obtain ⟨⟨y1, y2, y3, y4, y5, y6, y7⟩, b1, b2, b3, b4, c1, c2, c3, c4, c5, c6, c7, c8, c9⟩ := hz
        exact ⟨⟨y1, y2, rfl, y4, y5, by omega, y7⟩, b1, rfl, b3, b4, c1.eq rfl rfl rfl, c2, rfl, c4, c5, c6, c7, c8, c9⟩
      have hw' : MM B sz F v ww iv ns nc qm wm sg sr lt lp ce (lp + 2 + 2) p (sG (sG u 4 (nI (lp + 2 + 2))) 11 (nI v)) := by
        obtain ⟨⟨y1, y2, y3, y4, y5, y6, y7⟩, b1, b2, b3, b4, c1, c2, c3, c4, c5, c6, c7, c8⟩ := hw
        exact ⟨⟨y1, y2, rfl, y4, y5, a1, a2, y7.2⟩, b1, b2, b3, b4, c1.eq rfl rfl rfl rfl rfl rfl, c2, rfl, c4, c5, c6, c7, c8⟩
      have e3 : m_Model_segment1_141 n (nI c) (nI v) (sG u 4 (nI (lp + 2 + 2))) = m_Model_segment1_161 n (nI c) (sG (sG u 4 (nI (lp + 2 + 2))) 11 (nI v)) := by
        unfold m_Model_segment1_141 m_Model_segment1_146 m_Model_must
        rw [if_neg (by decide), Option.bind_some]
      rw [e3]
      exact fin_R (by rw [hcc]; decide) hz' hw' hB ⟨s1, s2, s3, s4, by omega, s6, s7, s8⟩
theorem CO_free {n : Nat} {B : Nat → Nat} {sz : Nat} {F : Option (Nat × Nat × Nat)} {hh ww iv ns nc : Nat} {qm wm : Nat → Option Nat} {sg : Nat → Nat × Nat} {sr : Nat → Nat → Nat} {lt : Nat → Option Nat} {lp ce p c : Nat} {t u : St} (hn : 20000 ≤ n) (hz : MO B sz F hh ww iv (ns + 1) nc qm wm (va_up sg ns (p, lp + 2)) sr lt false lp ce (lp + 2) t) (hw : MM B sz F hh ww iv ns nc qm wm sg sr lt lp ce (lp + 2) p u) (hB : Bs B sz p lp ce c) (hs : SI sz F hh iv ns nc qm wm lt p) (hc : 222 ≤ c ∧ c < 256) : CO n B sz ce c t u := by
  have hne : ∀ k, k < 222 → ¬ nI c = nI k := fun k hk => nI_ne (by omega) (by omega) (by omega)
  have hB' := hB
  obtain ⟨d1, d2, d3, d4, d5, d6, d7⟩ := hB'
  have e1 : m_Parser_readContents n (nI c) t = (m_Parser_skipContents n t).bind (fun z137 => m_Parser_readContents_140 n z137) := by
    unfold m_Parser_readContents
    rw [if_neg (show ¬ nI c = 192 from hne 192 (by omega)), if_neg (show ¬ nI c = 194 from hne 194 (by omega)), if_neg (show ¬ nI c = 196 from hne 196 (by omega)), if_neg (show ¬ nI c = 218 from hne 218 (by omega)), if_neg (show ¬ nI c = 219 from hne 219 (by omega)), if_neg (show ¬ nI c = 220 from hne 220 (by omega)), if_neg (show ¬ nI c = 221 from hne 221 (by omega))]
  have e2 : segC n (nI c) u = (m_Model_any n u).bind (fun z => m_Model_segment1_161 n (nI c) z) := by
    unfold segC
    rw [if_neg (show ¬ nI c = 219 from hne 219 (by omega)), if_neg (show ¬ nI c = 196 from hne 196 (by omega)), if_neg (show ¬ nI c = 221 from hne 221 (by omega)), if_neg (show ¬ nI c = 192 from hne 192 (by omega)), if_neg (show ¬ nI c = 194 from hne 194 (by omega)), if_neg (show ¬ nI c = 218 from hne 218 (by omega)), if_neg (show ¬ nI c = 220 from hne 220 (by omega))]
  have A := O_skip (n := n) hz.1
  have M := R_any (n := n) (B := B) (sz := sz) (ce := ce) (lp := lp) 5000 (n + 1) (lp + 2) u (by omega) (by omega) hw.1
  have e3 : m_Model_any n u = m_Model_any_0 n (n + 1) u := rfl
  unfold CO
  rw [e1, e2]
  by_cases hq : sz < ce
  · rw [if_pos hq] at A M
    obtain ⟨z, z1, z2⟩ := A
    obtain ⟨w, w1, w2⟩ := M
    dsimp only at z2 w2
    rw [z1, e3, w1, Option.bind_some, Option.bind_some]
    obtain ⟨z', w', f1, f2, f3, f4⟩ := fin_F (n := n) (x := nI c) z2 w2
    exact Or.inl ⟨z', w', _, f1, f2, f3, f4⟩
  · rw [if_neg hq] at A M
    obtain ⟨z, z1, z2⟩ := A
    obtain ⟨w, w1, w2⟩ := M
    dsimp only at z2 w2
    rw [← e3] at w1
    rw [z1, w1, Option.bind_some, Option.bind_some]
    have xz := x_Parser_skipContents z1
    have xw := x_Model_any w1
    have hz' := hz.step (qm' := qm) (wm' := wm) (q' := ce) (EqX.mono xz (by decide) (by decide) (by decide)) (q_Parser_skipContents z1) (g_Parser_skipContents z1) z2 (by rw [xz.2.1 4 (by decide)]; exact hz.2.2.2.2.2.2.2.2.2.1) (by rw [xz.2.1 5 (by decide)]; exact hz.2.2.2.2.2.2.2.2.2.2.1)
    have hw' := hw.step (qm' := qm) (wm' := wm) (q' := ce) (EqX.mono xw (by decide) (by decide) (by decide)) (g_Model_any w1) w2 (by rw [xw.2.1 6 (by decide), xw.2.1 7 (by decide)]; exact hw.2.2.2.2.2.2.2.2.2.1) (by rw [xw.2.1 8 (by decide), xw.2.1 9 (by decide), xw.2.1 10 (by decide), xw.2.1 11 (by decide)]; exact hw.2.2.2.2.2.2.2.2.2.2.1)
    exact fin_R (show ¬ nI c = 218 from hne 218 (by omega)) hz' hw' hB hs
theorem CO_frame {n : Nat} {B : Nat → Nat} {sz : Nat} {F : Option (Nat × Nat × Nat)} {hh ww iv ns nc : Nat} {qm wm : Nat → Option Nat} {sg : Nat → Nat × Nat} {sr : Nat → Nat → Nat} {lt : Nat → Option Nat} {lp ce p c : Nat} {t u : St} (hn : 20000 ≤ n) (hz : MO B sz F hh ww iv (ns + 1) nc qm wm (va_up sg ns (p, lp + 2)) sr lt false lp ce (lp + 2) t) (hw : MM B sz F hh ww iv ns nc qm wm sg sr lt lp ce (lp + 2) p u) (hB : Bs B sz p lp ce c) (hs : SI sz F hh iv ns nc qm wm lt p) (hF : F = none) (hc : c = 192 ∨ c = 194) : CO n B sz ce c t u := by
  have hB' := hB
  obtain ⟨d1, d2, d3, d4, d5, d6, d7⟩ := hB'
  obtain ⟨s1, s2, s3, s4, s5, s6, s7, s8⟩ := hs
  have hne : ∀ k, k < 256 → k ≠ 192 → k ≠ 194 → ¬ nI c = nI k := fun k hk h1 h2 => nI_ne (by omega) (by omega) (by omega)
  have e1 : m_Parser_readContents n (nI c) t = (m_Parser_readFrame n (nI c) t).bind (fun z => m_Parser_readContents_140 n z) := by
    unfold m_Parser_readContents
    rcases hc with hc | hc
    · rw [if_pos (show nI c = 192 by rw [hc]; rfl)]
    · rw [if_neg (show ¬ nI c = 192 by rw [hc]; decide), if_pos (show nI c = 194 by rw [hc]; rfl)]
  have e2 : segC n (nI c) u = (m_Model_readFrame n (nI c) u).bind (fun z => m_Model_segment1_161 n (nI c) z) := by
    unfold segC
    rw [if_neg (show ¬ nI c = 219 from hne 219 (by omega) (by omega) (by omega)), if_neg (show ¬ nI c = 196 from hne 196 (by omega) (by omega) (by omega)), if_neg (show ¬ nI c = 221 from hne 221 (by omega) (by omega) (by omega))]
    rcases hc with hc | hc
    · rw [if_pos (show nI c = 192 by rw [hc]; rfl)]; rfl
    · rw [if_neg (show ¬ nI c = 192 by rw [hc]; decide), if_pos (show nI c = 194 by rw [hc]; rfl)]; rfl
  obtain ⟨m1, m2, m3, m4, m5, m6, m7, m8, m9, m10, m11, m12, m13⟩ := hw
  obtain ⟨o1, o2, o3, o4, o5, o6, o7, o8, o9, o10, o11, o12, o13, o14⟩ := hz
  subst hF
  obtain ⟨A1, A2⟩ := O_frame (n := n) (x1 := nI c) hn (by omega) o1 o6.2
  obtain ⟨B1, B2⟩ := R_frame (n := n) (x1 := nI c) hn m1
  unfold CO
  rw [e1, e2]
  cases hq : fr B sz ce lp (lp + 2) with
  | error e =>
    obtain ⟨z, z1, z2⟩ := A1 e hq
    obtain ⟨w, w1, w2⟩ := B1 e hq
    obtain ⟨z', w', f1, f2, f3, f4⟩ := fin_F (n := n) (x := nI c) z2 w2
    rw [z1, w1]
    exact Or.inl ⟨z', w', e, f1, f2, f3, f4⟩
  | ok r =>
    obtain ⟨H, W, k⟩ := r
    obtain ⟨g1, g2, g3, g4, g5⟩ := fr_ok hq
    obtain ⟨z, z1, z2, z3, z4, z5, z6, z7, z8, z9⟩ := A2 H W k hq
    obtain ⟨w, w1, w2, w3, w4, w5, w6, w7⟩ := B2 H W k hq
    have xz := x_Parser_readFrame z1
    have xw := x_Model_readFrame w1
    have gz := g_Parser_readFrame z1
    have gw := g_Model_readFrame w1
    have qz := q_Parser_readFrame z1
    rw [z1, w1, Option.bind_some, Option.bind_some]
    have hz' : MO B sz (some (c, lp + 2 + 6, k)) H W iv (ns + 1) nc qm wm (va_up sg ns (p, lp + 2)) sr lt false lp ce (lp + 2 + 6 + 3 * k) z := by
      refine ⟨z2, (gz z2.2.1).2.trans o2, (xz.1 12 (by decide)).trans o3, (xz.1 6 (by decide)).trans o4, ?_, ⟨z3, ⟨z6, g4, z7⟩, hc, g3⟩, z4, z5, (xz.1 5 (by decide)).trans o9, ?_, ?_, o12.eq (xz.1 7 (by decide)) (xz.2.1 1 (by decide)), o13.eq (xz.1 8 (by decide)) (xz.2.1 2 (by decide)), o14.eq qz⟩
      · rw [xz.2.1 7 (by decide)]; exact o5
      · rw [xz.2.1 4 (by decide)]; exact o10
      · rw [xz.2.1 5 (by decide)]; exact o11
    have hw' : MM B sz (some (c, lp + 2 + 6, k)) H W iv ns nc qm wm sg sr lt lp ce (lp + 2 + 6 + 3 * k) p w := by
      refine ⟨w2, (gw w2.2.1).2.trans m2, (xw.1 6 (by decide)).trans m3, (xw.1 7 (by decide)).trans m4, ?_, ⟨w3, ⟨w6, g4, w7⟩, g5, hc, g3⟩, w4, w5, (xw.1 13 (by decide)).trans m9, ?_, ?_, m12.eq (xw.1 8 (by decide)) (xw.2.1 1 (by decide)), ?_⟩
      · rw [xw.2.1 13 (by decide)]; exact m5
      · rw [xw.2.1 6 (by decide), xw.2.1 7 (by decide)]; exact m10
      · rw [xw.2.1 8 (by decide), xw.2.1 9 (by decide), xw.2.1 10 (by decide), xw.2.1 11 (by decide)]; exact m11
      · exact ⟨(xw.1 14 (by decide)).trans m13.1, fun i hi => absurd (m13.2 i hi) (fun h => h)⟩
    refine fin_R (show ¬ nI c = 218 from hne 218 (by omega) (by omega) (by omega)) hz' hw' hB ⟨s1, s2, s3, s4, by omega, s6, s7, ?_⟩
    rcases s8 with ⟨x, hx, -⟩ | s8
    · cases hx
    · exact Or.inr s8
