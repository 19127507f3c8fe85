theorem O_140F {n : Nat} {t : St} {e : Er} (h : Fz t e) : ∃ z, m_Parser_readContents_140 n t = some z ∧ Fz z e := by
  unfold m_Parser_readContents_140
  rw [O_failF h.ne, Option.bind_some]
  exact ⟨t, ite_self _, h⟩
theorem O_140 {n : Nat} {B : Nat → Nat} {sz ce lp p : Nat} {t : St} (hA : At B sz ce lp p t) : Ev Fz (m_Parser_readContents_140 n t) (if p = ce then .ok () else .error (5, lp)) (fun _ z => z = t) := by
  obtain ⟨h0, h1, h2, h3, h4, h5, h6⟩ := hA
  unfold m_Parser_readContents_140
  rw [h2, h3, h4]
  by_cases c : p = ce
  · rw [if_pos c, if_pos (by rw [c])]
    exact Ev.ok ⟨_, rfl, rfl⟩
  · rw [if_neg c, if_neg (nI_ne (by omega) (by omega) c), O_fail h1, Option.bind_some]
    exact Ev.er ⟨_, rfl, rfl, rfl, by simp, by simp⟩
theorem R_closeF {n : Nat} {x : Int32} {u : St} {e : Er} (h : Gz u e) : m_Model_close n x u = some (sG u 5 mI) := by
  unfold m_Model_close m_Model_close_28
  rw [if_neg h.ne, if_neg h.ne]; rfl
/-- the row of one segment more, in the reference -/
def SegW (x1 : Int32) (ns lp ce : Nat) (u w : St) : Prop := w.1 5 = mI ∧ w.1 8 = nI (ns + 1) ∧ (∀ j, j < 4 * ns → w.2.1 1 j = u.2.1 1 j) ∧ w.2.1 1 (4 * ns) = x1 ∧ w.2.1 1 (4 * ns + 1) = u.1 6 ∧ w.2.1 1 (4 * ns + 2) = nI (lp + 2) ∧ w.2.1 1 (4 * ns + 3) = nI (ce - lp - 2) ∧ EqX [5, 8] [1] [] u w
theorem R_close {n ns : Nat} {B : Nat → Nat} {sz ce lp p : Nat} {x1 : Int32} {u : St} (hA : AtM B sz ce lp p u) (h8 : u.1 8 = nI ns) (hns : ns < 4000) (hl : lp + 2 ≤ ce) : Ev Gz (m_Model_close n x1 u) (if p = ce then .ok () else .error (5, lp)) (fun _ w => SegW x1 ns lp ce u w) := by
  obtain ⟨h0, h1, h2, h3, h4, h5, h6, h7⟩ := hA
  have hs := h0.2.1
  unfold m_Model_close
  rw [if_pos h1, h2, h3, h4]
  by_cases c : p = ce
  · rw [if_pos c, if_pos (by rw [c])]
    refine Ev.ok ?_
    have e4 : (4 : Int32) * nI ns = nI (4 * ns) := by rw [show (4 : Int32) = nI 4 from rfl, pk_mul]
    have e5 : ∀ k, nI (4 * ns) + nI k = nI (4 * ns + k) := fun k => nI_add _ _
    unfold m_Model_close_28
    rw [if_pos h1, h8, e4, show (1 : Int32) = nI 1 from rfl, show (2 : Int32) = nI 2 from rfl, show (3 : Int32) = nI 3 from rfl, e5, e5, e5, if_neg (nI_in (N := 16384) (c := 4 * ns) (by omega) (by omega)), Option.bind_some, if_neg (nI_in (N := 16384) (c := 4 * ns + 1) (by omega) (by omega)), Option.bind_some, if_neg (nI_in (N := 16384) (c := 4 * ns + 2) (by omega) (by omega)), Option.bind_some, if_neg (nI_in (N := 16384) (c := 4 * ns + 3) (by omega) (by omega)), nI_clamp (show 4 * ns < 2 ^ 31 by omega), nI_clamp (show 4 * ns + 1 < 2 ^ 31 by omega), nI_clamp (show 4 * ns + 2 < 2 ^ 31 by omega), nI_clamp (show 4 * ns + 3 < 2 ^ 31 by omega)]
    refine ⟨_, rfl, rfl, ?_, fun j hj => ?_, ?_, ?_, ?_, ?_, ?_⟩
    · show u.1 8 + nI 1 = _
      rw [h8, nI_add]
    · show (if j = 4 * ns + 3 then _ else if j = 4 * ns + 2 then _ else if j = 4 * ns + 1 then _ else if j = 4 * ns then _ else u.2.1 1 j) = _
      rw [if_neg (by omega), if_neg (by omega), if_neg (by omega), if_neg (by omega)]
    · show (if 4 * ns = 4 * ns + 3 then _ else if 4 * ns = 4 * ns + 2 then _ else if 4 * ns = 4 * ns + 1 then _ else if 4 * ns = 4 * ns then x1 else u.2.1 1 (4 * ns)) = _
      rw [if_neg (by omega), if_neg (by omega), if_neg (by omega), if_pos rfl]
    · show (if 4 * ns + 1 = 4 * ns + 3 then _ else if 4 * ns + 1 = 4 * ns + 2 then _ else if 4 * ns + 1 = 4 * ns + 1 then u.1 6 else _) = _
      rw [if_neg (by omega), if_neg (by omega), if_pos rfl]
    · show (if 4 * ns + 2 = 4 * ns + 3 then _ else if 4 * ns + 2 = 4 * ns + 2 then u.1 16 + nI 2 else _) = _
      rw [if_neg (by omega), if_pos rfl, h4, nI_add]
    · show (if 4 * ns + 3 = 4 * ns + 3 then (u.1 5 - u.1 16) - nI 2 else _) = _
      rw [if_pos rfl, h3, h4, pk_sub (by omega), pk_sub (by omega)]
    · exact EqX.g (EqX.g (EqX.h (EqX.h (EqX.h (EqX.h EqX.rf (by decide)) (by decide)) (by decide)) (by decide)) (by decide)) (by decide)
  · rw [if_neg c, if_neg (nI_ne (by omega) (by omega) c), R_wrong h1, Option.bind_some]
    have hz : Gz (fM u (5, lp)) (5, lp) := ⟨rfl, rfl, by simp, by simp⟩
    refine Ev.er ⟨sG (fM u (5, lp)) 5 mI, ?_, hz⟩
    show m_Model_close_28 n x1 (fM u (5, lp)) = _
    unfold m_Model_close_28
    rw [if_neg hz.ne]; rfl
/-- contents of which nothing is asked -/
theorem O_skip {n : Nat} {B : Nat → Nat} {sz ce lp p : Nat} {t : St} (hA : At B sz ce lp p t) : Ev Fz (m_Parser_skipContents n t) (if sz < ce then .error (1, sz) else .ok ()) (fun _ z => At B sz ce lp ce z) := by
  obtain ⟨h0, h1, h2, h3, h4, h5, h6⟩ := hA
  have hs := h0.2.1
  unfold m_Parser_skipContents m_Parser_skipContents_27
  rw [h3, show t.1 0 = nI sz from h0.1]
  by_cases c : sz < ce
  · rw [if_pos c, if_neg (nI_ge c (by omega)), O_fail h1, Option.bind_some]
    exact Ev.er ⟨_, rfl, rfl, rfl, by simp, by simp⟩
  · rw [if_neg c, if_pos (nI_le (by omega) (by omega))]
    exact Ev.ok ⟨_, rfl, h0, h1, rfl, h3, h4, by omega, by omega⟩
theorem R_any {n : Nat} {B : Nat → Nat} {sz ce lp : Nat} : ∀ (m f p : Nat) (u : St), sz ≤ p + m → m + 2 < f → AtM B sz ce lp p u → Ev Gz (m_Model_any_0 n f u) (if sz < ce then .error (1, sz) else .ok ()) (fun _ w => AtM B sz ce lp ce w) := by
  intro m
  induction m with
  | zero =>
    intro f p u hp hf hA
    obtain ⟨f, rfl⟩ : ∃ g, f = g + 1 + 1 := ⟨f - 2, by omega⟩
    have hA0 := hA
    obtain ⟨h0, h1, h2, h3, h4, h5, h6, h7⟩ := hA
    have hs := h0.2.1
    have ep : p = sz := by omega
    show Ev Gz (m_Model_any_0b n _ u) _ _
    unfold m_Model_any_0b
    rw [if_pos h1, h3, h2]
    by_cases c : sz < ce
    · rw [if_pos c, if_neg (nI_ge (by omega) (by omega)), hA0.next, Option.bind_some]
      have t1 : tk B sz ce lp p 0 255 = .error (1, sz) := by unfold tk; rw [if_neg (by omega), if_pos (by omega)]
      rw [t1]
      have hz : Gz (fM u (1, sz)) (1, sz) := fM_z (Or.inr (Or.inl rfl))
      refine Ev.er ⟨fM u (1, sz), ?_, hz⟩
      show m_Model_any_0b n _ (fM u (1, sz)) = _
      unfold m_Model_any_0b
      rw [if_neg hz.ne]
    · rw [if_neg c, if_pos (nI_le (by omega) (by omega))]
      refine Ev.ok ⟨u, rfl, ?_⟩
      rw [show ce = p by omega] at hA0 ⊢
      exact hA0
  | succ m ih =>
    intro f p u hp hf hA
    obtain ⟨f, rfl⟩ : ∃ g, f = g + 1 + 1 := ⟨f - 2, by omega⟩
    have hA0 := hA
    obtain ⟨h0, h1, h2, h3, h4, h5, h6, h7⟩ := hA
    have hs := h0.2.1
    by_cases ep : p < ce ∧ p < sz
    · have hB := (h0.2.2.2.2 p ep.2).2
      have e1 : m_Model_any_0 n (f + 1 + 1) u = m_Model_any_0 n (f + 1) (sG u 4 (nI (p + 1))) := by
        show m_Model_any_0b n _ u = _
        unfold m_Model_any_0b
        rw [if_pos h1, h3, h2, if_neg (nI_ge ep.1 (by omega)), hA0.next, Option.bind_some]
        have t1 : tk B sz ce lp p 0 255 = .ok (B p) := by unfold tk; rw [if_neg (by omega), if_neg (by omega), if_neg (by omega)]
        rw [t1]; rfl
      rw [e1]
      exact ih (f + 1) (p + 1) _ (by omega) (by omega) (hA0.step (by omega) (by omega))
    · show Ev Gz (m_Model_any_0b n _ u) _ _
      unfold m_Model_any_0b
      rw [if_pos h1, h3, h2]
      by_cases c : sz < ce
      · rw [if_pos c, if_neg (nI_ge (by omega) (by omega)), hA0.next, Option.bind_some]
        have t1 : tk B sz ce lp p 0 255 = .error (1, sz) := by unfold tk; rw [if_neg (by omega), if_pos (by omega)]
        rw [t1]
        have hz : Gz (fM u (1, sz)) (1, sz) := fM_z (Or.inr (Or.inl rfl))
        refine Ev.er ⟨fM u (1, sz), ?_, hz⟩
        show m_Model_any_0b n _ (fM u (1, sz)) = _
        unfold m_Model_any_0b
        rw [if_neg hz.ne]
      · rw [if_neg c, if_pos (nI_le (by omega) (by omega))]
        refine Ev.ok ⟨u, rfl, ?_⟩
        rw [show ce = p by omega] at hA0 ⊢
        exact hA0
theorem AtM.twoE {n : Nat} {B : Nat → Nat} {sz ce lp p : Nat} {u : St} (h : AtM B sz ce lp p u) : Ev (fun z e => Gz z.2 e) (m_Model_two n u) (tp B sz ce lp p 0 65535) (fun v z => z = (nI v, sG u 4 (nI (p + 2))) ∧ p + 2 ≤ sz ∧ p + 2 ≤ ce ∧ v < 65536) := by
  have hc := h.2.2.2.2.2.2.2
  obtain ⟨a1, a2⟩ := R_two (n := n) h.1 h.2.1 h.2.2.1 h.2.2.2.1 h.2.2.2.2.1 h.2.2.2.2.2.1 h.2.2.2.2.2.2.1 (by omega)
  cases h1 : tp B sz ce lp p 0 65535 with
  | error e =>
    obtain ⟨v, w, hw, hw2⟩ := a1 e h1
    exact Ev.er ⟨_, hw, hw2⟩
  | ok v =>
    obtain ⟨q1, q2, q3, -⟩ := tp_ok h1
    exact Ev.ok ⟨_, a2 v h1, rfl, q1, q2, q3⟩
/-- once a fault stands, the class's contents come to an end -/
theorem O_rsF {n cnt : Nat} {t : St} {e : Er} (hn : 20000 ≤ n) (h : Fz t e) (h4 : t.1 4 = nI cnt) (hc : cnt ≤ 4) : ∃ z, m_Parser_readScan n t = some z ∧ Fz z e := by
  unfold m_Parser_readScan
  rw [O_takeF (t := sG t 15 (t.1 9)) h.ne, Option.bind_some]
  obtain ⟨z, hz1, hz⟩ := O_s6F (n := n) (cnt := cnt) (e := e) hn hc 4 n 0 (-1) 0 (sG (sG t 15 (t.1 9)) 16 mI) (by omega) (by omega) h h4
  show ∃ w, (m_Parser_takeScanComponents_6 n n (-1) 0 (nI 0) (sG (sG t 15 (t.1 9)) 16 mI)).bind _ = some w ∧ _
  rw [hz1, Option.bind_some]
  by_cases d1 : z.1 1 = 192
  · rw [if_pos d1, O_takeF hz.ne, Option.bind_some]
    exact O_scBF (n := n) (lo := 63) (hi := 63) (hb := 0) (t := sG z 17 mI) hn hz
  · rw [if_neg d1]
    have e100 : ∀ y2 y3, ∃ w, m_Parser_readScan_100 n y2 y3 z = some w ∧ Fz w e := by
      intro y2 y3
      unfold m_Parser_readScan_100
      rw [O_takeF hz.ne, Option.bind_some]
      dsimp only
      rw [if_neg (by decide)]
      exact O_scBF (n := n) (lo := mI) (hi := 63) (hb := 255) (t := sG z 17 mI) hn hz
    by_cases d2 : z.1 16 = 1
    · rw [if_pos d2]; exact e100 _ _
    · rw [if_neg d2]; exact e100 _ _
theorem O_rcF {n cnt : Nat} {x : Int32} {t : St} {e : Er} (hn : 20000 ≤ n) (h : Fz t e) (h4 : t.1 4 = nI cnt) (hc : cnt ≤ 4) : ∃ z, m_Parser_readContents n x t = some z ∧ Fz z e := by
  obtain ⟨f, hf⟩ : ∃ g, n = g + 1 + 1 := ⟨n - 2, by omega⟩
  have hfr : ∃ z, m_Parser_readFrame n x t = some z ∧ Fz z e := by
    unfold m_Parser_readFrame
    rw [O_takeF h.ne, Option.bind_some]
    dsimp only
    rw [O_takePairF h.ne, Option.bind_some]
    dsimp only
    rw [O_takePairF (t := sG t 3 mI) h.ne, Option.bind_some]
    dsimp only
    rw [O_takeF (t := sG (sG t 3 mI) 2 mI) h.ne, Option.bind_some]
    dsimp only
    rw [hf, O_f46m]
    exact ⟨_, rfl, h⟩
  have hq : ∃ z, m_Parser_readQuantisers n t = some z ∧ Fz z e := by
    unfold m_Parser_readQuantisers
    refine ⟨t, ?_, h⟩
    have e1 : m_Parser_readQuantisers_4 n (f + 1 + 1) 1 0 t = m_Parser_readQuantisers_31 n (m_Parser_readQuantisers_4 n (f + 1)) n 0 mI (t.1 9) 0 t := by
      show m_Parser_readQuantisers_4b n _ 1 0 t = _
      unfold m_Parser_readQuantisers_4b
      rw [if_neg (by decide), if_neg (by decide), O_takeF h.ne, Option.bind_some]
    rw [show m_Parser_readQuantisers_4 n n 1 0 t = m_Parser_readQuantisers_4 n (f + 1 + 1) 1 0 t by rw [← hf], e1]
    refine (O_valsF h.ne 64 n 0 (by omega) (by omega)).trans ?_
    unfold qE
    rw [O_setQm, Option.bind_some, O_moreF h.ne, Option.bind_some]
    exact O_qend
  have hw : ∃ z, m_Parser_readWords n t = some z ∧ Fz z e := by
    obtain ⟨z, z1, z2⟩ := O_w38F (n := n) (f := f) (x2 := 0) (x3 := mI) hn h
    refine ⟨z, ?_, z2⟩
    unfold m_Parser_readWords
    rw [show m_Parser_readWords_4 n n 1 0 t = m_Parser_readWords_4 n (f + 1 + 1) 1 0 t by rw [← hf]]
    show m_Parser_readWords_4b n _ 1 0 t = _
    unfold m_Parser_readWords_4b
    rw [if_neg (by decide), if_neg (by decide), O_takeF h.ne, Option.bind_some]
    dsimp only
    rw [if_pos (show mI ≤ (3 : Int32) by decide)]
    exact z1
  have fin : ∀ o : Option St, (∃ z, o = some z ∧ Fz z e) → ∃ z, o.bind (fun z => m_Parser_readContents_140 n z) = some z ∧ Fz z e := by
    rintro o ⟨z, hz, hz2⟩
    rw [hz]
    exact O_140F hz2
  unfold m_Parser_readContents
  by_cases c1 : x = 192
  · rw [if_pos c1]; exact fin _ hfr
  · rw [if_neg c1]
    by_cases c2 : x = 194
    · rw [if_pos c2]; exact fin _ hfr
    · rw [if_neg c2]
      by_cases c3 : x = 196
      · rw [if_pos c3]; exact fin _ hw
      · rw [if_neg c3]
        by_cases c4 : x = 218
        · rw [if_pos c4]; exact fin _ (O_rsF hn h h4 hc)
        · rw [if_neg c4]
          by_cases c5 : x = 219
          · rw [if_pos c5]; exact fin _ hq
          · rw [if_neg c5]
            by_cases c6 : x = 220
            · rw [if_pos c6, O_takePairF h.ne, Option.bind_some]
              exact O_140F (t := sG (sG t 3 mI) 12 0) h
            · rw [if_neg c6]
              by_cases c7 : x = 221
              · rw [if_pos c7, O_takePairF h.ne, Option.bind_some]
                exact O_140F (t := sG t 5 mI) h
              · rw [if_neg c7]
                refine fin _ ?_
                unfold m_Parser_skipContents m_Parser_skipContents_27
                rw [O_failF h.ne, Option.bind_some]
                exact ⟨sG t 9 (t.1 11), ite_self _, h⟩
