/-- the end of a reading: the same fault on both sides, or the same picture -/
def RE (B : Nat → Nat) (sz : Nat) (t z w : St) : Prop := (∃ e, Fz z e ∧ Gz w e ∧ Cb t z ∧ z.1 0 = t.1 0 ∧ z.2.1 0 = t.2.1 0) ∨ ∃ q, InO B sz z ∧ InM B sz w ∧ z.1 13 = 0 ∧ z.1 14 = mI ∧ w.1 2 = 0 ∧ w.1 3 = mI ∧ z.1 6 = nI q ∧ w.1 7 = nI q ∧ q ≤ sz ∧ QR B sz z w ∧ z.2.2.2 0 = t.2.2.2 0 ∧ z.1 0 = t.1 0 ∧ z.2.1 0 = t.2.1 0
theorem RE.tr {B : Nat → Nat} {sz : Nat} {t t' z w : St} (h : RE B sz t' z w) (hc : t'.2.2.2 0 = t.2.2.2 0) (h0 : t'.1 0 = t.1 0) (ha : t'.2.1 0 = t.2.1 0) : RE B sz t z w := by
  rcases h with ⟨e, h1, h2, ⟨h3, h4⟩, h5, h6⟩ | ⟨q, h1, h2, h3, h4, h5, h6, h7, h8, h9, h10, h11, h12, h13⟩
  · exact Or.inl ⟨e, h1, h2, ⟨h3.trans hc, h4⟩, h5.trans h0, h6.trans ha⟩
  · exact Or.inr ⟨q, h1, h2, h3, h4, h5, h6, h7, h8, h9, h10, h11.trans hc, h12.trans h0, h13.trans ha⟩
theorem O_stop {n f k : Nat} {t : St} (h : t.1 13 ≠ 0 ∨ t.1 6 ≠ -1) (hk : k < 16384) : m_Reader_read_9 n (f + 1) (nI k) t = m_Reader_read_39 n t := by
  show m_Reader_read_9b n (m_Reader_read_9 n f) (nI k) t = _
  unfold m_Reader_read_9b m_Parser_goesOn m_Parser_goesOn_22
  rw [if_neg (show ¬ (16384 : Int32) ≤ nI k from nI_ge (b := 16384) hk (by omega))]
  by_cases c : t.1 13 = 0
  · rw [if_pos c]
    rcases h with h | h
    · exact absurd c h
    · rw [if_neg h, Option.bind_some, if_pos rfl]
  · rw [if_neg c, Option.bind_some, if_pos rfl]
theorem O_go {n f k : Nat} {t : St} (h : t.1 13 = 0) (h6 : t.1 6 = mI) (hk : k < 16384) : m_Reader_read_9 n (f + 1) (nI k) t = (m_Parser_readNext n t).bind (fun z => m_Reader_read_9 n f (nI (k + 1)) z) := by
  show m_Reader_read_9b n (m_Reader_read_9 n f) (nI k) t = _
  unfold m_Reader_read_9b m_Parser_goesOn
  rw [if_neg (show ¬ (16384 : Int32) ≤ nI k from nI_ge (b := 16384) hk (by omega)), if_pos h, if_pos (show t.1 6 = -1 from h6), Option.bind_some, if_neg (show ¬ (1 : Int32) = 0 by decide), nI_1]
theorem R_stop {n f : Nat} {x : Int32} {w : St} {e : Er} (h : Gz w e) : m_Model_readFile_56 n (f + 1) x 1 w = some w := by
  show m_Model_readFile_56b n (m_Model_readFile_56 n f) x 1 w = _
  unfold m_Model_readFile_56b
  rw [if_neg (by decide), if_neg h.ne]
theorem R_stop0 {n f : Nat} {x : Int32} {w : St} : m_Model_readFile_56 n (f + 1) x 0 w = some w := rfl
theorem mrk_208 {B : Nat → Nat} {sz q : Nat} {ln hasF all : Bool} (h1 : q + 2 ≤ sz) (h2 : B q = 255) (h3 : 208 ≤ B (q + 1)) (h4 : B (q + 1) ≤ 215) : mrk B sz ln hasF all q = .error (4, q + 1) := by
  unfold mrk
  rw [if_neg (fun y => y.2 h2)]
  obtain ⟨m, hm⟩ : ∃ m, sz - q = m + 1 + 1 := ⟨sz - q - 2, by omega⟩
  have e : mk B sz (sz - q) q = .ok (B (q + 1), q + 1) := by
    rw [hm]
    unfold mk
    rw [if_pos h2]
    unfold mk
    rw [if_neg (by omega)]
  rw [e]
  show (if cst ln hasF all (B (q + 1)) = true then _ else _) = _
  have hc : cst ln hasF all (B (q + 1)) = false := by
    cases hx : cst ln hasF all (B (q + 1)) with
    | false => rfl
    | true =>
      rcases cst_cases hx with ⟨_, y⟩ | ⟨_, y⟩
      · omega
      · omega
  rw [hc, if_neg (by decide)]
theorem loop0 {n : Nat} {B : Nat → Nat} {sz : Nat} {m p k f1 f2 : Nat} {ln : Bool} {t u : St} (hn : 20000 ≤ n) (h1 : sz ≤ p + m) (h2 : k + m < 16000) (h3 : m + 4 < f1) (h4 : m + 4 < f2) (hR : RB B sz p ln t u) (ih : ∀ (p' k' g1 g2 : Nat) (ln' : Bool) (t' u' : St), k' = k + 1 → p + 4 ≤ p' → g1 + 1 = f1 → g2 + 1 = f2 → RB B sz p' ln' t' u' → ∃ z w, m_Reader_read_9 n g1 (nI k') t' = m_Reader_read_39 n z ∧ m_Model_readFile_56 n g2 (bI ln') 1 u' = some w ∧ RE B sz t' z w) : ∃ z w, m_Reader_read_9 n f1 (nI k) t = m_Reader_read_39 n z ∧ m_Model_readFile_56 n f2 (bI ln) 1 u = some w ∧ RE B sz t z w := by
  obtain ⟨F, hh, ww, iv, ns, nc, qm, wm, sg, sr, lt, hO, hM, hS⟩ := hR
  obtain ⟨g1, rfl⟩ : ∃ g, f1 = g + 1 := ⟨f1 - 1, by omega⟩
  obtain ⟨g2, rfl⟩ : ∃ g, f2 = g + 1 := ⟨f2 - 1, by omega⟩
  obtain ⟨a1, rfl⟩ : ∃ g, g1 = g + 1 := ⟨g1 - 1, by omega⟩
  obtain ⟨a2, rfl⟩ : ∃ g, g2 = g + 1 := ⟨g2 - 1, by omega⟩
  obtain ⟨b1, rfl⟩ : ∃ g, a1 = g + 1 := ⟨a1 - 1, by omega⟩
  rw [O_go hO.2.1 hO.2.2.2.2.2.1 (by omega)]
  rcases turn (n := n) (f := a2 + 1) hn hO hM hS with ⟨z, w, e, x, y1, y2, y3, y4, y5⟩ | ⟨z, w, q, y1, y2, y3, y4, y5, y6, y7, y8, y9, y10, y11, y12, y13⟩ | ⟨z, w, p', ln', y1, y2, y3, y4, y5⟩ | ⟨z, w, q, x, ln', F', hh', ww', iv', ns', nc', qm', wm', sg', sr', lt', y1, y2, y3, y4, y5, y6, y7, y8, y9, y10⟩
  · have xx := x_Parser_readNext y1
    refine ⟨z, w, ?_, ?_, Or.inl ⟨e, y2, y5, y3, xx.1 0 (by decide), xx.2.1 0 (by decide)⟩⟩
    · rw [y1, Option.bind_some, O_stop (Or.inl y2.ne) (by omega)]
    · rw [y4, R_stop y5]
  · have xx := x_Parser_readNext y1
    refine ⟨z, w, ?_, ?_, Or.inr ⟨q, y3, y4, y5, y6, y7, y8, y9, y10, y11, y12, y13, xx.1 0 (by decide), xx.2.1 0 (by decide)⟩⟩
    · rw [y1, Option.bind_some, O_stop (Or.inr (by rw [y9]; exact fun y => (mI_eq (a := q) (by have := hO.1.2.1; omega)).mp y.symm)) (by omega)]
    · rw [y2, R_stop0]
  · have xx := x_Parser_readNext y1
    obtain ⟨z', w', i1, i2, i3⟩ := ih p' (k + 1) (b1 + 1 + 1) (a2 + 1) ln' z w rfl y4 rfl rfl y3
    refine ⟨z', w', ?_, ?_, i3.tr y5 (xx.1 0 (by decide)) (xx.2.1 0 (by decide))⟩
    · rw [y1, Option.bind_some, i1]
    · rw [y2, i2]
  · have xx := x_Parser_readNext y1
    have hm := y2.mark hn (by omega)
    rw [mrk_208 y5 y6 y7 y8] at hm
    obtain ⟨v, v1, v2, v3⟩ := hm
    have eN : m_Parser_readNext n z = some v.2 := by
      unfold m_Parser_readNext
      rw [v1, Option.bind_some, if_pos (show v.1 = -1 from v2)]
    have xv := x_Parser_readNext eN
    have qv := q_Parser_takeMarker v1
    refine ⟨v.2, w, ?_, ?_, Or.inl ⟨_, v3, y4, ?_, (xv.1 0 (by decide)).trans (xx.1 0 (by decide)), (xv.2.1 0 (by decide)).trans (xx.2.1 0 (by decide))⟩⟩
    · rw [y1, Option.bind_some, O_go y2.2.1 y2.2.2.2.2.2.1 (by omega), eN, Option.bind_some, O_stop (Or.inl v3.ne) (by omega)]
    · rw [y3, R_stop y4]
    · have cp := y2.2.2.2.2.2.2.2.2.2.2.2.2.2.2.2
      unfold Cb
      rw [qv, y10]
      exact ⟨rfl, cp.2.1, cp.2.2.1, cp.2.2.2.2.1, cp.2.2.2.2.2⟩
theorem loop {n : Nat} {B : Nat → Nat} {sz : Nat} (hn : 20000 ≤ n) : ∀ (m p k f1 f2 : Nat) (ln : Bool) (t u : St), sz ≤ p + m → k + m < 16000 → m + 4 < f1 → m + 4 < f2 → RB B sz p ln t u → ∃ z w, m_Reader_read_9 n f1 (nI k) t = m_Reader_read_39 n z ∧ m_Model_readFile_56 n f2 (bI ln) 1 u = some w ∧ RE B sz t z w := by
  intro m
  induction m with
  | zero =>
    intro p k f1 f2 ln t u h1 h2 h3 h4 hR
    exact loop0 hn h1 h2 h3 h4 hR (fun p' k' g1 g2 ln' t' u' _ q2 _ _ q5 => by obtain ⟨_, _, _, _, _, _, _, _, _, _, _, _, _, q, _⟩ := q5; omega)
  | succ m ih =>
    intro p k f1 f2 ln t u h1 h2 h3 h4 hR
    exact loop0 hn h1 h2 h3 h4 hR (fun p' k' g1 g2 ln' t' u' q1 q2 q3 q4 q5 => ih p' k' g1 g2 ln' t' u' (by omega) (by omega) (by omega) (by omega) q5)
