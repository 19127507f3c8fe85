theorem shL : ∀ l, l < 17 → ((1 : Int64) <<< ((nI l).toInt64 &&& 63)) - (1 : Int64) = lN (2 ^ l - 1) := by decide +kernel
theorem cmpP {x y : Int64} : 0 < lg_cmp x y ↔ y < x := by
  unfold lg_cmp
  by_cases c : x > y
  · rw [if_pos c]; exact ⟨fun _ => c, fun _ => by decide⟩
  · rw [if_neg c]
    by_cases d : x = y
    · rw [if_pos d]; exact ⟨fun h => absurd h (by decide), fun h => absurd h c⟩
    · rw [if_neg d]; exact ⟨fun h => absurd h (by decide), fun h => absurd h c⟩
theorem R_t7F {n f : Nat} {x1 x2 x5 : Int32} {x3 : Int64} {u : St} (h : u.1 2 ≠ 0) : m_Model_readTable_7 n (f + 1) x1 x2 x3 x5 u = m_Model_readTable_128 n x1 x2 u := by
  show m_Model_readTable_7b n _ x1 x2 x3 x5 u = _
  unfold m_Model_readTable_7b
  by_cases c : (16 : Int32) < x5
  · rw [if_pos c]
  · rw [if_neg c, if_neg h]
theorem R_t7E {n f : Nat} {x1 x2 : Int32} {x3 : Int64} {u : St} : m_Model_readTable_7 n (f + 1) x1 x2 x3 (nI 17) u = m_Model_readTable_128 n x1 x2 u := by
  show m_Model_readTable_7b n _ x1 x2 x3 (nI 17) u = _
  unfold m_Model_readTable_7b
  rw [if_pos (show (16 : Int32) < nI 17 by decide)]
/-- one count, when the byte is there or not -/
theorem R_t7 {n f r l : Nat} {x2 v : Int32} {x3 : Int64} {u u1 : St} (hr : r < 8) (hl : l ≤ 16) (h2 : u.1 2 = 0) (hv : m_Model_next n u = some (v, u1)) : m_Model_readTable_7 n (f + 1) (nI r) x2 x3 (nI l) u = if 0 < u1.1 2 then m_Model_readTable_87 n (m_Model_readTable_7 n f) (nI r) (x2 + v) ((2 : Int64) * x3 + v.toInt64) (nI l) (sH u1 9 (17 * r + l) v) else if (256 : Int32) < x2 + v then m_Model_readTable_91 n (m_Model_readTable_7 n f) (nI r) (x2 + v) ((2 : Int64) * x3 + v.toInt64) (nI l) (sH u1 9 (17 * r + l) v) else if v = 0 then m_Model_readTable_87 n (m_Model_readTable_7 n f) (nI r) (x2 + v) ((2 : Int64) * x3 + v.toInt64) (nI l) (sH u1 9 (17 * r + l) v) else if 0 < lg_cmp ((2 : Int64) * x3 + v.toInt64) (((1 : Int64) <<< ((nI l).toInt64 &&& 63)) - (1 : Int64)) then m_Model_readTable_91 n (m_Model_readTable_7 n f) (nI r) (x2 + v) ((2 : Int64) * x3 + v.toInt64) (nI l) (sH u1 9 (17 * r + l) v) else m_Model_readTable_87 n (m_Model_readTable_7 n f) (nI r) (x2 + v) ((2 : Int64) * x3 + v.toInt64) (nI l) (sH u1 9 (17 * r + l) v) := by
  have q : (17 : Int32) * nI r + nI l = nI (17 * r + l) := by rw [show (17 : Int32) = nI 17 from rfl, pk_mul, nI_add]
  show m_Model_readTable_7b n _ (nI r) x2 x3 (nI l) u = _
  unfold m_Model_readTable_7b
  rw [if_neg (show ¬ (16 : Int32) < nI l from fun q => by have := (nI_ltI (a := 16) (b := l) (by omega) (by omega)).mp q; omega), if_pos h2, hv, Option.bind_some, q, if_neg (nI_in (N := 136) (by omega) (by omega)), nI_clamp (by omega)]
theorem R_t87F {n f l : Nat} {x1 x2 y : Int32} {x3 : Int64} {u : St} {e : Er} (h : Gz u e) : m_Model_readTable_92 n (m_Model_readTable_7 n (f + 1)) x1 x2 x3 (nI l) y u = m_Model_readTable_128 n x1 x2 u := by
  unfold m_Model_readTable_92 m_Model_readTable_114 m_Model_readTable_119
  rw [R_mustF h.ne, Option.bind_some, if_pos h.pos, R_must1, Option.bind_some]
  exact R_t7F h.ne
theorem R_t87 {n f l : Nat} {x1 : Int32} {tot : Nat} {x3 : Int64} {u : St} (h2 : u.1 2 = 0) (hl : l < 16 ∨ 0 < tot) (ht : tot < 1000) : m_Model_readTable_87 n (m_Model_readTable_7 n f) x1 (nI tot) x3 (nI l) u = m_Model_readTable_7 n f x1 (nI tot) x3 (nI (l + 1)) u := by
  unfold m_Model_readTable_87 m_Model_readTable_92 m_Model_readTable_114 m_Model_readTable_119
  rw [R_must1, Option.bind_some, if_neg (show ¬ 0 < u.1 2 by rw [h2]; decide), R_must1, Option.bind_some, nI_1]
  by_cases c : nI l < (16 : Int32)
  · rw [if_pos c]
  · rw [if_neg c]
    rcases hl with hl | hl
    · exact absurd (nI_lt (b := 16) hl (by omega)) c
    · rw [if_neg (nI_nle hl (by omega))]
theorem R_cnt {n : Nat} {B : Nat → Nat} {sz ce lp r : Nat} (hr : r < 8) : ∀ (m f l p tot bl : Nat) (u : St), l + m = 17 → 1 ≤ l → m + 1 < f → tot ≤ 256 → bl < 2 ^ (l - 1) → (m = 0 → 0 < tot) → AtM B sz ce lp p u → (∀ e, cs B sz ce lp m p l tot bl = .error e → ∃ x w, m_Model_readTable_7 n f (nI r) (nI tot) (lN bl) (nI l) u = m_Model_readTable_128 n (nI r) x w ∧ Gz w e) ∧ ∀ T, cs B sz ce lp m p l tot bl = .ok T → ∃ w, m_Model_readTable_7 n f (nI r) (nI tot) (lN bl) (nI l) u = m_Model_readTable_128 n (nI r) (nI T) w ∧ AtM B sz ce lp (p + m) w ∧ (∀ k, k < m → w.2.1 9 (17 * r + l + k) = nI (B (p + k))) ∧ (∀ i, i < 17 * r + l ∨ 17 * r + 17 ≤ i → w.2.1 9 i = u.2.1 9 i) ∧ w.2.1 8 = u.2.1 8 ∧ w.2.1 10 = u.2.1 10 ∧ w.2.1 11 = u.2.1 11 := by
  intro m
  induction m with
  | zero =>
    intro f l p tot bl u hl hl1 hf htot hbl h0 hA
    obtain ⟨f, rfl⟩ : ∃ g, f = g + 1 := ⟨f - 1, by omega⟩
    obtain rfl : l = 17 := hl
    unfold cs
    rw [if_neg (show ¬ tot = 0 by have := h0 rfl; omega)]
    refine ⟨fun e he => (by cases he), fun T he => ?_⟩
    cases he
    exact ⟨u, R_t7E, hA, fun k hk => absurd hk (Nat.not_lt_zero k), fun _ _ => rfl, rfl, rfl, rfl⟩
  | succ m ih =>
    intro f l p tot bl u hl hl1 hf htot hbl h0 hA
    obtain ⟨f, rfl⟩ : ∃ g, f = g + 1 + 1 := ⟨f - 2, by omega⟩
    have hp2 : 2 ^ l ≤ 65536 := pw2 (by omega)
    have hp3 : 2 ^ l = 2 * 2 ^ (l - 1) := by rw [← Nat.pow_succ']; congr 1; omega
    have e0 := hA.next (n := n)
    unfold cs
    cases h1 : tk B sz ce lp p 0 255 with
    | error e =>
      have hz := fM_z (u := u) (tk_er h1).1
      rw [h1] at e0
      refine ⟨fun e' he => ?_, fun T he => (by cases he)⟩
      cases he
      have e1 := R_t7 (f := f + 1) (x2 := nI tot) (x3 := lN bl) hr (show l ≤ 16 by omega) hA.2.1 (show m_Model_next n u = some (0, fM u e) from e0)
      rw [if_pos hz.pos] at e1
      have hz2 : Gz (sH (fM u e) 9 (17 * r + l) 0) e := hz
      exact ⟨_, _, e1.trans (R_t87F hz2), hz2⟩
    | ok c =>
      obtain ⟨a1, a2, a3, a4, a5⟩ := tk_lt h1
      rw [h1] at e0
      have e1 := R_t7 (f := f + 1) (x2 := nI tot) (x3 := lN bl) hr (show l ≤ 16 by omega) hA.2.1 (show m_Model_next n u = some (nI c, sG u 4 (nI (p + 1))) from e0)
      have q2 : (2 : Int64) * lN bl + (nI c).toInt64 = lN (2 * bl + c) := by rw [show (2 : Int64) = lN 2 from rfl, lN_mul, nI_l (by omega), lN_add]
      rw [if_neg (show ¬ 0 < (sG u 4 (nI (p + 1))).1 2 by show ¬ 0 < u.1 2; rw [hA.2.1]; decide), nI_add, q2, shL l (by omega)] at e1
      have hA2 : AtM B sz ce lp (p + 1) (sH (sG u 4 (nI (p + 1))) 9 (17 * r + l) (nI c)) := (hA.step (by omega) (by omega)).h (by decide)
      have hz : Gz (fM (sH (sG u 4 (nI (p + 1))) 9 (17 * r + l) (nI c)) (6, p)) (6, p) := fM_z (Or.inr (Or.inr rfl))
      have e91 : m_Model_readTable_91 n (m_Model_readTable_7 n (f + 1)) (nI r) (nI (tot + c)) (lN (2 * bl + c)) (nI l) (sH (sG u 4 (nI (p + 1))) 9 (17 * r + l) (nI c)) = m_Model_readTable_128 n (nI r) (nI (tot + c)) (fM (sH (sG u 4 (nI (p + 1))) 9 (17 * r + l) (nI c)) (6, p)) := by
        unfold m_Model_readTable_91 m_Model_readTable_92 m_Model_readTable_114 m_Model_readTable_119
        rw [R_must0 (p := p) (u := sH (sG u 4 (nI (p + 1))) 9 (17 * r + l) (nI c)) hA.2.1 rfl, Option.bind_some, if_pos hz.pos, R_must1, Option.bind_some]
        exact R_t7F hz.ne
      dsimp only
      by_cases cc : 256 < tot + c ∨ 2 ^ l ≤ 2 * bl + c
      · rw [if_pos cc]
        refine ⟨fun e' he => ?_, fun T he => (by cases he)⟩
        cases he
        refine ⟨nI (tot + c), _, ?_, hz⟩
        rw [e1]
        by_cases c3 : 256 < tot + c
        · rw [if_pos (show (256 : Int32) < nI (tot + c) from nI_lt (a := 256) c3 (by omega))]
          exact e91
        · rw [if_neg (show ¬ (256 : Int32) < nI (tot + c) from nI_nlt (b := tot + c) (a := 256) (by omega) (by omega)), if_neg (show ¬ nI c = 0 from nI_ne0 (by omega) (by omega)), if_pos (cmpP.mpr ((pk_lLT (by omega) (by omega)).mpr (by omega)))]
          exact e91
      · rw [if_neg cc]
        have e2 : m_Model_readTable_7 n (f + 1 + 1) (nI r) (nI tot) (lN bl) (nI l) u = m_Model_readTable_87 n (m_Model_readTable_7 n (f + 1)) (nI r) (nI (tot + c)) (lN (2 * bl + c)) (nI l) (sH (sG u 4 (nI (p + 1))) 9 (17 * r + l) (nI c)) := by
          rw [e1, if_neg (show ¬ (256 : Int32) < nI (tot + c) from nI_nlt (b := tot + c) (a := 256) (by omega) (by omega))]
          by_cases c4 : nI c = 0
          · rw [if_pos c4]
          · rw [if_neg c4, if_neg (fun q => by have := (pk_lLT (by omega) (by omega)).mp (cmpP.mp q); omega)]
        by_cases cm : m = 0 ∧ tot + c = 0
        · obtain ⟨cm1, cm2⟩ := cm
          subst cm1
          unfold cs
          rw [if_pos cm2]
          refine ⟨fun e' he => ?_, fun T he => (by cases he)⟩
          cases he
          refine ⟨nI (tot + c), _, ?_, hz⟩
          rw [e2]
          unfold m_Model_readTable_87 m_Model_readTable_92 m_Model_readTable_119
          rw [R_must1, Option.bind_some, if_neg (show ¬ 0 < (sH (sG u 4 (nI (p + 1))) 9 (17 * r + l) (nI c)).1 2 by show ¬ 0 < u.1 2; rw [hA.2.1]; decide), if_neg (show ¬ nI l < (16 : Int32) from nI_nlt (b := 16) (by omega) (by omega)), if_pos (show nI (tot + c) ≤ 0 by rw [cm2]; decide), R_must0 (p := p) (u := sH (sG u 4 (nI (p + 1))) 9 (17 * r + l) (nI c)) hA.2.1 rfl, Option.bind_some]
          exact R_t7F hz.ne
        · have e3 := R_t87 (n := n) (f := f + 1) (l := l) (x1 := nI r) (tot := tot + c) (x3 := lN (2 * bl + c)) (u := sH (sG u 4 (nI (p + 1))) 9 (17 * r + l) (nI c)) hA.2.1 (by omega) (by omega)
          have := ih (f + 1) (l + 1) (p + 1) (tot + c) (2 * bl + c) (sH (sG u 4 (nI (p + 1))) 9 (17 * r + l) (nI c)) (by omega) (by omega) (by omega) (by omega) (by rw [show l + 1 - 1 = l by omega]; omega) (by omega) hA2
          rw [e2, e3]
          refine ⟨this.1, fun T he => ?_⟩
          obtain ⟨w, w1, w2, w3, w4, w5, w6, w7⟩ := this.2 T he
          have w4' : ∀ i, i < 17 * r + (l + 1) ∨ 17 * r + 17 ≤ i → w.2.1 9 i = if i = 17 * r + l then nI c else u.2.1 9 i := w4
          refine ⟨w, w1, by rw [show p + (m + 1) = p + 1 + m by omega]; exact w2, fun k hk => ?_, fun i hi => ?_, w5, w6, w7⟩
          · by_cases ck : k = 0
            · subst ck
              rw [w4' _ (Or.inl (by omega)), if_pos (by omega), a1]; rfl
            · have := w3 (k - 1) (by omega)
              rw [show 17 * r + l + k = 17 * r + (l + 1) + (k - 1) by omega, this, show p + 1 + (k - 1) = p + k by omega]
          · rw [w4' i (by omega), if_neg (by omega)]

theorem R_seen {n : Nat} {x1 x2 : Int32} : ∀ (m f j : Nat) (u : St), j + m = 256 → m < f → ∃ w, m_Model_readTable_131 n f x1 x2 (nI j) u = m_Model_readTable_156 n n x1 x2 0 w ∧ (∀ k, j ≤ k → k < 256 → w.2.1 18 k = 0) ∧ (∀ k, k < j → w.2.1 18 k = u.2.1 18 k) ∧ w.1 = u.1 ∧ ∀ a, a ≠ 18 → w.2.1 a = u.2.1 a := by
  intro m
  induction m with
  | zero =>
    intro f j u hj hf
    obtain ⟨f, rfl⟩ : ∃ g, f = g + 1 := ⟨f - 1, by omega⟩
    obtain rfl : j = 256 := hj
    refine ⟨u, ?_, fun k h1 h2 => by omega, fun _ _ => rfl, rfl, fun _ _ => rfl⟩
    show m_Model_readTable_131b n _ x1 x2 (nI 256) u = _
    unfold m_Model_readTable_131b
    rw [if_pos (show (256 : Int32) ≤ nI 256 by decide)]
  | succ m ih =>
    intro f j u hj hf
    obtain ⟨f, rfl⟩ : ∃ g, f = g + 1 := ⟨f - 1, by omega⟩
    have e1 : m_Model_readTable_131 n (f + 1) x1 x2 (nI j) u = m_Model_readTable_131 n f x1 x2 (nI (j + 1)) (sH u 18 j 0) := by
      show m_Model_readTable_131b n _ x1 x2 (nI j) u = _
      unfold m_Model_readTable_131b
      rw [if_neg (show ¬ (256 : Int32) ≤ nI j from nI_ge (b := 256) (by omega) (by omega)), if_neg (nI_in (N := 256) (by omega) (by omega)), nI_clamp (by omega), nar0, nI_1]
    obtain ⟨w, w1, w2, w3, w4, w5⟩ := ih f (j + 1) (sH u 18 j 0) (by omega) (by omega)
    have w3' : ∀ k, k < j + 1 → w.2.1 18 k = if k = j then 0 else u.2.1 18 k := w3
    refine ⟨w, e1.trans w1, fun k h1 h2 => ?_, fun k hk => ?_, w4, fun a ha => (w5 a ha).trans (sH_ne ha)⟩
    · by_cases c : k = j
      · rw [w3' k (by omega), if_pos c]
      · exact w2 k (by omega) h2
    · rw [w3' k (by omega), if_neg (by omega)]
theorem R_242F {n r : Nat} {x2 : Int32} {u : St} (hr : r < 8) (h : u.1 2 ≠ 0) : m_Model_readTable_242 n (nI r) x2 u = some (sH u 11 r x2) := by
  unfold m_Model_readTable_242
  rw [if_neg (nI_in (N := 8) hr (by omega)), if_neg h, nI_clamp (by omega)]
theorem R_242 {n r : Nat} {x2 : Int32} {u : St} (hr : r < 8) (h : u.1 2 = 0) : m_Model_readTable_242 n (nI r) x2 u = some (sH (sH u 11 r x2) 8 r 1) := by
  unfold m_Model_readTable_242
  rw [if_neg (nI_in (N := 8) hr (by omega)), if_pos h, Option.bind_some, if_neg (nI_in (N := 8) hr (by omega)), nI_clamp (by omega), nar1]
theorem R_156F {n f r : Nat} {x2 x5 : Int32} {u : St} (hr : r < 8) (h : u.1 2 ≠ 0) : m_Model_readTable_156 n (f + 1) (nI r) x2 x5 u = some (sH u 11 r x2) := by
  show m_Model_readTable_156b n _ (nI r) x2 x5 u = _
  unfold m_Model_readTable_156b
  by_cases c : x2 ≤ x5
  · rw [if_pos c]; exact R_242F hr h
  · rw [if_neg c, if_neg h]; exact R_242F hr h
theorem Gz.one {u w : St} {e : Er} (h : Gz u e) (k : w.1 = u.1) : Gz w e := by
  unfold Gz
  rw [k]; exact h
theorem R_128F {n r : Nat} {x2 : Int32} {u : St} {e : Er} (hn : 20000 ≤ n) (hr : r < 8) (h : Gz u e) : ∃ w, m_Model_readTable_128 n (nI r) x2 u = some w ∧ Gz w e := by
  obtain ⟨w, w1, w2, w3, w4, w5⟩ := R_seen (n := n) (x1 := nI r) (x2 := x2) 256 n 0 u (by omega) (by omega)
  have hw := h.one w4
  obtain ⟨g, hg⟩ : ∃ g, n = g + 1 := ⟨n - 1, by omega⟩
  have e1 := R_156F (n := n) (f := g) (x2 := x2) (x5 := 0) hr hw.ne
  rw [← hg] at e1
  exact ⟨sH w 11 r x2, w1.trans e1, hw⟩
/-- one symbol -/
theorem R_t156 {n f : Nat} {x1 x2 x5 v : Int32} {u u1 : St} (hx : ¬ x2 ≤ x5) (h2 : u.1 2 = 0) (hv : m_Model_next n u = some (v, u1)) : m_Model_readTable_156 n (f + 1) x1 x2 x5 u = if 0 < u1.1 2 then m_Model_readTable_205 n (m_Model_readTable_156 n f) x1 x2 x5 v u1 else if v < 0 ∨ 256 ≤ v.toNatClampNeg then none else if u1.2.1 18 v.toNatClampNeg = 0 then (if (3 : Int32) < x1 then m_Model_readTable_205 n (m_Model_readTable_156 n f) x1 x2 x5 v u1 else if (12 : Int32) ≤ v then m_Model_readTable_209 n (m_Model_readTable_156 n f) x1 x2 x5 v u1 else m_Model_readTable_205 n (m_Model_readTable_156 n f) x1 x2 x5 v u1) else m_Model_readTable_209 n (m_Model_readTable_156 n f) x1 x2 x5 v u1 := by
  show m_Model_readTable_156b n _ x1 x2 x5 u = _
  unfold m_Model_readTable_156b
  rw [if_neg hx, if_pos h2, hv, Option.bind_some]
theorem R_t210 {n f r i s : Nat} {x2 y : Int32} {u z : St} (hr : r < 8) (hi : i < 256) (hs : s < 256) (hm : m_Model_must n y u = some z) : m_Model_readTable_210 n (m_Model_readTable_156 n f) (nI r) x2 (nI i) (nI s) y u = m_Model_readTable_156 n f (nI r) x2 (nI (i + 1)) (sH (sH z 18 s 1) 10 (256 * r + i) (nI s)) := by
  have q : (256 : Int32) * nI r + nI i = nI (256 * r + i) := by rw [show (256 : Int32) = nI 256 from rfl, pk_mul, nI_add]
  unfold m_Model_readTable_210
  rw [hm, Option.bind_some, if_neg (nI_in (N := 256) hs (by omega)), Option.bind_some, q, if_neg (nI_in (N := 2048) (by omega) (by omega)), nI_clamp (by omega), nI_clamp (by omega), nar1, nI_1]
def SNM (L : Nat → Int32) (sn : Nat → Bool) : Prop := ∀ s, s < 256 → (L s = 0 ↔ sn s = false)
theorem R_syms {n : Nat} {B : Nat → Nat} {sz ce lp r hi T : Nat} (hr : r < 8) (hhi : hi = if r < 4 then 11 else 255) (hT : T ≤ 256) : ∀ (m f i p : Nat) (u : St) (sn : Nat → Bool), i + m = T → m + 1 < f → AtM B sz ce lp p u → SNM (u.2.1 18) sn → (∀ e, ss B sz ce lp hi m p sn = .error e → ∃ w, m_Model_readTable_156 n f (nI r) (nI T) (nI i) u = some w ∧ Gz w e) ∧ (ss B sz ce lp hi m p sn = .ok () → ∃ w, m_Model_readTable_156 n f (nI r) (nI T) (nI i) u = some w ∧ AtM B sz ce lp (p + m) w ∧ (∀ k, k < m → w.2.1 10 (256 * r + i + k) = nI (B (p + k))) ∧ (∀ j, j < 256 * r + i ∨ 256 * r + 256 ≤ j → w.2.1 10 j = u.2.1 10 j) ∧ w.2.1 11 = upd (u.2.1 11) r (nI T) ∧ w.2.1 8 = upd (u.2.1 8) r 1 ∧ w.2.1 9 = u.2.1 9) := by
  intro m
  induction m with
  | zero =>
    intro f i p u sn hi2 hf hA hS
    obtain ⟨f, rfl⟩ : ∃ g, f = g + 1 := ⟨f - 1, by omega⟩
    refine ⟨fun e he => (by cases he), fun _ => ⟨sH (sH u 11 r (nI T)) 8 r 1, ?_, (hA.h (by decide)).h (by decide), fun k hk => absurd hk (Nat.not_lt_zero k), fun _ _ => rfl, rfl, rfl, rfl⟩⟩
    show m_Model_readTable_156b n _ _ _ _ u = _
    unfold m_Model_readTable_156b
    rw [if_pos (nI_le (by omega) (by omega))]
    exact R_242 hr hA.2.1
  | succ m ih =>
    intro f i p u sn hi2 hf hA hS
    obtain ⟨f, rfl⟩ : ∃ g, f = g + 1 + 1 := ⟨f - 2, by omega⟩
    have e0 := hA.next (n := n)
    have hx : ¬ nI T ≤ nI i := nI_ge (by omega) (by omega)
    unfold ss
    cases h1 : tk B sz ce lp p 0 255 with
    | error e =>
      have hz := fM_z (u := u) (tk_er h1).1
      rw [(tk_rg 0 hi).1 e h1 hA.b]
      rw [h1] at e0
      refine ⟨fun e' he => ?_, fun he => (by cases he)⟩
      cases he
      have e1 := R_t156 (f := f + 1) (x1 := nI r) hx hA.2.1 (show m_Model_next n u = some (nI 0, fM u e) from e0)
      rw [if_pos hz.pos] at e1
      unfold m_Model_readTable_205 at e1
      rw [R_t210 hr (by omega) (by omega) R_must1] at e1
      have hz2 : Gz (sH (sH (fM u e) 18 0 1) 10 (256 * r + i) (nI 0)) e := hz
      exact ⟨_, e1.trans (R_156F hr hz2.ne), hz2⟩
    | ok s =>
      obtain ⟨a1, a2, a3, a4, a5⟩ := tk_lt h1
      rw [(tk_rg 0 hi).2 s h1]
      rw [h1] at e0
      have e1 := R_t156 (f := f + 1) (x1 := nI r) hx hA.2.1 (show m_Model_next n u = some (nI s, sG u 4 (nI (p + 1))) from e0)
      rw [if_neg (show ¬ 0 < (sG u 4 (nI (p + 1))).1 2 by show ¬ 0 < u.1 2; rw [hA.2.1]; decide), if_neg (nI_in (N := 256) (by omega) (by omega)), nI_clamp (by omega)] at e1
      have hS2 : ((sG u 4 (nI (p + 1))).2.1 18 s = 0 ↔ sn s = false) := hS s (by omega)
      have hz : Gz (fM (sG u 4 (nI (p + 1))) (6, p)) (6, p) := fM_z (Or.inr (Or.inr rfl))
      have e209 : m_Model_readTable_209 n (m_Model_readTable_156 n (f + 1)) (nI r) (nI T) (nI i) (nI s) (sG u 4 (nI (p + 1))) = some (sH (sH (sH (fM (sG u 4 (nI (p + 1))) (6, p)) 18 s 1) 10 (256 * r + i) (nI s)) 11 r (nI T)) := by
        unfold m_Model_readTable_209
        rw [R_t210 hr (by omega) (by omega) (R_must0 (p := p) (u := sG u 4 (nI (p + 1))) hA.2.1 rfl)]
        exact R_156F (u := sH (sH (fM (sG u 4 (nI (p + 1))) (6, p)) 18 s 1) 10 (256 * r + i) (nI s)) hr hz.ne
      have hz3 : Gz (sH (sH (sH (fM (sG u 4 (nI (p + 1))) (6, p)) 18 s 1) 10 (256 * r + i) (nI s)) 11 r (nI T)) (6, p) := hz
      have e205 : m_Model_readTable_205 n (m_Model_readTable_156 n (f + 1)) (nI r) (nI T) (nI i) (nI s) (sG u 4 (nI (p + 1))) = m_Model_readTable_156 n (f + 1) (nI r) (nI T) (nI (i + 1)) (sH (sH (sG u 4 (nI (p + 1))) 18 s 1) 10 (256 * r + i) (nI s)) := by
        unfold m_Model_readTable_205
        exact R_t210 hr (by omega) (by omega) R_must1
      by_cases c : s < 0 ∨ hi < s
      · rw [if_pos c]
        refine ⟨fun e' he => ?_, fun he => (by cases he)⟩
        cases he
        refine ⟨_, ?_, hz3⟩
        rw [e1]
        by_cases c2 : (sG u 4 (nI (p + 1))).2.1 18 s = 0
        · rw [if_pos c2]
          have hr4 : r < 4 := by
            by_cases q : r < 4
            · exact q
            · rw [if_neg q] at hhi; omega
          rw [if_pos hr4] at hhi
          rw [if_neg (show ¬ (3 : Int32) < nI r from nI_nlt (a := 3) (b := r) (by omega) (by omega)), if_pos (show (12 : Int32) ≤ nI s from nI_le (a := 12) (by omega) (by omega))]
          exact e209
        · rw [if_neg c2]; exact e209
      · rw [if_neg c]
        dsimp only
        by_cases c3 : sn s = true
        · rw [if_pos c3]
          refine ⟨fun e' he => ?_, fun he => (by cases he)⟩
          cases he
          refine ⟨_, ?_, hz3⟩
          rw [e1, if_neg (fun q => by have := hS2.mp q; rw [c3] at this; cases this)]
          exact e209
        · have c3' : sn s = false := by simpa using c3
          rw [if_neg c3]
          rw [if_pos (hS2.mpr c3')] at e1
          have e2 : m_Model_readTable_156 n (f + 1 + 1) (nI r) (nI T) (nI i) u = m_Model_readTable_156 n (f + 1) (nI r) (nI T) (nI (i + 1)) (sH (sH (sG u 4 (nI (p + 1))) 18 s 1) 10 (256 * r + i) (nI s)) := by
            rw [e1]
            by_cases q : r < 4
            · rw [if_pos q] at hhi
              rw [if_neg (show ¬ (3 : Int32) < nI r from nI_nlt (a := 3) (b := r) (by omega) (by omega)), if_neg (show ¬ (12 : Int32) ≤ nI s from nI_ge (b := 12) (by omega) (by omega))]
              exact e205
            · rw [if_pos (show (3 : Int32) < nI r from nI_lt (a := 3) (by omega) (by omega))]
              exact e205
          have hA2 : AtM B sz ce lp (p + 1) (sH (sH (sG u 4 (nI (p + 1))) 18 s 1) 10 (256 * r + i) (nI s)) := ((hA.step (by omega) (by omega)).h (by decide)).h (by decide)
          have hS3 : SNM ((sH (sH (sG u 4 (nI (p + 1))) 18 s 1) 10 (256 * r + i) (nI s)).2.1 18) (fun x => if x = s then true else sn x) := by
            intro x hx
            show ((if x = s then (1 : Int32) else u.2.1 18 x) = 0 ↔ (if x = s then true else sn x) = false)
            by_cases d : x = s
            · rw [if_pos d, if_pos d]
              exact ⟨fun q => absurd q (by decide), fun q => by cases q⟩
            · rw [if_neg d, if_neg d]; exact hS x hx
          have := ih (f + 1) (i + 1) (p + 1) _ _ (by omega) (by omega) hA2 hS3
          rw [e2]
          refine ⟨this.1, fun he => ?_⟩
          obtain ⟨w, w1, w2, w3, w4, w5, w6, w7⟩ := this.2 he
          have w4' : ∀ j, j < 256 * r + (i + 1) ∨ 256 * r + 256 ≤ j → w.2.1 10 j = if j = 256 * r + i then nI s else u.2.1 10 j := w4
          refine ⟨w, w1, by rw [show p + (m + 1) = p + 1 + m by omega]; exact w2, fun k hk => ?_, fun j hj => ?_, w5, w6, w7⟩
          · by_cases ck : k = 0
            · subst ck
              rw [w4' _ (Or.inl (by omega)), if_pos (by omega), a1]; rfl
            · have := w3 (k - 1) (by omega)
              rw [show 256 * r + i + k = 256 * r + (i + 1) + (k - 1) by omega, this, show p + 1 + (k - 1) = p + k by omega]
          · rw [w4' j (by omega), if_neg (by omega)]
