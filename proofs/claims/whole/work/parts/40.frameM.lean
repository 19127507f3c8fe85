theorem dv16 {s : Nat} (h : s < 256) : nI s / (16 : Int32) = nI (s / 16) := pk_div (d := 16) (by omega) (by omega) (by omega)
theorem rm16 {s : Nat} (h : s < 256) : nI s - nI s / (16 : Int32) * (16 : Int32) = nI (s % 16) := pk_rem (d := 16) (by omega) (by omega) (by omega)
theorem R_f130F {n f : Nat} {x1 x2 x3 : Int32} {u : St} (h : u.1 2 ≠ 0) : m_Model_readFrame_130 n (f + 1) x1 x2 x3 u = some (sG (sG u 12 x2) 9 x1) := by
  show m_Model_readFrame_130b n _ x1 x2 x3 u = _
  unfold m_Model_readFrame_130b m_Model_readFrame_345
  by_cases c : x2 ≤ x3
  · rw [if_pos c]
  · rw [if_neg c, if_neg h]
theorem R_f300G {n j : Nat} {K : Int32 → Int32 → Int32 → St → Option St} {x1 x2 y v : Int32} {u u0 u1 : St} {e : Er} (hj : j < 4) (hm : m_Model_must n y u = some u0) (hv : m_Model_next n u0 = some (v, u1)) (h : Gz u1 e) : ∃ w, m_Model_readFrame_300 n K x1 x2 (nI j) y u = K x1 x2 (nI (j + 1)) w ∧ Gz w e := by
  refine ⟨sH u1 5 j v, ?_, h⟩
  unfold m_Model_readFrame_300 m_Model_readFrame_331 m_Model_readFrame_336
  rw [hm, Option.bind_some, hv, Option.bind_some, if_neg (nI_in (N := 4) hj (by omega)), if_pos h.pos, R_must1, Option.bind_some, nI_clamp (by omega), nI_1]
theorem R_f216G {n j : Nat} {K : Int32 → Int32 → Int32 → St → Option St} {x1 x2 y v : Int32} {u u0 u1 : St} {e : Er} (hj : j < 4) (hm : m_Model_must n y u = some u0) (hv : m_Model_next n u0 = some (v, u1)) (h : Gz u1 e) : ∃ w, m_Model_readFrame_216 n K x1 x2 (nI j) y u = K x1 x2 (nI (j + 1)) w ∧ Gz w e := by
  have hz : Gz (sH (sH u1 3 j (v / (16 : Int32))) 4 j (v - v / (16 : Int32) * (16 : Int32))) e := h
  obtain ⟨w, w1, w2⟩ := R_f300G (n := n) (K := K) (x1 := x1) (x2 := x2) hj R_must1 (R_nextF hz) hz
  refine ⟨w, Eq.trans ?_ w1, w2⟩
  unfold m_Model_readFrame_216 m_Model_readFrame_295
  rw [hm, Option.bind_some, hv, Option.bind_some, if_neg (nI_in (N := 4) hj (by omega)), nI_clamp (by omega), Option.bind_some, if_neg (show ¬ (nI j < 0 ∨ 4 ≤ j) from fun q => q.elim (nI_pos (by omega)) (by omega)), if_pos (show 0 < (sH u1 3 j (v / (16 : Int32))).1 2 from h.pos)]
theorem R_f216F {n j : Nat} {K : Int32 → Int32 → Int32 → St → Option St} {x1 x2 y : Int32} {u : St} {e : Er} (hj : j < 4) (h : Gz u e) : ∃ w, m_Model_readFrame_216 n K x1 x2 (nI j) y u = K x1 x2 (nI (j + 1)) w ∧ Gz w e := R_f216G hj (R_mustF h.ne) (R_nextF h) h
/-- the table of a component -/
theorem R_f300 {n j : Nat} {K : Int32 → Int32 → Int32 → St → Option St} {x1 x2 : Int32} {B : Nat → Nat} {sz ce lp p : Nat} {u : St} (hj : j < 4) (hA : AtM B sz ce lp p u) : (∀ e, tk B sz ce lp p 0 3 = .error e → ∃ w, m_Model_readFrame_300 n K x1 x2 (nI j) 1 u = K x1 x2 (nI (j + 1)) w ∧ Gz w e) ∧ ∀ v, tk B sz ce lp p 0 3 = .ok v → m_Model_readFrame_300 n K x1 x2 (nI j) 1 u = K x1 x2 (nI (j + 1)) (sH (sG u 4 (nI (p + 1))) 5 j (nI v)) := by
  have e0 := hA.next (n := n)
  cases h1 : tk B sz ce lp p 0 255 with
  | error e =>
    have hz := fM_z (u := u) (tk_er h1).1
    rw [(tk_rg 0 3).1 e h1 hA.b]
    rw [h1] at e0
    refine ⟨fun e' he => ?_, fun v he => (by cases he)⟩
    cases he
    exact R_f300G (u1 := fM u e) (v := 0) hj R_must1 e0 hz
  | ok v =>
    obtain ⟨a1, a2, a3, a4, a5⟩ := tk_lt h1
    rw [(tk_rg 0 3).2 v h1]
    rw [h1] at e0
    have e0' : m_Model_next n u = some (nI v, sG u 4 (nI (p + 1))) := e0
    have e1 : m_Model_readFrame_300 n K x1 x2 (nI j) 1 u = if (4 : Int32) ≤ nI v then m_Model_readFrame_336 n K x1 x2 (nI j) 0 (sH (sG u 4 (nI (p + 1))) 5 j (nI v)) else m_Model_readFrame_331 n K x1 x2 (nI j) (sH (sG u 4 (nI (p + 1))) 5 j (nI v)) := by
      unfold m_Model_readFrame_300
      rw [R_must1, Option.bind_some, e0', Option.bind_some, if_neg (nI_in (N := 4) hj (by omega)), if_neg (show ¬ 0 < (sG u 4 (nI (p + 1))).1 2 by show ¬ 0 < u.1 2; rw [hA.2.1]; decide), if_neg (nI_in (N := 4) hj (by omega)), nI_clamp (by omega)]
      have q : (sH (sG u 4 (nI (p + 1))) 5 j (nI v)).2.1 5 j = nI v := if_pos rfl
      rw [q]
    by_cases c : v < 0 ∨ 3 < v
    · rw [if_pos c]
      refine ⟨fun e' he => ?_, fun v he => (by cases he)⟩
      cases he
      refine ⟨fM (sH (sG u 4 (nI (p + 1))) 5 j (nI v)) (6, p), ?_, fM_z (Or.inr (Or.inr rfl))⟩
      rw [e1, if_pos (show (4 : Int32) ≤ nI v from nI_le (a := 4) (by omega) (by omega))]
      unfold m_Model_readFrame_336
      rw [R_must0 (p := p) (u := sH (sG u 4 (nI (p + 1))) 5 j (nI v)) hA.2.1 rfl, Option.bind_some, nI_1]
    · rw [if_neg c]
      refine ⟨fun e' he => (by cases he), fun v' he => ?_⟩
      cases he
      rw [e1, if_neg (show ¬ (4 : Int32) ≤ nI v from nI_ge (b := 4) (by omega) (by omega))]
      unfold m_Model_readFrame_331 m_Model_readFrame_336
      rw [R_must1, Option.bind_some, nI_1]
/-- the factors and the table of a component -/
theorem R_f216 {n j : Nat} {K : Int32 → Int32 → Int32 → St → Option St} {x1 x2 : Int32} {B : Nat → Nat} {sz ce lp p : Nat} {u : St} (hj : j < 4) (hA : AtM B sz ce lp p u) : (∀ e, tk B sz ce lp p 0 255 = .error e → ∃ w, m_Model_readFrame_211 n K x1 x2 (nI j) u = K x1 x2 (nI (j + 1)) w ∧ Gz w e) ∧ ∀ hv, tk B sz ce lp p 0 255 = .ok hv → (hv / 16 < 1 ∨ 2 < hv / 16 ∨ hv % 16 < 1 ∨ 2 < hv % 16 → ∃ w, m_Model_readFrame_211 n K x1 x2 (nI j) u = K x1 x2 (nI (j + 1)) w ∧ Gz w (6, p)) ∧ (¬ (hv / 16 < 1 ∨ 2 < hv / 16 ∨ hv % 16 < 1 ∨ 2 < hv % 16) → m_Model_readFrame_211 n K x1 x2 (nI j) u = m_Model_readFrame_300 n K x1 x2 (nI j) 1 (sH (sH (sG u 4 (nI (p + 1))) 3 j (nI (hv / 16))) 4 j (nI (hv % 16)))) := by
  have e0 := hA.next (n := n)
  refine ⟨fun e h1 => ?_, fun hv h1 => ?_⟩
  · have hz := fM_z (u := u) (tk_er h1).1
    rw [h1] at e0
    exact R_f216G (u1 := fM u e) (v := 0) hj R_must1 e0 hz
  · obtain ⟨a1, a2, a3, a4, a5⟩ := tk_lt h1
    rw [h1] at e0
    have e0' : m_Model_next n u = some (nI hv, sG u 4 (nI (p + 1))) := e0
    obtain ⟨S, hS⟩ : ∃ S, S = sH (sH (sG u 4 (nI (p + 1))) 3 j (nI (hv / 16))) 4 j (nI (hv % 16)) := ⟨_, rfl⟩
    have e1 : m_Model_readFrame_211 n K x1 x2 (nI j) u = if nI (hv / 16) < (1 : Int32) then m_Model_readFrame_299 n K x1 x2 (nI j) S else if (2 : Int32) < nI (hv / 16) then m_Model_readFrame_299 n K x1 x2 (nI j) S else if nI (hv % 16) < (1 : Int32) then m_Model_readFrame_299 n K x1 x2 (nI j) S else if (2 : Int32) < nI (hv % 16) then m_Model_readFrame_299 n K x1 x2 (nI j) S else m_Model_readFrame_295 n K x1 x2 (nI j) S := by
      have q3 : (sH (sG u 4 (nI (p + 1))) 3 j (nI (hv / 16))).2.1 3 j = nI (hv / 16) := if_pos rfl
      have q4 : (sH (sH (sG u 4 (nI (p + 1))) 3 j (nI (hv / 16))) 4 j (nI (hv % 16))).2.1 4 j = nI (hv % 16) := if_pos rfl
      unfold m_Model_readFrame_211 m_Model_readFrame_216
      rw [R_must1, Option.bind_some, e0', Option.bind_some]
      dsimp only
      rw [rm16 (show hv < 256 by omega), dv16 (show hv < 256 by omega), nI_clamp (show j < 2 ^ 31 by omega), if_neg (show ¬ (nI j < 0 ∨ 4 ≤ j) from fun q => q.elim (nI_pos (by omega)) (by omega)), Option.bind_some, if_neg (show ¬ (nI j < 0 ∨ 4 ≤ j) from fun q => q.elim (nI_pos (by omega)) (by omega)), if_neg (show ¬ 0 < (sH (sG u 4 (nI (p + 1))) 3 j (nI (hv / 16))).1 2 by show ¬ 0 < u.1 2; rw [hA.2.1]; decide), if_neg (show ¬ (nI j < 0 ∨ 4 ≤ j) from fun q => q.elim (nI_pos (by omega)) (by omega)), if_neg (show ¬ (nI j < 0 ∨ 4 ≤ j) from fun q => q.elim (nI_pos (by omega)) (by omega)), if_neg (show ¬ (nI j < 0 ∨ 4 ≤ j) from fun q => q.elim (nI_pos (by omega)) (by omega)), if_neg (show ¬ (nI j < 0 ∨ 4 ≤ j) from fun q => q.elim (nI_pos (by omega)) (by omega)), q3, q4, ← hS]
    have e299 : ∃ w, m_Model_readFrame_299 n K x1 x2 (nI j) S = K x1 x2 (nI (j + 1)) w ∧ Gz w (6, p) := by
      have hz : Gz (fM S (6, p)) (6, p) := fM_z (Or.inr (Or.inr rfl))
      have hm : m_Model_must n 0 S = some (fM S (6, p)) := by
        refine R_must0 (p := p) ?_ ?_
        · rw [hS]; exact hA.2.1
        · rw [hS]; rfl
      exact R_f300G hj hm (R_nextF hz) hz
    refine ⟨fun c => ?_, fun c => ?_⟩
    · obtain ⟨w, w1, w2⟩ := e299
      refine ⟨w, ?_, w2⟩
      rw [e1, w1]
      by_cases d1 : hv / 16 < 1
      · rw [if_pos (show nI (hv / 16) < (1 : Int32) from nI_lt (b := 1) d1 (by omega))]
      · rw [if_neg (show ¬ nI (hv / 16) < (1 : Int32) from nI_nlt (b := 1) (by omega) (by omega))]
        by_cases d2 : 2 < hv / 16
        · rw [if_pos (show (2 : Int32) < nI (hv / 16) from nI_lt (a := 2) d2 (by omega))]
        · rw [if_neg (show ¬ (2 : Int32) < nI (hv / 16) from nI_nlt (a := 2) (b := hv / 16) (by omega) (by omega))]
          by_cases d3 : hv % 16 < 1
          · rw [if_pos (show nI (hv % 16) < (1 : Int32) from nI_lt (b := 1) d3 (by omega))]
          · rw [if_neg (show ¬ nI (hv % 16) < (1 : Int32) from nI_nlt (b := 1) (by omega) (by omega)), if_pos (show (2 : Int32) < nI (hv % 16) from nI_lt (a := 2) (by omega) (by omega))]
    · rw [e1, if_neg (show ¬ nI (hv / 16) < (1 : Int32) from nI_nlt (b := 1) (by omega) (by omega)), if_neg (show ¬ (2 : Int32) < nI (hv / 16) from nI_nlt (a := 2) (b := hv / 16) (by omega) (by omega)), if_neg (show ¬ nI (hv % 16) < (1 : Int32) from nI_nlt (b := 1) (by omega) (by omega)), if_neg (show ¬ (2 : Int32) < nI (hv % 16) from nI_nlt (a := 2) (b := hv % 16) (by omega) (by omega)), hS]
      rfl
