/-- a scan's data: where they end, how many restarts, and whether a wrong restart ends them -/
def dt (B : Nat → Nat) (sz iv : Nat) : Nat → Nat → Nat → Except Er (Nat × Nat × Bool)
  | 0, _, _ => .error (1, sz)
  | m + 1, p, rs => if sz ≤ p then .error (1, sz) else if B p ≠ 255 then dt B sz iv m (p + 1) rs else if sz ≤ p + 1 then .error (1, sz) else if B (p + 1) = 0 then dt B sz iv m (p + 2) rs else if 208 ≤ B (p + 1) ∧ B (p + 1) ≤ 215 then (if 0 < iv ∧ B (p + 1) = 208 + rs % 8 then dt B sz iv m (p + 2) (rs + 1) else .ok (p, rs, true)) else .ok (p, rs, false)
theorem dt_ok {B : Nat → Nat} {sz iv : Nat} : ∀ (m p rs : Nat) (r : Nat × Nat × Bool), dt B sz iv m p rs = .ok r → p ≤ r.1 ∧ r.1 + 2 ≤ sz ∧ B r.1 = 255 ∧ B (r.1 + 1) ≠ 0 ∧ (r.2.2 = true → 208 ≤ B (r.1 + 1) ∧ B (r.1 + 1) ≤ 215) ∧ (rs ≤ r.2.1 ∧ 2 * (r.2.1 - rs) ≤ r.1 - p) := by
  intro m
  induction m with
  | zero => intro p rs r h; cases h
  | succ m ih =>
    intro p rs r h
    unfold dt at h
    by_cases c1 : sz ≤ p
    · rw [if_pos c1] at h; cases h
    · rw [if_neg c1] at h
      by_cases c2 : B p ≠ 255
      · rw [if_pos c2] at h
        obtain ⟨a, b, d, e, f, g⟩ := ih (p + 1) rs r h
        exact ⟨by omega, b, d, e, f, by omega⟩
      · rw [if_neg c2] at h
        by_cases c3 : sz ≤ p + 1
        · rw [if_pos c3] at h; cases h
        · rw [if_neg c3] at h
          by_cases c4 : B (p + 1) = 0
          · rw [if_pos c4] at h
            obtain ⟨a, b, d, e, f, g⟩ := ih (p + 2) rs r h
            exact ⟨by omega, b, d, e, f, by omega⟩
          · rw [if_neg c4] at h
            by_cases c5 : 208 ≤ B (p + 1) ∧ B (p + 1) ≤ 215
            · rw [if_pos c5] at h
              by_cases c6 : 0 < iv ∧ B (p + 1) = 208 + rs % 8
              · rw [if_pos c6] at h
                obtain ⟨a, b, d, e, f, g⟩ := ih (p + 2) (rs + 1) r h
                exact ⟨by omega, b, d, e, f, by omega⟩
              · rw [if_neg c6] at h
                cases h
                exact ⟨Nat.le_refl _, by show p + 2 ≤ sz; omega, by show B p = 255; omega, c4, fun _ => c5, by show rs ≤ rs ∧ 2 * (rs - rs) ≤ p - p; omega⟩
            · rw [if_neg c5] at h
              cases h
              exact ⟨Nat.le_refl _, by show p + 2 ≤ sz; omega, by show B p = 255; omega, c4, fun q => (by cases q), by show rs ≤ rs ∧ 2 * (rs - rs) ≤ p - p; omega⟩
theorem dt_er {B : Nat → Nat} {sz iv : Nat} : ∀ (m p rs : Nat) (e : Er), dt B sz iv m p rs = .error e → e = (1, sz) := by
  intro m
  induction m with
  | zero => intro p rs e h; cases h; rfl
  | succ m ih =>
    intro p rs e h
    unfold dt at h
    by_cases c1 : sz ≤ p
    · rw [if_pos c1] at h; cases h; rfl
    · rw [if_neg c1] at h
      by_cases c2 : B p ≠ 255
      · rw [if_pos c2] at h; exact ih _ _ _ h
      · rw [if_neg c2] at h
        by_cases c3 : sz ≤ p + 1
        · rw [if_pos c3] at h; cases h; rfl
        · rw [if_neg c3] at h
          by_cases c4 : B (p + 1) = 0
          · rw [if_pos c4] at h; exact ih _ _ _ h
          · rw [if_neg c4] at h
            by_cases c5 : 208 ≤ B (p + 1) ∧ B (p + 1) ≤ 215
            · rw [if_pos c5] at h
              by_cases c6 : 0 < iv ∧ B (p + 1) = 208 + rs % 8
              · rw [if_pos c6] at h; exact ih _ _ _ h
              · rw [if_neg c6] at h; cases h
            · rw [if_neg c5] at h; cases h
/-- room in the class's row of scans -/
def RmS (nc : Nat) (t : St) : Prop := t.1 8 = nI (5 * nc) ∧ nc < 1300 ∧ 5 * nc ≤ t.2.2.2 2 ∧ 16 ≤ t.2.2.2 2 ∧ t.2.2.2 2 ≤ 16384
/-- the row of one scan more, in the class -/
def ScnZ (nc from' pl rs : Nat) (ln : Bool) (t z : St) : Prop := z.1 12 = bI ln ∧ z.1 8 = nI (5 * (nc + 1)) ∧ (∀ j, j < 5 * nc → z.2.1 2 j = t.2.1 2 j) ∧ z.2.1 2 (5 * nc) = t.1 15 ∧ z.2.1 2 (5 * nc + 1) = nI from' ∧ z.2.1 2 (5 * nc + 2) = nI (pl - from') ∧ z.2.1 2 (5 * nc + 3) = nI rs ∧ z.2.1 2 (5 * nc + 4) = t.1 5 ∧ 5 * (nc + 1) ≤ z.2.2.2 2 ∧ 16 ≤ z.2.2.2 2 ∧ z.2.2.2 2 ≤ 16384 ∧ z.2.2.2 0 = t.2.2.2 0 ∧ z.2.2.2 1 = t.2.2.2 1 ∧ EqX [8, 12] [2] [] t z
theorem O_end18 {n nc from' pl rs hh : Nat} {t : St} (hR : RmS nc t) (h9 : t.1 9 = nI pl) (hf : from' ≤ pl) (h3 : t.1 3 = nI hh ∨ t.1 13 ≠ 0) (hh2 : hh < 100) : ∃ z ln, m_Parser_endData_18 n (nI from') (nI rs) t = some z ∧ ScnZ nc from' pl rs ln t z ∧ (t.1 3 = nI hh → ln = (decide (nc = 0) && decide (hh = 0))) := by
  obtain ⟨r1, r2, r3, r4, r5⟩ := hR
  have ec : m_Picture_scanCount n t = some (nI nc, t) := by
    unfold m_Picture_scanCount
    rw [r1, show (5 : Int32) = nI 5 from rfl, pk_div (by omega) (by omega) (by omega), show 5 * nc / 5 = nc by omega]
  have key : ∀ b : Bool, ∃ z, m_Picture_addScan n (t.1 15) (nI from') (t.1 9 - nI from') (nI rs) (sG t 12 (bI b)) = some z ∧ ScnZ nc from' pl rs b t z := by
    intro b
    obtain ⟨z, a0, a1, a2, a3, a4, a5, a6, a7, a8, a9, b1, b2, b3⟩ := O_addScan (n := n) (x1 := t.1 15) (x2 := nI from') (x3 := t.1 9 - nI from') (x4 := nI rs) (t := sG t 12 (bI b)) r1 (by omega) r3 r4 r5
    have hx := x_Picture_addScan a0
    refine ⟨z, a0, hx.1 12 (by decide), ?_, a2, a3, a4, ?_, a6, a7, ?_, a9, b1, b2, b3, ?_⟩
    · rw [a1, show 5 * nc + 5 = 5 * (nc + 1) by omega]
    · rw [a5, h9, pk_sub hf]
    · rw [show 5 * (nc + 1) = 5 * nc + 5 by omega]; exact a8
    · exact EqX.tr (EqX.g EqX.rf (by decide)) (EqX.mono hx (by decide) (by decide) (by decide))
  unfold m_Parser_endData_18
  rw [ec, Option.bind_some]
  dsimp only
  have e43 : ∃ z, m_Parser_endData_43 n (nI from') (nI rs) t = some z ∧ ScnZ nc from' pl rs false t z := by
    obtain ⟨z, z1, z2⟩ := key false
    refine ⟨z, ?_, z2⟩
    unfold m_Parser_endData_43
    show (m_Picture_addScan n (t.1 15) (nI from') (t.1 9 - nI from') (nI rs) (sG t 12 (bI false))).bind _ = _
    rw [z1, Option.bind_some]
  by_cases c : nc = 0
  · rw [if_pos (show nI nc = 0 by rw [c]; rfl)]
    by_cases d : t.1 3 = 0
    · rw [if_pos d]
      obtain ⟨z, z1, z2⟩ := key true
      refine ⟨z, true, ?_, z2, fun q => ?_⟩
      · show (m_Picture_addScan n (t.1 15) (nI from') (t.1 9 - nI from') (nI rs) (sG t 12 (bI true))).bind _ = _
        rw [z1, Option.bind_some]
      · rw [q] at d
        have : hh = 0 := (nI_eq (a := hh) (b := 0) (by omega) (by omega)).mp d
        rw [decide_eq_true c, decide_eq_true this]; rfl
    · rw [if_neg d]
      obtain ⟨z, z1, z2⟩ := e43
      refine ⟨z, false, z1, z2, fun q => ?_⟩
      rw [decide_eq_false (show ¬ hh = 0 from fun y => d (by rw [q, y]; rfl)), Bool.and_false]
  · rw [if_neg (nI_ne0 (by omega) (by omega))]
    obtain ⟨z, z1, z2⟩ := e43
    exact ⟨z, false, z1, z2, fun q => by rw [decide_eq_false c, Bool.false_and]⟩
/-- a fault, and room kept -/
def FzC (t z : St) (e : Er) : Prop := Fz z e ∧ z.2.2.2 0 = t.2.2.2 0 ∧ z.2.2.2 1 = t.2.2.2 1 ∧ 16 ≤ z.2.2.2 2 ∧ z.2.2.2 2 ≤ 16384
theorem O_endF {n nc from' pl rs hh sz : Nat} {t : St} (hR : RmS nc t) (h0 : t.1 0 = nI sz) (h13 : t.1 13 = 0) (h9 : t.1 9 = nI pl) (hf : from' ≤ pl) (h3 : t.1 3 = nI hh) (hh2 : hh < 100) : ∃ z, m_Parser_endData n (nI from') (nI rs) mI t = some z ∧ FzC t z (1, sz) := by
  unfold m_Parser_endData
  rw [if_pos (show mI = -1 from rfl), O_fail h13, Option.bind_some, h0]
  obtain ⟨z, ln, z1, z2, -⟩ := O_end18 (n := n) (from' := from') (pl := pl) (rs := rs) (hh := hh) (t := fO t (1, sz)) hR h9 hf (Or.inl h3) hh2
  refine ⟨z, z1, ?_⟩
  obtain ⟨-, -, -, -, -, -, -, -, -, y1, y2, y3, y4, hx⟩ := z2
  exact ⟨⟨hx.1 13 (by decide), hx.1 14 (by decide), by simp, by simp⟩, y3, y4, y1, y2⟩
theorem O_dt {n nc from' hh iv : Nat} {B : Nat → Nat} {sz : Nat} {t : St} (hI : InO B sz t) (h13 : t.1 13 = 0) (h5 : t.1 5 = nI iv) (hiv : iv < 65536) (hR : RmS nc t) (h3 : t.1 3 = nI hh) (hh2 : hh < 100) : ∀ (m f p rs : Nat), sz < p + m → m < f → p ≤ sz → from' ≤ p → rs ≤ p → (∀ e, dt B sz iv m p rs = .error e → ∃ z, m_Parser_readData_7 n f (nI from') (nI rs) (sG t 9 (nI p)) = some z ∧ FzC t z e) ∧ ∀ r, dt B sz iv m p rs = .ok r → m_Parser_readData_7 n f (nI from') (nI rs) (sG t 9 (nI p)) = (m_Parser_endData n (nI from') (nI r.2.1) (nI (B (r.1 + 1))) (sG t 9 (nI r.1))).bind (fun z => some z) := by
  have hs := hI.2.1
  have h0 : t.1 0 = nI sz := hI.1
  intro m
  induction m with
  | zero => intro f p rs h1 h2 h3 h4; omega
  | succ m ih =>
    intro f p rs hm hf hp hfr hrs
    obtain ⟨f, rfl⟩ : ∃ g, f = g + 1 := ⟨f - 1, by omega⟩
    have e0 : m_Parser_readData_7 n (f + 1) (nI from') (nI rs) (sG t 9 (nI p)) = m_Parser_readData_7b n (m_Parser_readData_7 n f) (nI from') (nI rs) (sG t 9 (nI p)) := rfl
    rw [e0]
    unfold m_Parser_readData_7b
    rw [if_pos (show (sG t 9 (nI p)).1 13 = 0 from h13), sG_at, show (sG t 9 (nI p)).1 0 = nI sz from h0]
    unfold dt
    by_cases c1 : sz ≤ p
    · rw [if_pos c1, if_pos (nI_le c1 (by omega))]
      refine ⟨fun e he => ?_, fun r he => (by cases he)⟩
      cases he
      unfold m_Parser_readData_139
      rw [O_fail (t := sG t 9 (nI p)) h13, Option.bind_some, show (sG t 9 (nI p)).1 0 = nI sz from h0]
      exact ⟨_, rfl, ⟨rfl, rfl, by simp, by simp⟩, rfl, rfl, hR.2.2.2.1, hR.2.2.2.2⟩
    · have hB := (hI.2.2.2.2 p (by omega)).2
      rw [if_neg c1, if_neg (nI_ge (by omega) (by omega)), O_at (t := sG t 9 (nI p)) hI (by omega), Option.bind_some]
      dsimp only
      rw [bt_in (by omega), sG_at, sG_sG, nI_1]
      by_cases c2 : B p ≠ 255
      · rw [if_pos c2, if_neg (show ¬ nI (B p) = 255 from nI_ne (b := 255) (by omega) (by omega) c2)]
        exact ih f (p + 1) rs (by omega) (by omega) (by omega) (by omega) (by omega)
      · have c2' : B p = 255 := by omega
        rw [if_neg c2, if_pos (show nI (B p) = 255 by rw [c2']; rfl), O_at (t := sG t 9 (nI p)) hI (by omega), Option.bind_some]
        dsimp only
        rw [show (sG t 9 (nI p)).1 5 = nI iv from h5]
        have e8 : (208 : Int32) + (nI rs - nI rs / 8 * 8) = nI (208 + rs % 8) := by
          rw [show (8 : Int32) = nI 8 from rfl, pk_rem (by omega) (by omega) (by omega), show (208 : Int32) = nI 208 from rfl, nI_add]
        rw [e8]
        have e126 : ∀ x, m_Parser_readData_126 n (m_Parser_readData_7 n f) (nI from') x (sG t 9 (nI p)) = m_Parser_readData_7 n f (nI from') x (sG t 9 (nI (p + 2))) := by
          intro x
          unfold m_Parser_readData_126
          rw [sG_at, sG_sG, show (2 : Int32) = nI 2 from rfl, nI_add]
        have e98 : ∀ x3, m_Parser_readData_98 n (m_Parser_readData_7 n f) (nI from') (nI rs) x3 (sG t 9 (nI p)) = if x3 = 0 then m_Parser_readData_7 n f (nI from') (nI rs) (sG t 9 (nI (p + 2))) else (m_Parser_endData n (nI from') (nI rs) x3 (sG t 9 (nI p))).bind (fun z => some z) := by
          intro x3
          unfold m_Parser_readData_98 m_Parser_readData_99 m_Parser_readData_109
          rw [if_pos rfl, e126, if_pos rfl]
        have e99 : ∀ x3, m_Parser_readData_99 n (m_Parser_readData_7 n f) (nI from') (nI rs) x3 1 (sG t 9 (nI p)) = m_Parser_readData_7 n f (nI from') (nI (rs + 1)) (sG t 9 (nI (p + 2))) := by
          intro x3
          unfold m_Parser_readData_99 m_Parser_readData_109
          rw [if_neg (show ¬ (1 : Int32) = 0 by decide), nI_1, e126, if_neg (show ¬ (1 : Int32) = 0 by decide)]
          exact ite_self _
        rw [e98, e99]
        by_cases c3 : sz ≤ p + 1
        · rw [if_pos c3, bt_out (by omega)]
          refine ⟨fun e he => ?_, fun r he => (by cases he)⟩
          cases he
          obtain ⟨z, z1, z2⟩ := O_endF (n := n) (from' := from') (rs := rs) (sz := sz) (t := sG t 9 (nI p)) hR h0 h13 rfl hfr h3 hh2
          refine ⟨z, ?_, z2⟩
          rw [if_neg (show ¬ mI = nI (208 + rs % 8) from fun y => (mI_eq (a := 208 + rs % 8) (by omega)).mp y), if_neg (show ¬ mI = 0 by decide), z1]
          show (if nI iv ≤ 0 then some z else some z) = some z
          exact ite_self _
        · have hB1 := (hI.2.2.2.2 (p + 1) (by omega)).2
          rw [if_neg c3, bt_in (by omega)]
          by_cases c4 : B (p + 1) = 0
          · rw [if_pos c4, if_neg (show ¬ nI (B (p + 1)) = nI (208 + rs % 8) from nI_ne (by omega) (by omega) (by omega)), if_pos (show nI (B (p + 1)) = 0 by rw [c4]; rfl)]
            have := ih f (p + 2) rs (by omega) (by omega) (by omega) (by omega) (by omega)
            rw [ite_self]
            exact this
          · rw [if_neg c4, if_neg (nI_ne0 (n := B (p + 1)) (by omega) (by omega))]
            by_cases c6 : 0 < iv ∧ B (p + 1) = 208 + rs % 8
            · rw [if_pos (show 208 ≤ B (p + 1) ∧ B (p + 1) ≤ 215 by omega), if_pos c6, if_neg (nI_nle c6.1 (by omega)), if_pos (show nI (B (p + 1)) = nI (208 + rs % 8) by rw [c6.2])]
              exact ih f (p + 2) (rs + 1) (by omega) (by omega) (by omega) (by omega) (by omega)
            · have e9 : (if nI iv ≤ 0 then (m_Parser_endData n (nI from') (nI rs) (nI (B (p + 1))) (sG t 9 (nI p))).bind (fun z => some z) else if nI (B (p + 1)) = nI (208 + rs % 8) then m_Parser_readData_7 n f (nI from') (nI (rs + 1)) (sG t 9 (nI (p + 2))) else (m_Parser_endData n (nI from') (nI rs) (nI (B (p + 1))) (sG t 9 (nI p))).bind (fun z => some z)) = (m_Parser_endData n (nI from') (nI rs) (nI (B (p + 1))) (sG t 9 (nI p))).bind (fun z => some z) := by
                by_cases d : 0 < iv
                · rw [if_neg (nI_nle d (by omega)), if_neg (show ¬ nI (B (p + 1)) = nI (208 + rs % 8) from nI_ne (by omega) (by omega) (fun y => c6 ⟨d, y⟩))]
                · rw [if_pos (show nI iv ≤ 0 from nI_le (b := 0) (by omega) (by omega))]
              rw [e9]
              by_cases c5 : 208 ≤ B (p + 1) ∧ B (p + 1) ≤ 215
              · rw [if_pos c5, if_neg c6]
                exact ⟨fun e he => (by cases he), fun r he => (by cases he; rfl)⟩
              · rw [if_neg c5]
                exact ⟨fun e he => (by cases he), fun r he => (by cases he; rfl)⟩
