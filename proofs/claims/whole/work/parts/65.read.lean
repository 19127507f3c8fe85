theorem PO.eq {B : Nat → Nat} {F : Option (Nat × Nat × Nat)} {hh ww iv ns nc : Nat} {qm wm : Nat → Option Nat} {sg : Nat → Nat × Nat} {sr : Nat → Nat → Nat} {t z : St} (h : PO B F hh ww iv ns nc qm wm sg sr t) (e1 : ∀ k, 1 ≤ k → k ≤ 8 → z.1 k = t.1 k) (e2 : ∀ k, 1 ≤ k → k ≤ 5 → z.2.1 k = t.2.1 k) (e3 : z.2.2.2 = t.2.2.2) : PO B F hh ww iv ns nc qm wm sg sr z := by
  obtain ⟨o6, o7, o8, o9, o10, o11, o12, o13, o14⟩ := h
  refine ⟨o6.eq (e1 1 (by omega) (by omega)) (e1 4 (by omega) (by omega)) (e2 3 (by omega) (by omega)), (e1 2 (by omega) (by omega)).trans o7, (e1 3 (by omega) (by omega)).trans o8, (e1 5 (by omega) (by omega)).trans o9, ?_, ?_, o12.eq (e1 7 (by omega) (by omega)) (e2 1 (by omega) (by omega)), o13.eq (e1 8 (by omega) (by omega)) (e2 2 (by omega) (by omega)), o14.eq e3⟩
  · rw [e2 4 (by omega) (by omega)]; exact o10
  · rw [e2 5 (by omega) (by omega)]; exact o11
theorem PM.eq {B : Nat → Nat} {sz : Nat} {F : Option (Nat × Nat × Nat)} {hh ww iv ns nc : Nat} {qm wm : Nat → Option Nat} {sg : Nat → Nat × Nat} {sr : Nat → Nat → Nat} {u w : St} (h : PM B sz F hh ww iv ns nc qm wm sg sr u) (e1 : ∀ k, 8 ≤ k → k ≤ 14 → w.1 k = u.1 k) (e2 : ∀ k, 1 ≤ k → k ≤ 12 → w.2.1 k = u.2.1 k) : PM B sz F hh ww iv ns nc qm wm sg sr w := by
  obtain ⟨m6, m7, m8, m9, m10, m11, m12, m13⟩ := h
  refine ⟨m6.eq (e1 9 (by omega) (by omega)) (e1 12 (by omega) (by omega)) (e2 2 (by omega) (by omega)) (e2 3 (by omega) (by omega)) (e2 4 (by omega) (by omega)) (e2 5 (by omega) (by omega)), (e1 10 (by omega) (by omega)).trans m7, (e1 11 (by omega) (by omega)).trans m8, (e1 13 (by omega) (by omega)).trans m9, ?_, ?_, m12.eq (e1 8 (by omega) (by omega)) (e2 1 (by omega) (by omega)), m13.eq (e1 14 (by omega) (by omega)) (e2 12 (by omega) (by omega))⟩
  · rw [e2 6 (by omega) (by omega), e2 7 (by omega) (by omega)]; exact m10
  · rw [e2 8 (by omega) (by omega), e2 9 (by omega) (by omega), e2 10 (by omega) (by omega), e2 11 (by omega) (by omega)]; exact m11
/-- the first two bytes -/
def bg (B : Nat → Nat) (sz : Nat) : Except Er Unit := if sz = 0 then .error (1, 0) else if B 0 = 255 then (if 2 ≤ sz then (if B 1 = 216 then .ok () else .error (2, 0)) else .error (1, sz)) else .error (2, 0)
abbrev sg0 : Nat → Nat × Nat := fun _ => (0, 0)
abbrev sr0 : Nat → Nat → Nat := fun _ _ => 0
theorem O_begin {n : Nat} {B : Nat → Nat} {sz : Nat} {t : St} (hn : 20000 ≤ n) (hI : InO B sz t) (hc : CpO 0 0 t) : Ev Fz (m_Parser_begin n t) (bg B sz) (fun _ z => RO B sz none 0 0 0 0 0 nq nq sg0 sr0 nq 2 false z) := by
  have hsz := hI.2.1
  obtain ⟨a, a1, a2, a3⟩ := O_clear (n := n) (B := B) (t := sG (sG t 13 0) 14 (-1)) hn hc
  obtain ⟨b, b1, b2, b3, b4, b5⟩ := fi_14 (n := n) (t := a) hn
  have xa := x_Picture_clear a1
  have qa := q_Picture_clear a1
  have hb0 : b.1 0 = nI sz := by rw [b2, xa.1 0 (by decide)]; exact hI.1
  have hbI : InO B sz (sG b 12 0) := by
    show Inp B sz (b.1 0) (b.2.1 0) (b.2.2.2 0)
    rw [b2, b4 0 (by decide), b3, xa.1 0 (by decide), xa.2.1 0 (by decide), qa]
    exact hI
  have hb13 : b.1 13 = 0 := by rw [b2, xa.1 13 (by decide)]; rfl
  have hb14 : b.1 14 = mI := by rw [b2, xa.1 14 (by decide)]; rfl
  have ok : ∀ z : St, z = sG (sG b 12 0) 9 2 → RO B sz none 0 0 0 0 0 nq nq sg0 sr0 nq 2 false z := by
    intro z hz
    subst hz
    refine ⟨hbI, hb13, hb14, rfl, rfl, ?_, ?_, ?_⟩
    · show b.1 6 = mI
      rw [b2]; exact a3
    · exact fun j hj => ⟨b5 j hj, fun q hq => by cases hq⟩
    · refine a2.eq (fun k h1 h2 => ?_) (fun k h1 h2 => b4 k (by omega)) (by show b.2.2.2 = _; rw [b3])
      have e : (sG (sG b 12 0) 9 2).1 k = b.1 k := (sG_ne (by omega)).trans (sG_ne (by omega))
      rw [e, b2]
  have e51 : Ev Fz (m_Parser_begin_51 n (sG b 12 0)) (if 2 ≤ sz then (if B 1 = 216 then .ok () else .error (2, 0)) else .error (1, sz)) (fun _ z => RO B sz none 0 0 0 0 0 nq nq sg0 sr0 nq 2 false z) := by
    unfold m_Parser_begin_51
    rw [show (sG b 12 0).1 0 = nI sz from hb0]
    by_cases c : 2 ≤ sz
    · have hB := (hbI.2.2.2.2 1 (by omega)).2
      rw [if_pos c, if_pos (show (2 : Int32) ≤ nI sz from nI_le (a := 2) c (by omega)), show (1 : Int32) = nI 1 from rfl, O_at hbI (by omega), Option.bind_some]
      dsimp only
      rw [bt_in (by omega)]
      by_cases d : B 1 = 216
      · rw [if_pos d, if_pos (show nI (B 1) = 216 by rw [d]; rfl)]
        exact Ev.ok ⟨_, rfl, ok _ rfl⟩
      · rw [if_neg d, if_neg (show ¬ nI (B 1) = 216 from nI_ne (b := 216) (by omega) (by omega) d), O_fail (t := sG b 12 0) hb13, Option.bind_some]
        exact Ev.er ⟨_, rfl, rfl, rfl, by simp, by simp⟩
    · rw [if_neg c, if_neg (show ¬ (2 : Int32) ≤ nI sz from nI_ge (b := 2) (by omega) (by omega)), O_fail (t := sG b 12 0) hb13, Option.bind_some]
      exact Ev.er ⟨_, rfl, rfl, rfl, by simp, by simp⟩
  unfold m_Parser_begin m_Parser_forget
  rw [a1, Option.bind_some, Option.bind_some, b1, Option.bind_some, hb0]
  unfold bg
  by_cases c : sz = 0
  · rw [if_pos c, if_pos (show nI sz ≤ 0 from nI_le (b := 0) (by omega) (by omega))]
    rw [if_neg (by omega)] at e51
    obtain ⟨z, z1, z2⟩ := e51
    dsimp only at z2
    rw [c] at z2
    exact Ev.er ⟨z, z1, z2⟩
  · have hB := (hbI.2.2.2.2 0 (by omega)).2
    rw [if_neg c, if_neg (nI_nle (by omega) (by omega)), show m_Bytes_at n 0 (sG b 12 0) = some (bt B sz 0, sG b 12 0) from O_at (p := 0) hbI (by omega), Option.bind_some]
    dsimp only
    rw [bt_in (by omega)]
    by_cases d : B 0 = 255
    · rw [if_pos d, if_pos (show nI (B 0) = 255 by rw [d]; rfl)]
      exact e51
    · rw [if_neg d, if_neg (show ¬ nI (B 0) = 255 from nI_ne (b := 255) (by omega) (by omega) d), O_fail (t := sG b 12 0) hb13, Option.bind_some]
      exact Ev.er ⟨_, rfl, rfl, rfl, by simp, by simp⟩
theorem R_start {n : Nat} {B : Nat → Nat} {sz : Nat} {u : St} (hn : 20000 ≤ n) (hI : InM B sz u) (h2 : u.1 2 = 0) (h4 : u.1 4 = nI 0) (h5 : u.1 5 = mI) : (∀ e, bg B sz = .error e → ∃ w, m_Model_readFile n u = some w ∧ Gz w e) ∧ (bg B sz = .ok () → m_Model_readFile n u = m_Model_readFile_56 n n 0 1 (sG u 4 (nI 2))) := by
  obtain ⟨m, rfl⟩ : ∃ m, n = m + 1 := ⟨n - 1, by omega⟩
  have hsz := hI.2.1
  have e26 : ∀ w e, Gz w e → m_Model_readFile_26 (m + 1) w = some w := by
    intro w e h
    unfold m_Model_readFile_26 m_Model_readFile_52
    rw [R_nextF h, Option.bind_some, if_neg h.ne]
    exact R_stop h
  have e52 : ∀ w e, Gz w e → m_Model_readFile_52 (m + 1) w = some w := by
    intro w e h
    unfold m_Model_readFile_52
    exact R_stop h
  unfold m_Model_readFile
  rw [R_nextN hI h2 h4 h5 (by omega), Option.bind_some]
  unfold bg
  by_cases c : sz = 0
  · rw [if_pos c, show nx B sz 0 = .error (1, sz) from if_pos (by omega), show nxM u 0 (.error (1, sz)) = (0, fM u (1, sz)) from rfl]
    have hg : Gz (fM u (1, sz)) (1, 0) := ⟨rfl, by rw [← c]; rfl, by simp, by simp⟩
    refine ⟨fun e he => ?_, fun he => (by cases he)⟩
    cases he
    dsimp only
    rw [if_neg hg.ne]
    exact ⟨_, e26 _ _ hg, hg⟩
  · have hB := (hI.2.2.2.2 0 (by omega)).2
    rw [if_neg c, show nx B sz 0 = .ok (B 0) from if_neg (by omega), show nxM u 0 (.ok (B 0)) = (nI (B 0), sG u 4 (nI 1)) from rfl]
    dsimp only
    rw [if_pos (show (sG u 4 (nI 1)).1 2 = 0 from h2)]
    have wr : ∀ v : St, v.1 2 = 0 → m_Model_wrong (m + 1) 2 0 v = some (0, fM v (2, 0)) := by
      intro v hv
      unfold m_Model_wrong
      rw [if_pos hv]; rfl
    have hg2 : ∀ v : St, Gz (fM v (2, 0)) (2, 0) := fun v => ⟨rfl, rfl, by simp, by simp⟩
    by_cases d : B 0 = 255
    · rw [if_pos d, if_pos (show nI (B 0) = 255 by rw [d]; rfl)]
      unfold m_Model_readFile_26
      rw [R_nextN (u := sG u 4 (nI 1)) (p := 1) hI h2 rfl h5 (by omega), Option.bind_some]
      by_cases c2 : 2 ≤ sz
      · have hB1 := (hI.2.2.2.2 1 (by omega)).2
        rw [if_pos c2, show nx B sz 1 = .ok (B 1) from if_neg (by omega), show nxM (sG u 4 (nI 1)) 1 (.ok (B 1)) = (nI (B 1), sG (sG u 4 (nI 1)) 4 (nI 2)) from rfl, sG_sG]
        dsimp only
        rw [if_pos (show (sG u 4 (nI 2)).1 2 = 0 from h2)]
        by_cases d1 : B 1 = 216
        · rw [if_pos d1, if_pos (show nI (B 1) = 216 by rw [d1]; rfl)]
          exact ⟨fun e he => (by cases he), fun _ => rfl⟩
        · rw [if_neg d1, if_neg (show ¬ nI (B 1) = 216 from nI_ne (b := 216) (by omega) (by omega) d1), wr (sG u 4 (nI 2)) h2, Option.bind_some]
          refine ⟨fun e he => ?_, fun he => (by cases he)⟩
          cases he
          exact ⟨_, e52 _ _ (hg2 _), hg2 _⟩
      · rw [if_neg c2, show nx B sz 1 = .error (1, sz) from if_pos (by omega), show nxM (sG u 4 (nI 1)) 1 (.error (1, sz)) = (0, fM (sG u 4 (nI 1)) (1, sz)) from rfl]
        have hg : Gz (fM (sG u 4 (nI 1)) (1, sz)) (1, sz) := ⟨rfl, rfl, by simp, by simp⟩
        refine ⟨fun e he => ?_, fun he => (by cases he)⟩
        cases he
        dsimp only
        rw [if_neg hg.ne]
        exact ⟨_, e52 _ _ hg, hg⟩
    · rw [if_neg d, if_neg (show ¬ nI (B 0) = 255 from nI_ne (b := 255) (by omega) (by omega) d), wr (sG u 4 (nI 1)) h2, Option.bind_some]
      refine ⟨fun e he => ?_, fun he => (by cases he)⟩
      cases he
      exact ⟨_, e26 _ _ (hg2 _), hg2 _⟩
/-- between calls -/
def IV (k : Nat) (t u : St) : Prop := ∃ B sz, InO B sz t ∧ InM B sz u ∧ sz ≤ 8 * k ∧ QR B sz t u ∧ t.1 13 = u.1 2 ∧ t.1 14 = u.1 3 ∧ t.1 6 = u.1 7 ∧ 64 ≤ t.2.2.2 0 ∧ t.2.2.2 0 ≤ 16384 ∧ ∀ i, i < t.2.2.2 0 → fits .byte (.int (t.2.1 0 i)) = true
theorem QR0 {B : Nat → Nat} {sz : Nat} {t u : St} (h1 : PO B none 0 0 0 0 0 nq nq sg0 sr0 t) (h2 : PM B sz none 0 0 0 0 0 nq nq sg0 sr0 u) : QR B sz t u := ⟨_, _, _, _, _, _, _, _, _, _, h1, h2, by omega, by omega, by omega, by omega, fun j q h => (by cases h), fun j q h => (by cases h)⟩
theorem RB0 {B : Nat → Nat} {sz : Nat} {t u : St} (h1 : RO B sz none 0 0 0 0 0 nq nq sg0 sr0 nq 2 false t) (h2 : RM B sz none 0 0 0 0 0 nq nq sg0 sr0 nq 2 u) (h : 2 ≤ sz) : RB B sz 2 false t u := ⟨_, _, _, _, _, _, _, _, _, _, _, h1, h2, h, by omega, by omega, by omega, by omega, fun j q h => (by cases h), fun j q h => (by cases h), Or.inr (fun c _ _ i _ => rfl)⟩
theorem bg_ok {B : Nat → Nat} {sz : Nat} (h : bg B sz = .ok ()) : 2 ≤ sz := by
  unfold bg at h
  by_cases c : 2 ≤ sz
  · exact c
  · rw [if_neg c] at h
    by_cases d : sz = 0
    · rw [if_pos d] at h; cases h
    · rw [if_neg d] at h
      by_cases e : B 0 = 255
      · rw [if_pos e] at h; cases h
      · rw [if_neg e] at h; cases h
theorem read_ok {n k : Nat} {t u : St} (hn : 20000 ≤ n) (hI : IV k t u) : ∃ z w, m_Reader_read n t = some z ∧ m_Model_read n u = some w ∧ z.1 = w.1 ∧ IV (k + 1) z.2 w.2 := by
  obtain ⟨B, sz, i1, i2, i3, i4, i5, i6, i7, i8, i9, i10⟩ := hI
  have hsz := i1.2.1
  have hcp : CpO 0 0 t := by
    obtain ⟨F, hh, ww, iv, ns, nc, qm, wm, sg, sr, hP, -⟩ := i4
    have := hP.2.2.2.2.2.2.2.2
    exact ⟨by omega, this.2.1, this.2.2.1, by omega, this.2.2.2.2.1, this.2.2.2.2.2⟩
  obtain ⟨y, y1, y2⟩ := O_begin (n := n) hn i1 hcp
  have xy := x_Parser_begin y1
  have qy := q_Parser_begin y1
  obtain ⟨v, v1, v2, v3, v4⟩ := R_forget (n := n) (B := B) (sz := sz) (u := sG (sG (sG u 0 0) 2 0) 3 (-1)) hn
  have xv := x_Model_forget v1
  have hv2 : v.1 2 = 0 := xv.1 2 (by decide)
  have hv3 : v.1 3 = mI := xv.1 3 (by decide)
  have hvI : InM B sz (sG (sG v 4 0) 5 (-1)) := by
    show Inp B sz (v.1 1) (v.2.1 0) 16384
    rw [xv.1 1 (by decide), xv.2.1 0 (by decide)]; exact i2
  obtain ⟨S1, S2⟩ := R_start (n := n) (u := sG (sG v 4 0) 5 (-1)) hn hvI hv2 rfl rfl
  -- both to their ends
  have key : ∃ z w, m_Reader_read_9 n n 0 y = m_Reader_read_39 n z ∧ m_Model_readFile n (sG (sG v 4 0) 5 (-1)) = some w ∧ RE B sz t z w := by
    cases hb : bg B sz with
    | error e =>
      rw [hb] at y2
      dsimp only at y2
      obtain ⟨w, w1, w2⟩ := S1 e hb
      obtain ⟨m, hm⟩ : ∃ m, n = m + 1 := ⟨n - 1, by omega⟩
      refine ⟨y, w, ?_, w1, Or.inl ⟨e, y2, w2, ?_, xy.1 0 (by decide), xy.2.1 0 (by decide)⟩⟩
      · have := O_stop (n := n) (f := m) (k := 0) (t := y) (Or.inl y2.ne) (by omega)
        rw [← hm] at this
        exact this
      · unfold Cb
        rw [qy]
        exact ⟨rfl, hcp.2.1, hcp.2.2.1, hcp.2.2.2.2.1, hcp.2.2.2.2.2⟩
    | ok x =>
      rw [hb] at y2
      dsimp only at y2
      have h2 := bg_ok hb
      have hRM : RM B sz none 0 0 0 0 0 nq nq sg0 sr0 nq 2 (sG (sG (sG v 4 0) 5 (-1)) 4 (nI 2)) := by
        refine ⟨hvI, hv2, hv3, rfl, rfl, v3, v4, v2.eq (fun k h1 h2 => ?_) (fun k _ _ => rfl)⟩
        exact (sG_ne (by omega)).trans ((sG_ne (by omega)).trans (sG_ne (by omega)))
      obtain ⟨z, w, z1, z2, z3⟩ := loop (n := n) (B := B) (sz := sz) hn sz 2 0 n n false y _ (by omega) (by omega) (by omega) (by omega) (RB0 y2 hRM h2)
      refine ⟨z, w, z1, ?_, z3.tr (by rw [qy]) (xy.1 0 (by decide)) (xy.2.1 0 (by decide))⟩
      rw [S2 hb]; exact z2
  obtain ⟨z, w, k1, k2, k3⟩ := key
  have eO : m_Reader_read n t = m_Reader_read_39 n z := by
    unfold m_Reader_read
    rw [y1, Option.bind_some, k1]
  have eM : m_Model_read n u = if (w.1 2) ≤ 0 then some ((w.1 2), w) else (m_Model_forget n w).bind (fun z41 => some ((z41.1 2), z41)) := by
    unfold m_Model_read
    rw [v1, Option.bind_some, k2, Option.bind_some]
  rw [eO, eM]
  unfold m_Reader_read_39 m_Parser_finish
  have xf := x_Model_readFile k2
  have hwI : InM B sz w := by
    show Inp B sz (w.1 1) (w.2.1 0) 16384
    rw [xf.1 1 (by decide), xf.2.1 0 (by decide)]
    exact hvI
  rcases k3 with ⟨e, q1, q2, q3, q4, q5⟩ | ⟨q, q1, q2, q3, q4, q5, q6, q7, q8, q9, q10, q11, q12, q13⟩
  · obtain ⟨p1, p2, p3, p4, p5⟩ := q3
    obtain ⟨a, a1, a2, a3⟩ := O_clear (n := n) (B := B) (t := z) hn ⟨by omega, p2, p3, by omega, p4, p5⟩
    obtain ⟨b, b1, b2, b3, b4⟩ := R_forget (n := n) (B := B) (sz := sz) (u := w) hn
    have xa := x_Picture_clear a1
    have qa := q_Picture_clear a1
    have xb := x_Model_forget b1
    have e0 : a.2.2.2 0 = t.2.2.2 0 := by rw [qa]; exact p1
    have e1 : a.2.1 0 = t.2.1 0 := (xa.2.1 0 (by decide)).trans q5
    refine ⟨(a.1 13, a), (b.1 2, b), ?_, ?_, ?_, B, sz, ?_, ?_, by omega, QR0 a2 b2, ?_, ?_, a3.trans b3.symm, ?_, ?_, ?_⟩
    · rw [if_neg q1.ne, a1, Option.bind_some, Option.bind_some]
    · rw [if_neg q2.nle, b1, Option.bind_some]
    · show a.1 13 = b.1 2
      rw [xa.1 13 (by decide), xb.1 2 (by decide), q1.1, q2.1]
    · show Inp B sz (a.1 0) (a.2.1 0) (a.2.2.2 0)
      rw [e0, e1, xa.1 0 (by decide), q4]; exact i1
    · show Inp B sz (b.1 1) (b.2.1 0) 16384
      rw [xb.1 1 (by decide), xb.2.1 0 (by decide)]; exact hwI
    · show a.1 13 = b.1 2
      rw [xa.1 13 (by decide), xb.1 2 (by decide), q1.1, q2.1]
    · show a.1 14 = b.1 3
      rw [xa.1 14 (by decide), xb.1 3 (by decide), q1.2.1, q2.2.1]
    · rw [e0]; exact i8
    · rw [e0]; exact i9
    · rw [e0, e1]; exact i10
  · refine ⟨(z.1 13, z), (w.1 2, w), ?_, ?_, ?_, B, sz, q1, hwI, by omega, q10, ?_, ?_, ?_, ?_, ?_, ?_⟩
    · rw [if_pos q3, Option.bind_some]
    · rw [if_pos (show w.1 2 ≤ 0 by rw [q5]; decide)]
    · show z.1 13 = w.1 2
      rw [q3, q5]
    · show z.1 13 = w.1 2
      rw [q3, q5]
    · show z.1 14 = w.1 3
      rw [q4, q6]
    · show z.1 6 = w.1 7
      rw [q7, q8]
    · show 64 ≤ z.2.2.2 0
      rw [q11]; exact i8
    · show z.2.2.2 0 ≤ 16384
      rw [q11]; exact i9
    · show ∀ i, i < z.2.2.2 0 → fits .byte (.int (z.2.1 0 i)) = true
      rw [q11, q13]; exact i10
