theorem cst_cases {ln hasF all : Bool} {c : Nat} (h : cst ln hasF all c = true) : (ln = true ∧ c = 220) ∨ (ln = false ∧ ((c = 192 ∨ c = 194) ∧ hasF = false ∨ c = 196 ∨ c = 219 ∨ c = 221 ∨ c = 218 ∧ hasF = true ∨ c = 217 ∨ (222 ≤ c ∧ c < 255))) := by
  unfold cst at h
  cases ln with
  | true =>
    rw [if_pos rfl] at h
    exact Or.inl ⟨rfl, of_decide_eq_true h⟩
  | false =>
    rw [if_neg (by decide)] at h
    refine Or.inr ⟨rfl, ?_⟩
    by_cases c1 : c = 192 ∨ c = 194
    · rw [if_pos c1] at h
      refine Or.inl ⟨c1, ?_⟩
      cases hasF with
      | true => cases h
      | false => rfl
    · rw [if_neg c1] at h
      by_cases c2 : c = 196 ∨ c = 219 ∨ c = 221
      · omega
      · rw [if_neg c2] at h
        by_cases c3 : c = 218
        · rw [if_pos c3] at h
          exact Or.inr (Or.inr (Or.inr (Or.inr (Or.inl ⟨c3, h⟩))))
        · rw [if_neg c3] at h
          by_cases c4 : c = 217
          · omega
          · rw [if_neg c4] at h
            have := of_decide_eq_true h
            omega
/-- a picture that both sides have -/
def QR (B : Nat → Nat) (sz : Nat) (t u : St) : Prop := ∃ F hh ww iv ns nc qm wm sg sr, PO B F hh ww iv ns nc qm wm sg sr t ∧ PM B sz F hh ww iv ns nc qm wm sg sr u ∧ ns ≤ 1024 ∧ nc ≤ ns ∧ iv < 65536 ∧ hh ≤ 64 ∧ bdd qm ∧ bdd wm
/-- what comes of one turn -/
def TN (n f : Nat) (B : Nat → Nat) (sz p : Nat) (ln : Bool) (t u : St) : Prop :=
  (∃ z w e x, m_Parser_readNext n t = some z ∧ Fz z e ∧ Cb t z ∧ m_Model_readFile_56 n (f + 1) (bI ln) 1 u = m_Model_readFile_56 n f x 1 w ∧ Gz w e) ∨
  (∃ z w q, m_Parser_readNext n t = some z ∧ m_Model_readFile_56 n (f + 1) (bI ln) 1 u = m_Model_readFile_56 n f 0 0 w ∧ InO B sz z ∧ InM B sz w ∧ z.1 13 = 0 ∧ z.1 14 = mI ∧ w.1 2 = 0 ∧ w.1 3 = mI ∧ z.1 6 = nI q ∧ w.1 7 = nI q ∧ q ≤ sz ∧ QR B sz z w ∧ z.2.2.2 0 = t.2.2.2 0) ∨
  (∃ z w p' ln', m_Parser_readNext n t = some z ∧ m_Model_readFile_56 n (f + 1) (bI ln) 1 u = m_Model_readFile_56 n f (bI ln') 1 w ∧ RB B sz p' ln' z w ∧ p + 4 ≤ p' ∧ z.2.2.2 0 = t.2.2.2 0) ∨
  ∃ z w q x ln' F hh ww iv ns nc qm wm sg sr lt, m_Parser_readNext n t = some z ∧ RO B sz F hh ww iv ns nc qm wm sg sr lt q ln' z ∧ m_Model_readFile_56 n (f + 1) (bI ln) 1 u = m_Model_readFile_56 n f x 1 w ∧ Gz w (4, q + 1) ∧ q + 2 ≤ sz ∧ B q = 255 ∧ 208 ≤ B (q + 1) ∧ B (q + 1) ≤ 215 ∧ p + 4 ≤ q ∧ z.2.2.2 0 = t.2.2.2 0
theorem RO.mark {n : Nat} {B : Nat → Nat} {sz : Nat} {F : Option (Nat × Nat × Nat)} {hh ww iv ns nc : Nat} {qm wm : Nat → Option Nat} {sg : Nat → Nat × Nat} {sr : Nat → Nat → Nat} {lt : Nat → Option Nat} {p : Nat} {ln : Bool} {t : St} (hn : 20000 ≤ n) (h : RO B sz F hh ww iv ns nc qm wm sg sr lt p ln t) (hp : p ≤ sz) : Ev FP (m_Parser_takeMarker n t) (mrk B sz ln F.isSome (allB lt (Fcnt F) 0) p) (fun x z => z = (nI x.1, sG t 9 (nI x.2))) := by
  obtain ⟨r1, r2, r3, r4, r5, r6, r7, r8, -⟩ := h
  exact O_takeMarker hn r1 r2 r4 hp (fun c q h1 h2 => O_canStand (t := sG t 9 q) hn r5 (r8.eq rfl rfl rfl) r7 h1 h2)
theorem turn {n f : Nat} {B : Nat → Nat} {sz : Nat} {F : Option (Nat × Nat × Nat)} {hh ww iv ns nc : Nat} {qm wm : Nat → Option Nat} {sg : Nat → Nat × Nat} {sr : Nat → Nat → Nat} {lt : Nat → Option Nat} {p : Nat} {ln : Bool} {t u : St} (hn : 20000 ≤ n) (ht : RO B sz F hh ww iv ns nc qm wm sg sr lt p ln t) (hu : RM B sz F hh ww iv ns nc qm wm sg sr lt p u) (hs : SI sz F hh iv ns nc qm wm lt p) : TN n f B sz p ln t u := by
  have hm := ht.mark hn hs.1
  have hs0 := hs
  obtain ⟨s1, s2, s3, s4, s5, s6, s7, s8⟩ := hs
  have ht0 := ht
  obtain ⟨r1, r2, r3, r4, r5, r6, r7, o6, o7, o8, o9, o10, o11, o12, o13, o14⟩ := ht
  have hu0 := hu
  obtain ⟨v1, v2, v3, v4, v5, v6, v7, m6, m7, m8, m9, m10, m11, m12, m13⟩ := hu
  obtain ⟨T1, T2⟩ := R_turn0 (n := n) (f := f) (ln := ln) (F := F) (lt := lt) hn v1 v2 v4 v5 s1 m6 v7
  have hsz := r1.2.1
  have hcb : ∀ z : St, z.2.2.2 = t.2.2.2 → Cb t z := by
    intro z q
    unfold Cb
    rw [q]
    exact ⟨rfl, o14.2.1, o14.2.2.1, o14.2.2.2.2.1, o14.2.2.2.2.2⟩
  cases hk : mrk B sz ln F.isSome (allB lt (Fcnt F) 0) p with
  | error e =>
    rw [hk] at hm
    obtain ⟨z, z1, z2, z3⟩ := hm
    obtain ⟨w, w1, w2⟩ := T1 e hk
    refine Or.inl ⟨z.2, w, e, 0, ?_, z3, hcb _ (q_Parser_takeMarker z1), w1, w2⟩
    unfold m_Parser_readNext
    rw [z1, Option.bind_some, if_pos (show z.1 = -1 from z2)]
  | ok x =>
    rw [hk] at hm
    obtain ⟨z, z1, z2⟩ := hm
    subst z2
    obtain ⟨k1, k2, k3, k4, k5, k6⟩ := mrk_ok hk
    have hT := T2 x hk
    have hb : B (x.2 - 1) < 256 := (r1.2.2.2.2 (x.2 - 1) (by omega)).2
    obtain ⟨c, lp⟩ := x
    dsimp only at k1 k2 k3 k4 k5 k6 hT hb z1
    have hc : c < 256 := by omega
    have hne : ∀ k, k < 256 → c ≠ k → ¬ nI c = nI k := fun k h1 h2 => nI_ne (by omega) (by omega) h2
    have eN : m_Parser_readNext n t = if nI c = 217 then some (sG (sG t 9 (nI lp)) 6 (nI lp)) else (m_Parser_takeLength n (sG t 9 (nI lp))).bind (fun z36 => (m_Picture_addSegment n (t.1 9) (z36.1 9) z36).bind (fun z48 => (m_Parser_readContents n (nI c) z48).bind (fun z53 => if nI c = (218 : Int32) then (m_Parser_readData n z53).bind (fun z64 => some z64) else some z53))) := by
      unfold m_Parser_readNext
      rw [z1, Option.bind_some, if_neg (show ¬ nI c = -1 from fun y => (mI_eq (a := c) (by omega)).mp y.symm)]
      rfl
    by_cases c217 : c = 217
    · rw [if_pos (show nI c = 217 by rw [c217]; rfl)] at eN
      refine Or.inr (Or.inl ⟨_, sG (sG (sG u 6 (nI p)) 4 (nI lp)) 7 (nI lp), lp, eN, ?_, r1, v1, r2, r3, v2, v3, rfl, rfl, k5, ⟨F, hh, ww, iv, ns, nc, qm, wm, sg, sr, ?_, ?_, by omega, s3, s4, s5, s6, s7⟩, rfl⟩)
      · rw [hT]
        unfold m_Model_readFile_231
        rw [if_pos (show (sG (sG u 6 (nI p)) 4 (nI lp)).1 2 = 0 from v2), if_pos (show nI c = 217 by rw [c217]; rfl)]
        rfl
      · exact ⟨o6.eq rfl rfl rfl, o7, o8, o9, o10, o11, o12, o13, o14⟩
      · exact ⟨m6.eq rfl rfl rfl rfl rfl rfl, m7, m8, m9, m10, m11, m12, m13⟩
    · rw [if_neg (show ¬ nI c = 217 from hne 217 (by omega) c217)] at eN
      have eM : m_Model_readFile_56 n (f + 1) (bI ln) 1 u = (m_Model_segment1 n (nI c) (sG (sG u 6 (nI p)) 4 (nI lp))).bind (fun z => m_Model_readFile_56 n f z.1 1 z.2) := by
        rw [hT]
        unfold m_Model_readFile_231 m_Model_readFile_259
        rw [if_pos (show (sG (sG u 6 (nI p)) 4 (nI lp)).1 2 = 0 from v2), if_neg (show ¬ nI c = 217 from hne 217 (by omega) c217)]
        rw [if_pos (show (sG (sG u 6 (nI p)) 4 (nI lp)).1 2 = 0 from v2)]
        rfl
      have A := O_len (n := n) (B := B) (sz := sz) (q := lp) (t := sG t 9 (nI lp)) r1 r2 rfl (by omega)
      have M := R_open (n := n) (B := B) (sz := sz) (q := lp) (u := sG (sG u 6 (nI p)) 4 (nI lp)) v1 v2 rfl v5 k5
      rw [seg_C] at eM
      cases hl : lg B sz lp with
      | error e =>
        rw [hl] at A M
        obtain ⟨y, y1, y2⟩ := A
        obtain ⟨w, w1, w2⟩ := M
        dsimp only at y2 w2
        have xy := x_Parser_takeLength y1
        have qy := q_Parser_takeLength y1
        obtain ⟨y', a1, a2, a3, a4, a5, a6, a7, a8, a9, a10⟩ := O_addSeg (n := n) (k := 2 * ns) (x := t.1 9) (y := y.1 9) (t := y) ((xy.1 7 (by decide)).trans o12.1) (by omega) (by rw [qy]; exact o14.1) (by rw [qy]; exact o14.2.1) (by rw [qy]; exact o14.2.2.1)
        have xa := x_Picture_addSegment a1
        have hf : Fz y' e := ⟨(xa.1 13 (by decide)).trans y2.1, (xa.1 14 (by decide)).trans y2.2.1, y2.2.2⟩
        have h4 : ∃ k, y'.1 4 = nI k ∧ k ≤ 4 := by
          have e4 : y'.1 4 = t.1 4 := (xa.1 4 (by decide)).trans (xy.1 4 (by decide))
          rw [e4]
          cases F with
          | none => exact ⟨0, o6.2, by omega⟩
          | some q => exact ⟨q.2.2, o6.2.1.1, o6.2.1.2.1⟩
        obtain ⟨k, h4, h44⟩ := h4
        obtain ⟨y'', b1, b2⟩ := O_rcF (n := n) (x := nI c) hn hf h4 h44
        have qb := q_Parser_readContents b1
        refine Or.inl ⟨y'', w, e, 0, ?_, b2, ?_, ?_, w2⟩
        · rw [eN, y1, Option.bind_some, a1, Option.bind_some, b1, Option.bind_some, O_dataF hn b2, Option.bind_some]
          exact ite_self _
        · unfold Cb
          rw [qb, a9, a10, qy]
          exact ⟨rfl, a7, a8, o14.2.2.2.2.1, o14.2.2.2.2.2⟩
        · rw [eM, w1, Option.bind_some, if_neg w2.nle, Option.bind_some]
      | ok v =>
        rw [hl] at A M
        obtain ⟨y, y1, yA, yv, yv2, yv3, yq⟩ := A
        obtain ⟨w, w1, wA⟩ := M
        dsimp only at wA
        have xy := x_Parser_takeLength y1
        have qy := q_Parser_takeLength y1
        have gy := g_Parser_takeLength y1
        have xw := x_Model_open w1
        have gw := g_Model_open w1
        obtain ⟨y', a1, a2, a3, a4, a5, a6, a7, a8, a9, a10⟩ := O_addSeg (n := n) (k := 2 * ns) (x := t.1 9) (y := y.1 9) (t := y) ((xy.1 7 (by decide)).trans o12.1) (by omega) (by rw [qy]; exact o14.1) (by rw [qy]; exact o14.2.1) (by rw [qy]; exact o14.2.2.1)
        have xa := x_Picture_addSegment a1
        have hMO : MO B sz F hh ww iv (ns + 1) nc qm wm (va_up sg ns (p, lp + 2)) sr lt ln lp (lp + v) (lp + 2) y' := by
          obtain ⟨A1, A2, A3, A4, A5, A6, A7⟩ := yA
          refine ⟨⟨?_, (xa.1 13 (by decide)).trans A2, (xa.1 9 (by decide)).trans A3, (xa.1 11 (by decide)).trans A4, (xa.1 10 (by decide)).trans A5, A6, A7⟩, (xa.1 14 (by decide)).trans ((gy A2).2.trans r3), (xa.1 12 (by decide)).trans ((xy.1 12 (by decide)).trans r5), (xa.1 6 (by decide)).trans ((xy.1 6 (by decide)).trans r6), ?_, ?_, (xa.1 2 (by decide)).trans ((xy.1 2 (by decide)).trans o7), (xa.1 3 (by decide)).trans ((xy.1 3 (by decide)).trans o8), (xa.1 5 (by decide)).trans ((xy.1 5 (by decide)).trans o9), ?_, ?_, ⟨?_, fun i hi => ?_⟩, ?_, ?_⟩
          · unfold InO
            rw [xa.1 0 (by decide), xa.2.1 0 (by decide), a9]; exact A1
          · rw [xa.2.1 7 (by decide), xy.2.1 7 (by decide)]; exact r7
          · exact o6.eq ((xa.1 1 (by decide)).trans (xy.1 1 (by decide))) ((xa.1 4 (by decide)).trans (xy.1 4 (by decide))) ((xa.2.1 3 (by decide)).trans (xy.2.1 3 (by decide)))
          · rw [xa.2.1 4 (by decide), xy.2.1 4 (by decide)]; exact o10
          · rw [xa.2.1 5 (by decide), xy.2.1 5 (by decide)]; exact o11
          · rw [a2, show 2 * ns + 2 = 2 * (ns + 1) by omega]
          · by_cases q : i = ns
            · rw [q, show va_up sg ns (p, lp + 2) ns = (p, lp + 2) from if_pos rfl]
              exact ⟨a4.trans r4, a5.trans A3⟩
            · rw [show va_up sg ns (p, lp + 2) i = sg i from if_neg q, a3 _ (by omega), a3 _ (by omega), xy.2.1 1 (by decide)]
              exact o12.2 i (by omega)
          · exact o13.eq ((xa.1 8 (by decide)).trans (xy.1 8 (by decide))) ((xa.2.1 2 (by decide)).trans (xy.2.1 2 (by decide)))
          · unfold CpO
            rw [a10, qy]
            exact ⟨by omega, a7, a8, o14.2.2.2.1, o14.2.2.2.2.1, o14.2.2.2.2.2⟩
        have hMM : MM B sz F hh ww iv ns nc qm wm sg sr lt lp (lp + v) (lp + 2) p w := by
          refine ⟨wA, (gw wA.2.1).2.trans v3, xw.1 6 (by decide), (xw.1 7 (by decide)).trans v6, ?_, ?_, (xw.1 10 (by decide)).trans m7, (xw.1 11 (by decide)).trans m8, (xw.1 13 (by decide)).trans m9, ?_, ?_, m12.eq (xw.1 8 (by decide)) (xw.2.1 1 (by decide)), m13.eq (xw.1 14 (by decide)) (xw.2.1 12 (by decide))⟩
          · rw [xw.2.1 13 (by decide)]; exact v7
          · exact m6.eq (xw.1 9 (by decide)) (xw.1 12 (by decide)) (xw.2.1 2 (by decide)) (xw.2.1 3 (by decide)) (xw.2.1 4 (by decide)) (xw.2.1 5 (by decide))
          · rw [xw.2.1 6 (by decide), xw.2.1 7 (by decide)]; exact m10
          · rw [xw.2.1 8 (by decide), xw.2.1 9 (by decide), xw.2.1 10 (by decide), xw.2.1 11 (by decide)]; exact m11
        have hBs : Bs B sz p lp (lp + v) c := ⟨k2, k4, by omega, by omega, by omega, yq, hsz⟩
        have eM2 : m_Model_readFile_56 n (f + 1) (bI ln) 1 u = (segC n (nI c) w).bind (fun z => m_Model_readFile_56 n f z.1 1 z.2) := by
          rw [eM, w1, Option.bind_some, if_pos (show w.1 2 ≤ 0 by rw [wA.2.1]; decide)]
        have eN2 : m_Parser_readNext n t = (m_Parser_readContents n (nI c) y').bind (fun z53 => if nI c = (218 : Int32) then (m_Parser_readData n z53).bind (fun z64 => some z64) else some z53) := by
          rw [eN, y1, Option.bind_some, a1, Option.bind_some]
        have hcb2 : ∀ z : St, Cb y' z → Cb t z := by
          intro z q
          obtain ⟨q1, q2⟩ := q
          exact ⟨q1.trans (a9.trans (by rw [qy]; rfl)), q2⟩
        have hCO : c ≠ 218 → CO n B sz (lp + v) c y' w → TN n f B sz p ln t u := by
          intro h218 hco
          rcases hco with ⟨z, w', e, h1, h2, h3, h4⟩ | ⟨z, w', h1, h2, h3⟩
          · refine Or.inl ⟨z, w', e, 0, ?_, h2, ?_, ?_, h4⟩
            · rw [eN2, h1, Option.bind_some, if_neg (show ¬ nI c = 218 from hne 218 (by omega) h218)]
            · refine hcb2 z ?_
              have q := q_Parser_readContents h1
              unfold Cb
              rw [q, a10, qy]
              exact ⟨rfl, a7, a8, o14.2.2.2.2.1, o14.2.2.2.2.2⟩
            · rw [eM2, h3, Option.bind_some]
          · refine Or.inr (Or.inr (Or.inl ⟨z, w', lp + v, false, ?_, ?_, h3, by omega, ?_⟩))
            · rw [eN2, h1, Option.bind_some, if_neg (show ¬ nI c = 218 from hne 218 (by omega) h218)]
            · rw [eM2, h2, Option.bind_some]; rfl
            · rw [q_Parser_readContents h1, a9, qy]; rfl
        rcases cst_cases k1 with ⟨hln, c220⟩ | ⟨hln, hcs⟩
        · exact hCO (by omega) (CO_220 hn hMO hMM hBs hs0 c220)
        · subst hln
          rcases hcs with ⟨hcc, hF⟩ | hcc | hcc | hcc | ⟨hcc, hF⟩ | hcc | hcc
          · have hF' : F = none := by
              cases F with
              | none => rfl
              | some q => cases hF
            exact hCO (by omega) (CO_frame hn hMO hMM hBs hs0 hF' hcc)
          · exact hCO (by omega) (CO_196 hn hMO hMM hBs hs0 hcc)
          · exact hCO (by omega) (CO_219 hn hMO hMM hBs hs0 hcc)
          · exact hCO (by omega) (CO_221 hn hMO hMM hBs hs0 hcc)
          · have hcs := CS_all hn hMO hMM hBs hs0 hF hcc
            subst hcc
            have hc0 : y'.2.2.2 0 = t.2.2.2 0 := a9.trans (by rw [qy]; rfl)
            have eN3 : m_Parser_readNext n t = scanO n y' := by
              rw [eN2]
              exact congrArg (fun g => (m_Parser_readContents n (nI 218) y').bind g) (funext (fun z53 => if_pos rfl))
            rcases hcs with ⟨z, w', e, x, h1, h2, h3, h4, h5⟩ | ⟨z, w', p', ln', h1, h2, h3, h4, h5⟩ | ⟨z, w', q, x, ln', F', hh', ww', iv', ns', nc', qm', wm', sg', sr', lt', h1, h2, h3, h4, h5, h6, h7, h8, h9, h10⟩
            · refine Or.inl ⟨z, w', e, x, eN3.trans h1, h2, hcb2 z h3, ?_, h5⟩
              rw [eM2, h4, Option.bind_some]
            · refine Or.inr (Or.inr (Or.inl ⟨z, w', p', ln', eN3.trans h1, ?_, h3, by omega, h5.trans hc0⟩))
              rw [eM2, h2, Option.bind_some]
            · refine Or.inr (Or.inr (Or.inr ⟨z, w', q, x, ln', F', hh', ww', iv', ns', nc', qm', wm', sg', sr', lt', eN3.trans h1, h2, ?_, h4, h5, h6, h7, h8, by omega, h10.trans hc0⟩))
              rw [eM2, h3, Option.bind_some]
          · exact absurd hcc c217
          · exact hCO (by omega) (CO_free hn hMO hMM hBs hs0 ⟨hcc.1, hc⟩)
