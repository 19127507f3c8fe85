/-- the class's rows of segments, of scans, and their room -/
def SgO (ns : Nat) (sg : Nat → Nat × Nat) (t : St) : Prop := t.1 7 = nI (2 * ns) ∧ ∀ i, i < ns → t.2.1 1 (2 * i) = nI (sg i).1 ∧ t.2.1 1 (2 * i + 1) = nI (sg i).2
def SnO (nc : Nat) (sr : Nat → Nat → Nat) (t : St) : Prop := t.1 8 = nI (5 * nc) ∧ ∀ i, i < nc → ∀ k, k < 5 → t.2.1 2 (5 * i + k) = nI (sr i k)
def CpO (ns nc : Nat) (t : St) : Prop := 2 * ns ≤ t.2.2.2 1 ∧ 16 ≤ t.2.2.2 1 ∧ t.2.2.2 1 ≤ 16384 ∧ 5 * nc ≤ t.2.2.2 2 ∧ 16 ≤ t.2.2.2 2 ∧ t.2.2.2 2 ≤ 16384
/-- the picture, in the class -/
def PO (B : Nat → Nat) (F : Option (Nat × Nat × Nat)) (hh ww iv ns nc : Nat) (qm wm : Nat → Option Nat) (sg : Nat → Nat × Nat) (sr : Nat → Nat → Nat) (t : St) : Prop := FO1 B F t ∧ t.1 2 = nI ww ∧ t.1 3 = nI hh ∧ t.1 5 = nI iv ∧ PQ (t.2.1 4) qm ∧ PW (t.2.1 5) wm ∧ SgO ns sg t ∧ SnO nc sr t ∧ CpO ns nc t
/-- a segment's row, a scan's row, in the reference -/
def SgR (B : Nat → Nat) (sz : Nat) (g : Nat × Nat) (f : Nat → Int32) (b : Nat) : Prop := f b = nI (B (g.2 - 3)) ∧ f (b + 1) = nI g.1 ∧ f (b + 2) = nI g.2 ∧ f (b + 3) = nI (256 * B (g.2 - 2) + B (g.2 - 1) - 2) ∧ 4 ≤ g.2 ∧ g.2 ≤ sz ∧ g.1 ≤ sz ∧ 2 ≤ 256 * B (g.2 - 2) + B (g.2 - 1)
def SrR (B : Nat → Nat) (sz : Nat) (F : Option (Nat × Nat × Nat)) (s : Nat → Nat) (g : Nat → Int32) (b : Nat) : Prop := match F with
  | none => False
  | some x => ∃ cf, RowF g b (B (s 0)) (B (s 0 + 1 + 2 * B (s 0))) (B (s 0 + 2 + 2 * B (s 0))) (B (s 0 + 3 + 2 * B (s 0)) / 16) (B (s 0 + 3 + 2 * B (s 0)) % 16) (s 1) (s 2) (s 3) (s 4) cf (fun j => B (s 0 + 2 + 2 * j) / 16) (fun j => B (s 0 + 2 + 2 * j) % 16) ∧ (∀ j, j < B (s 0) → fn (nmB B x.2.1) (B (s 0 + 1 + 2 * j)) x.2.2 0 = some (cf j)) ∧ 1 ≤ B (s 0) ∧ B (s 0) ≤ 4 ∧ s 0 + 4 + 2 * B (s 0) ≤ sz ∧ s 1 + s 2 + 2 ≤ sz ∧ s 3 ≤ sz ∧ s 4 < 65536
def SgM (B : Nat → Nat) (sz ns : Nat) (sg : Nat → Nat × Nat) (u : St) : Prop := u.1 8 = nI ns ∧ ∀ i, i < ns → SgR B sz (sg i) (u.2.1 1) (4 * i)
def SnM (B : Nat → Nat) (sz : Nat) (F : Option (Nat × Nat × Nat)) (nc : Nat) (sr : Nat → Nat → Nat) (u : St) : Prop := u.1 14 = nI nc ∧ ∀ i, i < nc → SrR B sz F (sr i) (u.2.1 12) (30 * i)
/-- the picture, in the reference -/
def PM (B : Nat → Nat) (sz : Nat) (F : Option (Nat × Nat × Nat)) (hh ww iv ns nc : Nat) (qm wm : Nat → Option Nat) (sg : Nat → Nat × Nat) (sr : Nat → Nat → Nat) (u : St) : Prop := FM1 B F u ∧ u.1 10 = nI ww ∧ u.1 11 = nI hh ∧ u.1 13 = nI iv ∧ PMQ B sz (u.2.1 6) (u.2.1 7) qm ∧ PMW B sz (u.2.1 8) (u.2.1 9) (u.2.1 10) (u.2.1 11) wm ∧ SgM B sz ns sg u ∧ SnM B sz F nc sr u
def HsI (F : Option (Nat × Nat × Nat)) (lt : Nat → Option Nat) : Prop := (∃ x, F = some x ∧ x.1 = 194) ∨ hsS lt
/-- what no number of either side says -/
def SI (sz : Nat) (F : Option (Nat × Nat × Nat)) (hh iv ns nc : Nat) (qm wm lt : Nat → Option Nat) (p : Nat) : Prop := p ≤ sz ∧ 4 * ns ≤ p ∧ nc ≤ ns ∧ iv < 65536 ∧ hh ≤ 64 ∧ bdd qm ∧ bdd wm ∧ HsI F lt
/-- the class before a segment, the reference before a segment -/
def RO (B : Nat → Nat) (sz : Nat) (F : Option (Nat × Nat × Nat)) (hh ww iv ns nc : Nat) (qm wm : Nat → Option Nat) (sg : Nat → Nat × Nat) (sr : Nat → Nat → Nat) (lt : Nat → Option Nat) (p : Nat) (ln : Bool) (t : St) : Prop := InO B sz t ∧ t.1 13 = 0 ∧ t.1 14 = mI ∧ t.1 9 = nI p ∧ t.1 12 = bI ln ∧ t.1 6 = mI ∧ PL (t.2.1 7) lt ∧ PO B F hh ww iv ns nc qm wm sg sr t
def RM (B : Nat → Nat) (sz : Nat) (F : Option (Nat × Nat × Nat)) (hh ww iv ns nc : Nat) (qm wm : Nat → Option Nat) (sg : Nat → Nat × Nat) (sr : Nat → Nat → Nat) (lt : Nat → Option Nat) (p : Nat) (u : St) : Prop := InM B sz u ∧ u.1 2 = 0 ∧ u.1 3 = mI ∧ u.1 4 = nI p ∧ u.1 5 = mI ∧ u.1 7 = mI ∧ PL (u.2.1 13) lt ∧ PM B sz F hh ww iv ns nc qm wm sg sr u
/-- both before a segment, at p -/
def RB (B : Nat → Nat) (sz p : Nat) (ln : Bool) (t u : St) : Prop := ∃ F hh ww iv ns nc qm wm sg sr lt, RO B sz F hh ww iv ns nc qm wm sg sr lt p ln t ∧ RM B sz F hh ww iv ns nc qm wm sg sr lt p u ∧ SI sz F hh iv ns nc qm wm lt p
theorem FO1.eq {B : Nat → Nat} {F : Option (Nat × Nat × Nat)} {t z : St} (h : FO1 B F t) (h1 : z.1 1 = t.1 1) (h4 : z.1 4 = t.1 4) (h3 : z.2.1 3 = t.2.1 3) : FO1 B F z := by
  unfold FO1 FrO at h ⊢
  rw [h1, h4, h3]
  exact h
theorem FM1.eq {B : Nat → Nat} {F : Option (Nat × Nat × Nat)} {u w : St} (h : FM1 B F u) (h9 : w.1 9 = u.1 9) (h12 : w.1 12 = u.1 12) (a2 : w.2.1 2 = u.2.1 2) (a3 : w.2.1 3 = u.2.1 3) (a4 : w.2.1 4 = u.2.1 4) (a5 : w.2.1 5 = u.2.1 5) : FM1 B F w := by
  unfold FM1 FrM at h ⊢
  rw [h9, h12, a2, a3, a4, a5]
  exact h
theorem SgO.eq {ns : Nat} {sg : Nat → Nat × Nat} {t z : St} (h : SgO ns sg t) (h7 : z.1 7 = t.1 7) (a1 : z.2.1 1 = t.2.1 1) : SgO ns sg z := by
  unfold SgO at h ⊢
  rw [h7, a1]
  exact h
theorem SnO.eq {nc : Nat} {sr : Nat → Nat → Nat} {t z : St} (h : SnO nc sr t) (h8 : z.1 8 = t.1 8) (a2 : z.2.1 2 = t.2.1 2) : SnO nc sr z := by
  unfold SnO at h ⊢
  rw [h8, a2]
  exact h
theorem CpO.eq {ns nc : Nat} {t z : St} (h : CpO ns nc t) (e : z.2.2.2 = t.2.2.2) : CpO ns nc z := by
  unfold CpO at h ⊢
  rw [e]
  exact h
theorem SgM.eq {B : Nat → Nat} {sz ns : Nat} {sg : Nat → Nat × Nat} {u w : St} (h : SgM B sz ns sg u) (h8 : w.1 8 = u.1 8) (a1 : w.2.1 1 = u.2.1 1) : SgM B sz ns sg w := by
  unfold SgM at h ⊢
  rw [h8, a1]
  exact h
theorem SnM.eq {B : Nat → Nat} {sz nc : Nat} {F : Option (Nat × Nat × Nat)} {sr : Nat → Nat → Nat} {u w : St} (h : SnM B sz F nc sr u) (h14 : w.1 14 = u.1 14) (a12 : w.2.1 12 = u.2.1 12) : SnM B sz F nc sr w := by
  unfold SnM at h ⊢
  rw [h14, a12]
  exact h
theorem SgR.eq {B : Nat → Nat} {sz b : Nat} {g : Nat × Nat} {f f' : Nat → Int32} (h : SgR B sz g f b) (e : ∀ j, j < 4 → f' (b + j) = f (b + j)) : SgR B sz g f' b := by
  obtain ⟨h1, h2, h3, h4, h5⟩ := h
  exact ⟨(e 0 (by omega)).trans h1, (e 1 (by omega)).trans h2, (e 2 (by omega)).trans h3, (e 3 (by omega)).trans h4, h5⟩
theorem SgM.add {B : Nat → Nat} {sz ns lp ce p c : Nat} {sg : Nat → Nat × Nat} {u w : St} (h : SgM B sz ns sg u) (hw : SegW (nI c) ns lp ce u w) (h6 : u.1 6 = nI p) (hc : c = B (lp - 1)) (hlp : 2 ≤ lp) (hps : p ≤ lp) (hv : ce = lp + (256 * B lp + B (lp + 1))) (h2 : 2 ≤ 256 * B lp + B (lp + 1)) (hsz : lp + 2 ≤ sz) : SgM B sz (ns + 1) (va_up sg ns (p, lp + 2)) w := by
  obtain ⟨w5, w8, w1, wa, wb, wc, wd, wx⟩ := hw
  refine ⟨w8, fun i hi => ?_⟩
  by_cases c1 : i = ns
  · rw [c1, show va_up sg ns (p, lp + 2) ns = (p, lp + 2) from if_pos rfl]
    refine ⟨wa.trans ?_, wb.trans h6, wc, wd.trans ?_, by dsimp only; omega, by dsimp only; omega, by dsimp only; omega, by dsimp only; rw [show lp + 2 - 2 = lp by omega, show lp + 2 - 1 = lp + 1 by omega]; omega⟩
    · dsimp only
      rw [show lp + 2 - 3 = lp - 1 by omega, hc]
    · dsimp only
      rw [show lp + 2 - 2 = lp by omega, show lp + 2 - 1 = lp + 1 by omega, hv, show lp + (256 * B lp + B (lp + 1)) - lp - 2 = 256 * B lp + B (lp + 1) - 2 by omega]
  · rw [show va_up sg ns (p, lp + 2) i = sg i from if_neg c1]
    exact (h.2 i (by omega)).eq (fun j hj => w1 _ (by omega))
/-- contents that were not right: both sides -/
theorem fin_F {n : Nat} {x : Int32} {z w : St} {e : Er} (hz : Fz z e) (hw : Gz w e) : ∃ z' w', m_Parser_readContents_140 n z = some z' ∧ Fz z' e ∧ m_Model_segment1_161 n x w = some (0, w') ∧ Gz w' e := by
  obtain ⟨z', a, b⟩ := O_140F (n := n) hz
  have hg : Gz (sG w 5 mI) e := hw
  refine ⟨z', sG w 5 mI, a, b, ?_, hg⟩
  unfold m_Model_segment1_161
  rw [R_closeF hw, Option.bind_some, if_neg (show ¬ (sG w 5 mI).1 2 = 0 from hg.ne)]
  exact ite_self _
/-- contents that were right: both sides, but for a scan -/
theorem fin_T {n ns : Nat} {B : Nat → Nat} {sz ce lp p : Nat} {x : Int32} {z w : St} (hx : x ≠ 218) (hz : At B sz ce lp p z) (hw : AtM B sz ce lp p w) (h8 : w.1 8 = nI ns) (hns : ns < 4000) (hl : lp + 2 ≤ ce) : (∃ z' w' e, m_Parser_readContents_140 n z = some z' ∧ Fz z' e ∧ m_Model_segment1_161 n x w = some (0, w') ∧ Gz w' e) ∨ (p = ce ∧ m_Parser_readContents_140 n z = some z ∧ ∃ w', m_Model_segment1_161 n x w = some (0, w') ∧ SegW x ns lp ce w w') := by
  have a := O_140 (n := n) hz
  have b := R_close (n := n) (x1 := x) hw h8 hns hl
  by_cases c : p = ce
  · rw [if_pos c] at a b
    obtain ⟨z', a1, a2⟩ := a
    obtain ⟨w', b1, b2⟩ := b
    dsimp only at a2 b2
    subst a2
    refine Or.inr ⟨c, a1, w', ?_, b2⟩
    unfold m_Model_segment1_161
    rw [b1, Option.bind_some, if_neg hx]
  · rw [if_neg c] at a b
    obtain ⟨z', a1, a2⟩ := a
    obtain ⟨w', b1, b2⟩ := b
    dsimp only at a2 b2
    refine Or.inl ⟨z', w', _, a1, a2, ?_, b2⟩
    unfold m_Model_segment1_161
    rw [b1, Option.bind_some, if_neg hx]
