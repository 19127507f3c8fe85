theorem Ev.map2 {α X : Type} {F : X → Er → Prop} {o : Option X} {s1 s2 : Except Er Unit} {r : α} {P : Unit → X → Prop} {Q : α → X → Prop} (h : Ev F o (eb s1 (fun _ => s2)) P) (hq : ∀ z, P () z → Q r z) : Ev F o (eb s1 (fun _ => eb s2 (fun _ => .ok r))) Q := by
  cases s1 with
  | error e => exact h
  | ok _ =>
    cases s2 with
    | error e => exact h
    | ok _ =>
      obtain ⟨z, hz, h⟩ := h
      exact ⟨z, hz, hq z h⟩
/-- what a scan leaves in the reference -/
def ScW (B : Nat → Nat) (sz ce lp p cnt : Nat) (r : Nat × (Nat → Nat) × Nat × Nat × Nat) (w : St) : Prop := AtM B sz ce lp (p + 4 + 2 * r.1) w ∧ ScM B p r.1 r.2.2.1 r.2.2.2.1 (r.2.2.2.2 / 16) (r.2.2.2.2 % 16) cnt r.2.1 w ∧ r.2.2.2.2 < 256
theorem R_388 {n : Nat} {B : Nat → Nat} {sz ce lp p p0 cnt c fi la : Nat} {cf : Nat → Nat} {seq : Bool} {qm wm lt : Nat → Option Nat} {x3 : Int32} {u : St} (hn : 20000 ≤ n) (hA : AtM B sz ce lp (p + 3 + 2 * c) u) (hp : p < 50000) (h15 : u.1 15 = nI c) (h17 : u.1 17 = nI fi) (h18 : u.1 18 = nI la) (hP : PS (u.2.1 14) cf cnt c) (hD : PD B p u c) (hc : c ≤ 4) (hF : FrM B p0 cnt u) (hB : FrB B p0 cnt) (hQ : PMQ B sz (u.2.1 6) (u.2.1 7) qm) (hW : PMW B sz (u.2.1 8) (u.2.1 9) (u.2.1 10) (u.2.1 11) wm) (hL : PL (u.2.1 13) lt) (hx : x3 = if seq = true then 0 else 1) (htb : ∀ k, k < c → B (p + 2 + 2 * k) / 16 < 4 ∧ B (p + 2 + 2 * k) % 16 < 4) (hfl : fi ≤ la) (hla : la < 64) (hsf : seq = true → fi = 0 ∧ la = 63) (hss : seq = true → ∀ c, c < 4 → lt (64 * c) = none → ∀ i, i < 64 → lt (64 * c + i) = none) : Ev Gz (m_Model_readScan_388 n x3 1 u) (eb (tbs B sz ce lp (p + 3 + 2 * c) (sHi3 seq)) (fun bb => eb (od seq p (p + 3 + 2 * c) fi la (bb / 16) lt cf c 0) (fun _ => eb (nd B p fi la (bb / 16) (tqB B p0) qm wm cf c 0) (fun _ => .ok (c, cf, fi, la, bb))))) (ScW B sz ce lp p cnt) := by
  have eS : ∀ g : Nat → Except Er (Nat × (Nat → Nat) × Nat × Nat × Nat), eb (tbs B sz ce lp (p + 3 + 2 * c) (sHi3 seq)) g = eb (tk B sz ce lp (p + 3 + 2 * c) 0 255) (fun v => if v < 0 ∨ sHi3 seq < v then .error (6, p + 3 + 2 * c) else eb (if 13 < v % 16 ∨ (v / 16 ≠ 0 ∧ v / 16 ≠ v % 16 + 1) then .error (6, p + 3 + 2 * c) else .ok v) g) := by
    intro g
    unfold tbs
    rw [tk_eb (f := fun bb => if 13 < bb % 16 ∨ (bb / 16 ≠ 0 ∧ bb / 16 ≠ bb % 16 + 1) then (.error (6, p + 3 + 2 * c) : Except Er Nat) else .ok bb) 0 (sHi3 seq) hA.b]
    cases tk B sz ce lp (p + 3 + 2 * c) 0 255 with
    | error e => rfl
    | ok v =>
      show eb (if v < 0 ∨ sHi3 seq < v then .error (6, p + 3 + 2 * c) else _) g = if v < 0 ∨ sHi3 seq < v then _ else _
      by_cases z : v < 0 ∨ sHi3 seq < v
      · rw [if_pos z, if_pos z]; rfl
      · rw [if_neg z, if_neg z]
  rw [eS]
  unfold m_Model_readScan_388
  rw [R_must1, Option.bind_some]
  refine Ev.bind (hA.nxE (n := n)) ?_ ?_
  · intro z e _ ⟨z1, z2⟩
    rw [if_pos z2.pos, z1]
    exact ⟨_, R_469F (u := sG (sG z.2 19 ((0 : Int32) / 16)) 20 ((0 : Int32) - (0 : Int32) / 16 * 16)) hn z2.ne, z2⟩
  · rintro z v - - ⟨rfl, v1, v2, v3, v4⟩
    dsimp only
    rw [rm16 v4, dv16 v4, if_neg (show ¬ 0 < (sG u 4 (nI (p + 3 + 2 * c + 1))).1 2 by show ¬ 0 < u.1 2; rw [hA.2.1]; decide)]
    generalize hT : sG (sG (sG u 4 (nI (p + 3 + 2 * c + 1))) 19 (nI (v / 16))) 20 (nI (v % 16)) = T
    have hA3 : AtM B sz ce lp (p + 3 + 2 * c + 1) T := by rw [← hT]; exact hA.step (q := p + 3 + 2 * c + 1) (by omega) (by omega)
    have e468 : m_Model_readScan_468 n x3 T = some (fM T (6, p + 3 + 2 * c)) := by
      unfold m_Model_readScan_468 m_Model_readScan_469
      rw [R_must0 (p := p + 3 + 2 * c) hA3.2.1 hA3.2.2.1, Option.bind_some]
      obtain ⟨g, rfl⟩ : ∃ g, n = g + 1 := ⟨n - 1, by omega⟩
      exact R_475F (u := fM T (6, p + 3 + 2 * c)) hn (nI_ne0 (n := 6) (by omega) (by omega))
    have hz6 : Gz (fM T (6, p + 3 + 2 * c)) (6, p + 3 + 2 * c) := ⟨rfl, rfl, by simp, by simp⟩
    have e464 : m_Model_readScan_464 n x3 T = m_Model_readScan_475 n n x3 (nI 0) T := by
      unfold m_Model_readScan_464 m_Model_readScan_469
      rw [R_must1, Option.bind_some]; rfl
    -- the good end
    have good : v % 16 ≤ 13 → (v / 16 = 0 ∨ v / 16 = v % 16 + 1) → (seq = true → v = 0) → Ev Gz (m_Model_readScan_464 n x3 T) (eb (od seq p (p + 3 + 2 * c) fi la (v / 16) lt cf c 0) (fun _ => eb (nd B p fi la (v / 16) (tqB B p0) qm wm cf c 0) (fun _ => .ok (c, cf, fi, la, v)))) (ScW B sz ce lp p cnt) := by
      intro g1 g2 g3
      have hS : ScM B p c fi la (v / 16) (v % 16) cnt cf T := by
        refine ⟨?_, ?_, ?_, ?_, ?_, ?_, ?_, hc, hF.2.1, hfl, hla, by omega, by omega, by omega, g2⟩
        · rw [← hT]; exact h15
        · rw [← hT]; exact h17
        · rw [← hT]; exact h18
        · rw [← hT]; rfl
        · rw [← hT]; rfl
        · rw [← hT]; exact hP
        · rw [← hT]; exact hD
      have hT2 : T.2 = u.2 := by rw [← hT]; rfl
      have hF2 : FrM B p0 cnt T := by rw [← hT]; exact hF
      rw [e464]
      have ho := R_od (n := n) (q := p + 3 + 2 * c) (sz := sz) (x2 := x3) (qm := qm) (wm := wm) (lt := lt) hn hS hF2 hB hA3.2.1 hA3.2.2.1 (by rw [hT2]; exact hL) (by rw [hT2]; exact hQ) (by rw [hT2]; exact hW) htb hx (fun s => ⟨(hsf s).1, (hsf s).2, by rw [g3 s]⟩) hss (by omega) c n 0 (by omega) (by omega)
      refine Ev.map2 (r := (c, cf, fi, la, v)) ho (fun w hw => ?_)
      subst hw
      refine ⟨?_, hS, v4⟩
      show AtM B sz ce lp (p + 4 + 2 * c) w
      rw [show p + 4 + 2 * c = p + 3 + 2 * c + 1 by omega]
      exact hA3
    by_cases s : seq = true
    · rw [hx, if_pos s, if_pos rfl]
      rw [hx, if_pos s] at e468 e464 good
      have e3 : sHi3 seq = 0 := by unfold sHi3; rw [if_pos s]
      rw [e3]
      by_cases z : v = 0
      · rw [if_pos (show nI v = 0 by rw [z]; rfl), if_neg (by omega), if_neg (by omega)]
        exact good (by omega) (by omega) (fun _ => z)
      · rw [if_neg (nI_ne0 (by omega) (by omega)), if_pos (by omega), e468]
        exact Ev.er ⟨_, rfl, hz6⟩
    · rw [hx, if_neg s, if_neg (by decide)]
      rw [hx, if_neg s] at e468 e464 good
      have e3 : sHi3 seq = 255 := by unfold sHi3; rw [if_neg s]
      rw [e3, if_neg (show ¬ (v < 0 ∨ 255 < v) by omega), nI_1]
      by_cases d1 : 13 < v % 16
      · rw [if_pos (show (13 : Int32) < nI (v % 16) from nI_lt (a := 13) d1 (by omega)), if_pos (Or.inl d1), e468]
        exact Ev.er ⟨_, rfl, hz6⟩
      · rw [if_neg (show ¬ (13 : Int32) < nI (v % 16) from nI_nlt (a := 13) (by omega) (by omega))]
        by_cases d2 : v / 16 = 0
        · rw [if_pos (show nI (v / 16) = 0 by rw [d2]; rfl), if_neg (by omega)]
          exact good (by omega) (Or.inl d2) (fun q => absurd q s)
        · rw [if_neg (nI_ne0 (by omega) (by omega))]
          by_cases d3 : v / 16 = v % 16 + 1
          · rw [if_pos (show nI (v / 16) = nI (v % 16 + 1) by rw [d3]), if_neg (by omega)]
            exact good (by omega) (Or.inr d3) (fun q => absurd q s)
          · rw [if_neg (show ¬ nI (v / 16) = nI (v % 16 + 1) from fun x => d3 ((nI_eq (by omega) (by omega)).mp x)), if_pos (by omega), e468]
            exact Ev.er ⟨_, rfl, hz6⟩
theorem R_311 {n : Nat} {B : Nat → Nat} {sz ce lp p p0 cnt c fi : Nat} {cf : Nat → Nat} {seq : Bool} {qm wm lt : Nat → Option Nat} {x3 : Int32} {u : St} (hn : 20000 ≤ n) (hA : AtM B sz ce lp (p + 2 + 2 * c) u) (hp : p < 50000) (h15 : u.1 15 = nI c) (h17 : u.1 17 = nI fi) (hP : PS (u.2.1 14) cf cnt c) (hD : PD B p u c) (hc : c ≤ 4) (hF : FrM B p0 cnt u) (hB : FrB B p0 cnt) (hQ : PMQ B sz (u.2.1 6) (u.2.1 7) qm) (hW : PMW B sz (u.2.1 8) (u.2.1 9) (u.2.1 10) (u.2.1 11) wm) (hL : PL (u.2.1 13) lt) (hx : x3 = if seq = true then 0 else 1) (htb : ∀ k, k < c → B (p + 2 + 2 * k) / 16 < 4 ∧ B (p + 2 + 2 * k) % 16 < 4) (hfi : fi ≤ 63) (hsf : seq = true → fi = 0) (hss : seq = true → ∀ c, c < 4 → lt (64 * c) = none → ∀ i, i < 64 → lt (64 * c + i) = none) : Ev Gz (m_Model_readScan_311 n x3 1 u) (scb B sz ce lp p p0 seq qm wm lt c cf fi) (ScW B sz ce lp p cnt) := by
  unfold m_Model_readScan_311 scb
  rw [R_must1, Option.bind_some, tk_eb _ _ hA.b]
  refine Ev.bind (hA.nxE (n := n)) ?_ ?_
  · intro z e _ ⟨z1, z2⟩
    rw [if_pos z2.pos]
    exact R_388F (u := sG z.2 18 z.1) hn z2
  · rintro z la - - ⟨rfl, v1, v2, v3, v4⟩
    dsimp only
    rw [if_neg (show ¬ 0 < (sG u 4 (nI (p + 2 + 2 * c + 1))).1 2 by show ¬ 0 < u.1 2; rw [hA.2.1]; decide), show (sG u 4 (nI (p + 2 + 2 * c + 1))).1 17 = nI fi from h17]
    generalize hT : sG (sG u 4 (nI (p + 2 + 2 * c + 1))) 18 (nI la) = T
    have hA3 : AtM B sz ce lp (p + 2 + 2 * c + 1) T := by rw [← hT]; exact hA.step (q := p + 2 + 2 * c + 1) (by omega) (by omega)
    have hz6 : Gz (fM T (6, p + 2 + 2 * c)) (6, p + 2 + 2 * c) := ⟨rfl, rfl, by simp, by simp⟩
    have e387 : ∃ w, m_Model_readScan_387 n x3 T = some w ∧ Gz w (6, p + 2 + 2 * c) := by
      obtain ⟨w, hw⟩ := R_388F (n := n) (x3 := x3) (y := 1) hn hz6
      refine ⟨w, ?_, hw.2⟩
      rw [← hw.1]
      unfold m_Model_readScan_387 m_Model_readScan_388
      rw [R_must0 (p := p + 2 + 2 * c) hA3.2.1 hA3.2.2.1, R_must1]
    have good : fi ≤ la → la < 64 → (seq = true → la = 63) → Ev Gz (m_Model_readScan_383 n x3 T) (eb (tbs B sz ce lp (p + 3 + 2 * c) (sHi3 seq)) (fun bb => eb (od seq p (p + 3 + 2 * c) fi la (bb / 16) lt cf c 0) (fun _ => eb (nd B p fi la (bb / 16) (tqB B p0) qm wm cf c 0) (fun _ => .ok (c, cf, fi, la, bb))))) (ScW B sz ce lp p cnt) := by
      intro g1 g2 g3
      have hA4 : AtM B sz ce lp (p + 3 + 2 * c) T := by rw [show p + 3 + 2 * c = p + 2 + 2 * c + 1 by omega]; exact hA3
      have hT2 : T.2 = u.2 := by rw [← hT]; rfl
      refine R_388 (u := T) hn hA4 hp ?_ ?_ ?_ (by rw [hT2]; exact hP) (by unfold PD; rw [hT2]; exact hD) hc ?_ hB (by rw [hT2]; exact hQ) (by rw [hT2]; exact hW) (by rw [hT2]; exact hL) hx htb g1 g2 (fun s => ⟨hsf s, g3 s⟩) hss
      · rw [← hT]; exact h15
      · rw [← hT]; exact h17
      · rw [← hT]; rfl
      · rw [← hT]; exact hF
    by_cases s : seq = true
    · have e1 : sLo2 seq fi = 63 := by unfold sLo2; rw [if_pos s]
      have e2 : sHi2 seq fi = 63 := by unfold sHi2; rw [if_pos s]
      rw [e1, e2, hx, if_pos s, if_pos rfl]
      rw [hx, if_pos s] at e387 good
      by_cases z : la = 63
      · rw [if_pos (show nI la = 63 by rw [z]; rfl), if_neg (by omega)]
        exact good (by omega) (by omega) (fun _ => z)
      · rw [if_neg (show ¬ nI la = 63 from fun x => z ((nI_eq (a := la) (b := 63) (by omega) (by omega)).mp x)), if_pos (by omega)]
        exact Ev.er e387
    · have e1 : sLo2 seq fi = fi := by unfold sLo2; rw [if_neg s]
      rw [e1, hx, if_neg s, if_neg (by decide)]
      rw [hx, if_neg s] at e387 good
      by_cases z : fi = 0
      · have e2 : sHi2 seq fi = 0 := by unfold sHi2; rw [if_neg s, if_pos z]
        rw [e2, if_pos (show nI fi = 0 by rw [z]; rfl)]
        by_cases z2 : la = 0
        · rw [if_pos (show nI la = 0 by rw [z2]; rfl), if_neg (by omega)]
          exact good (by omega) (by omega) (fun q => absurd q s)
        · rw [if_neg (nI_ne0 (by omega) (by omega)), if_pos (by omega)]
          exact Ev.er e387
      · have e2 : sHi2 seq fi = 63 := by unfold sHi2; rw [if_neg s, if_neg z]
        rw [e2, if_neg (nI_ne0 (by omega) (by omega))]
        by_cases z2 : la < fi
        · rw [if_pos (show nI la < nI fi from nI_lt z2 (by omega)), if_pos (Or.inl z2)]
          exact Ev.er e387
        · rw [if_neg (show ¬ nI la < nI fi from nI_nlt (by omega) (by omega))]
          by_cases z3 : 63 < la
          · rw [if_pos (show (64 : Int32) ≤ nI la from nI_le (a := 64) (by omega) (by omega)), if_pos (Or.inr z3)]
            exact Ev.er e387
          · rw [if_neg (show ¬ (64 : Int32) ≤ nI la from nI_ge (b := 64) (by omega) (by omega)), if_neg (by omega)]
            exact good (by omega) (by omega) (fun q => absurd q s)
theorem R_readScan {n : Nat} {B : Nat → Nat} {sz ce lp p p0 cnt : Nat} {seq : Bool} {qm wm lt : Nat → Option Nat} {u : St} (hn : 20000 ≤ n) (hA : AtM B sz ce lp p u) (hp : p < 40000) (hF : FrM B p0 cnt u) (hB : FrB B p0 cnt) (hQ : PMQ B sz (u.2.1 6) (u.2.1 7) qm) (hW : PMW B sz (u.2.1 8) (u.2.1 9) (u.2.1 10) (u.2.1 11) wm) (hL : PL (u.2.1 13) lt) (h9 : (u.1 9 = 194) ↔ seq = false) (hss : seq = true → ∀ c, c < 4 → lt (64 * c) = none → ∀ i, i < 64 → lt (64 * c + i) = none) : Ev Gz (m_Model_readScan n u) (sc B sz ce lp p p0 cnt seq qm wm lt) (fun r w => ScW B sz ce lp p cnt r w ∧ 1 ≤ r.1) := by
  unfold m_Model_readScan sc
  rw [tk_eb _ _ hA.b]
  refine Ev.bind (hA.nxE (n := n)) ?_ ?_
  · intro z e _ ⟨z1, z2⟩
    rw [if_pos z2.pos]
    unfold m_Model_readScan_31 m_Model_readScan_36
    rw [R_must1, Option.bind_some]
    obtain ⟨w, hw⟩ := R_236F (n := n) (u := sG z.2 15 z.1) hn z2
    refine ⟨w, ?_, hw.2⟩
    obtain ⟨g, rfl⟩ : ∃ g, n = g + 1 := ⟨n - 1, by omega⟩
    rw [R_45F (u := sG z.2 15 z.1) z2.ne]
    exact hw.1
  · rintro z c - - ⟨rfl, v1, v2, v3, v4⟩
    dsimp only
    rw [if_neg (show ¬ 0 < (sG u 4 (nI (p + 1))).1 2 by show ¬ 0 < u.1 2; rw [hA.2.1]; decide)]
    generalize hT : sG (sG u 4 (nI (p + 1))) 15 (nI c) = T
    have hA3 : AtM B sz ce lp (p + 1) T := by rw [← hT]; exact hA.step (q := p + 1) (by omega) (by omega)
    have hT2 : T.2 = u.2 := by rw [← hT]; rfl
    have hz6 : Gz (fM T (6, p)) (6, p) := ⟨rfl, rfl, by simp, by simp⟩
    have e35 : ∃ w, m_Model_readScan_35 n T = some w ∧ Gz w (6, p) := by
      unfold m_Model_readScan_35 m_Model_readScan_36
      rw [R_must0 (p := p) hA3.2.1 hA3.2.2.1, Option.bind_some]
      obtain ⟨w, hw⟩ := R_236F (n := n) (u := fM T (6, p)) hn hz6
      refine ⟨w, ?_, hw.2⟩
      obtain ⟨g, rfl⟩ : ∃ g, n = g + 1 := ⟨n - 1, by omega⟩
      rw [R_45F hz6.ne]
      exact hw.1
    by_cases c1 : c < 1 ∨ 4 < c
    · rw [if_pos c1]
      by_cases z : c = 0
      · rw [if_pos (show nI c ≤ 0 by rw [z]; decide)]
        exact Ev.er e35
      · rw [if_neg (nI_nle (by omega) (by omega)), if_pos (show (5 : Int32) ≤ nI c from nI_le (a := 5) (by omega) (by omega))]
        exact Ev.er e35
    · rw [if_neg c1, if_neg (nI_nle (by omega) (by omega)), if_neg (show ¬ (5 : Int32) ≤ nI c from nI_ge (b := 5) (by omega) (by omega))]
      unfold m_Model_readScan_31 m_Model_readScan_36
      rw [R_must1, Option.bind_some]
      have hFT : FrM B p0 cnt T := by rw [← hT]; exact hF
      have hsk := R_sk (n := n) (p0 := p0) (cnt := cnt) (c := c) (c0 := p) (B := B) (sz := sz) (ce := ce) (lp := lp) hn (by omega) hB (by omega) c n 0 0 0 (fun _ => 0) T (by omega) (by omega) (by omega) (by omega) (fun _ _ => rfl) (by rw [← hT]; rfl) hFT (fun j hj => absurd hj (by omega)) (fun j hj => absurd hj (by omega)) hA3
      rw [show p + 1 + 2 * 0 = p + 1 from rfl] at hsk
      cases h2 : sk B sz ce lp cnt (nmB B p0) (hpB B p0) c (p + 1) 0 0 0 (fun _ => 0) with
      | error e =>
        obtain ⟨w, w1, w2⟩ := hsk.1 e h2
        obtain ⟨w', hw'⟩ := R_236F (n := n) hn w2
        exact Ev.er ⟨w', w1.trans hw'.1, hw'.2⟩
      | ok cf =>
        obtain ⟨w, w1, w2, w3, w4, w5⟩ := hsk.2 cf h2
        obtain ⟨k1, -⟩ := sk_ok _ _ _ _ _ _ _ h2
        have htb : ∀ k, k < c → B (p + 2 + 2 * k) / 16 < 4 ∧ B (p + 2 + 2 * k) % 16 < 4 := by
          intro k hk
          obtain ⟨d1, d2, -⟩ := k1 k hk
          rw [show p + 2 + 2 * k = p + 1 + 2 * k + 1 by omega]
          exact ⟨d1, d2⟩
        have g15 : w.1 15 = nI c := (w5.1 15 (by decide)).trans (by rw [← hT]; rfl)
        have g9 : w.1 9 = u.1 9 := (w5.1 9 (by decide)).trans (by rw [← hT]; rfl)
        have gF : FrM B p0 cnt w := by
          refine ⟨(w5.1 12 (by decide)).trans hFT.1, hFT.2.1, ?_⟩
          rw [w5.2.1 2 (by decide), w5.2.1 3 (by decide), w5.2.1 4 (by decide), w5.2.1 5 (by decide)]
          exact hFT.2.2
        have gQ : PMQ B sz (w.2.1 6) (w.2.1 7) qm := by
          rw [w5.2.1 6 (by decide), w5.2.1 7 (by decide), hT2]; exact hQ
        have gW : PMW B sz (w.2.1 8) (w.2.1 9) (w.2.1 10) (w.2.1 11) wm := by
          rw [w5.2.1 8 (by decide), w5.2.1 9 (by decide), w5.2.1 10 (by decide), w5.2.1 11 (by decide), hT2]; exact hW
        have gL : PL (w.2.1 13) lt := by rw [w5.2.1 13 (by decide), hT2]; exact hL
        refine Ev.to (o := m_Model_readScan_236 n w) ?_ w1
        show Ev Gz _ (eb (tk B sz ce lp (p + 1 + 2 * c) 0 (sHi1 seq c)) (fun fi => scb B sz ce lp p p0 seq qm wm lt c cf fi)) _
        have e236 : m_Model_readScan_236 n w = m_Model_readScan_251 n (if seq = true then 0 else 1) w := by
          unfold m_Model_readScan_236
          rw [g9]
          cases seq with
          | true => rw [if_neg (fun x => by have := h9.mp x; cases this), if_pos rfl]
          | false => rw [if_pos (h9.mpr rfl), if_neg (by decide)]
        rw [e236, tk_eb _ _ w2.b]
        unfold m_Model_readScan_251
        refine Ev.bind (w2.nxE (n := n)) ?_ ?_
        · intro z e _ ⟨z1, z2⟩
          rw [if_pos z2.pos]
          exact R_311F (u := sG z.2 17 z.1) hn z2
        · rintro z fi - - ⟨rfl, f1, f2, f3, f4⟩
          dsimp only
          rw [if_neg (show ¬ 0 < (sG w 4 (nI (p + 1 + 2 * c + 1))).1 2 by show ¬ 0 < w.1 2; rw [w2.2.1]; decide), show (sG w 4 (nI (p + 1 + 2 * c + 1))).1 15 = nI c from g15]
          generalize hS : sG (sG w 4 (nI (p + 1 + 2 * c + 1))) 17 (nI fi) = S
          have hA5 : AtM B sz ce lp (p + 1 + 2 * c + 1) S := by rw [← hS]; exact w2.step (q := p + 1 + 2 * c + 1) (by omega) (by omega)
          have hS2 : S.2 = w.2 := by rw [← hS]; rfl
          have hzS : Gz (fM S (6, p + 1 + 2 * c)) (6, p + 1 + 2 * c) := ⟨rfl, rfl, by simp, by simp⟩
          have e310 : ∀ y, ∃ w, m_Model_readScan_310 n y S = some w ∧ Gz w (6, p + 1 + 2 * c) := by
            intro y
            obtain ⟨w', hw'⟩ := R_311F (n := n) (x3 := y) (y := 1) hn hzS
            refine ⟨w', ?_, hw'.2⟩
            rw [← hw'.1]
            unfold m_Model_readScan_310 m_Model_readScan_311
            rw [R_must0 (p := p + 1 + 2 * c) hA5.2.1 hA5.2.2.1, R_must1]
          have good : fi ≤ 63 → (seq = true → fi = 0) → Ev Gz (m_Model_readScan_306 n (if seq = true then 0 else 1) S) (scb B sz ce lp p p0 seq qm wm lt c cf fi) (fun r w => ScW B sz ce lp p cnt r w ∧ 1 ≤ r.1) := by
            intro g1 g2
            have hA6 : AtM B sz ce lp (p + 2 + 2 * c) S := by rw [show p + 2 + 2 * c = p + 1 + 2 * c + 1 by omega]; exact hA5
            have := R_311 (n := n) (u := S) (fi := fi) (p0 := p0) (cnt := cnt) (cf := cf) (seq := seq) (qm := qm) (wm := wm) (lt := lt) (x3 := if seq = true then 0 else 1) hn hA6 (by omega) (by rw [← hS]; exact g15) (by rw [← hS]; rfl) (by rw [hS2]; exact w3) (by unfold PD; rw [hS2]; exact w4) (by omega) (by rw [← hS]; exact gF) hB (by rw [hS2]; exact gQ) (by rw [hS2]; exact gW) (by rw [hS2]; exact gL) rfl htb g1 g2 hss
            refine Ev.mono this ?_
            intro z r _ hr hz
            refine ⟨hz, ?_⟩
            have : r.1 = c := by
              unfold scb at hr
              cases q1 : tk B sz ce lp (p + 2 + 2 * c) (sLo2 seq fi) (sHi2 seq fi) with
              | error e => rw [q1] at hr; cases hr
              | ok la =>
                rw [q1] at hr
                change eb (tbs B sz ce lp (p + 3 + 2 * c) (sHi3 seq)) _ = _ at hr
                cases q2 : tbs B sz ce lp (p + 3 + 2 * c) (sHi3 seq) with
                | error e => rw [q2] at hr; cases hr
                | ok bb =>
                  rw [q2] at hr
                  change eb (od seq p (p + 3 + 2 * c) fi la (bb / 16) lt cf c 0) _ = _ at hr
                  cases q3 : od seq p (p + 3 + 2 * c) fi la (bb / 16) lt cf c 0 with
                  | error e => rw [q3] at hr; cases hr
                  | ok _ =>
                    rw [q3] at hr
                    change eb (nd B p fi la (bb / 16) (tqB B p0) qm wm cf c 0) _ = _ at hr
                    cases q4 : nd B p fi la (bb / 16) (tqB B p0) qm wm cf c 0 with
                    | error e => rw [q4] at hr; cases hr
                    | ok _ => rw [q4] at hr; cases hr; rfl
            omega
          by_cases s : seq = true
          · have e1 : sHi1 seq c = 0 := by unfold sHi1; rw [if_pos s]
            rw [e1, if_pos s, if_pos rfl]
            rw [if_pos s] at good
            by_cases z : fi = 0
            · rw [if_pos (show nI fi = 0 by rw [z]; rfl), if_neg (by omega)]
              exact good (by omega) (fun _ => z)
            · rw [if_neg (nI_ne0 (by omega) (by omega)), if_pos (by omega)]
              exact Ev.er (e310 0)
          · rw [if_neg s, if_neg (by decide)]
            rw [if_neg s] at good
            unfold sHi1
            rw [if_neg s]
            by_cases z0 : 63 < fi
            · rw [if_pos (show (64 : Int32) ≤ nI fi from nI_le (a := 64) (by omega) (by omega)), if_pos (Or.inr (show (if c = 1 then 63 else 0) < fi by by_cases q : c = 1; rw [if_pos q]; omega; rw [if_neg q]; omega))]
              exact Ev.er (e310 1)
            · rw [if_neg (show ¬ (64 : Int32) ≤ nI fi from nI_ge (b := 64) (by omega) (by omega))]
              by_cases z : fi = 0
              · rw [if_pos (show nI fi = 0 by rw [z]; rfl), if_neg (by omega)]
                exact good (by omega) (fun q => absurd q s)
              · rw [if_neg (nI_ne0 (by omega) (by omega))]
                by_cases z1 : c = 1
                · rw [if_pos (show nI c = 1 by rw [z1]; rfl), if_pos z1, if_neg (by omega)]
                  exact good (by omega) (fun q => absurd q s)
                · rw [if_neg (show ¬ nI c = 1 from fun x => z1 ((nI_eq (a := c) (b := 1) (by omega) (by omega)).mp x)), if_neg z1, if_pos (by omega)]
                  exact Ev.er (e310 1)
