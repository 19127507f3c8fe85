def sHi1 (seq : Bool) (c : Nat) : Nat := if seq = true then 0 else if c = 1 then 63 else 0
def sLo2 (seq : Bool) (fi : Nat) : Nat := if seq = true then 63 else fi
def sHi2 (seq : Bool) (fi : Nat) : Nat := if seq = true then 63 else if fi = 0 then 0 else 63
def sHi3 (seq : Bool) : Nat := if seq = true then 0 else 255
/-- a scan's contents behind its first coefficient -/
def scb (B : Nat → Nat) (sz ce lp p p0 : Nat) (seq : Bool) (qm wm lt : Nat → Option Nat) (c : Nat) (cf : Nat → Nat) (fi : Nat) : Except Er (Nat × (Nat → Nat) × Nat × Nat × Nat) := eb (tk B sz ce lp (p + 2 + 2 * c) (sLo2 seq fi) (sHi2 seq fi)) (fun la => eb (tbs B sz ce lp (p + 3 + 2 * c) (sHi3 seq)) (fun bb => eb (od seq p (p + 3 + 2 * c) fi la (bb / 16) lt cf c 0) (fun _ => eb (nd B p fi la (bb / 16) (tqB B p0) qm wm cf c 0) (fun _ => .ok (c, cf, fi, la, bb)))))
/-- a scan's contents -/
def sc (B : Nat → Nat) (sz ce lp p p0 cnt : Nat) (seq : Bool) (qm wm lt : Nat → Option Nat) : Except Er (Nat × (Nat → Nat) × Nat × Nat × Nat) := eb (tk B sz ce lp p 1 4) (fun c => eb (sk B sz ce lp cnt (nmB B p0) (hpB B p0) c (p + 1) 0 0 0 (fun _ => 0)) (fun cf => eb (tk B sz ce lp (p + 1 + 2 * c) 0 (sHi1 seq c)) (fun fi => scb B sz ce lp p p0 seq qm wm lt c cf fi)))
theorem sk_ok {B : Nat → Nat} {sz ce lp cnt : Nat} {nm hp : Nat → Nat} : ∀ (m p k la sum : Nat) (cf cf' : Nat → Nat), sk B sz ce lp cnt nm hp m p k la sum cf = .ok cf' → (∀ j, j < m → B (p + 2 * j + 1) / 16 < 4 ∧ B (p + 2 * j + 1) % 16 < 4 ∧ fn nm (B (p + 2 * j)) cnt 0 = some (cf' (k + j)) ∧ p + 2 * j + 2 ≤ sz ∧ p + 2 * j + 2 ≤ ce) ∧ ∀ i, i < k → cf' i = cf i := by
  intro m
  induction m with
  | zero =>
    intro p k la sum cf cf' h
    cases h
    exact ⟨fun j hj => absurd hj (by omega), fun _ _ => rfl⟩
  | succ m ih =>
    intro p k la sum cf cf' h
    change eb (sk1 B sz ce lp cnt nm hp p la sum) _ = _ at h
    cases h1 : sk1 B sz ce lp cnt nm hp p la sum with
    | error e => rw [h1] at h; cases h
    | ok c =>
      rw [h1] at h
      obtain ⟨a1, a2, a3, a4, a5, a6, a7, a8⟩ := sk1_ok h1
      obtain ⟨b1, b2⟩ := ih (p + 2) (k + 1) (c + 1) (sum + hp c) (va_up cf k c) cf' h
      refine ⟨fun j hj => ?_, fun i hi => ?_⟩
      · cases j with
        | zero =>
          refine ⟨a7, a8, ?_, a1, a2⟩
          have : cf' k = c := (b2 k (by omega)).trans (if_pos rfl)
          rw [show k + 0 = k from rfl, this]
          exact a6
        | succ j =>
          obtain ⟨d1, d2, d3, d4, d5⟩ := b1 j (by omega)
          rw [show p + 2 * (j + 1) = p + 2 + 2 * j by omega, show k + (j + 1) = k + 1 + j by omega]
          exact ⟨d1, d2, d3, d4, d5⟩
      · exact (b2 i (by omega)).trans (if_neg (by omega))
/-- the class's own tail of a scan's contents -/
def scB (n : Nat) (lo hi hb : Int32) (z : St) : Option St := (m_Parser_take n lo hi z).bind (fun z63 => (m_Parser_takeBits n hb (sG z63.2 18 z63.1)).bind (fun z71 => m_Parser_readScan_147 n z71))
theorem O_scBF {n : Nat} {lo hi hb : Int32} {t : St} {e : Er} (hn : 20000 ≤ n) (h : Fz t e) : ∃ z, scB n lo hi hb t = some z ∧ Fz z e := by
  unfold scB
  rw [O_takeF h.ne, Option.bind_some]
  dsimp only
  obtain ⟨w, hw, hw2⟩ := O_bitsF (n := n) (x := hb) (t := sG t 18 mI) (e := e) h
  rw [hw, Option.bind_some]
  exact O_147F hn hw2
/-- what a scan leaves in the class -/
def ScZ (B : Nat → Nat) (sz ce lp p : Nat) (lt : Nat → Option Nat) (r : Nat × (Nat → Nat) × Nat × Nat × Nat) (z : St) : Prop := At B sz ce lp (p + 4 + 2 * r.1) z ∧ z.1 15 = nI p ∧ PL (z.2.1 7) (nt (r.2.2.2.2 % 16) r.2.2.1 r.2.2.2.1 r.2.1 r.1 0 lt)
theorem O_scB {n : Nat} {B : Nat → Nat} {sz ce lp p p0 cnt c fi : Nat} {cf : Nat → Nat} {seq : Bool} {qm wm lt : Nat → Option Nat} {t : St} (hn : 20000 ≤ n) (hA : At B sz ce lp (p + 2 + 2 * c) t) (hp : p < 50000) (h15 : t.1 15 = nI p) (h16 : t.1 16 = nI c) (h17 : t.1 17 = nI fi) (hP : PS (t.2.1 6) cf cnt c) (hc : c ≤ 4) (hF : FrO B p0 cnt t) (hQ : PQ (t.2.1 4) qm) (hbq : bdd qm) (hW : PW (t.2.1 5) wm) (hbw : bdd wm) (hL : PL (t.2.1 7) lt) (h1 : (t.1 1 = 192) ↔ seq = true) (htq : ∀ j, j < cnt → tqB B p0 j < 4) (htb : ∀ k, k < c → B (p + 2 + 2 * k) / 16 < 4 ∧ B (p + 2 + 2 * k) % 16 < 4) (hfi : fi ≤ 63) (hsf : seq = true → fi = 0) : Ev Fz (scB n (nI (sLo2 seq fi)) (nI (sHi2 seq fi)) (nI (sHi3 seq)) t) (scb B sz ce lp p p0 seq qm wm lt c cf fi) (ScZ B sz ce lp p lt) := by
  have q1 : sLo2 seq fi < 256 := by unfold sLo2; by_cases s : seq = true; rw [if_pos s]; omega; rw [if_neg s]; omega
  have q2 : sHi2 seq fi < 64 := by unfold sHi2; by_cases s : seq = true; rw [if_pos s]; omega; rw [if_neg s]; by_cases s2 : fi = 0; rw [if_pos s2]; omega; rw [if_neg s2]; omega
  have q3 : sHi3 seq < 256 := by unfold sHi3; by_cases s : seq = true; rw [if_pos s]; omega; rw [if_neg s]; omega
  have q4 : fi ≤ sLo2 seq fi := by unfold sLo2; by_cases s : seq = true; rw [if_pos s]; omega; rw [if_neg s]; omega
  have hp2 := hA.2.2.2.2.2.1
  unfold scB scb
  refine Ev.bind (hA.tkE (n := n) (sLo2 seq fi) (sHi2 seq fi) (by omega) (by omega)) ?_ ?_
  · intro z e hz ⟨z1, z2⟩
    obtain ⟨w, hw, hw2⟩ := O_bitsF (n := n) (x := nI (sHi3 seq)) (t := sG z.2 18 z.1) (e := e) z2
    rw [hw, Option.bind_some]
    exact O_147F hn hw2
  · rintro z la - - ⟨rfl, r1, r2, r3, r4, r5⟩
    dsimp only
    have hA2 : At B sz ce lp (p + 3 + 2 * c) (sG (sG t 9 (nI (p + 2 + 2 * c + 1))) 18 (nI la)) := by
      have := hA.step (q := p + 2 + 2 * c + 1) (by omega)
      rw [show p + 2 + 2 * c + 1 = p + 3 + 2 * c by omega] at this ⊢
      exact this
    refine Ev.bind (O_bits (n := n) (hi := sHi3 seq) q3 hA2) (fun z e _ hz => O_147F hn hz) ?_
    rintro z bb - - ⟨rfl, v1, v2, v3, v4, v5, v6⟩
    have hbb : bb < 256 := by omega
    generalize hT : sG (sG (sG (sG (sG t 9 (nI (p + 2 + 2 * c + 1))) 18 (nI la)) 9 (nI (p + 3 + 2 * c + 1))) 19 (nI (bb / 16))) 20 (nI (bb % 16)) = T
    have hT9 : T.1 9 = nI (p + 3 + 2 * c + 1) := by rw [← hT]; rfl
    have hT13 : T.1 13 = 0 := by rw [← hT]; exact hA.2.1
    have hT2 : T.2 = t.2 := by rw [← hT]; rfl
    have hS : ScO p c fi la (bb / 16) (bb % 16) cnt cf T := by
      refine ⟨?_, ?_, ?_, ?_, ?_, ?_, by rw [hT2]; exact hP, hc, hF.2.1, by omega, by omega, by omega, by omega, by omega⟩
      · rw [← hT]; exact h15
      · rw [← hT]; exact h16
      · rw [← hT]; exact h17
      · rw [← hT]; rfl
      · rw [← hT]; rfl
      · rw [← hT]; rfl
    have hI : InO B sz T := by rw [← hT]; exact hA.1
    have hF2 : FrO B p0 cnt T := by rw [← hT]; exact hF
    have h12 : (T.1 1 = 192) ↔ seq = true := by rw [← hT]; exact h1
    have hA3 : At B sz ce lp (p + 3 + 2 * c + 1) T := by rw [← hT]; exact hA2.step (q := p + 3 + 2 * c + 1) (by omega)
    unfold m_Parser_readScan_147 m_Parser_checkSent
    have ho := O_od (n := n) (q := p + 3 + 2 * c) (lt := lt) hn hS hT13 hT9 (by omega) (by rw [hT2]; exact hL) h12 c n 0 (by omega) (by omega)
    refine Ev.bind ho ?_ ?_
    · intro z e _ hz
      obtain ⟨f, rfl⟩ : ∃ g, n = g + 1 := ⟨n - 1, by omega⟩
      refine ⟨z, ?_, hz⟩
      unfold m_Parser_checkTables m_Parser_noteSent
      rw [O_ct2F hz.ne, Option.bind_some, O_nt2F hz.ne, Option.bind_some]
    · rintro z _ - - rfl
      unfold m_Parser_checkTables
      have hn2 := O_nd (n := n) (B := B) (sz := sz) (p0 := p0) (qm := qm) (wm := wm) hn hI hS hF2 hT13 (by rw [hT2]; exact hQ) hbq (by rw [hT2]; exact hW) hbw (by omega) htb htq c n 0 (by omega) (by omega)
      refine Ev.bind hn2 ?_ ?_
      · intro z e _ hz
        obtain ⟨f, rfl⟩ : ∃ g, n = g + 1 := ⟨n - 1, by omega⟩
        refine ⟨z, ?_, hz⟩
        unfold m_Parser_noteSent
        rw [O_nt2F hz.ne, Option.bind_some]
      · rintro z _ - - rfl
        obtain ⟨w, w1, ⟨w2, w3, w4⟩, w5⟩ := O_nt (n := n) (lt := lt) hn c n 0 z (by omega) (by omega) hS hT13 (by rw [hT2]; exact hL)
        refine Ev.ok ⟨w, ?_, ?_, ?_, w5⟩
        · unfold m_Parser_noteSent
          show (m_Parser_noteSent_2 n n (nI 0) z).bind _ = _
          rw [w1, Option.bind_some]
        · show At B sz ce lp (p + 4 + 2 * c) w
          rw [show p + 4 + 2 * c = p + 3 + 2 * c + 1 by omega]
          unfold At InO
          rw [w2, w3, w4 0 (by omega)]
          exact hA3
        · rw [w2]; exact hS.1
theorem O_readScan {n : Nat} {B : Nat → Nat} {sz ce lp p p0 cnt : Nat} {seq : Bool} {qm wm lt : Nat → Option Nat} {t : St} (hn : 20000 ≤ n) (hA : At B sz ce lp p t) (hp : p < 40000) (hF : FrO B p0 cnt t) (hQ : PQ (t.2.1 4) qm) (hbq : bdd qm) (hW : PW (t.2.1 5) wm) (hbw : bdd wm) (hL : PL (t.2.1 7) lt) (h1 : (t.1 1 = 192) ↔ seq = true) (htq : ∀ j, j < cnt → tqB B p0 j < 4) : Ev Fz (m_Parser_readScan n t) (sc B sz ce lp p p0 cnt seq qm wm lt) (ScZ B sz ce lp p lt) := by
  have hA0 : At B sz ce lp p (sG t 15 (t.1 9)) := hA
  have h4 := hF.1
  have hc4 := hF.2.1
  -- in fault mode
  have tailF : ∀ (z : St) (e : Er), Fz z e → ∃ w, (if z.1 1 = 192 then (m_Parser_take n 0 0 z).bind (fun z48 => (m_Parser_take n 63 63 (sG z48.2 17 z48.1)).bind (fun z63 => (m_Parser_takeBits n 0 (sG z63.2 18 z63.1)).bind (fun z71 => m_Parser_readScan_147 n z71))) else if z.1 16 = 1 then m_Parser_readScan_100 n 0 63 z else m_Parser_readScan_100 n 0 0 z) = some w ∧ Fz w e := by
    intro z e hz
    by_cases d1 : z.1 1 = 192
    · rw [if_pos d1, O_takeF hz.ne, Option.bind_some]
      exact O_scBF (n := n) (lo := 63) (hi := 63) (hb := 0) (t := sG z 17 mI) hn hz
    · rw [if_neg d1]
      have e100 : ∀ y2 y3, ∃ w, m_Parser_readScan_100 n y2 y3 z = some w ∧ Fz w e := by
        intro y2 y3
        unfold m_Parser_readScan_100
        rw [O_takeF hz.ne, Option.bind_some]
        dsimp only
        rw [if_neg (by decide)]
        exact O_scBF (n := n) (lo := mI) (hi := 63) (hb := 255) (t := sG z 17 mI) hn hz
      by_cases d2 : z.1 16 = 1
      · rw [if_pos d2]; exact e100 _ _
      · rw [if_neg d2]; exact e100 _ _
  unfold m_Parser_readScan sc
  refine Ev.bind (hA0.tkE (n := n) 1 4 (by omega) (by omega)) ?_ ?_
  · intro z e hz ⟨z1, z2⟩
    have hx := x_Parser_take hz
    obtain ⟨w, hw, hw2⟩ := O_s6F (n := n) (cnt := cnt) (e := e) hn hc4 4 n 0 (-1) 0 (sG z.2 16 z.1) (by omega) (by omega) z2 ((hx.1 4 (by decide)).trans h4)
    show ∃ w, (m_Parser_takeScanComponents_6 n n (-1) 0 (nI 0) (sG z.2 16 z.1)).bind _ = some w ∧ _
    rw [hw, Option.bind_some]
    exact tailF w e hw2
  · rintro z c - - ⟨rfl, r1, r2, r3, r4, r5⟩
    dsimp only
    have hA1 : At B sz ce lp (p + 1) (sG (sG (sG t 15 (t.1 9)) 9 (nI (p + 1))) 16 (nI c)) := hA0.step (q := p + 1) (by omega)
    have hsk := O_sk (n := n) (p0 := p0) (cnt := cnt) (c := c) hn (by omega) c n 0 (p + 1) 0 0 (fun _ => 0) (sG (sG (sG t 15 (t.1 9)) 9 (nI (p + 1))) 16 (nI c)) (by omega) (by omega) (by omega) (by omega) (by omega) rfl hF (fun j hj => absurd hj (by omega)) hA1
    refine Ev.bind (o := m_Parser_takeScanComponents n (sG (sG (sG t 15 (t.1 9)) 9 (nI (p + 1))) 16 (nI c))) hsk (fun z e _ hz => tailF z e hz) ?_
    intro z cf hz hsok ⟨s1, s2, s3⟩
    have hx := x_Parser_takeScanComponents hz
    obtain ⟨k1, -⟩ := sk_ok _ _ _ _ _ _ _ hsok
    have g15 : z.1 15 = nI p := (hx.1 15 (by decide)).trans hA.2.2.1
    have g16 : z.1 16 = nI c := hx.1 16 (by decide)
    have g1 : z.1 1 = t.1 1 := hx.1 1 (by decide)
    have gF : FrO B p0 cnt z := by
      refine ⟨(hx.1 4 (by decide)).trans h4, hc4, ?_⟩
      rw [hx.2.1 3 (by decide)]; exact hF.2.2
    have gQ : PQ (z.2.1 4) qm := by rw [hx.2.1 4 (by decide)]; exact hQ
    have gW : PW (z.2.1 5) wm := by rw [hx.2.1 5 (by decide)]; exact hW
    have gL : PL (z.2.1 7) lt := by rw [hx.2.1 7 (by decide)]; exact hL
    have htb : ∀ k, k < c → B (p + 2 + 2 * k) / 16 < 4 ∧ B (p + 2 + 2 * k) % 16 < 4 := by
      intro k hk
      obtain ⟨d1, d2, -⟩ := k1 k hk
      rw [show p + 2 + 2 * k = p + 1 + 2 * k + 1 by omega]
      exact ⟨d1, d2⟩
    have q1 : sHi1 seq c < 64 := by unfold sHi1; by_cases s : seq = true; rw [if_pos s]; omega; rw [if_neg s]; by_cases s2 : c = 1; rw [if_pos s2]; omega; rw [if_neg s2]; omega
    have htk := s1.tkE (n := n) 0 (sHi1 seq c) (by omega) (by omega)
    -- what follows the first coefficient
    have hrest : ∀ fi, tk B sz ce lp (p + 1 + 2 * c) 0 (sHi1 seq c) = .ok fi → Ev Fz (scB n (nI (sLo2 seq fi)) (nI (sHi2 seq fi)) (nI (sHi3 seq)) (sG (sG z 9 (nI (p + 1 + 2 * c + 1))) 17 (nI fi))) (scb B sz ce lp p p0 seq qm wm lt c cf fi) (ScZ B sz ce lp p lt) := by
      intro fi hfi
      obtain ⟨-, -, -, -, f5⟩ := tk_lt hfi
      have hA2 : At B sz ce lp (p + 2 + 2 * c) (sG (sG z 9 (nI (p + 1 + 2 * c + 1))) 17 (nI fi)) := by
        have := s1.step (q := p + 1 + 2 * c + 1) (by omega)
        rw [show p + 1 + 2 * c + 1 = p + 2 + 2 * c by omega] at this ⊢
        exact this
      exact O_scB (t := sG (sG z 9 (nI (p + 1 + 2 * c + 1))) 17 (nI fi)) hn hA2 (by omega) g15 g16 rfl s2 (by omega) gF gQ hbq gW hbw gL (by show (z.1 1 = 192) ↔ _; rw [g1]; exact h1) htq htb (by omega) (fun s => by unfold sHi1 at f5; rw [if_pos s] at f5; omega)
    by_cases s : seq = true
    · rw [if_pos (show z.1 1 = 192 by rw [g1]; exact h1.mpr s)]
      have e1 : sHi1 seq c = 0 := by unfold sHi1; rw [if_pos s]
      have e2 : ∀ fi, sLo2 seq fi = 63 := fun fi => by unfold sLo2; rw [if_pos s]
      have e3 : ∀ fi, sHi2 seq fi = 63 := fun fi => by unfold sHi2; rw [if_pos s]
      have e4 : sHi3 seq = 0 := by unfold sHi3; rw [if_pos s]
      rw [e1] at htk hrest ⊢
      refine Ev.bind htk ?_ ?_
      · intro z2 e _ ⟨hz1, hz2⟩
        exact O_scBF (n := n) (lo := 63) (hi := 63) (hb := 0) (t := sG z2.2 17 z2.1) hn hz2
      · rintro z2 fi - hok ⟨rfl, -⟩
        have := hrest fi hok
        rw [e2, e3, e4] at this
        exact this
    · rw [if_neg (show ¬ z.1 1 = 192 by rw [g1]; exact fun q => s (h1.mp q))]
      have e2 : ∀ fi, sLo2 seq fi = fi := fun fi => by unfold sLo2; rw [if_neg s]
      have e4 : sHi3 seq = 255 := by unfold sHi3; rw [if_neg s]
      have e100 : Ev Fz (m_Parser_readScan_100 n (nI 0) (nI (sHi1 seq c)) z) (eb (tk B sz ce lp (p + 1 + 2 * c) 0 (sHi1 seq c)) (fun fi => scb B sz ce lp p p0 seq qm wm lt c cf fi)) (ScZ B sz ce lp p lt) := by
        unfold m_Parser_readScan_100
        refine Ev.bind htk ?_ ?_
        · intro z2 e _ ⟨hz1, hz2⟩
          rw [hz1, if_neg (by decide)]
          exact O_scBF (n := n) (lo := mI) (hi := 63) (hb := 255) (t := sG z2.2 17 mI) hn hz2
        · rintro z2 fi - hok ⟨rfl, -, -, -, -, f5⟩
          have := hrest fi hok
          rw [e2, e4] at this
          dsimp only
          by_cases f0 : fi = 0
          · rw [if_pos (show nI fi = 0 by rw [f0]; rfl)]
            have e3 : sHi2 seq fi = 0 := by unfold sHi2; rw [if_neg s, if_pos f0]
            rw [e3] at this
            exact this
          · rw [if_neg (nI_ne0 (by omega) (by omega))]
            have e3 : sHi2 seq fi = 63 := by unfold sHi2; rw [if_neg s, if_neg f0]
            rw [e3] at this
            exact this
      by_cases c1 : c = 1
      · rw [if_pos (show z.1 16 = 1 by rw [g16, c1]; rfl)]
        have e1 : sHi1 seq c = 63 := by unfold sHi1; rw [if_neg s, if_pos c1]
        rw [e1] at e100
        rw [e1]
        exact e100
      · rw [if_neg (show ¬ z.1 16 = 1 by rw [g16]; exact fun q => c1 ((nI_eq (a := c) (b := 1) (by omega) (by omega)).mp q))]
        have e1 : sHi1 seq c = 0 := by unfold sHi1; rw [if_neg s, if_neg c1]
        rw [e1] at e100
        rw [e1]
        exact e100
