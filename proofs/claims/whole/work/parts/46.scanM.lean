abbrev GP (z : Int32 × St) (e : Er) : Prop := z.1 = 0 ∧ Gz z.2 e
theorem AtM.nxE {n : Nat} {B : Nat → Nat} {sz ce lp p : Nat} {u : St} (h : AtM B sz ce lp p u) : Ev GP (m_Model_next n u) (tk B sz ce lp p 0 255) (fun v z => z = (nI v, sG u 4 (nI (p + 1))) ∧ v = B p ∧ p < ce ∧ p < sz ∧ v < 256) := by
  rw [h.next (n := n)]
  cases h1 : tk B sz ce lp p 0 255 with
  | error e => exact ⟨_, rfl, rfl, fM_z (u := u) (tk_er h1).1⟩
  | ok v =>
    obtain ⟨a1, a2, a3, a4, a5⟩ := tk_lt h1
    exact ⟨_, rfl, rfl, a1, a2, a3, by omega⟩
theorem tk_eb {α : Type} {B : Nat → Nat} {sz ce lp p : Nat} (lo hi : Nat) (hb : sz ≤ p ∨ ce ≤ p ∨ B p < 256) (f : Nat → Except Er α) : eb (tk B sz ce lp p lo hi) f = eb (tk B sz ce lp p 0 255) (fun v => if v < lo ∨ hi < v then .error (6, p) else f v) := by
  obtain ⟨r1, r2⟩ := tk_rg (B := B) (sz := sz) (ce := ce) (lp := lp) (p := p) lo hi
  cases h : tk B sz ce lp p 0 255 with
  | error e => rw [r1 e h hb]; rfl
  | ok v =>
    rw [r2 v h]
    show eb (if _ then _ else _) f = if v < lo ∨ hi < v then _ else f v
    by_cases c : v < lo ∨ hi < v
    · rw [if_pos c, if_pos c]; rfl
    · rw [if_neg c, if_neg c]; rfl
def distinct (nm : Nat → Nat) (cnt : Nat) : Prop := ∀ i j, i < j → j < cnt → nm i ≠ nm j
theorem fn_no {nm : Nat → Nat} {v : Nat} : ∀ (m j : Nat), (∀ i, j ≤ i → i < j + m → nm i ≠ v) → fn nm v m j = none := by
  intro m
  induction m with
  | zero => intro j _; rfl
  | succ m ih =>
    intro j h
    show (if nm j = v then some j else fn nm v m (j + 1)) = none
    rw [if_neg (h j (by omega) (by omega))]
    exact ih (j + 1) (fun i h1 h2 => h i (by omega) (by omega))
theorem R_named4 {n cnt v : Nat} {nm : Nat → Nat} {u : St} (h12 : u.1 12 = nI cnt) (hc : cnt ≤ 4) (hv : v < 256) (hN : ∀ i, i < cnt → u.2.1 2 i = nI (nm i) ∧ nm i < 256) (hd : distinct nm cnt) : ∀ (m f j : Nat) (x2 : Int32), j + m = cnt → m < f → m_Model_named_4 n f (nI v) x2 (nI j) u = some ((match fn nm v m j with | some q => nI q | none => x2), u) := by
  intro m
  induction m with
  | zero =>
    intro f j x2 hj hf
    obtain ⟨f, rfl⟩ : ∃ g, f = g + 1 := ⟨f - 1, by omega⟩
    show m_Model_named_4b n _ (nI v) x2 (nI j) u = _
    unfold m_Model_named_4b
    rw [if_pos (by rw [h12]; exact nI_le (by omega) (by omega))]; rfl
  | succ m ih =>
    intro f j x2 hj hf
    obtain ⟨f, rfl⟩ : ∃ g, f = g + 1 := ⟨f - 1, by omega⟩
    obtain ⟨n1, n2⟩ := hN j (by omega)
    show m_Model_named_4b n _ (nI v) x2 (nI j) u = _
    unfold m_Model_named_4b m_Model_named_27
    rw [if_neg (by rw [h12]; exact nI_ge (by omega) (by omega)), if_neg (nI_in (N := 4) (by omega) (by omega)), nI_clamp (by omega), n1, nI_1]
    show _ = some ((match (if nm j = v then some j else fn nm v m (j + 1)) with | some q => nI q | none => x2), u)
    by_cases c : nm j = v
    · rw [if_pos (show nI (nm j) = nI v by rw [c]), if_pos c, ih f (j + 1) (nI j) (by omega) (by omega), fn_no m (j + 1) (fun i h1 h2 => by rw [← c]; exact fun q => hd j i (by omega) (by omega) q.symm)]
    · rw [if_neg (show ¬ nI (nm j) = nI v from fun q => c ((nI_eq (by omega) (by omega)).mp q)), if_neg c, ih f (j + 1) x2 (by omega) (by omega)]
theorem R_named {n cnt v : Nat} {nm : Nat → Nat} {u : St} (hn : 20000 ≤ n) (h12 : u.1 12 = nI cnt) (hc : cnt ≤ 4) (hv : v < 256) (hN : ∀ i, i < cnt → u.2.1 2 i = nI (nm i) ∧ nm i < 256) (hd : distinct nm cnt) : m_Model_named n (nI v) u = some (oI (fn nm v cnt 0), u) := by
  have := R_named4 (n := n) h12 hc hv hN hd cnt n 0 (-1) (by omega) (by omega)
  refine Eq.trans (show m_Model_named n (nI v) u = _ from this) ?_
  cases fn nm v cnt 0 <;> rfl
theorem R_namedT {n cnt : Nat} {x : Int32} {u : St} (hn : 20000 ≤ n) (h12 : u.1 12 = nI cnt) (hc : cnt ≤ 4) : ∃ r, m_Model_named n x u = some (r, u) := by
  have : ∀ (m f j : Nat) (x2 : Int32), j + m = cnt → m < f → ∃ r, m_Model_named_4 n f x x2 (nI j) u = some (r, u) := by
    intro m
    induction m with
    | zero =>
      intro f j x2 hj hf
      obtain ⟨f, rfl⟩ : ∃ g, f = g + 1 := ⟨f - 1, by omega⟩
      refine ⟨x2, ?_⟩
      show m_Model_named_4b n _ x x2 (nI j) u = _
      unfold m_Model_named_4b
      rw [if_pos (by rw [h12]; exact nI_le (by omega) (by omega))]
    | succ m ih =>
      intro f j x2 hj hf
      obtain ⟨f, rfl⟩ : ∃ g, f = g + 1 := ⟨f - 1, by omega⟩
      show ∃ r, m_Model_named_4b n _ x x2 (nI j) u = _
      unfold m_Model_named_4b m_Model_named_27
      rw [if_neg (by rw [h12]; exact nI_ge (by omega) (by omega)), if_neg (nI_in (N := 4) (by omega) (by omega)), nI_1]
      by_cases c : u.2.1 2 (nI j).toNatClampNeg = x
      · rw [if_pos c]; exact ih f (j + 1) _ (by omega) (by omega)
      · rw [if_neg c]; exact ih f (j + 1) _ (by omega) (by omega)
  exact this cnt n 0 (-1) (by omega) (by omega)
theorem R_45F {n f : Nat} {x1 x2 x3 : Int32} {u : St} (h : u.1 2 ≠ 0) : m_Model_readScan_45 n (f + 1) x1 x2 x3 u = m_Model_readScan_236 n u := by
  show m_Model_readScan_45b n _ x1 x2 x3 u = _
  unfold m_Model_readScan_45b
  rw [if_neg h]
  exact ite_self _
theorem R_166F {n f k : Nat} {x1 x2 : Int32} {u : St} {e : Er} (hk : k < 4) (h : Gz u e) : ∃ w, m_Model_readScan_166 n (m_Model_readScan_45 n (f + 1)) x1 x2 (nI k) u = m_Model_readScan_236 n w ∧ Gz w e := by
  refine ⟨sH (sH u 15 k ((0 : Int32) / 16)) 16 k ((0 : Int32) - (0 : Int32) / 16 * 16), ?_, h⟩
  have hin := nI_in (c := k) (N := 4) hk (by omega)
  unfold m_Model_readScan_166
  rw [R_nextF h, Option.bind_some]
  dsimp only
  rw [if_neg hin, Option.bind_some, if_neg hin, if_pos (show 0 < (sH u 15 (nI k).toNatClampNeg ((0 : Int32) / 16)).1 2 from h.pos)]
  unfold m_Model_readScan_222 m_Model_readScan_227
  rw [R_must1, Option.bind_some, nI_clamp (by omega)]
  exact R_45F h.ne
theorem R_107F {n f k : Nat} {x1 x2 x4 : Int32} {u : St} {e : Er} (hk : k < 4) (h : Gz u e) : ∃ w, m_Model_readScan_107 n (m_Model_readScan_45 n (f + 1)) x1 x2 (nI k) x4 u = m_Model_readScan_236 n w ∧ Gz w e := by
  unfold m_Model_readScan_107
  rw [if_neg h.ne]
  exact R_166F hk h
/-- what is known of a frame's components, in the reference -/
def FrM (B : Nat → Nat) (p0 cnt : Nat) (u : St) : Prop := u.1 12 = nI cnt ∧ cnt ≤ 4 ∧ PCM B p0 (u.2.1 2) (u.2.1 3) (u.2.1 4) (u.2.1 5) cnt
/-- what a frame's contents are -/
def FrB (B : Nat → Nat) (p0 cnt : Nat) : Prop := cnt ≤ 4 ∧ distinct (nmB B p0) cnt ∧ (∀ j, j < cnt → hpB B p0 j ≤ 4 ∧ tqB B p0 j < 4 ∧ 1 ≤ B (p0 + 3 * j + 1) / 16 ∧ B (p0 + 3 * j + 1) / 16 ≤ 2 ∧ 1 ≤ B (p0 + 3 * j + 1) % 16 ∧ B (p0 + 3 * j + 1) % 16 ≤ 2)
def rS (u : St) (p k c tb : Nat) : St := sH (sH (sG (sH (sG (sH u 17 k (nI p)) 4 (nI (p + 1))) 14 k (nI c)) 4 (nI (p + 1 + 1))) 15 k (nI (tb / 16))) 16 k (nI (tb % 16))
theorem AtM.rS {B : Nat → Nat} {sz ce lp p k c tb : Nat} {u : St} (h : AtM B sz ce lp p u) (h1 : p + 2 ≤ sz) (h2 : p + 2 ≤ ce) : AtM B sz ce lp (p + 2) (rS u p k c tb) := ⟨h.1, h.2.1, rfl, h.2.2.2.1, h.2.2.2.2.1, h1, h2, h.2.2.2.2.2.2.2⟩
theorem R_sk1 {n f k cnt p0 la sum c0 : Nat} {B : Nat → Nat} {sz ce lp p : Nat} {u : St} (hn : 20000 ≤ n) (hk : k < c0) (hc0 : c0 ≤ 4) (h15 : u.1 15 = nI c0) (hone : c0 = 1 → sum = 0) (hF : FrM B p0 cnt u) (hB : FrB B p0 cnt) (hla : la < 100) (hs : sum < 1000) (hp : p < 900000) (hA : AtM B sz ce lp p u) : (∀ e, sk1 B sz ce lp cnt (nmB B p0) (hpB B p0) p la sum = .error e → ∃ w, m_Model_readScan_45 n (f + 1 + 1) (nI sum) (lI la) (nI k) u = m_Model_readScan_236 n w ∧ Gz w e) ∧ ∀ c, sk1 B sz ce lp cnt (nmB B p0) (hpB B p0) p la sum = .ok c → m_Model_readScan_45 n (f + 1 + 1) (nI sum) (lI la) (nI k) u = m_Model_readScan_45 n (f + 1) (nI (sum + hpB B p0 c)) (lI (c + 1)) (nI (k + 1)) (rS u p k c (B (p + 1))) := by
  obtain ⟨h12, hc, hPC⟩ := hF
  obtain ⟨-, hd, hfac⟩ := hB
  have hk4 : k < 4 := by omega
  have hin := nI_in (c := k) (N := 4) hk4 (by omega)
  have hN : ∀ i, i < cnt → u.2.1 2 i = nI (nmB B p0 i) ∧ nmB B p0 i < 256 := fun i hi => ⟨(hPC i hi).1, (hPC i hi).2.2.2.2⟩
  have hA0 : AtM B sz ce lp p (sH u 17 k (nI p)) := hA.h (by decide)
  have e0 : m_Model_readScan_45 n (f + 1 + 1) (nI sum) (lI la) (nI k) u = (m_Model_next n (sH u 17 k (nI p))).bind (fun z72 => (m_Model_named n z72.1 z72.2).bind (fun z75 => if z75.2.1 2 = 0 then (if lI la < z75.1 then m_Model_readScan_107 n (m_Model_readScan_45 n (f + 1)) (nI sum) (lI la) (nI k) z75.1 z75.2 else (m_Model_wrong n 7 (z75.2.2.1 17 k) z75.2).bind (fun z102 => m_Model_readScan_107 n (m_Model_readScan_45 n (f + 1)) (nI sum) (lI la) (nI k) z75.1 z102.2)) else m_Model_readScan_107 n (m_Model_readScan_45 n (f + 1)) (nI sum) (lI la) (nI k) z75.1 z75.2)) := by
    show m_Model_readScan_45b n _ (nI sum) (lI la) (nI k) u = _
    unfold m_Model_readScan_45b
    rw [if_neg (by rw [h15]; exact nI_ge (by omega) (by omega)), if_pos hA.2.1, if_neg hin, nI_clamp (by omega), hA.2.2.1]
    refine congrArg (fun g => (m_Model_next n (sH u 17 k (nI p))).bind g) (funext fun z72 => congrArg (fun g => (m_Model_named n z72.1 z72.2).bind g) (funext fun z75 => ?_))
    rw [if_neg (show ¬ (nI k < 0 ∨ 4 ≤ k) from fun q => q.elim (nI_pos (by omega)) (by omega))]
  rw [e0, hA0.next]
  unfold sk1 eb
  cases h1 : tk B sz ce lp p 0 255 with
  | error e =>
    have hz := fM_z (u := sH u 17 k (nI p)) (tk_er h1).1
    refine ⟨fun e' he => ?_, fun c he => (by cases he)⟩
    cases he
    obtain ⟨r, hr⟩ := R_namedT (n := n) (x := 0) (u := fM (sH u 17 k (nI p)) e) hn h12 hc
    rw [Option.bind_some]
    show ∃ w, (m_Model_named n 0 (fM (sH u 17 k (nI p)) e)).bind _ = _ ∧ _
    rw [hr, Option.bind_some]
    dsimp only
    rw [if_neg hz.ne]
    exact R_107F hk4 hz
  | ok v =>
    obtain ⟨a1, a2, a3, a4, a5⟩ := tk_lt h1
    have hA1 : AtM B sz ce lp (p + 1) (sG (sH u 17 k (nI p)) 4 (nI (p + 1))) := hA0.step (by omega) (by omega)
    have hnm := R_named (n := n) (v := v) (nm := nmB B p0) (u := sG (sH u 17 k (nI p)) 4 (nI (p + 1))) hn h12 hc (by omega) hN hd
    rw [Option.bind_some]
    show (∀ e, _ = _ → ∃ w, (m_Model_named n (nI v) (sG (sH u 17 k (nI p)) 4 (nI (p + 1)))).bind _ = _ ∧ _) ∧ ∀ c, _ = _ → (m_Model_named n (nI v) (sG (sH u 17 k (nI p)) 4 (nI (p + 1)))).bind _ = _
    rw [hnm, Option.bind_some]
    dsimp only
    rw [if_pos (show (sG (sH u 17 k (nI p)) 4 (nI (p + 1))).1 2 = 0 from hA.2.1)]
    have h17 : (sG (sH u 17 k (nI p)) 4 (nI (p + 1))).2.1 17 k = nI p := if_pos rfl
    have hz7 : Gz (fM (sG (sH u 17 k (nI p)) 4 (nI (p + 1))) (7, p)) (7, p) := ⟨rfl, rfl, by omega, by omega⟩
    rw [h17, R_wrong (u := sG (sH u 17 k (nI p)) 4 (nI (p + 1))) hA.2.1, Option.bind_some]
    cases h2 : fn (nmB B p0) v cnt 0 with
    | none =>
      refine ⟨fun e' he => ?_, fun c he => (by cases he)⟩
      cases he
      rw [if_neg (show ¬ lI la < oI none from lI_m hla)]
      exact R_107F hk4 hz7
    | some c =>
      obtain ⟨-, b2, b3⟩ := fn_lt h2
      dsimp only
      by_cases c1 : c < la
      · rw [if_pos c1]
        refine ⟨fun e' he => ?_, fun c he => (by cases he)⟩
        cases he
        rw [if_neg (show ¬ lI la < oI (some c) from fun q => (lI_lt (by omega) (by omega)).mp q c1)]
        exact R_107F hk4 hz7
      · rw [if_neg c1, if_pos (show lI la < oI (some c) from (lI_lt (by omega) (by omega)).mpr c1)]
        obtain ⟨g1, g2, g3, g4, g5⟩ := hPC c (by omega)
        obtain ⟨k1, k2, k3, k4, k5, k6⟩ := hfac c (by omega)
        have hinc := nI_in (c := c) (N := 4) (by omega) (by omega)
        have e107 : m_Model_readScan_107 n (m_Model_readScan_45 n (f + 1)) (nI sum) (lI la) (nI k) (oI (some c)) (sG (sH u 17 k (nI p)) 4 (nI (p + 1))) = if 10 < sum + hpB B p0 c then m_Model_readScan_163 n (m_Model_readScan_45 n (f + 1)) (nI (sum + hpB B p0 c)) (nI c) (nI k) 0 (sH (sG (sH u 17 k (nI p)) 4 (nI (p + 1))) 14 k (nI c)) else m_Model_readScan_158 n (m_Model_readScan_45 n (f + 1)) (nI (sum + hpB B p0 c)) (nI c) (nI k) (sH (sG (sH u 17 k (nI p)) 4 (nI (p + 1))) 14 k (nI c)) := by
          show m_Model_readScan_107 n (m_Model_readScan_45 n (f + 1)) (nI sum) (lI la) (nI k) (nI c) _ = _
          unfold m_Model_readScan_107
          rw [if_pos (show (sG (sH u 17 k (nI p)) 4 (nI (p + 1))).1 2 = 0 from hA.2.1), if_neg hin, if_neg hinc, if_neg hinc, nI_clamp (by omega), nI_clamp (by omega)]
          have ev : nI sum + (sG (sH u 17 k (nI p)) 4 (nI (p + 1))).2.1 3 c * (sG (sH u 17 k (nI p)) 4 (nI (p + 1))).2.1 4 c = nI (sum + hpB B p0 c) := by
            rw [show (sG (sH u 17 k (nI p)) 4 (nI (p + 1))).2.1 3 c = _ from g2, show (sG (sH u 17 k (nI p)) 4 (nI (p + 1))).2.1 4 c = _ from g3, pk_mul, nI_add]
          rw [ev]
          by_cases w1 : c0 = 1
          · rw [if_pos (show (sG (sH u 17 k (nI p)) 4 (nI (p + 1))).1 15 = 1 by show u.1 15 = 1; rw [h15, w1]; rfl), if_neg (by have := hone w1; omega)]
          · rw [if_neg (show ¬ (sG (sH u 17 k (nI p)) 4 (nI (p + 1))).1 15 = 1 by show ¬ u.1 15 = 1; rw [h15]; exact fun q => w1 ((nI_eq (a := c0) (b := 1) (by omega) (by omega)).mp q))]
            by_cases w2 : 10 < sum + hpB B p0 c
            · rw [if_pos (show (10 : Int32) < nI (sum + hpB B p0 c) from nI_lt (a := 10) w2 (by omega)), if_pos w2]
            · rw [if_neg (show ¬ (10 : Int32) < nI (sum + hpB B p0 c) from nI_nlt (a := 10) (by omega) (by omega)), if_neg w2]
        rw [e107]
        by_cases c2 : 10 < sum + hpB B p0 c
        · rw [if_pos c2, if_pos c2]
          refine ⟨fun e' he => ?_, fun c he => (by cases he)⟩
          cases he
          unfold m_Model_readScan_163
          rw [R_must0 (p := p) (u := sH (sG (sH u 17 k (nI p)) 4 (nI (p + 1))) 14 k (nI c)) hA.2.1 rfl, Option.bind_some]
          exact R_166F hk4 (show Gz (fM (sH (sG (sH u 17 k (nI p)) 4 (nI (p + 1))) 14 k (nI c)) (6, p)) (6, p) from ⟨rfl, rfl, by omega, by omega⟩)
        · rw [if_neg c2, if_neg c2]
          have hA2 : AtM B sz ce lp (p + 1) (sH (sG (sH u 17 k (nI p)) 4 (nI (p + 1))) 14 k (nI c)) := hA1.h (by decide)
          unfold m_Model_readScan_158 m_Model_readScan_163
          rw [R_must1, Option.bind_some]
          unfold m_Model_readScan_166
          rw [hA2.next, Option.bind_some]
          have hrg := tk_rg (B := B) (sz := sz) (ce := ce) (lp := lp) (p := p + 1) 0 51
          cases h3 : tk B sz ce lp (p + 1) 0 255 with
          | error e =>
            rw [hrg.1 e h3 hA1.b]
            have hz := fM_z (u := sH (sG (sH u 17 k (nI p)) 4 (nI (p + 1))) 14 k (nI c)) (tk_er h3).1
            refine ⟨fun e' he => ?_, fun c he => (by cases he)⟩
            cases he
            have := R_166F (n := n) (f := f) (k := k) (x1 := nI (sum + hpB B p0 c)) (x2 := nI c) hk4 hz
            unfold m_Model_readScan_166 at this
            rw [R_nextF hz, Option.bind_some] at this
            exact this
          | ok tb =>
            obtain ⟨d1, d2, d3, d4, d5⟩ := tk_lt h3
            rw [hrg.2 tb h3]
            have hnk : ¬ (nI k < 0 ∨ 4 ≤ k) := fun q => q.elim (nI_pos (by omega)) (by omega)
            rw [show nxM (sH (sG (sH u 17 k (nI p)) 4 (nI (p + 1))) 14 k (nI c)) (p + 1) (.ok tb) = (nI tb, sG (sH (sG (sH u 17 k (nI p)) 4 (nI (p + 1))) 14 k (nI c)) 4 (nI (p + 1 + 1))) from rfl]
            dsimp only
            rw [if_neg hin, Option.bind_some]
            rw [if_neg hin, nI_clamp (show k < 2 ^ 31 by omega), rm16 (by omega), dv16 (by omega), if_neg (show ¬ 0 < (sH (sG (sH (sG (sH u 17 k (nI p)) 4 (nI (p + 1))) 14 k (nI c)) 4 (nI (p + 1 + 1))) 15 k (nI (tb / 16))).1 2 by show ¬ 0 < u.1 2; rw [hA.2.1]; decide), if_neg hnk, if_neg hnk]
            have v15 : (sH (sG (sH (sG (sH u 17 k (nI p)) 4 (nI (p + 1))) 14 k (nI c)) 4 (nI (p + 1 + 1))) 15 k (nI (tb / 16))).2.1 15 k = nI (tb / 16) := if_pos rfl
            have v16 : (sH (sH (sG (sH (sG (sH u 17 k (nI p)) 4 (nI (p + 1))) 14 k (nI c)) 4 (nI (p + 1 + 1))) 15 k (nI (tb / 16))) 16 k (nI (tb % 16))).2.1 16 k = nI (tb % 16) := if_pos rfl
            rw [v15, v16]
            have eS : sH (sH (sG (sH (sG (sH u 17 k (nI p)) 4 (nI (p + 1))) 14 k (nI c)) 4 (nI (p + 1 + 1))) 15 k (nI (tb / 16))) 16 k (nI (tb % 16)) = rS u p k c (B (p + 1)) := by rw [← d1]; rfl
            rw [eS]
            have hz6 : Gz (fM (rS u p k c (B (p + 1))) (6, p + 1)) (6, p + 1) := ⟨rfl, rfl, by omega, by omega⟩
            have e226 : m_Model_readScan_226 n (m_Model_readScan_45 n (f + 1)) (nI (sum + hpB B p0 c)) (nI c) (nI k) (rS u p k c (B (p + 1))) = m_Model_readScan_236 n (fM (rS u p k c (B (p + 1))) (6, p + 1)) := by
              unfold m_Model_readScan_226 m_Model_readScan_227
              rw [R_must0 (p := p + 1) (u := rS u p k c (B (p + 1))) hA.2.1 rfl, Option.bind_some]
              exact R_45F hz6.ne
            have e222 : m_Model_readScan_222 n (m_Model_readScan_45 n (f + 1)) (nI (sum + hpB B p0 c)) (nI c) (nI k) (rS u p k c (B (p + 1))) = m_Model_readScan_45 n (f + 1) (nI (sum + hpB B p0 c)) (lI (c + 1)) (nI (k + 1)) (rS u p k c (B (p + 1))) := by
              unfold m_Model_readScan_222 m_Model_readScan_227
              rw [R_must1, Option.bind_some, nI_1]; rfl
            rw [e226, e222]
            by_cases c3 : tb < 0 ∨ 51 < tb
            · rw [if_pos c3]
              refine ⟨fun e' he => ?_, fun c he => (by cases he)⟩
              cases he
              refine ⟨_, ?_, hz6⟩
              by_cases q : 4 ≤ tb / 16
              · rw [if_pos (show (4 : Int32) ≤ nI (tb / 16) from nI_le (a := 4) q (by omega))]
              · rw [if_neg (show ¬ (4 : Int32) ≤ nI (tb / 16) from nI_ge (b := 4) (by omega) (by omega)), if_pos (show (4 : Int32) ≤ nI (tb % 16) from nI_le (a := 4) (by omega) (by omega))]
            · rw [if_neg c3]
              dsimp only
              rw [if_neg (show ¬ (4 : Int32) ≤ nI (tb / 16) from nI_ge (b := 4) (by omega) (by omega))]
              by_cases c4 : 3 < tb % 16
              · rw [if_pos c4, if_pos (show (4 : Int32) ≤ nI (tb % 16) from nI_le (a := 4) (by omega) (by omega))]
                refine ⟨fun e' he => ?_, fun c he => (by cases he)⟩
                cases he
                exact ⟨_, rfl, hz6⟩
              · rw [if_neg c4, if_neg (show ¬ (4 : Int32) ≤ nI (tb % 16) from nI_ge (b := 4) (by omega) (by omega))]
                refine ⟨fun e' he => (by cases he), fun c' he => ?_⟩
                cases he
                rfl
