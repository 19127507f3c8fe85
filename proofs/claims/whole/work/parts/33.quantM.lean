/-- where the reference stands in contents -/
def AtM (B : Nat → Nat) (sz ce lp p : Nat) (u : St) : Prop := InM B sz u ∧ u.1 2 = 0 ∧ u.1 4 = nI p ∧ u.1 5 = nI ce ∧ u.1 16 = nI lp ∧ p ≤ sz ∧ p ≤ ce ∧ ce < 1000000
theorem AtM.next {n : Nat} {B : Nat → Nat} {sz ce lp p : Nat} {u : St} (h : AtM B sz ce lp p u) : m_Model_next n u = some (nxM u p (tk B sz ce lp p 0 255)) := R_next h.1 h.2.1 h.2.2.1 h.2.2.2.1 h.2.2.2.2.1 h.2.2.2.2.2.1 h.2.2.2.2.2.2.1 (by have := h.2.2.2.2.2.2.2; omega)
theorem AtM.step {B : Nat → Nat} {sz ce lp p : Nat} {u : St} (h : AtM B sz ce lp p u) {q : Nat} (h1 : q ≤ sz) (h2 : q ≤ ce) : AtM B sz ce lp q (sG u 4 (nI q)) := ⟨h.1, h.2.1, rfl, h.2.2.2.1, h.2.2.2.2.1, h1, h2, h.2.2.2.2.2.2.2⟩
theorem AtM.h {B : Nat → Nat} {sz ce lp p k i : Nat} {x : Int32} {u : St} (h : AtM B sz ce lp p u) (hk : 0 ≠ k) : AtM B sz ce lp p (sH u k i x) := by
  have e : (sH u k i x).2.1 0 = u.2.1 0 := if_neg hk
  refine ⟨?_, h.2.1, h.2.2.1, h.2.2.2.1, h.2.2.2.2.1, h.2.2.2.2.2.1, h.2.2.2.2.2.2.1, h.2.2.2.2.2.2.2⟩
  show Inp B sz (u.1 1) ((sH u k i x).2.1 0) 16384
  rw [e]; exact h.1
theorem tk_rg {B : Nat → Nat} {sz ce lp p : Nat} (lo hi : Nat) : (∀ e, tk B sz ce lp p 0 255 = .error e → (sz ≤ p ∨ ce ≤ p ∨ B p < 256) → tk B sz ce lp p lo hi = .error e) ∧ ∀ v, tk B sz ce lp p 0 255 = .ok v → tk B sz ce lp p lo hi = if v < lo ∨ hi < v then .error (6, p) else .ok v := by
  unfold tk
  by_cases c1 : ce ≤ p
  · rw [if_pos c1, if_pos c1]
    exact ⟨fun e h _ => h, fun v h => (by cases h)⟩
  · rw [if_neg c1, if_neg c1]
    by_cases c2 : sz ≤ p
    · rw [if_pos c2, if_pos c2]
      exact ⟨fun e h _ => h, fun v h => (by cases h)⟩
    · rw [if_neg c2, if_neg c2]
      by_cases c3 : B p < 0 ∨ 255 < B p
      · rw [if_pos c3]
        refine ⟨fun e h q => ?_, fun v h => (by cases h)⟩
        omega
      · rw [if_neg c3]
        refine ⟨fun e h q => (by cases h), fun v h => ?_⟩
        cases h; rfl
theorem AtM.b {B : Nat → Nat} {sz ce lp p : Nat} {u : St} (h : AtM B sz ce lp p u) : sz ≤ p ∨ ce ≤ p ∨ B p < 256 := by
  by_cases c : sz ≤ p
  · exact Or.inl c
  · exact Or.inr (Or.inr (h.1.2.2.2.2 p (by omega)).2)
/-- the tables of quantisers as the reference has them -/
def PMQ (B : Nat → Nat) (sz : Nat) (h q : Nat → Int32) (qm : Nat → Option Nat) : Prop := ∀ tb, tb < 4 → match qm tb with
  | none => h tb = 0
  | some a => h tb = 1 ∧ a + 64 ≤ sz ∧ ∀ k, k < 64 → q (64 * tb + k) = nI (B (a + k))
theorem nar1 : vp_nar .boolean 1 = 1 := by decide
theorem nar0 : vp_nar .boolean 0 = 0 := by decide
theorem R_q41F {n f : Nat} {K2 : Int32 → St → Option St} {x2 x3 : Int32} {u : St} (h : u.1 2 ≠ 0) : m_Model_readQuantisers_41 n K2 (f + 1) x2 x3 u = m_Model_readQuantisers_100 n K2 x2 u := by
  show m_Model_readQuantisers_41b n K2 _ x2 x3 u = _
  unfold m_Model_readQuantisers_41b
  by_cases c : (64 : Int32) ≤ x3
  · rw [if_pos c]
  · rw [if_neg c, if_neg h]
theorem sH_at {t : St} {k i : Nat} {v : Int32} : (sH t k i v).2.1 k = upd (t.2.1 k) i v := if_pos rfl
theorem sH_ne {t : St} {k j i : Nat} {v : Int32} (h : j ≠ k) : (sH t k i v).2.1 j = t.2.1 j := if_neg h
theorem R_vals {n : Nat} {K2 : Int32 → St → Option St} {B : Nat → Nat} {sz ce lp tb : Nat} (htb : tb < 4) : ∀ (m f j p : Nat) (u : St), j + m = 64 → m < f → AtM B sz ce lp p u → (∀ e, chk B sz ce lp 1 255 m p = .error e → ∃ w, m_Model_readQuantisers_41 n K2 f (nI tb) (nI j) u = m_Model_readQuantisers_100 n K2 (nI tb) w ∧ Gz w e) ∧ (chk B sz ce lp 1 255 m p = .ok () → ∃ w, m_Model_readQuantisers_41 n K2 f (nI tb) (nI j) u = m_Model_readQuantisers_100 n K2 (nI tb) w ∧ AtM B sz ce lp (p + m) w ∧ (∀ k, k < m → w.2.1 7 (64 * tb + j + k) = nI (B (p + k))) ∧ (∀ i, i < 64 * tb + j ∨ 64 * tb + 64 ≤ i → w.2.1 7 i = u.2.1 7 i) ∧ w.2.1 6 = u.2.1 6) := by
  intro m
  induction m with
  | zero =>
    intro f j p u hj hf hA
    obtain ⟨f, rfl⟩ : ∃ g, f = g + 1 := ⟨f - 1, by omega⟩
    refine ⟨fun e he => (by cases he), fun _ => ⟨u, ?_, hA, fun k hk => absurd hk (Nat.not_lt_zero k), fun _ _ => rfl, rfl⟩⟩
    show m_Model_readQuantisers_41b n K2 _ (nI tb) (nI j) u = _
    unfold m_Model_readQuantisers_41b
    rw [show j = 64 by omega, if_pos (show (64 : Int32) ≤ nI 64 by decide)]
  | succ m ih =>
    intro f j p u hj hf hA
    obtain ⟨f, rfl⟩ : ∃ g, f = g + 1 := ⟨f - 1, by omega⟩
    have e1 : m_Model_readQuantisers_41 n K2 (f + 1) (nI tb) (nI j) u = (some (nxM u p (tk B sz ce lp p 0 255))).bind (fun z55 => if 0 < z55.2.1 2 then m_Model_readQuantisers_73 n K2 (m_Model_readQuantisers_41 n K2 f) (nI tb) (nI j) z55.1 z55.2 else if z55.1 ≤ 0 then m_Model_readQuantisers_78 n K2 (m_Model_readQuantisers_41 n K2 f) (nI tb) (nI j) z55.1 0 z55.2 else m_Model_readQuantisers_73 n K2 (m_Model_readQuantisers_41 n K2 f) (nI tb) (nI j) z55.1 z55.2) := by
      show m_Model_readQuantisers_41b n K2 _ (nI tb) (nI j) u = _
      unfold m_Model_readQuantisers_41b
      rw [if_neg (show ¬ (64 : Int32) ≤ nI j from nI_ge (b := 64) (by omega) (by omega)), if_pos hA.2.1, hA.next]
    have e2 : ∀ (v y : Int32) (z : St), m_Model_readQuantisers_78 n K2 (m_Model_readQuantisers_41 n K2 f) (nI tb) (nI j) v y z = (m_Model_must n y z).bind (fun z78 => m_Model_readQuantisers_41 n K2 f (nI tb) (nI (j + 1)) (sH z78 7 (64 * tb + j) v)) := by
      intro v y z
      unfold m_Model_readQuantisers_78
      have q : (64 : Int32) * nI tb + nI j = nI (64 * tb + j) := by rw [show (64 : Int32) = nI 64 from rfl, pk_mul, nI_add]
      rw [q, nI_1]
      refine congrArg (fun g => (m_Model_must n y z).bind g) (funext fun z78 => ?_)
      rw [if_neg (nI_in (N := 256) (by omega) (by omega)), nI_clamp (by omega)]
    rw [e1]
    unfold chk
    cases h1 : tk B sz ce lp p 0 255 with
    | error e =>
      have hz := fM_z (u := u) (tk_er h1).1
      rw [(tk_rg 1 255).1 e h1 hA.b]
      refine ⟨fun e' he => ?_, fun he => (by cases he)⟩
      cases he
      refine ⟨sH (fM u e) 7 (64 * tb + j) 0, ?_, hz⟩
      simp only [Option.bind_some, nxM]
      rw [if_pos hz.pos]
      unfold m_Model_readQuantisers_73
      rw [e2, R_must1]
      obtain ⟨f, rfl⟩ : ∃ g, f = g + 1 := ⟨f - 1, by omega⟩
      exact R_q41F (u := sH (fM u e) 7 (64 * tb + j) 0) hz.ne
    | ok v =>
      obtain ⟨a1, a2, a3, a4, a5⟩ := tk_lt h1
      rw [(tk_rg 1 255).2 v h1]
      simp only [Option.bind_some, nxM]
      rw [if_neg (show ¬ 0 < (sG u 4 (nI (p + 1))).1 2 by show ¬ 0 < u.1 2; rw [hA.2.1]; decide)]
      by_cases c : v < 1 ∨ 255 < v
      · rw [if_pos c, if_pos (show nI v ≤ 0 by rw [show v = 0 by omega]; decide), e2, R_must0 (p := p) (u := sG u 4 (nI (p + 1))) hA.2.1 rfl]
        refine ⟨fun e' he => ?_, fun he => (by cases he)⟩
        cases he
        have hz : Gz (fM (sG u 4 (nI (p + 1))) (6, p)) (6, p) := fM_z (Or.inr (Or.inr rfl))
        refine ⟨sH (fM (sG u 4 (nI (p + 1))) (6, p)) 7 (64 * tb + j) (nI v), ?_, hz⟩
        obtain ⟨f, rfl⟩ : ∃ g, f = g + 1 := ⟨f - 1, by omega⟩
        exact R_q41F (u := sH (fM (sG u 4 (nI (p + 1))) (6, p)) 7 (64 * tb + j) (nI v)) hz.ne
      · rw [if_neg c, if_neg (show ¬ nI v ≤ 0 from nI_nle (by omega) (by omega))]
        unfold m_Model_readQuantisers_73
        rw [e2, R_must1]
        have hA2 : AtM B sz ce lp (p + 1) (sH (sG u 4 (nI (p + 1))) 7 (64 * tb + j) (nI v)) := (hA.step (by omega) (by omega)).h (by decide)
        have := ih f (j + 1) (p + 1) (sH (sG u 4 (nI (p + 1))) 7 (64 * tb + j) (nI v)) (by omega) (by omega) hA2
        refine ⟨this.1, fun hc => ?_⟩
        obtain ⟨w, w1, w2, w3, w4, w5⟩ := this.2 hc
        have w4' : ∀ i, i < 64 * tb + (j + 1) ∨ 64 * tb + 64 ≤ i → w.2.1 7 i = if i = 64 * tb + j then nI v else u.2.1 7 i := w4
        refine ⟨w, w1, by rw [show p + (m + 1) = p + 1 + m by omega]; exact w2, fun k hk => ?_, fun i hi => ?_, w5⟩
        · by_cases ck : k = 0
          · subst ck
            rw [w4' _ (Or.inl (by omega)), if_pos (by omega), a1]; rfl
          · have := w3 (k - 1) (by omega)
            rw [show 64 * tb + j + k = 64 * tb + (j + 1) + (k - 1) by omega, this, show p + 1 + (k - 1) = p + k by omega]
        · rw [w4' i (by omega), if_neg (by omega)]
theorem R_qend {n f : Nat} {u : St} : m_Model_readQuantisers_2 n (f + 1) 0 u = some u := by
  show m_Model_readQuantisers_2b n _ 0 u = _
  unfold m_Model_readQuantisers_2b
  rw [if_pos rfl]
theorem R_qendF {n f : Nat} {x : Int32} {u : St} (h : u.1 2 ≠ 0) : m_Model_readQuantisers_2 n (f + 1) x u = some u := by
  show m_Model_readQuantisers_2b n _ x u = _
  unfold m_Model_readQuantisers_2b
  by_cases c : x = 0
  · rw [if_pos c]
  · rw [if_neg c, if_neg h]
theorem R_q100F {n f : Nat} {x2 : Int32} {u : St} (h : u.1 2 ≠ 0) : m_Model_readQuantisers_100 n (m_Model_readQuantisers_2 n (f + 1)) x2 u = some u := by
  unfold m_Model_readQuantisers_100 m_Model_readQuantisers_114 m_Model_readQuantisers_130
  rw [if_neg h]
  by_cases c : u.1 5 ≤ u.1 4
  · rw [if_pos c]; exact R_qendF h
  · rw [if_neg c]; exact R_qendF h
theorem R_q100 {n f tb : Nat} {B : Nat → Nat} {sz ce lp p : Nat} {u : St} (htb : tb < 4) (hA : AtM B sz ce lp p u) : m_Model_readQuantisers_100 n (m_Model_readQuantisers_2 n f) (nI tb) u = m_Model_readQuantisers_2 n f (if p < ce then 1 else 0) (sH u 6 tb 1) := by
  unfold m_Model_readQuantisers_100 m_Model_readQuantisers_114 m_Model_readQuantisers_130
  rw [if_pos hA.2.1, if_neg (nI_in (N := 4) htb (by omega)), nI_clamp (by omega), nar1]
  have h4 : (sH u 6 tb 1).1 4 = nI p := hA.2.2.1
  have h5 : (sH u 6 tb 1).1 5 = nI ce := hA.2.2.2.1
  have hc := hA.2.2.2.2.2.2
  rw [h4, h5]
  by_cases c : p < ce
  · rw [if_neg (nI_ge c (by omega)), if_pos c]
  · rw [if_pos (nI_le (by omega) (by omega)), if_neg c]
theorem R_qs {n : Nat} {B : Nat → Nat} {sz ce lp : Nat} (hn : 20000 ≤ n) : ∀ (r f p : Nat) (u : St) (qm : Nat → Option Nat), sz ≤ p + r → r + 1 < f → 0 < r → AtM B sz ce lp p u → PMQ B sz (u.2.1 6) (u.2.1 7) qm → (∀ e, qs B sz ce lp r p qm = .error e → ∃ w, m_Model_readQuantisers_2 n f 1 u = some w ∧ Gz w e) ∧ ∀ p' qm', qs B sz ce lp r p qm = .ok (p', qm') → ∃ w, m_Model_readQuantisers_2 n f 1 u = some w ∧ AtM B sz ce lp p' w ∧ PMQ B sz (w.2.1 6) (w.2.1 7) qm' := by
  intro r
  induction r with
  | zero => intro f p u qm _ _ h; omega
  | succ r ih =>
    intro f p u qm hr hf _ hA hQ
    obtain ⟨f, rfl⟩ : ∃ g, f = g + 1 + 1 := ⟨f - 2, by omega⟩
    have e1 : m_Model_readQuantisers_2 n (f + 1 + 1) 1 u = (some (nxM u p (tk B sz ce lp p 0 255))).bind (fun z14 => if 0 < z14.2.1 2 then m_Model_readQuantisers_31 n (m_Model_readQuantisers_2 n (f + 1)) z14.1 z14.2 else if (4 : Int32) ≤ z14.1 then m_Model_readQuantisers_36 n (m_Model_readQuantisers_2 n (f + 1)) z14.1 0 z14.2 else m_Model_readQuantisers_31 n (m_Model_readQuantisers_2 n (f + 1)) z14.1 z14.2) := by
      show m_Model_readQuantisers_2b n _ 1 u = _
      unfold m_Model_readQuantisers_2b
      rw [if_neg (by decide), if_pos hA.2.1, hA.next]
    obtain ⟨n', hn'⟩ : ∃ g, n = g + 1 := ⟨n - 1, by omega⟩
    have eF : ∀ (K : Int32 → St → Option St) (x : Int32) (z : St), z.1 2 ≠ 0 → m_Model_readQuantisers_41 n K n x 0 z = m_Model_readQuantisers_100 n K x z := by
      intro K x z hz
      have := R_q41F (n := n) (f := n') (K2 := K) (x2 := x) (x3 := 0) hz
      rw [← hn'] at this
      exact this
    rw [e1]
    unfold qs
    cases h1 : tk B sz ce lp p 0 255 with
    | error e =>
      have hz := fM_z (u := u) (tk_er h1).1
      rw [(tk_rg 0 3).1 e h1 hA.b]
      refine ⟨fun e' he => ?_, fun p' qm' he => (by cases he)⟩
      cases he
      refine ⟨fM u e, ?_, hz⟩
      simp only [Option.bind_some, nxM]
      rw [if_pos hz.pos]
      unfold m_Model_readQuantisers_31 m_Model_readQuantisers_36
      rw [R_must1]
      exact (eF _ _ _ hz.ne).trans (R_q100F hz.ne)
    | ok v =>
      obtain ⟨a1, a2, a3, a4, a5⟩ := tk_lt h1
      rw [(tk_rg 0 3).2 v h1]
      simp only [Option.bind_some, nxM]
      rw [if_neg (show ¬ 0 < (sG u 4 (nI (p + 1))).1 2 by show ¬ 0 < u.1 2; rw [hA.2.1]; decide)]
      by_cases c : v < 0 ∨ 3 < v
      · rw [if_pos c, if_pos (show (4 : Int32) ≤ nI v from nI_le (a := 4) (by omega) (by omega))]
        refine ⟨fun e' he => ?_, fun p' qm' he => (by cases he)⟩
        cases he
        have hz : Gz (fM (sG u 4 (nI (p + 1))) (6, p)) (6, p) := fM_z (Or.inr (Or.inr rfl))
        refine ⟨_, ?_, hz⟩
        unfold m_Model_readQuantisers_36
        rw [R_must0 (p := p) (u := sG u 4 (nI (p + 1))) hA.2.1 rfl]
        exact (eF _ _ _ hz.ne).trans (R_q100F hz.ne)
      · rw [if_neg c, if_neg (show ¬ (4 : Int32) ≤ nI v from nI_ge (b := 4) (by omega) (by omega))]
        have e3 : m_Model_readQuantisers_31 n (m_Model_readQuantisers_2 n (f + 1)) (nI v) (sG u 4 (nI (p + 1))) = m_Model_readQuantisers_41 n (m_Model_readQuantisers_2 n (f + 1)) n (nI v) (nI 0) (sG u 4 (nI (p + 1))) := by
          unfold m_Model_readQuantisers_31 m_Model_readQuantisers_36
          rw [R_must1]; rfl
        rw [e3]
        have hv := R_vals (n := n) (K2 := m_Model_readQuantisers_2 n (f + 1)) (tb := v) (by omega) 64 n 0 (p + 1) (sG u 4 (nI (p + 1))) (by omega) (by omega) (hA.step (by omega) (by omega))
        cases h2 : chk B sz ce lp 1 255 64 (p + 1) with
        | error e =>
          refine ⟨fun e' he => ?_, fun p' qm' he => (by cases he)⟩
          cases he
          obtain ⟨w, w1, w2⟩ := hv.1 e h2
          exact ⟨w, w1.trans (R_q100F w2.ne), w2⟩
        | ok x =>
          obtain ⟨w, w1, w2, w3, w4, w5⟩ := hv.2 h2
          rw [w1, R_q100 (by omega) w2]
          have hA2 : AtM B sz ce lp (p + 65) (sH w 6 v 1) := by
            have := w2.h (k := 6) (i := v) (x := 1) (by decide)
            rw [show p + 1 + 64 = p + 65 by omega] at this
            exact this
          have hQ2 : PMQ B sz ((sH w 6 v 1).2.1 6) ((sH w 6 v 1).2.1 7) (va_up qm v (some (p + 1))) := by
            intro tb htb
            have e4 : (sH w 6 v 1).2.1 6 tb = if tb = v then 1 else u.2.1 6 tb := by
              show (if tb = v then 1 else w.2.1 6 tb) = _
              rw [w5]; rfl
            have e5 : (sH w 6 v 1).2.1 7 = w.2.1 7 := rfl
            rw [e4, e5]
            show match (if tb = v then some (p + 1) else qm tb) with
              | none => _
              | some a => _
            by_cases ct : tb = v
            · subst ct
              rw [if_pos rfl, if_pos rfl]
              refine ⟨rfl, ?_, fun k hk => ?_⟩
              · have := w2.2.2.2.2.2.1
                omega
              · have := w3 k hk
                rw [show 64 * tb + 0 + k = 64 * tb + k by omega] at this
                exact this
            · rw [if_neg ct, if_neg ct]
              have := hQ tb htb
              cases hq : qm tb with
              | none => rw [hq] at this; exact this
              | some a =>
                rw [hq] at this
                refine ⟨this.1, this.2.1, fun k hk => ?_⟩
                rw [w4 (64 * tb + k) (by omega)]
                exact this.2.2 k hk
          dsimp only
          rw [show p + 1 + 64 = p + 65 by omega]
          by_cases cc : p + 65 < ce
          · rw [if_pos cc, if_pos cc]
            have hsz := hA2.2.2.2.2.2.1
            exact ih (f + 1) (p + 65) _ _ (by omega) (by omega) (by omega) hA2 hQ2
          · rw [if_neg cc, if_neg cc]
            refine ⟨fun e' he => (by cases he), fun p' qm' he => ?_⟩
            cases he
            exact ⟨_, R_qend, hA2, hQ2⟩
