def sm (B : Nat → Nat) : Nat → Nat → Nat
  | _, 0 => 0
  | p, m + 1 => B p + sm B (p + 1) m
theorem cs_sum {B : Nat → Nat} {sz ce lp : Nat} : ∀ {m p l tot bl T : Nat}, cs B sz ce lp m p l tot bl = .ok T → T = tot + sm B p m
  | 0, p, l, tot, bl, T, h => by
    unfold cs at h
    by_cases c : tot = 0
    · rw [if_pos c] at h; cases h
    · rw [if_neg c] at h; cases h; rfl
  | m + 1, p, l, tot, bl, T, h => by
    unfold cs at h
    cases h1 : tk B sz ce lp p 0 255 with
    | error e => rw [h1] at h; cases h
    | ok c =>
      obtain ⟨a1, a2, a3, a4, a5⟩ := tk_lt h1
      rw [h1] at h
      dsimp only at h
      by_cases cc : 256 < tot + c ∨ 2 ^ l ≤ 2 * bl + c
      · rw [if_pos cc] at h; cases h
      · rw [if_neg cc] at h
        have := cs_sum (m := m) h
        rw [this, a1]
        show tot + B p + sm B (p + 1) m = tot + (B p + sm B (p + 1) m)
        omega
/-- the tables of words as the reference has them -/
def PMW (B : Nat → Nat) (sz : Nat) (h c s mn : Nat → Int32) (wm : Nat → Option Nat) : Prop := ∀ r, r < 8 → match wm r with
  | none => h r = 0
  | some a => h r = 1 ∧ a + 16 + sm B a 16 ≤ sz ∧ sm B a 16 ≤ 256 ∧ mn r = nI (sm B a 16) ∧ (∀ k, k < 16 → c (17 * r + 1 + k) = nI (B (a + k))) ∧ ∀ k, k < sm B a 16 → s (256 * r + k) = nI (B (a + 16 + k))
theorem R_table {n : Nat} {B : Nat → Nat} {sz ce lp r p hi : Nat} {u : St} {wm : Nat → Option Nat} (hn : 20000 ≤ n) (hr : r < 8) (hhi : hi = if r < 4 then 11 else 255) (hA : AtM B sz ce lp p u) (hQ : PMW B sz (u.2.1 8) (u.2.1 9) (u.2.1 10) (u.2.1 11) wm) : (∀ e, cs B sz ce lp 16 p 1 0 0 = .error e → ∃ w, m_Model_readTable n (nI r) u = some w ∧ Gz w e) ∧ ∀ T, cs B sz ce lp 16 p 1 0 0 = .ok T → (∀ e, ss B sz ce lp hi T (p + 16) (fun _ => false) = .error e → ∃ w, m_Model_readTable n (nI r) u = some w ∧ Gz w e) ∧ (ss B sz ce lp hi T (p + 16) (fun _ => false) = .ok () → ∃ w, m_Model_readTable n (nI r) u = some w ∧ AtM B sz ce lp (p + 16 + T) w ∧ PMW B sz (w.2.1 8) (w.2.1 9) (w.2.1 10) (w.2.1 11) (va_up wm r (some p))) := by
  have hc := R_cnt (n := n) hr 16 n 1 p 0 0 u (by omega) (by omega) (by omega) (by omega) (by decide) (fun q => by omega) hA
  refine ⟨fun e he => ?_, fun T hT => ?_⟩
  · obtain ⟨x, w, w1, w2⟩ := hc.1 e he
    obtain ⟨w', v1, v2⟩ := R_128F (n := n) (x2 := x) hn hr w2
    exact ⟨w', w1.trans v1, v2⟩
  · obtain ⟨w, w1, w2, w3, w4, w5, w6, w7⟩ := hc.2 T hT
    obtain ⟨t1, t2, t3⟩ := cs_ok (by omega) hT
    have ts := cs_sum hT
    obtain ⟨v, v1, v2, v3, v4, v5⟩ := R_seen (n := n) (x1 := nI r) (x2 := nI T) 256 n 0 w (by omega) (by omega)
    have hA2 : AtM B sz ce lp (p + 16) v := by
      have q := w2
      unfold AtM at q ⊢
      rw [v4]
      refine ⟨?_, q.2⟩
      show Inp B sz (v.1 1) (v.2.1 0) 16384
      rw [v4, v5 0 (by decide)]
      exact q.1
    have hs := R_syms (n := n) (B := B) (sz := sz) (ce := ce) (lp := lp) (r := r) (hi := hi) (T := T) hr hhi t1 T n 0 (p + 16) v (fun _ => false) (by omega) (by omega) hA2 (fun s h => ⟨fun _ => rfl, fun _ => v2 s (by omega) h⟩)
    have e0 : m_Model_readTable n (nI r) u = m_Model_readTable_156 n n (nI r) (nI T) (nI 0) v := Eq.trans w1 v1
    rw [e0]
    refine ⟨hs.1, fun he => ?_⟩
    obtain ⟨x, x1, x2, x3, x4, x5, x6, x7⟩ := hs.2 he
    refine ⟨x, x1, x2, ?_⟩
    intro r2 hr2
    rw [x6, x5, x7, v5 8 (by decide), v5 9 (by decide), v5 11 (by decide), w5, w7]
    show match (if r2 = r then some p else wm r2) with
      | none => _
      | some a => _
    have f8 : upd (u.2.1 8) r 1 r2 = if r2 = r then 1 else u.2.1 8 r2 := rfl
    have f11 : upd (u.2.1 11) r (nI T) r2 = if r2 = r then nI T else u.2.1 11 r2 := rfl
    rw [f8, f11]
    by_cases c : r2 = r
    · subst c
      rw [if_pos rfl, if_pos rfl, if_pos rfl]
      have hT2 : sm B p 16 = T := by omega
      have hsz := x2.2.2.2.2.2.1
      refine ⟨rfl, by omega, by omega, by rw [hT2], fun k hk => ?_, fun k hk => ?_⟩
      · exact w3 k hk
      · rw [hT2] at hk
        have := x3 k hk
        rw [show 256 * r2 + 0 + k = 256 * r2 + k by omega] at this
        exact this
    · rw [if_neg c, if_neg c, if_neg c]
      have q := hQ r2 hr2
      cases hq : wm r2 with
      | none => rw [hq] at q; exact q
      | some a =>
        rw [hq] at q
        obtain ⟨q1, q2, q3, q4, q5, q6⟩ := q
        refine ⟨q1, q2, q3, q4, fun k hk => ?_, fun k hk => ?_⟩
        · rw [w4 (17 * r2 + 1 + k) (by omega)]
          exact q5 k hk
        · rw [x4 (256 * r2 + k) (by omega), v5 10 (by decide), w6]
          exact q6 k hk
theorem R_wend {n f : Nat} {u : St} : m_Model_readWords_2 n (f + 1) 0 u = some u := by
  show m_Model_readWords_2b n _ 0 u = _
  unfold m_Model_readWords_2b
  rw [if_pos rfl]
theorem R_wendF {n f : Nat} {x : Int32} {u : St} (h : u.1 2 ≠ 0) : m_Model_readWords_2 n (f + 1) x u = some u := by
  show m_Model_readWords_2b n _ x u = _
  unfold m_Model_readWords_2b
  by_cases c : x = 0
  · rw [if_pos c]
  · rw [if_neg c, if_neg h]
theorem R_w77F {n f : Nat} {u : St} (h : u.1 2 ≠ 0) : m_Model_readWords_77 n (m_Model_readWords_2 n (f + 1)) u = some u := by
  unfold m_Model_readWords_77 m_Model_readWords_93
  by_cases c : u.1 5 ≤ u.1 4
  · rw [if_pos c]; exact R_wendF h
  · rw [if_neg c]; exact R_wendF h
theorem R_w48F {n f : Nat} {x2 y : Int32} {u z : St} (hm : m_Model_must n y u = some z) (h : z.1 2 ≠ 0) : m_Model_readWords_48 n (m_Model_readWords_2 n (f + 1)) x2 y u = some z := by
  unfold m_Model_readWords_48 m_Model_readWords_64
  rw [hm, Option.bind_some]
  by_cases c : (4 : Int32) ≤ x2
  · rw [if_pos c, if_neg h]; exact R_w77F h
  · rw [if_neg c, if_neg h]; exact R_w77F h
theorem R_w77 {n f : Nat} {B : Nat → Nat} {sz ce lp p : Nat} {u : St} (hA : AtM B sz ce lp p u) : m_Model_readWords_77 n (m_Model_readWords_2 n f) u = m_Model_readWords_2 n f (if p < ce then 1 else 0) u := by
  have hc := hA.2.2.2.2.2.2
  unfold m_Model_readWords_77 m_Model_readWords_93
  rw [hA.2.2.1, hA.2.2.2.1]
  by_cases c : p < ce
  · rw [if_neg (nI_ge c (by omega)), if_pos c]
  · rw [if_pos (nI_le (by omega) (by omega)), if_neg c]
theorem whi_row {tb : Nat} (h2 : ¬ (3 < tb ∧ tb < 16)) : whi tb = if wrow tb < 4 then 11 else 255 := by
  unfold whi wrow
  by_cases c : tb < 4
  · rw [if_pos (show tb < 16 by omega), if_pos c, if_pos c]
  · rw [if_neg (show ¬ tb < 16 by omega), if_neg c, if_neg (show ¬ tb - 12 < 4 by omega)]
theorem R_wd {n : Nat} {B : Nat → Nat} {sz ce lp : Nat} (hn : 20000 ≤ n) : ∀ (r f p : Nat) (u : St) (wm : Nat → Option Nat), sz ≤ p + r → r + 1 < f → 0 < r → AtM B sz ce lp p u → PMW B sz (u.2.1 8) (u.2.1 9) (u.2.1 10) (u.2.1 11) wm → (∀ e, wd B sz ce lp r p wm = .error e → ∃ w, m_Model_readWords_2 n f 1 u = some w ∧ Gz w e) ∧ ∀ p' wm', wd B sz ce lp r p wm = .ok (p', wm') → ∃ w, m_Model_readWords_2 n f 1 u = some w ∧ AtM B sz ce lp p' w ∧ PMW B sz (w.2.1 8) (w.2.1 9) (w.2.1 10) (w.2.1 11) wm' := by
  intro r
  induction r with
  | zero => intro f p u qm _ _ h; omega
  | succ r ih =>
    intro f p u wm hr hf _ hA hQ
    obtain ⟨f, rfl⟩ : ∃ g, f = g + 1 + 1 := ⟨f - 2, by omega⟩
    have e0 := hA.next (n := n)
    have e1 : ∀ v u1, m_Model_next n u = some (v, u1) → m_Model_readWords_2 n (f + 1 + 1) 1 u = if 0 < u1.1 2 then m_Model_readWords_43 n (m_Model_readWords_2 n (f + 1)) v u1 else if v < (4 : Int32) then m_Model_readWords_43 n (m_Model_readWords_2 n (f + 1)) v u1 else if v < (16 : Int32) then m_Model_readWords_47 n (m_Model_readWords_2 n (f + 1)) v u1 else if (20 : Int32) ≤ v then m_Model_readWords_47 n (m_Model_readWords_2 n (f + 1)) v u1 else m_Model_readWords_43 n (m_Model_readWords_2 n (f + 1)) v u1 := by
      intro v u1 hv
      show m_Model_readWords_2b n _ 1 u = _
      unfold m_Model_readWords_2b
      rw [if_neg (by decide), if_pos hA.2.1, hv, Option.bind_some]
    unfold wd
    cases h1 : tk B sz ce lp p 0 255 with
    | error e =>
      have hz := fM_z (u := u) (tk_er h1).1
      rw [(tk_rg 0 19).1 e h1 hA.b]
      rw [h1] at e0
      refine ⟨fun e' he => ?_, fun p' qm' he => (by cases he)⟩
      cases he
      refine ⟨fM u e, (e1 0 (fM u e) e0).trans ?_, hz⟩
      rw [if_pos hz.pos]
      exact R_w48F R_must1 hz.ne
    | ok tb =>
      obtain ⟨a1, a2, a3, a4, a5⟩ := tk_lt h1
      rw [(tk_rg 0 19).2 tb h1]
      rw [h1] at e0
      have e2 := e1 (nI tb) (sG u 4 (nI (p + 1))) e0
      rw [if_neg (show ¬ 0 < (sG u 4 (nI (p + 1))).1 2 by show ¬ 0 < u.1 2; rw [hA.2.1]; decide)] at e2
      have hA2 := hA.step (q := p + 1) (by omega) (by omega)
      have hz : Gz (fM (sG u 4 (nI (p + 1))) (6, p)) (6, p) := fM_z (Or.inr (Or.inr rfl))
      have e47 : m_Model_readWords_47 n (m_Model_readWords_2 n (f + 1)) (nI tb) (sG u 4 (nI (p + 1))) = some (fM (sG u 4 (nI (p + 1))) (6, p)) := R_w48F (R_must0 (p := p) (u := sG u 4 (nI (p + 1))) hA.2.1 rfl) hz.ne
      by_cases c : tb < 0 ∨ 19 < tb
      · rw [if_pos c]
        refine ⟨fun e' he => ?_, fun p' qm' he => (by cases he)⟩
        cases he
        refine ⟨_, ?_, hz⟩
        rw [e2, if_neg (show ¬ nI tb < (4 : Int32) from nI_nlt (b := 4) (by omega) (by omega)), if_neg (show ¬ nI tb < (16 : Int32) from nI_nlt (b := 16) (by omega) (by omega)), if_pos (show (20 : Int32) ≤ nI tb from nI_le (a := 20) (by omega) (by omega))]
        exact e47
      · rw [if_neg c]
        dsimp only
        by_cases c2 : 3 < tb ∧ tb < 16
        · rw [if_pos c2]
          refine ⟨fun e' he => ?_, fun p' qm' he => (by cases he)⟩
          cases he
          refine ⟨_, ?_, hz⟩
          rw [e2, if_neg (show ¬ nI tb < (4 : Int32) from nI_nlt (b := 4) (by omega) (by omega)), if_pos (show nI tb < (16 : Int32) from nI_lt (b := 16) (by omega) (by omega))]
          exact e47
        · rw [if_neg c2]
          have hw := wrow_lt (tb := tb) (by omega) c2
          have e3 : m_Model_readWords_2 n (f + 1 + 1) 1 u = m_Model_readWords_64 n (m_Model_readWords_2 n (f + 1)) (nI (wrow tb)) (sG u 4 (nI (p + 1))) := by
            rw [e2]
            unfold m_Model_readWords_43 m_Model_readWords_48 wrow
            rw [R_must1, Option.bind_some]
            by_cases c3 : tb < 4
            · rw [if_pos (show nI tb < (4 : Int32) from nI_lt (b := 4) c3 (by omega)), if_neg (show ¬ (4 : Int32) ≤ nI tb from nI_ge (b := 4) c3 (by omega)), if_pos c3]
            · rw [if_neg (show ¬ nI tb < (4 : Int32) from nI_nlt (b := 4) (by omega) (by omega)), if_neg (show ¬ nI tb < (16 : Int32) from nI_nlt (b := 16) (by omega) (by omega)), if_neg (show ¬ (20 : Int32) ≤ nI tb from nI_ge (b := 20) (by omega) (by omega)), if_pos (show (4 : Int32) ≤ nI tb from nI_le (a := 4) (by omega) (by omega)), if_neg c3, show (12 : Int32) = nI 12 from rfl, pk_sub (by omega)]
          have e4 : ∀ w, m_Model_readTable n (nI (wrow tb)) (sG u 4 (nI (p + 1))) = some w → m_Model_readWords_2 n (f + 1 + 1) 1 u = m_Model_readWords_77 n (m_Model_readWords_2 n (f + 1)) w := by
            intro w hw2
            rw [e3]
            unfold m_Model_readWords_64
            rw [if_pos (show (sG u 4 (nI (p + 1))).1 2 = 0 from hA.2.1), hw2, Option.bind_some]
          have ht := R_table (n := n) (r := wrow tb) (hi := whi tb) (u := sG u 4 (nI (p + 1))) hn hw (whi_row c2) hA2 hQ
          cases h2 : cs B sz ce lp 16 (p + 1) 1 0 0 with
          | error e =>
            refine ⟨fun e' he => ?_, fun p' qm' he => (by cases he)⟩
            cases he
            obtain ⟨w, w1, w2⟩ := ht.1 e h2
            exact ⟨w, (e4 w w1).trans (R_w77F w2.ne), w2⟩
          | ok T =>
            have ht2 := ht.2 T h2
            rw [show p + 1 + 16 = p + 17 by omega] at ht2
            dsimp only
            cases h3 : ss B sz ce lp (whi tb) T (p + 17) (fun _ => false) with
            | error e =>
              refine ⟨fun e' he => ?_, fun p' qm' he => (by cases he)⟩
              cases he
              obtain ⟨w, w1, w2⟩ := ht2.1 e h3
              exact ⟨w, (e4 w w1).trans (R_w77F w2.ne), w2⟩
            | ok _ =>
              obtain ⟨w, w1, w2, w3⟩ := ht2.2 h3
              dsimp only
              rw [e4 w w1, R_w77 w2]
              by_cases cc : p + 17 + T < ce
              · rw [if_pos cc, if_pos cc]
                have hsz := w2.2.2.2.2.2.1
                exact ih (f + 1) (p + 17 + T) _ _ (by omega) (by omega) (by omega) w2 w3
              · rw [if_neg cc, if_neg cc]
                refine ⟨fun e' he => (by cases he), fun p' qm' he => ?_⟩
                cases he
                exact ⟨_, R_wend, w2, w3⟩
