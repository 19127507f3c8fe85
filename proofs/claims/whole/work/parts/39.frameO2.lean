/-- a frame: its height, its width, how many components -/
def fr (B : Nat → Nat) (sz ce lp p : Nat) : Except Er (Nat × Nat × Nat) := match tk B sz ce lp p 8 8 with
  | .error e => .error e
  | .ok _ => match tp B sz ce lp (p + 1) 0 64 with
    | .error e => .error e
    | .ok H => match tp B sz ce lp (p + 3) 1 64 with
      | .error e => .error e
      | .ok W => match tk B sz ce lp (p + 5) 1 4 with
        | .error e => .error e
        | .ok c => match fc B sz ce lp (p + 6) c (p + 6) 0 with
          | .error e => .error e
          | .ok _ => .ok (H, W, c)
theorem O_frame {n : Nat} {B : Nat → Nat} {sz ce lp p : Nat} {x1 : Int32} {t : St} (hn : 20000 ≤ n) (hp : p < 200000) (hA : At B sz ce lp p t) (h4 : t.1 4 = nI 0) : (∀ e, fr B sz ce lp p = .error e → ∃ z, m_Parser_readFrame n x1 t = some z ∧ Fz z e) ∧ ∀ H W c, fr B sz ce lp p = .ok (H, W, c) → ∃ z, m_Parser_readFrame n x1 t = some z ∧ At B sz ce lp (p + 6 + 3 * c) z ∧ z.1 1 = x1 ∧ z.1 2 = nI W ∧ z.1 3 = nI H ∧ z.1 4 = nI c ∧ PC B (p + 6) (z.2.1 3) c ∧ 1 ≤ c ∧ c ≤ 4 := by
  obtain ⟨g, hg⟩ : ∃ g, n = g + 1 := ⟨n - 1, by omega⟩
  have eM : ∀ (t : St), m_Parser_readFrame_46 n n x1 mI 0 t = some (sG t 1 x1) := by
    intro t
    have := O_f46m (n := n) (f := g) (x1 := x1) (t := t)
    rw [← hg] at this
    exact this
  have e0 : m_Parser_take n 8 8 t = _ := hA.take 8 8 (by omega) (by omega)
  unfold fr m_Parser_readFrame
  rw [e0]
  cases h1 : tk B sz ce lp p 8 8 with
  | error e =>
    have hz := fO_z (t := t) (tk_er h1).1
    refine ⟨fun e' he => ?_, fun H W c he => (by cases he)⟩
    cases he
    refine ⟨sG (sG (sG (fO t e) 3 mI) 2 mI) 1 x1, ?_, hz⟩
    have q1 : (sG (fO t e) 3 mI).1 13 ≠ 0 := hz.ne
    have q2 : (sG (sG (fO t e) 3 mI) 2 mI).1 13 ≠ 0 := hz.ne
    show ((some (mI, fO t e)).bind _) = _
    rw [Option.bind_some]
    dsimp only
    rw [O_takePairF hz.ne, Option.bind_some]
    dsimp only
    rw [O_takePairF q1, Option.bind_some]
    dsimp only
    rw [O_takeF q2, Option.bind_some]
    exact eM _
  | ok v =>
    obtain ⟨a1, a2, a3, a4, a5⟩ := tk_lt h1
    have hA1 := hA.step (q := p + 1) (by omega)
    have hP := O_takePair (n := n) (lo := 0) (hi := 64) hA1.1 hA1.2.1 hA1.2.2.1 hA1.2.2.2.1 hA1.2.2.2.2.1 (by omega) (by have := hA.2.2.2.2.2.2; omega) (by omega) (by omega)
    show _ ∧ _
    rw [show tkO t p (Except.ok v) = (nI v, sG t 9 (nI (p + 1))) from rfl, Option.bind_some]
    dsimp only
    cases h2 : tp B sz ce lp (p + 1) 0 64 with
    | error e =>
      obtain ⟨z, z1, z2⟩ := hP.1 e h2
      have z1' : m_Parser_takePair n 0 64 (sG t 9 (nI (p + 1))) = some (mI, z) := z1
      refine ⟨fun e' he => ?_, fun H W c he => (by cases he)⟩
      cases he
      refine ⟨sG (sG (sG z 3 mI) 2 mI) 1 x1, ?_, z2⟩
      have q1 : (sG z 3 mI).1 13 ≠ 0 := z2.ne
      have q2 : (sG (sG z 3 mI) 2 mI).1 13 ≠ 0 := z2.ne
      rw [z1', Option.bind_some]
      dsimp only
      rw [O_takePairF q1, Option.bind_some]
      dsimp only
      rw [O_takeF q2, Option.bind_some]
      exact eM _
    | ok H =>
      have z1 : m_Parser_takePair n 0 64 (sG t 9 (nI (p + 1))) = some (nI H, sG (sG t 9 (nI (p + 1))) 9 (nI (p + 1 + 2))) := hP.2 H h2
      rw [sG_sG] at z1
      rw [z1, Option.bind_some]
      dsimp only
      have hA2 : At B sz ce lp (p + 3) (sG (sG t 9 (nI (p + 1 + 2))) 3 (nI H)) := hA.step (q := p + 3) (by omega)
      have hP2 := O_takePair (n := n) (lo := 1) (hi := 64) hA2.1 hA2.2.1 hA2.2.2.1 hA2.2.2.2.1 hA2.2.2.2.2.1 (by omega) (by have := hA.2.2.2.2.2.2; omega) (by omega) (by omega)
      cases h3 : tp B sz ce lp (p + 3) 1 64 with
      | error e =>
        obtain ⟨z, y1, y2⟩ := hP2.1 e h3
        have y1' : m_Parser_takePair n 1 64 (sG (sG t 9 (nI (p + 1 + 2))) 3 (nI H)) = some (mI, z) := y1
        refine ⟨fun e' he => ?_, fun H W c he => (by cases he)⟩
        cases he
        refine ⟨sG (sG z 2 mI) 1 x1, ?_, y2⟩
        have q2 : (sG z 2 mI).1 13 ≠ 0 := y2.ne
        rw [y1', Option.bind_some]
        dsimp only
        rw [O_takeF q2, Option.bind_some]
        exact eM _
      | ok W =>
        have y1 : m_Parser_takePair n 1 64 (sG (sG t 9 (nI (p + 1 + 2))) 3 (nI H)) = some (nI W, sG (sG (sG t 9 (nI (p + 1 + 2))) 3 (nI H)) 9 (nI (p + 3 + 2))) := hP2.2 W h3
        rw [y1, Option.bind_some]
        dsimp only
        obtain ⟨t3, ht3⟩ : ∃ t3, t3 = sG (sG (sG (sG t 9 (nI (p + 1 + 2))) 3 (nI H)) 9 (nI (p + 3 + 2))) 2 (nI W) := ⟨_, rfl⟩
        rw [← ht3]
        have hA3 : At B sz ce lp (p + 5) t3 := by rw [ht3]; exact hA2.step (q := p + 5) (by omega)
        have i4 : t3.1 4 = nI 0 := by rw [ht3]; exact h4
        have i3 : t3.1 3 = nI H := by rw [ht3]; rfl
        have i2 : t3.1 2 = nI W := by rw [ht3]; rfl
        have e5 : m_Parser_take n 1 4 t3 = _ := hA3.take 1 4 (by omega) (by omega)
        cases h4' : tk B sz ce lp (p + 5) 1 4 with
        | error e =>
          have hz := fO_z (t := t3) (tk_er h4').1
          rw [h4'] at e5
          have e5' : m_Parser_take n 1 4 t3 = some (mI, fO t3 e) := e5
          refine ⟨fun e' he => ?_, fun H W c he => (by cases he)⟩
          cases he
          refine ⟨sG (fO t3 e) 1 x1, ?_, hz⟩
          rw [e5', Option.bind_some]
          exact eM _
        | ok c =>
          obtain ⟨c1, c2, c3, c4, c5⟩ := tk_lt h4'
          rw [h4'] at e5
          have e5' : m_Parser_take n 1 4 t3 = some (nI c, sG t3 9 (nI (p + 6))) := e5
          rw [e5', Option.bind_some]
          dsimp only
          have hf := O_f46 (n := n) (c := c) (p0 := p + 6) (x1 := x1) hn (by omega) (by omega) c n 0 (sG t3 9 (nI (p + 6))) (by omega) (by omega) (hA3.step (q := p + 6) (by omega)) i4 (fun j hj => absurd hj (Nat.not_lt_zero j))
          cases h5 : fc B sz ce lp (p + 6) c (p + 6) 0 with
          | error e =>
            refine ⟨fun e' he => ?_, fun H W c he => (by cases he)⟩
            cases he
            exact hf.1 e h5
          | ok _ =>
            refine ⟨fun e' he => (by cases he), fun H' W' c' he => ?_⟩
            cases he
            obtain ⟨z, z1, z2, z3, z4, z5, z6, z7⟩ := hf.2 h5
            exact ⟨z, z1, z2, z3, z6.trans i2, z7.trans i3, z4, z5, by omega, by omega⟩
