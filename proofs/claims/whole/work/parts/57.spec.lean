theorem tk_ok {B : Nat → Nat} {sz ce lp p lo hi v : Nat} (h : tk B sz ce lp p lo hi = .ok v) : v = B p ∧ lo ≤ v ∧ v ≤ hi ∧ p < ce ∧ p < sz := by
  unfold tk at h
  by_cases c1 : ce ≤ p
  · rw [if_pos c1] at h; cases h
  · rw [if_neg c1] at h
    by_cases c2 : sz ≤ p
    · rw [if_pos c2] at h; cases h
    · rw [if_neg c2] at h
      by_cases c3 : B p < lo ∨ hi < B p
      · rw [if_pos c3] at h; cases h
      · rw [if_neg c3] at h
        cases h
        exact ⟨rfl, by omega, by omega, by omega, by omega⟩
theorem eb_ok {α β : Type} {s : Except Er α} {f : α → Except Er β} {b : β} (h : eb s f = .ok b) : ∃ a, s = .ok a ∧ f a = .ok b := by
  cases s with
  | error e => cases h
  | ok a => exact ⟨a, rfl, h⟩
theorem bdd_up {qm : Nat → Option Nat} {k q : Nat} (h : bdd qm) (hq : q < 100000) : bdd (va_up qm k (some q)) := by
  intro j x hx
  unfold va_up at hx
  by_cases c : j = k
  · rw [if_pos c] at hx; cases hx; exact hq
  · rw [if_neg c] at hx; exact h j x hx
theorem qs_b {B : Nat → Nat} {sz ce lp : Nat} (hs : sz ≤ 4096) : ∀ (r p : Nat) (qm qm' : Nat → Option Nat) (p' : Nat), bdd qm → qs B sz ce lp r p qm = .ok (p', qm') → bdd qm' := by
  intro r
  induction r with
  | zero => intro p qm qm' p' hb h; cases h; exact hb
  | succ r ih =>
    intro p qm qm' p' hb h
    unfold qs at h
    cases h1 : tk B sz ce lp p 0 3 with
    | error e => rw [h1] at h; cases h
    | ok tb =>
      rw [h1] at h
      have := tk_ok h1
      dsimp only at h
      cases h2 : chk B sz ce lp 1 255 64 (p + 1) with
      | error e => rw [h2] at h; cases h
      | ok x =>
        rw [h2] at h
        dsimp only at h
        by_cases c : p + 65 < ce
        · rw [if_pos c] at h; exact ih _ _ _ _ (bdd_up hb (by omega)) h
        · rw [if_neg c] at h; cases h; exact bdd_up hb (by omega)
theorem wd_b {B : Nat → Nat} {sz ce lp : Nat} (hs : sz ≤ 4096) : ∀ (r p : Nat) (qm qm' : Nat → Option Nat) (p' : Nat), bdd qm → wd B sz ce lp r p qm = .ok (p', qm') → bdd qm' := by
  intro r
  induction r with
  | zero => intro p qm qm' p' hb h; cases h; exact hb
  | succ r ih =>
    intro p qm qm' p' hb h
    unfold wd at h
    cases h1 : tk B sz ce lp p 0 19 with
    | error e => rw [h1] at h; cases h
    | ok tb =>
      rw [h1] at h
      have := tk_ok h1
      dsimp only at h
      by_cases c0 : 3 < tb ∧ tb < 16
      · rw [if_pos c0] at h; cases h
      · rw [if_neg c0] at h
        cases h2 : cs B sz ce lp 16 (p + 1) 1 0 0 with
        | error e => rw [h2] at h; cases h
        | ok tot =>
          rw [h2] at h
          dsimp only at h
          cases h3 : ss B sz ce lp (whi tb) tot (p + 17) (fun _ => false) with
          | error e => rw [h3] at h; cases h
          | ok x =>
            rw [h3] at h
            dsimp only at h
            by_cases c : p + 17 + tot < ce
            · rw [if_pos c] at h; exact ih _ _ _ _ (bdd_up hb (by omega)) h
            · rw [if_neg c] at h; cases h; exact bdd_up hb (by omega)
theorem fn_none {nm : Nat → Nat} {v : Nat} : ∀ (m j : Nat), (fn nm v m j).isSome = false → ∀ i, j ≤ i → i < j + m → nm i ≠ v := by
  intro m
  induction m with
  | zero => intro j _ i h1 h2; omega
  | succ m ih =>
    intro j h i h1 h2
    unfold fn at h
    by_cases c : nm j = v
    · rw [if_pos c] at h; cases h
    · rw [if_neg c] at h
      by_cases d : i = j
      · rw [d]; exact c
      · exact ih (j + 1) h i (by omega) (by omega)
theorem fc_ok {B : Nat → Nat} {sz ce lp p0 : Nat} : ∀ (m p i : Nat), p = p0 + 3 * i → distinct (nmB B p0) i → (∀ j, j < i → tqB B p0 j < 4 ∧ 1 ≤ B (p0 + 3 * j + 1) / 16 ∧ B (p0 + 3 * j + 1) / 16 ≤ 2 ∧ 1 ≤ B (p0 + 3 * j + 1) % 16 ∧ B (p0 + 3 * j + 1) % 16 ≤ 2) → fc B sz ce lp p0 m p i = .ok () → distinct (nmB B p0) (i + m) ∧ ∀ j, j < i + m → tqB B p0 j < 4 ∧ 1 ≤ B (p0 + 3 * j + 1) / 16 ∧ B (p0 + 3 * j + 1) / 16 ≤ 2 ∧ 1 ≤ B (p0 + 3 * j + 1) % 16 ∧ B (p0 + 3 * j + 1) % 16 ≤ 2 := by
  intro m
  induction m with
  | zero => intro p i _ h1 h2 _; exact ⟨h1, h2⟩
  | succ m ih =>
    intro p i hp h1 h2 h
    unfold fc at h
    cases a1 : tk B sz ce lp p 0 255 with
    | error e => rw [a1] at h; cases h
    | ok v =>
      rw [a1] at h
      dsimp only at h
      have b1 := tk_ok a1
      by_cases c1 : (fn (fun j => B (p0 + 3 * j)) v i 0).isSome = true
      · rw [if_pos c1] at h; cases h
      · rw [if_neg c1] at h
        cases a2 : tk B sz ce lp (p + 1) 0 255 with
        | error e => rw [a2] at h; cases h
        | ok hv =>
          rw [a2] at h
          dsimp only at h
          have b2 := tk_ok a2
          by_cases c2 : hv / 16 < 1 ∨ 2 < hv / 16 ∨ hv % 16 < 1 ∨ 2 < hv % 16
          · rw [if_pos c2] at h; cases h
          · rw [if_neg c2] at h
            cases a3 : tk B sz ce lp (p + 2) 0 3 with
            | error e => rw [a3] at h; cases h
            | ok w =>
              rw [a3] at h
              dsimp only at h
              have b3 := tk_ok a3
              have := ih (p + 3) (i + 1) (by omega) ?_ ?_ h
              · rw [show i + 1 + m = i + (m + 1) by omega] at this
                exact this
              · intro x y hx hy
                by_cases d : y = i
                · have q := fn_none i 0 (by simpa using c1) x (by omega) (by omega)
                  show B (p0 + 3 * x) ≠ B (p0 + 3 * y)
                  rw [d, ← hp, ← b1.1]
                  exact q
                · exact h1 x y hx (by omega)
              · intro j hj
                by_cases d : j = i
                · rw [d]
                  show B (p0 + 3 * i + 2) < 4 ∧ _
                  rw [← hp, ← b2.1, ← b3.1]
                  omega
                · exact h2 j (by omega)
theorem fr_ok {B : Nat → Nat} {sz ce lp p H W c : Nat} (h : fr B sz ce lp p = .ok (H, W, c)) : H ≤ 64 ∧ W ≤ 64 ∧ 1 ≤ c ∧ c ≤ 4 ∧ FrB B (p + 6) c := by
  unfold fr at h
  cases a1 : tk B sz ce lp p 8 8 with
  | error e => rw [a1] at h; cases h
  | ok v =>
    rw [a1] at h
    dsimp only at h
    cases a2 : tp B sz ce lp (p + 1) 0 64 with
    | error e => rw [a2] at h; cases h
    | ok H' =>
      rw [a2] at h
      dsimp only at h
      cases a3 : tp B sz ce lp (p + 3) 1 64 with
      | error e => rw [a3] at h; cases h
      | ok W' =>
        rw [a3] at h
        dsimp only at h
        cases a4 : tk B sz ce lp (p + 5) 1 4 with
        | error e => rw [a4] at h; cases h
        | ok c' =>
          rw [a4] at h
          dsimp only at h
          cases a5 : fc B sz ce lp (p + 6) c' (p + 6) 0 with
          | error e => rw [a5] at h; cases h
          | ok x =>
            rw [a5] at h
            cases h
            have b2 := tp_ok a2
            have b3 := tp_ok a3
            have b4 := tk_ok a4
            obtain ⟨q1, q2⟩ := fc_ok c (p + 6) 0 rfl (fun i j _ hj => absurd hj (by omega)) (fun j hj => absurd hj (by omega)) a5
            rw [Nat.zero_add] at q1 q2
            refine ⟨b2.2.2.2.2.2, b3.2.2.2.2.2, b4.2.1, b4.2.2.1, b4.2.2.1, q1, fun j hj => ?_⟩
            obtain ⟨y1, y2, y3, y4, y5⟩ := q2 j hj
            refine ⟨?_, y1, y2, y3, y4, y5⟩
            exact Nat.mul_le_mul y3 y5
theorem sc_ok {B : Nat → Nat} {sz ce lp p p0 cnt : Nat} {seq : Bool} {qm wm lt : Nat → Option Nat} {r : Nat × (Nat → Nat) × Nat × Nat × Nat} (h : sc B sz ce lp p p0 cnt seq qm wm lt = .ok r) : r.1 = B p ∧ r.2.2.1 = B (p + 1 + 2 * r.1) ∧ r.2.2.2.1 = B (p + 2 + 2 * r.1) ∧ r.2.2.2.2 = B (p + 3 + 2 * r.1) ∧ 1 ≤ r.1 ∧ r.1 ≤ 4 ∧ p + 4 + 2 * r.1 ≤ sz ∧ (∀ j, j < r.1 → fn (nmB B p0) (B (p + 1 + 2 * j)) cnt 0 = some (r.2.1 j)) ∧ (seq = true → r.2.2.1 = 0 ∧ r.2.2.2.1 = 63) := by
  unfold sc at h
  obtain ⟨c, h1, h⟩ := eb_ok h
  obtain ⟨cf, h2, h⟩ := eb_ok h
  obtain ⟨fi, h3, h⟩ := eb_ok h
  unfold scb at h
  obtain ⟨la, h4, h⟩ := eb_ok h
  obtain ⟨bb, h5, h⟩ := eb_ok h
  obtain ⟨_, h6, h⟩ := eb_ok h
  obtain ⟨_, h7, h⟩ := eb_ok h
  unfold tbs at h5
  obtain ⟨bb', h8, h5⟩ := eb_ok h5
  have k1 := tk_ok h1
  have k3 := tk_ok h3
  have k4 := tk_ok h4
  have k8 := tk_ok h8
  by_cases q : 13 < bb' % 16 ∨ (bb' / 16 ≠ 0 ∧ bb' / 16 ≠ bb' % 16 + 1)
  · rw [if_pos q] at h5; cases h5
  · rw [if_neg q] at h5
    cases h5
    cases h
    refine ⟨k1.1, k3.1, k4.1, k8.1, k1.2.1, k1.2.2.1, by dsimp only; omega, fun j hj => ?_, fun hs => ?_⟩
    · have := ((sk_ok _ _ _ _ _ _ _ h2).1 j hj).2.2.1
      rw [Nat.zero_add] at this
      exact this
    · dsimp only
      rw [hs] at k3 k4
      have a : sHi1 true c = 0 := rfl
      have b : sLo2 true fi = 63 := rfl
      have d : sHi2 true fi = 63 := rfl
      rw [a] at k3
      rw [b, d] at k4
      omega
/-- a scan in order: what has no first coefficient has none -/
def hsS (lt : Nat → Option Nat) : Prop := ∀ c, c < 4 → lt (64 * c) = none → ∀ i, i < 64 → lt (64 * c + i) = none
theorem nti_v {b base : Nat} : ∀ (m i : Nat) (lt : Nat → Option Nat) (q : Nat), nti b base m i lt q = if base + i ≤ q ∧ q < base + i + m then some b else lt q := by
  intro m
  induction m with
  | zero => intro i lt q; rw [if_neg (by omega)]; rfl
  | succ m ih =>
    intro i lt q
    show nti b base m (i + 1) (va_up lt (base + i) (some b)) q = _
    rw [ih]
    unfold va_up
    by_cases c : base + (i + 1) ≤ q ∧ q < base + (i + 1) + m
    · rw [if_pos c, if_pos (by omega)]
    · rw [if_neg c]
      by_cases d : q = base + i
      · rw [if_pos d, if_pos (by omega)]
      · rw [if_neg d, if_neg (by omega)]
theorem nt_hs {b : Nat} {cf : Nat → Nat} : ∀ (m k : Nat) (lt : Nat → Option Nat), hsS lt → hsS (nt b 0 63 cf m k lt) := by
  intro m
  induction m with
  | zero => intro k lt h; exact h
  | succ m ih =>
    intro k lt h
    refine ih (k + 1) _ (fun c hc h0 i hi => ?_)
    rw [nti_v] at h0 ⊢
    by_cases d : cf k = c
    · rw [if_pos (by omega)] at h0; cases h0
    · rw [if_neg (by omega)] at h0
      rw [if_neg (by omega)]
      exact h c hc h0 i hi
