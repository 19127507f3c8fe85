def PD (B : Nat → Nat) (c0 : Nat) (u : St) (k : Nat) : Prop := ∀ j, j < k → u.2.1 15 j = nI (B (c0 + 2 + 2 * j) / 16) ∧ u.2.1 16 j = nI (B (c0 + 2 + 2 * j) % 16) ∧ u.2.1 17 j = nI (c0 + 1 + 2 * j)
theorem PD_rS {B : Nat → Nat} {c0 k c : Nat} {u : St} (h : PD B c0 u k) : PD B c0 (rS u (c0 + 1 + 2 * k) k c (B (c0 + 1 + 2 * k + 1))) (k + 1) := by
  intro j hj
  show (if j = k then nI (B (c0 + 1 + 2 * k + 1) / 16) else u.2.1 15 j) = _ ∧ (if j = k then nI (B (c0 + 1 + 2 * k + 1) % 16) else u.2.1 16 j) = _ ∧ (if j = k then nI (c0 + 1 + 2 * k) else u.2.1 17 j) = _
  by_cases q : j = k
  · rw [if_pos q, if_pos q, if_pos q, q, show c0 + 1 + 2 * k + 1 = c0 + 2 + 2 * k by omega]; exact ⟨rfl, rfl, rfl⟩
  · rw [if_neg q, if_neg q, if_neg q]; exact h j (by omega)
theorem EqX_rS {u : St} {p k c tb : Nat} : EqX [4] [14, 15, 16, 17] [] u (rS u p k c tb) := EqX.h (EqX.h (EqX.g (EqX.h (EqX.g (EqX.h EqX.rf (by decide)) (by decide)) (by decide)) (by decide)) (by decide)) (by decide)
theorem R_sk {n cnt p0 c c0 : Nat} {B : Nat → Nat} {sz ce lp : Nat} (hn : 20000 ≤ n) (hc : c ≤ 4) (hB : FrB B p0 cnt) (hp : c0 < 800000) : ∀ (m f k la sum : Nat) (cf : Nat → Nat) (u : St), k + m = c → m + 2 < f → la < 50 → sum ≤ 10 → (c = 1 → k = 0 → sum = 0) → u.1 15 = nI c → FrM B p0 cnt u → PS (u.2.1 14) cf cnt k → PD B c0 u k → AtM B sz ce lp (c0 + 1 + 2 * k) u → (∀ e, sk B sz ce lp cnt (nmB B p0) (hpB B p0) m (c0 + 1 + 2 * k) k la sum cf = .error e → ∃ w, m_Model_readScan_45 n f (nI sum) (lI la) (nI k) u = m_Model_readScan_236 n w ∧ Gz w e) ∧ ∀ cf', sk B sz ce lp cnt (nmB B p0) (hpB B p0) m (c0 + 1 + 2 * k) k la sum cf = .ok cf' → ∃ w, m_Model_readScan_45 n f (nI sum) (lI la) (nI k) u = m_Model_readScan_236 n w ∧ AtM B sz ce lp (c0 + 1 + 2 * c) w ∧ PS (w.2.1 14) cf' cnt c ∧ PD B c0 w c ∧ EqX [4] [14, 15, 16, 17] [] u w := by
  intro m
  induction m with
  | zero =>
    intro f k la sum cf u hk hf hla hs hone h15 hF hP hD hA
    obtain ⟨f, rfl⟩ : ∃ g, f = g + 1 := ⟨f - 1, by omega⟩
    obtain rfl : k = c := hk
    refine ⟨fun e he => (by cases he), fun cf' he => ⟨u, ?_, hA, ?_, hD, EqX.rf⟩⟩
    · show m_Model_readScan_45b n _ (nI sum) (lI la) (nI k) u = _
      unfold m_Model_readScan_45b
      rw [if_pos (by rw [h15]; exact Int32.le_refl _)]
    · cases he; exact hP
  | succ m ih =>
    intro f k la sum cf u hk hf hla hs hone h15 hF hP hD hA
    obtain ⟨f, rfl⟩ : ∃ g, f = g + 1 := ⟨f - 1, by omega⟩
    obtain ⟨f, rfl⟩ : ∃ g, f = g + 1 := ⟨f - 1, by omega⟩
    have h1 := R_sk1 (n := n) (f := f) (k := k) (la := la) (sum := sum) (c0 := c) hn (by omega) (by omega) h15 (fun q => hone q (by omega)) hF hB (by omega) (by omega) (by omega) hA
    show (∀ e, eb (sk1 B sz ce lp cnt (nmB B p0) (hpB B p0) (c0 + 1 + 2 * k) la sum) _ = _ → _) ∧ ∀ cf', eb (sk1 B sz ce lp cnt (nmB B p0) (hpB B p0) (c0 + 1 + 2 * k) la sum) _ = _ → _
    cases h2 : sk1 B sz ce lp cnt (nmB B p0) (hpB B p0) (c0 + 1 + 2 * k) la sum with
    | error e =>
      refine ⟨fun e' he => ?_, fun cf' he => (by cases he)⟩
      cases he
      exact h1.1 e h2
    | ok c1 =>
      obtain ⟨g1, g2, g3, g4, g5, g6, -⟩ := sk1_ok h2
      have h3 := h1.2 c1 h2
      have hc4 := hF.2.1
      have hx := EqX_rS (u := u) (p := c0 + 1 + 2 * k) (k := k) (c := c1) (tb := B (c0 + 1 + 2 * k + 1))
      have := ih (f + 1) (k + 1) (c1 + 1) (sum + hpB B p0 c1) (va_up cf k c1) (rS u (c0 + 1 + 2 * k) k c1 (B (c0 + 1 + 2 * k + 1))) (by omega) (by omega) (by omega) (by omega) (by omega) h15 hF (PS_up hP g3) (PD_rS hD) (by rw [show c0 + 1 + 2 * (k + 1) = c0 + 1 + 2 * k + 2 by omega]; exact hA.rS g1 g2)
      rw [show c0 + 1 + 2 * (k + 1) = c0 + 1 + 2 * k + 2 by omega] at this
      rw [h3]
      refine ⟨this.1, fun cf' he => ?_⟩
      obtain ⟨w, w1, w2, w3, w4, w5⟩ := this.2 cf' he
      exact ⟨w, w1, w2, w3, w4, hx.tr w5⟩
theorem PL_neg {f : Nat → Int32} {lt : Nat → Option Nat} {i : Nat} (h : PL f lt) (hi : i < 256) : (f i < 0 ↔ lt i = none) ∧ (0 ≤ f i ↔ lt i ≠ none) := by
  obtain ⟨h1, h2⟩ := h i hi
  rw [h1]
  cases hl : lt i with
  | none => exact ⟨⟨fun _ => rfl, fun _ => by show mI < 0; decide⟩, ⟨fun q => absurd q (by show ¬ 0 ≤ mI; decide), fun q => absurd rfl q⟩⟩
  | some b =>
    have := h2 b hl
    exact ⟨⟨fun q => absurd q (show ¬ nI b < 0 from nI_pos (by omega)), fun q => (by cases q)⟩, ⟨fun _ q => (by cases q), fun _ => show 0 ≤ nI b from nI_pos' (by omega)⟩⟩
theorem R_o62F {n base la : Nat} {x2 : Int32} {u : St} (hla : la < 64) (hb : base + 64 ≤ 256) (h18 : u.1 18 = nI la) (h : u.1 2 ≠ 0) : ∀ (m f i : Nat), i + m = la + 1 → m < f → m_Model_order_62 n f x2 (nI base) (nI i) u = some u := by
  intro m
  induction m with
  | zero =>
    intro f i hi hf
    obtain ⟨f, rfl⟩ : ∃ g, f = g + 1 := ⟨f - 1, by omega⟩
    show m_Model_order_62b n _ x2 (nI base) (nI i) u = _
    unfold m_Model_order_62b
    rw [if_pos (by rw [h18]; exact nI_lt (by omega) (by omega))]
  | succ m ih =>
    intro f i hi hf
    obtain ⟨f, rfl⟩ : ∃ g, f = g + 1 := ⟨f - 1, by omega⟩
    have e136 : ∀ y, m_Model_order_136 n (m_Model_order_62 n f) x2 (nI base) (nI i) y u = some u := by
      intro y
      unfold m_Model_order_136 m_Model_order_157
      rw [R_wrongF h, Option.bind_some, nI_1, ih f (i + 1) (by omega) (by omega)]
      exact ite_self _
    show m_Model_order_62b n _ x2 (nI base) (nI i) u = _
    unfold m_Model_order_62b m_Model_order_135
    rw [if_neg (by rw [h18]; exact nI_nlt (by omega) (by omega)), nI_add, if_neg (nI_in (N := 256) (by omega) (by omega)), if_neg (nI_in (N := 256) (by omega) (by omega)), e136, e136]
    simp only [ite_self]
theorem R_o62 {n base la bf bi q : Nat} {lt : Nat → Option Nat} {u : St} (hla : la < 64) (hb : base + 64 ≤ 256) (h18 : u.1 18 = nI la) (h19 : u.1 19 = nI bf) (h20 : u.1 20 = nI bi) (hbf : bf < 16) (hbi : bi < 16) (hbb : bf = 0 ∨ bf = bi + 1) (h2 : u.1 2 = 0) (h4 : u.1 4 = nI (q + 1)) (hL : PL (u.2.1 13) lt) : ∀ (m f i : Nat), i + m = la + 1 → m < f → m_Model_order_62 n f 1 (nI base) (nI i) u = some (if allD lt (dueOf bf) base m i = true then u else fM u (6, q)) := by
  intro m
  induction m with
  | zero =>
    intro f i hi hf
    obtain ⟨f, rfl⟩ : ∃ g, f = g + 1 := ⟨f - 1, by omega⟩
    show m_Model_order_62b n _ 1 (nI base) (nI i) u = _
    unfold m_Model_order_62b
    rw [if_pos (by rw [h18]; exact nI_lt (by omega) (by omega))]; rfl
  | succ m ih =>
    intro f i hi hf
    obtain ⟨f, rfl⟩ : ∃ g, f = g + 1 := ⟨f - 1, by omega⟩
    have hz : Gz (fM u (6, q)) (6, q) := ⟨rfl, rfl, by omega, by omega⟩
    have e0 : m_Model_order_136 n (m_Model_order_62 n f) 1 (nI base) (nI i) 0 u = some (fM u (6, q)) := by
      unfold m_Model_order_136 m_Model_order_157
      rw [if_pos rfl, R_wrong h2, Option.bind_some, h4, nI_pred, nI_1]
      exact R_o62F (u := fM u (6, q)) hla hb h18 hz.ne m f (i + 1) (by omega) (by omega)
    have e1 : m_Model_order_136 n (m_Model_order_62 n f) 1 (nI base) (nI i) 1 u = some (if allD lt (dueOf bf) base m (i + 1) = true then u else fM u (6, q)) := by
      unfold m_Model_order_136 m_Model_order_157
      rw [if_neg (by decide), nI_1, ih f (i + 1) (by omega) (by omega)]
    obtain ⟨l1, l2⟩ := hL (base + i) (by omega)
    obtain ⟨n1, n2⟩ := PL_neg hL (i := base + i) (by omega)
    have e2 : m_Model_order_62 n (f + 1) 1 (nI base) (nI i) u = if lt (base + i) = dueOf bf then m_Model_order_136 n (m_Model_order_62 n f) 1 (nI base) (nI i) 1 u else m_Model_order_136 n (m_Model_order_62 n f) 1 (nI base) (nI i) 0 u := by
      show m_Model_order_62b n _ 1 (nI base) (nI i) u = _
      unfold m_Model_order_62b m_Model_order_135
      rw [if_neg (by rw [h18]; exact nI_nlt (by omega) (by omega)), if_neg (by decide), nI_add, if_neg (nI_in (N := 256) (by omega) (by omega)), if_neg (nI_in (N := 256) (by omega) (by omega)), nI_clamp (by omega), h19, h20]
      unfold dueOf
      cases hl : lt (base + i) with
      | none =>
        rw [if_neg (fun x => n2.mp x hl)]
        by_cases z : bf = 0
        · rw [if_pos (show nI bf = 0 by rw [z]; rfl), if_pos z, if_pos rfl]
        · rw [if_neg (nI_ne0 (by omega) (by omega)), if_neg z, if_neg (by simp)]
      | some b =>
        have hb16 := l2 b hl
        rw [if_pos (n2.mpr (by rw [hl]; simp)), nI_1]
        by_cases z : bf = 0
        · rw [if_neg (show ¬ nI bf = nI (bi + 1) from fun x => by have := (nI_eq (by omega) (by omega)).mp x; omega), if_pos z, if_neg (by simp)]
        · rw [if_pos (show nI bf = nI (bi + 1) by rw [show bf = bi + 1 by omega]), l1, hl, if_neg z]
          by_cases z2 : b = bf
          · rw [if_pos (show oI (some b) = nI bf by rw [z2]; rfl), if_pos (by rw [z2])]
          · rw [if_neg (show ¬ oI (some b) = nI bf from fun x => z2 ((nI_eq (by omega) (by omega)).mp x)), if_neg (fun x => z2 (Option.some.inj x))]
    rw [e2, e0, e1]
    show _ = some (if (decide (lt (base + i) = dueOf bf) && allD lt (dueOf bf) base m (i + 1)) = true then _ else _)
    by_cases e : lt (base + i) = dueOf bf
    · rw [if_pos e, decide_eq_true e, Bool.true_and]
    · rw [if_neg e, decide_eq_false e, Bool.false_and, if_neg (by decide)]
/-- a scan as the reference holds it -/
def ScM (B : Nat → Nat) (c0 c fi la bf bi cnt : Nat) (cf : Nat → Nat) (u : St) : Prop := u.1 15 = nI c ∧ u.1 17 = nI fi ∧ u.1 18 = nI la ∧ u.1 19 = nI bf ∧ u.1 20 = nI bi ∧ PS (u.2.1 14) cf cnt c ∧ PD B c0 u c ∧ c ≤ 4 ∧ cnt ≤ 4 ∧ fi ≤ la ∧ la < 64 ∧ bf < 16 ∧ bi < 16 ∧ c0 < 100000 ∧ (bf = 0 ∨ bf = bi + 1)
theorem allD_t {lt : Nat → Option Nat} {due : Option Nat} {base : Nat} : ∀ (m i : Nat), (∀ j, i ≤ j → j < i + m → lt (base + j) = due) → allD lt due base m i = true := by
  intro m
  induction m with
  | zero => intro i _; rfl
  | succ m ih =>
    intro i h
    show (decide (lt (base + i) = due) && allD lt due base m (i + 1)) = true
    rw [decide_eq_true (h i (by omega) (by omega)), ih (i + 1) (fun j h1 h2 => h j (by omega) (by omega))]; rfl
theorem R_order {n c0 c fi la bf bi cnt q k : Nat} {B : Nat → Nat} {cf : Nat → Nat} {lt : Nat → Option Nat} {seq : Bool} {x2 : Int32} {u : St} (hn : 20000 ≤ n) (hS : ScM B c0 c fi la bf bi cnt cf u) (h2 : u.1 2 = 0) (h4 : u.1 4 = nI (q + 1)) (hL : PL (u.2.1 13) lt) (hx : x2 = if seq = true then 0 else 1) (hsq : seq = true → fi = 0 ∧ la = 63 ∧ bf = 0) (hss : seq = true → ∀ c, c < 4 → lt (64 * c) = none → ∀ i, i < 64 → lt (64 * c + i) = none) (hk : k < c) (hq : q < 100000) : Ev Gz (m_Model_order n (nI k) x2 u) (od1 seq c0 q fi la bf lt cf k) (fun _ w => w = u) := by
  obtain ⟨s15, s17, s18, s19, s20, sP, sD, sc, scn, sfl, sla, sbf, sbi, sc0, sbb⟩ := hS
  obtain ⟨p1, p2⟩ := sP k hk
  obtain ⟨-, -, d3⟩ := sD k hk
  have hin := nI_in (c := k) (N := 4) (by omega) (by omega)
  have hinr := nI_in (c := 64 * cf k) (N := 256) (by omega) (by omega)
  have ek : (nI k).toNatClampNeg = k := nI_clamp (by omega)
  obtain ⟨n1, n2⟩ := PL_neg hL (i := 64 * cf k) (by omega)
  have er : (64 : Int32) * u.2.1 14 k = nI (64 * cf k) := by rw [p1, show (64 : Int32) = nI 64 from rfl, pk_mul]
  have hz7 : Gz (fM u (7, c0 + 1 + 2 * k)) (7, c0 + 1 + 2 * k) := ⟨rfl, rfl, by omega, by omega⟩
  have e42 : m_Model_order_42 n (nI k) x2 (nI (64 * cf k)) u = some (fM u (7, c0 + 1 + 2 * k)) := by
    unfold m_Model_order_42 m_Model_order_56
    rw [if_neg hin, ek, d3, R_wrong h2, Option.bind_some]
    show m_Model_order_62 n n x2 (nI (64 * cf k)) (u.1 17) (fM u (7, c0 + 1 + 2 * k)) = _
    rw [s17]
    exact R_o62F (u := fM u (7, c0 + 1 + 2 * k)) sla (by omega) s18 hz7.ne (la + 1 - fi) n fi (by omega) (by omega)
  unfold m_Model_order
  rw [if_neg hin, ek, er, if_neg hinr, if_neg hinr, nI_clamp (by omega), s17]
  unfold od1
  by_cases s : seq = true
  · obtain ⟨f1, f2, f3⟩ := hsq s
    rw [hx, if_pos s, if_pos rfl]
    rw [hx, if_pos s] at e42
    obtain ⟨f, rfl⟩ : ∃ g, n = g + 1 := ⟨n - 1, by omega⟩
    cases hl : lt (64 * cf k) with
    | none =>
      rw [if_pos (n1.mpr hl), s, f1, if_neg (by simp)]
      have : allD lt (dueOf bf) (64 * cf k) (la + 1 - 0) 0 = true := by
        refine allD_t _ _ (fun j _ hj => ?_)
        rw [f3]
        exact hss s (cf k) (by omega) hl j (by omega)
      rw [if_pos this]
      refine Ev.ok ⟨u, ?_, rfl⟩
      unfold m_Model_order_56
      show m_Model_order_62b (f + 1) _ 0 _ _ u = _
      unfold m_Model_order_62b
      rw [if_pos rfl]
      exact ite_self _
    | some b =>
      rw [if_neg (fun x => by have := n1.mp x; rw [hl] at this; cases this), e42, s, if_pos (by simp)]
      exact Ev.er ⟨_, rfl, hz7⟩
  · rw [hx, if_neg s, if_neg (by decide)]
    rw [hx, if_neg s] at e42
    have e56 : m_Model_order_56 n 1 (nI (64 * cf k)) u = some (if allD lt (dueOf bf) (64 * cf k) (la + 1 - fi) fi = true then u else fM u (6, q)) := by
      unfold m_Model_order_56
      rw [s17]
      exact R_o62 (n := n) sla (by omega) s18 s19 s20 sbf sbi sbb h2 h4 hL (la + 1 - fi) n fi (by omega) (by omega)
    have sF : seq = false := by cases seq with
      | true => exact absurd rfl s
      | false => rfl
    have hz6 : Gz (fM u (6, q)) (6, q) := ⟨rfl, rfl, by omega, by omega⟩
    have fin : Ev Gz (m_Model_order_56 n 1 (nI (64 * cf k)) u) (if allD lt (dueOf bf) (64 * cf k) (la + 1 - fi) fi = true then .ok () else .error (6, q)) (fun _ w => w = u) := by
      rw [e56]
      by_cases a : allD lt (dueOf bf) (64 * cf k) (la + 1 - fi) fi = true
      · rw [if_pos a, if_pos a]; exact Ev.ok ⟨_, rfl, rfl⟩
      · rw [if_neg a, if_neg a]; exact Ev.er ⟨_, rfl, hz6⟩
    by_cases z : fi = 0
    · rw [if_pos (show nI fi ≤ 0 by rw [z]; decide), if_neg (by rw [sF, z]; simp)]
      exact fin
    · rw [if_neg (nI_nle (by omega) (by omega))]
      cases hl : lt (64 * cf k) with
      | none =>
        rw [if_neg (fun x => n2.mp x hl), e42, if_pos (by rw [decide_eq_true (by omega : 0 < fi)]; simp)]
        exact Ev.er ⟨_, rfl, hz7⟩
      | some b =>
        rw [if_pos (n2.mpr (by rw [hl]; simp)), if_neg (by rw [sF]; simp)]
        exact fin
