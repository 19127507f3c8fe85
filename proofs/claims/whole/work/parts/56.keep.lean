def RowF (g : Nat → Int32) (b c fi la bf bi d dl rs iv : Nat) (cf dc ac : Nat → Nat) : Prop := RowK g b c fi la bf bi d iv cf dc ac ∧ g (b + 6) = nI dl ∧ g (b + 7) = nI rs
theorem RowK.eq {g h : Nat → Int32} {b c fi la bf bi d iv : Nat} {cf dc ac : Nat → Nat} (hk : RowK g b c fi la bf bi d iv cf dc ac) (e : ∀ q, q ≠ b + 6 → q ≠ b + 7 → h q = g q) : RowK h b c fi la bf bi d iv cf dc ac := by
  obtain ⟨a1, a2, a3, a4, a5, a6, a7, a8⟩ := hk
  refine ⟨(e _ (by omega) (by omega)).trans a1, (e _ (by omega) (by omega)).trans a2, (e _ (by omega) (by omega)).trans a3, (e _ (by omega) (by omega)).trans a4, (e _ (by omega) (by omega)).trans a5, (e _ (by omega) (by omega)).trans a6, (e _ (by omega) (by omega)).trans a7, fun j hj => ?_⟩
  obtain ⟨b1, b2, b3⟩ := a8 j hj
  exact ⟨(e _ (by omega) (by omega)).trans b1, (e _ (by omega) (by omega)).trans b2, (e _ (by omega) (by omega)).trans b3⟩
theorem R_keep {n nc d iv c0 c fi la bf bi cnt : Nat} {B : Nat → Nat} {sz : Nat} {cf : Nat → Nat} {lt : Nat → Option Nat} {u : St} (hn : 20000 ≤ n) (hI : InM B sz u) (h2 : u.1 2 = 0) (h5 : u.1 5 = mI) (h4 : u.1 4 = nI d) (hd : d ≤ sz) (h13 : u.1 13 = nI iv) (hiv : iv < 65536) (h14 : u.1 14 = nI nc) (hnc : nc < 1300) (hS : ScM B c0 c fi la bf bi cnt cf u) (hL : PL (u.2.1 13) lt) : (∀ e, dt B sz iv (sz - d + 1) d 0 = .error e → ∃ w, m_Model_keepScan n u = some w ∧ Gz w e) ∧ ∀ r, dt B sz iv (sz - d + 1) d 0 = .ok r → (r.2.2 = true → ∃ w, m_Model_keepScan n u = some w ∧ Gz w (4, r.1 + 1)) ∧ (r.2.2 = false → ∃ w, m_Model_keepScan n u = some w ∧ w.1 4 = nI r.1 ∧ w.1 14 = nI (nc + 1) ∧ PL (w.2.1 13) (nt bi fi la cf c 0 lt) ∧ (∀ q, q < 30 * nc → w.2.1 12 q = u.2.1 12 q) ∧ RowF (w.2.1 12) (30 * nc) c fi la bf bi d (r.1 - d) r.2.1 iv cf (fun j => B (c0 + 2 + 2 * j) / 16) (fun j => B (c0 + 2 + 2 * j) % 16) ∧ EqX [4, 14] [12, 13] [] u w) := by
  have hs := hI.2.1
  have e30 : (30 : Int32) * u.1 14 = nI (30 * nc) := by rw [h14, show (30 : Int32) = nI 30 from rfl, pk_mul]
  have eA : ∀ a, nI (30 * nc) + nI a = nI (30 * nc + a) := fun a => nI_add _ _
  obtain ⟨s15, s17, s18, s19, s20, sP, sD, sc, scn, sfl, sla, sbf, sbi, sc0, sbb⟩ := hS
  generalize hk : 30 * nc = k at *
  let T : St := sH (sH (sH (sH (sH (sH (sH u 12 k (nI c)) 12 (k + 1) (nI fi)) 12 (k + 2) (nI la)) 12 (k + 3) (nI bf)) 12 (k + 4) (nI bi)) 12 (k + 5) (nI d)) 12 (k + 8) (nI iv)
  have e0 : m_Model_keepScan n u = m_Model_keepScan_93 n n (nI k) (nI 0) T := by
    unfold m_Model_keepScan
    rw [e30, show (1 : Int32) = nI 1 from rfl, show (2 : Int32) = nI 2 from rfl, show (3 : Int32) = nI 3 from rfl, show (4 : Int32) = nI 4 from rfl, show (5 : Int32) = nI 5 from rfl, show (8 : Int32) = nI 8 from rfl, eA, eA, eA, eA, eA, eA, if_neg (nI_in (N := 61440) (c := k) (by omega) (by omega)), Option.bind_some, if_neg (nI_in (N := 61440) (c := k + 1) (by omega) (by omega)), Option.bind_some, if_neg (nI_in (N := 61440) (c := k + 2) (by omega) (by omega)), Option.bind_some, if_neg (nI_in (N := 61440) (c := k + 3) (by omega) (by omega)), Option.bind_some, if_neg (nI_in (N := 61440) (c := k + 4) (by omega) (by omega)), Option.bind_some, if_neg (nI_in (N := 61440) (c := k + 5) (by omega) (by omega)), Option.bind_some, if_neg (nI_in (N := 61440) (c := k + 8) (by omega) (by omega)), nI_clamp (show k < 2 ^ 31 by omega), nI_clamp (show k + 1 < 2 ^ 31 by omega), nI_clamp (show k + 2 < 2 ^ 31 by omega), nI_clamp (show k + 3 < 2 ^ 31 by omega), nI_clamp (show k + 4 < 2 ^ 31 by omega), nI_clamp (show k + 5 < 2 ^ 31 by omega), nI_clamp (show k + 8 < 2 ^ 31 by omega)]
    show m_Model_keepScan_93 n n (nI k) 0 (sH (sH (sH (sH (sH (sH (sH u 12 k (u.1 15)) 12 (k + 1) (u.1 17)) 12 (k + 2) (u.1 18)) 12 (k + 3) (u.1 19)) 12 (k + 4) (u.1 20)) 12 (k + 5) (u.1 4)) 12 (k + 8) (u.1 13)) = _
    rw [s15, s17, s18, s19, s20, h4, h13]; rfl
  have Tr : ∀ q, q ≠ 12 → T.2.1 q = u.2.1 q := fun q hq => (sH_ne hq).trans ((sH_ne hq).trans ((sH_ne hq).trans ((sH_ne hq).trans ((sH_ne hq).trans ((sH_ne hq).trans (sH_ne hq))))))
  have Tv : ∀ q, T.2.1 12 q = if q = k + 8 then nI iv else if q = k + 5 then nI d else if q = k + 4 then nI bi else if q = k + 3 then nI bf else if q = k + 2 then nI la else if q = k + 1 then nI fi else if q = k then nI c else u.2.1 12 q := fun q => rfl
  have hST : ScM B c0 c fi la bf bi cnt cf T := by
    refine ⟨s15, s17, s18, s19, s20, ?_, ?_, sc, scn, sfl, sla, sbf, sbi, sc0, sbb⟩
    · rw [Tr 14 (by decide)]; exact sP
    · unfold PD
      rw [Tr 15 (by decide), Tr 16 (by decide), Tr 17 (by decide)]; exact sD
  obtain ⟨w, w1, w2, w3, w4, w5, w6, w7⟩ := R_k93 (n := n) (k := k) (B := B) (cf := cf) (c0 := c0) (c := c) (fi := fi) (la := la) (bf := bf) (bi := bi) (cnt := cnt) hn (by omega) c n 0 T lt (by omega) (by omega) hST (by rw [Tr 13 (by decide)]; exact hL)
  have wI : InM B sz w := by
    unfold InM
    rw [w2, w4 0 (by decide) (by decide), Tr 0 (by decide)]
    exact hI
  have we : sG w 4 (nI d) = w := sG_self (by rw [w2]; exact h4)
  obtain ⟨D1, D2⟩ := R_dt (n := n) (k := k) (iv := iv) (u := w) (by omega) wI (by rw [w2]; exact h2) (by rw [w2]; exact h5) (by rw [w2]; exact h13) hiv (sz - d + 1) n d 0 (by omega) (by omega) hd (by omega)
  have e1 : m_Model_keepScan n u = m_Model_readData_4 n n (nI k) (nI 0) 1 (sG w 4 (nI d)) := by
    rw [e0, w1, we]
    show (m_Model_readData_4 n n (nI k) 0 1 w).bind (fun z => some z) = m_Model_readData_4 n n (nI k) 0 1 w
    cases m_Model_readData_4 n n (nI k) 0 1 w <;> rfl
  rw [e1]
  have hRK : RowK (w.2.1 12) k c fi la bf bi d iv cf (fun j => B (c0 + 2 + 2 * j) / 16) (fun j => B (c0 + 2 + 2 * j) % 16) := by
    have g : ∀ q, q < k + 10 → w.2.1 12 q = T.2.1 12 q := fun q hq => w6 q (by omega)
    refine ⟨?_, ?_, ?_, ?_, ?_, ?_, ?_, fun j hj => w7 j (by omega) hj⟩
    · rw [g _ (by omega), Tv, if_neg (by omega), if_neg (by omega), if_neg (by omega), if_neg (by omega), if_neg (by omega), if_neg (by omega), if_pos rfl]
    · rw [g _ (by omega), Tv, if_neg (by omega), if_neg (by omega), if_neg (by omega), if_neg (by omega), if_neg (by omega), if_pos rfl]
    · rw [g _ (by omega), Tv, if_neg (by omega), if_neg (by omega), if_neg (by omega), if_neg (by omega), if_pos rfl]
    · rw [g _ (by omega), Tv, if_neg (by omega), if_neg (by omega), if_neg (by omega), if_pos rfl]
    · rw [g _ (by omega), Tv, if_neg (by omega), if_neg (by omega), if_pos rfl]
    · rw [g _ (by omega), Tv, if_neg (by omega), if_pos rfl]
    · rw [g _ (by omega), Tv, if_pos rfl]
  refine ⟨D1, fun r hr => ⟨(D2 r hr).1, fun hw => ?_⟩⟩
  obtain ⟨q1, q2, -⟩ := dt_ok _ _ _ _ hr
  rw [(D2 r hr).2 hw]
  have hd5 : w.2.1 12 (k + 5) = nI d := hRK.2.2.2.2.2.1
  have e5 : ∀ j, nI k + nI j = nI (k + j) := fun j => nI_add _ _
  unfold m_Model_readData_163
  rw [show (5 : Int32) = nI 5 from rfl, show (6 : Int32) = nI 6 from rfl, show (7 : Int32) = nI 7 from rfl, e5, e5, e5, if_neg (nI_in (N := 61440) (c := k + 5) (by omega) (by omega)), if_neg (nI_in (N := 61440) (c := k + 6) (by omega) (by omega)), Option.bind_some, if_neg (nI_in (N := 61440) (c := k + 7) (by omega) (by omega)), nI_clamp (show k + 5 < 2 ^ 31 by omega), nI_clamp (show k + 6 < 2 ^ 31 by omega), nI_clamp (show k + 7 < 2 ^ 31 by omega), show (sG w 4 (nI (r.1 + 2))).2.1 12 (k + 5) = nI d from hd5, pk_sub q1]
  refine ⟨_, rfl, rfl, ?_, w5, fun q hq => ?_, ⟨?_, ?_, ?_⟩, ?_⟩
  · show w.1 14 + 1 = _
    rw [w2, show T.1 14 = u.1 14 from rfl, h14, nI_1]
  · show (if q = k + 7 then _ else if q = k + 6 then _ else w.2.1 12 q) = _
    rw [if_neg (by omega), if_neg (by omega), w6 q (by omega), Tv, if_neg (by omega), if_neg (by omega), if_neg (by omega), if_neg (by omega), if_neg (by omega), if_neg (by omega), if_neg (by omega)]
  · refine hRK.eq (fun q h1 h2 => ?_)
    show (if q = k + 7 then _ else if q = k + 6 then _ else w.2.1 12 q) = _
    rw [if_neg h2, if_neg h1]
  · show (if k + 6 = k + 7 then _ else if k + 6 = k + 6 then nI (r.1 - d) else w.2.1 12 (k + 6)) = _
    rw [if_neg (by omega), if_pos rfl]
  · show (if k + 7 = k + 7 then nI r.2.1 else _) = _
    rw [if_pos rfl]
  · have hx : EqX [4, 14] [12, 13] [] u w := by
      refine ⟨fun q _ => by rw [w2]; rfl, fun q hq => ?_, fun q _ => by rw [w3]; rfl⟩
      have h1 : q ≠ 13 := fun y => hq (by rw [y]; decide)
      have h2 : q ≠ 12 := fun y => hq (by rw [y]; decide)
      exact (w4 q h1 h2).trans (Tr q h2)
    exact EqX.g (EqX.h (EqX.h (EqX.g (EqX.g hx (by decide)) (by decide)) (by decide)) (by decide)) (by decide)
