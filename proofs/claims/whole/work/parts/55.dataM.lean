/-- the end of the reference's data -/
theorem R_142F {n k : Nat} {x : Int32} {u : St} {e : Er} (hk : k + 7 < 61440) (h : Gz u e) : ∃ w, m_Model_readData_142 n (nI k) x u = some w ∧ Gz w e := by
  have e5 : ∀ j, nI k + nI j = nI (k + j) := fun j => nI_add _ _
  unfold m_Model_readData_142 m_Model_readData_163
  rw [if_neg h.ne, show (5 : Int32) = nI 5 from rfl, show (6 : Int32) = nI 6 from rfl, show (7 : Int32) = nI 7 from rfl, e5, e5, e5, if_neg (nI_in (N := 61440) (c := k + 5) (by omega) (by omega)), if_neg (nI_in (N := 61440) (c := k + 6) (by omega) (by omega)), Option.bind_some, if_neg (nI_in (N := 61440) (c := k + 7) (by omega) (by omega))]
  exact ⟨_, rfl, h⟩
theorem R_4F {n k f : Nat} {x y : Int32} {u : St} {e : Er} (hk : k + 7 < 61440) (h : Gz u e) : ∃ w, m_Model_readData_4 n (f + 1) (nI k) x y u = some w ∧ Gz w e := by
  obtain ⟨w, hw⟩ := R_142F (n := n) (x := x) hk h
  refine ⟨w, ?_, hw.2⟩
  show m_Model_readData_4b n _ (nI k) x y u = _
  unfold m_Model_readData_4b
  rw [if_neg h.ne, hw.1]
  exact ite_self _
theorem R_dt {n k iv : Nat} {B : Nat → Nat} {sz : Nat} {u : St} (hk : k + 7 < 61440) (hI : InM B sz u) (h2 : u.1 2 = 0) (h5 : u.1 5 = mI) (h13 : u.1 13 = nI iv) (hiv : iv < 65536) : ∀ (m f p rs : Nat), sz < p + m → m + 1 < f → p ≤ sz → rs ≤ p → (∀ e, dt B sz iv m p rs = .error e → ∃ w, m_Model_readData_4 n f (nI k) (nI rs) 1 (sG u 4 (nI p)) = some w ∧ Gz w e) ∧ ∀ r, dt B sz iv m p rs = .ok r → (r.2.2 = true → ∃ w, m_Model_readData_4 n f (nI k) (nI rs) 1 (sG u 4 (nI p)) = some w ∧ Gz w (4, r.1 + 1)) ∧ (r.2.2 = false → m_Model_readData_4 n f (nI k) (nI rs) 1 (sG u 4 (nI p)) = m_Model_readData_163 n (nI k) (nI r.2.1) (nI r.1) (sG u 4 (nI (r.1 + 2)))) := by
  have hs := hI.2.1
  intro m
  induction m with
  | zero => intro f p rs h1 h2 h3; omega
  | succ m ih =>
    intro f p rs hm hf hp hrs
    obtain ⟨f, rfl⟩ : ∃ g, f = g + 1 + 1 := ⟨f - 2, by omega⟩
    have e0 : m_Model_readData_4 n (f + 1 + 1) (nI k) (nI rs) 1 (sG u 4 (nI p)) = (m_Model_next n (sG u 4 (nI p))).bind (fun z16 => if z16.2.1 2 = 0 then (if z16.1 = 255 then (m_Model_next n z16.2).bind (fun z37 => if z37.1 < 208 then m_Model_readData_62 n (m_Model_readData_4 n (f + 1)) (nI k) (nI rs) z37.1 z37.2 else if (215 : Int32) < z37.1 then m_Model_readData_62 n (m_Model_readData_4 n (f + 1)) (nI k) (nI rs) z37.1 z37.2 else m_Model_readData_63 n (m_Model_readData_4 n (f + 1)) (nI k) (nI rs) z37.1 1 z37.2) else m_Model_readData_139 n (m_Model_readData_4 n (f + 1)) (nI k) (nI rs) 1 z16.2) else m_Model_readData_139 n (m_Model_readData_4 n (f + 1)) (nI k) (nI rs) 1 z16.2) := by
      show m_Model_readData_4b n _ (nI k) (nI rs) 1 (sG u 4 (nI p)) = _
      unfold m_Model_readData_4b
      rw [if_neg (show ¬ (1 : Int32) = 0 by decide), if_pos (show (sG u 4 (nI p)).1 2 = 0 from h2)]
    have e1 := R_nextN (n := n) (B := B) (sz := sz) (p := p) (u := sG u 4 (nI p)) hI h2 rfl h5 hp
    rw [e0, e1, Option.bind_some]
    unfold dt nx
    by_cases c1 : sz ≤ p
    · rw [if_pos c1, if_pos c1]
      have hz : Gz (fM (sG u 4 (nI p)) (1, sz)) (1, sz) := fM_z (Or.inr (Or.inl rfl))
      refine ⟨fun e he => ?_, fun r he => (by cases he)⟩
      cases he
      show ∃ w, (if (fM (sG u 4 (nI p)) (1, sz)).1 2 = 0 then _ else m_Model_readData_139 n (m_Model_readData_4 n (f + 1)) (nI k) (nI rs) 1 (fM (sG u 4 (nI p)) (1, sz))) = some w ∧ _
      rw [if_neg hz.ne]
      exact R_4F hk hz
    · have hB := (hI.2.2.2.2 p (by omega)).2
      rw [if_neg c1, if_neg c1]
      show (∀ e, _ = _ → ∃ w, (if (sG (sG u 4 (nI p)) 4 (nI (p + 1))).1 2 = 0 then (if nI (B p) = 255 then (m_Model_next n (sG (sG u 4 (nI p)) 4 (nI (p + 1)))).bind _ else m_Model_readData_139 n (m_Model_readData_4 n (f + 1)) (nI k) (nI rs) 1 (sG (sG u 4 (nI p)) 4 (nI (p + 1)))) else _) = some w ∧ _) ∧ ∀ r, _ = _ → (_ → ∃ w, (if (sG (sG u 4 (nI p)) 4 (nI (p + 1))).1 2 = 0 then (if nI (B p) = 255 then (m_Model_next n (sG (sG u 4 (nI p)) 4 (nI (p + 1)))).bind _ else m_Model_readData_139 n (m_Model_readData_4 n (f + 1)) (nI k) (nI rs) 1 (sG (sG u 4 (nI p)) 4 (nI (p + 1)))) else _) = some w ∧ _) ∧ (_ → (if (sG (sG u 4 (nI p)) 4 (nI (p + 1))).1 2 = 0 then (if nI (B p) = 255 then (m_Model_next n (sG (sG u 4 (nI p)) 4 (nI (p + 1)))).bind _ else m_Model_readData_139 n (m_Model_readData_4 n (f + 1)) (nI k) (nI rs) 1 (sG (sG u 4 (nI p)) 4 (nI (p + 1)))) else _) = _)
      rw [sG_sG, if_pos (show (sG u 4 (nI (p + 1))).1 2 = 0 from h2)]
      by_cases c2 : B p ≠ 255
      · rw [if_pos c2, if_neg (show ¬ nI (B p) = 255 from nI_ne (b := 255) (by omega) (by omega) c2)]
        exact ih (f + 1) (p + 1) rs (by omega) (by omega) (by omega) (by omega)
      · have c2' : B p = 255 := by omega
        have e2 := R_nextN (n := n) (B := B) (sz := sz) (p := p + 1) (u := sG u 4 (nI (p + 1))) hI h2 rfl h5 (by omega)
        rw [if_neg c2, if_pos (show nI (B p) = 255 by rw [c2']; rfl), e2, Option.bind_some]
        unfold nx
        by_cases c3 : sz ≤ p + 1
        · rw [if_pos c3, if_pos c3]
          have hz : Gz (fM (sG u 4 (nI (p + 1))) (1, sz)) (1, sz) := fM_z (Or.inr (Or.inl rfl))
          refine ⟨fun e he => ?_, fun r he => (by cases he)⟩
          cases he
          show ∃ w, (if (0 : Int32) < 208 then m_Model_readData_62 n (m_Model_readData_4 n (f + 1)) (nI k) (nI rs) 0 (fM (sG u 4 (nI (p + 1))) (1, sz)) else _) = some w ∧ _
          rw [if_pos (show (0 : Int32) < 208 by decide)]
          unfold m_Model_readData_62 m_Model_readData_63
          rw [if_neg hz.ne]
          unfold m_Model_readData_110 m_Model_readData_121 m_Model_readData_133 m_Model_readData_138 m_Model_readData_139
          rw [if_pos rfl, if_pos rfl]
          exact R_4F hk hz
        · have hB1 := (hI.2.2.2.2 (p + 1) (by omega)).2
          rw [if_neg c3, if_neg c3]
          rw [show nxM (sG u 4 (nI (p + 1))) (p + 1) (.ok (B (p + 1))) = (nI (B (p + 1)), sG u 4 (nI (p + 2))) by show (nI (B (p + 1)), sG (sG u 4 (nI (p + 1))) 4 (nI (p + 1 + 1))) = _; rw [sG_sG]]
          dsimp only
          -- no restart
          have e62 : m_Model_readData_62 n (m_Model_readData_4 n (f + 1)) (nI k) (nI rs) (nI (B (p + 1))) (sG u 4 (nI (p + 2))) = if B (p + 1) = 0 then m_Model_readData_4 n (f + 1) (nI k) (nI rs) 1 (sG u 4 (nI (p + 2))) else m_Model_readData_163 n (nI k) (nI rs) (nI p) (sG u 4 (nI (p + 2))) := by
            unfold m_Model_readData_62 m_Model_readData_63
            rw [if_pos (show (sG u 4 (nI (p + 2))).1 2 = 0 from h2), if_pos rfl]
            unfold m_Model_readData_110 m_Model_readData_121
            rw [if_pos rfl, if_pos rfl, show (0 : Int32) = nI 0 from rfl, nI_add]
            by_cases c4 : B (p + 1) = 0
            · rw [if_pos (show nI (B (p + 1)) = nI 0 by rw [c4]), if_pos c4]; rfl
            · rw [if_neg (show ¬ nI (B (p + 1)) = nI 0 from nI_ne (by omega) (by omega) c4), if_neg c4]
              show m_Model_readData_4b n (m_Model_readData_4 n f) (nI k) (nI rs) 0 (sG u 4 (nI (p + 2))) = _
              unfold m_Model_readData_4b m_Model_readData_142
              rw [if_pos rfl, if_pos (show (sG u 4 (nI (p + 2))).1 2 = 0 from h2), sG_at, show (2 : Int32) = nI 2 from rfl, pk_sub (by omega)]; rfl
          by_cases c5 : 208 ≤ B (p + 1) ∧ B (p + 1) ≤ 215
          · rw [if_neg (show ¬ B (p + 1) = 0 by omega), if_pos c5, if_neg (show ¬ nI (B (p + 1)) < 208 from nI_nlt (b := 208) (by omega) (by omega)), if_neg (show ¬ (215 : Int32) < nI (B (p + 1)) from nI_nlt (a := 215) (by omega) (by omega))]
            have e110 : ∀ w : St, m_Model_readData_110 n (m_Model_readData_4 n (f + 1)) (nI k) (nI rs) (nI (B (p + 1))) 1 w = m_Model_readData_4 n (f + 1) (nI k) (nI (rs + 1)) 1 w := by
              intro w
              unfold m_Model_readData_110 m_Model_readData_121 m_Model_readData_133 m_Model_readData_138 m_Model_readData_139
              rw [if_neg (show ¬ (1 : Int32) = 0 by decide), if_neg (show ¬ (1 : Int32) = 0 by decide), nI_1]
              exact ite_self _
            have e8 : (208 : Int32) + (nI rs - nI rs / 8 * 8) = nI (208 + rs % 8) := by
              rw [show (8 : Int32) = nI 8 from rfl, pk_rem (by omega) (by omega) (by omega), show (208 : Int32) = nI 208 from rfl, nI_add]
            have hz : Gz (fM (sG u 4 (nI (p + 2))) (4, p + 1)) (4, p + 1) := ⟨rfl, rfl, by simp, by simp⟩
            have e97 : m_Model_readData_97 n (m_Model_readData_4 n (f + 1)) (nI k) (nI rs) (nI (B (p + 1))) 1 (sG u 4 (nI (p + 2))) = m_Model_readData_4 n (f + 1) (nI k) (nI (rs + 1)) 1 (fM (sG u 4 (nI (p + 2))) (4, p + 1)) := by
              unfold m_Model_readData_97
              rw [R_wrong (u := sG u 4 (nI (p + 2))) h2, Option.bind_some, e110, sG_at, show nI (p + 2) - 1 = nI (p + 1) from nI_pred (p + 1)]; rfl
            have e63 : m_Model_readData_63 n (m_Model_readData_4 n (f + 1)) (nI k) (nI rs) (nI (B (p + 1))) 1 (sG u 4 (nI (p + 2))) = if 0 < iv ∧ B (p + 1) = 208 + rs % 8 then m_Model_readData_4 n (f + 1) (nI k) (nI (rs + 1)) 1 (sG u 4 (nI (p + 2))) else m_Model_readData_4 n (f + 1) (nI k) (nI (rs + 1)) 1 (fM (sG u 4 (nI (p + 2))) (4, p + 1)) := by
              unfold m_Model_readData_63
              rw [if_pos (show (sG u 4 (nI (p + 2))).1 2 = 0 from h2), if_neg (show ¬ (1 : Int32) = 0 by decide), show (sG u 4 (nI (p + 2))).1 13 = nI iv from h13, e8, e97, e110]
              by_cases d1 : iv = 0
              · rw [if_pos (show nI iv = 0 by rw [d1]; rfl), if_neg (show ¬ (0 < iv ∧ B (p + 1) = 208 + rs % 8) by omega)]
              · rw [if_neg (nI_ne0 (n := iv) (by omega) (by omega))]
                by_cases d2 : B (p + 1) = 208 + rs % 8
                · rw [if_pos (show nI (B (p + 1)) = nI (208 + rs % 8) by rw [d2]), if_pos (show 0 < iv ∧ B (p + 1) = 208 + rs % 8 by omega)]
                · rw [if_neg (show ¬ nI (B (p + 1)) = nI (208 + rs % 8) from nI_ne (by omega) (by omega) d2), if_neg (fun y => d2 y.2)]
            rw [e63]
            by_cases c6 : 0 < iv ∧ B (p + 1) = 208 + rs % 8
            · rw [if_pos c6, if_pos c6]
              exact ih (f + 1) (p + 2) (rs + 1) (by omega) (by omega) (by omega) (by omega)
            · rw [if_neg c6, if_neg c6]
              refine ⟨fun e he => (by cases he), fun r he => ?_⟩
              cases he
              refine ⟨fun _ => ?_, fun q => (by cases q)⟩
              exact R_4F hk hz
          · have e63 : (if nI (B (p + 1)) < 208 then m_Model_readData_62 n (m_Model_readData_4 n (f + 1)) (nI k) (nI rs) (nI (B (p + 1))) (sG u 4 (nI (p + 2))) else if (215 : Int32) < nI (B (p + 1)) then m_Model_readData_62 n (m_Model_readData_4 n (f + 1)) (nI k) (nI rs) (nI (B (p + 1))) (sG u 4 (nI (p + 2))) else m_Model_readData_63 n (m_Model_readData_4 n (f + 1)) (nI k) (nI rs) (nI (B (p + 1))) 1 (sG u 4 (nI (p + 2)))) = m_Model_readData_62 n (m_Model_readData_4 n (f + 1)) (nI k) (nI rs) (nI (B (p + 1))) (sG u 4 (nI (p + 2))) := by
              by_cases d1 : B (p + 1) < 208
              · rw [if_pos (show nI (B (p + 1)) < 208 from nI_lt (b := 208) d1 (by omega))]
              · rw [if_neg (show ¬ nI (B (p + 1)) < 208 from nI_nlt (b := 208) (by omega) (by omega)), if_pos (show (215 : Int32) < nI (B (p + 1)) from nI_lt (a := 215) (by omega) (by omega))]
            rw [e63, e62]
            by_cases c4 : B (p + 1) = 0
            · rw [if_pos c4, if_pos c4]
              exact ih (f + 1) (p + 2) rs (by omega) (by omega) (by omega) (by omega)
            · rw [if_neg c4, if_neg c4, if_neg c5]
              refine ⟨fun e he => (by cases he), fun r he => ?_⟩
              cases he
              exact ⟨fun q => (by cases q), fun _ => rfl⟩
/-- what a scan's row holds, in the reference, before its data are read -/
def RowK (g : Nat → Int32) (b c fi la bf bi d iv : Nat) (cf dc ac : Nat → Nat) : Prop := g b = nI c ∧ g (b + 1) = nI fi ∧ g (b + 2) = nI la ∧ g (b + 3) = nI bf ∧ g (b + 4) = nI bi ∧ g (b + 5) = nI d ∧ g (b + 8) = nI iv ∧ ∀ j, j < c → g (b + 10 + 4 * j) = nI (cf j) ∧ g (b + 11 + 4 * j) = nI (dc j) ∧ g (b + 12 + 4 * j) = nI (ac j)
theorem R_k163 {n k j la b base : Nat} {K : Int32 → Int32 → St → Option St} (hj : j < 4) (hla : la < 64) (hb : b < 16) (hbase : base + 64 ≤ 256) : ∀ (m f i : Nat) (u : St) (lt : Nat → Option Nat), i + m = la + 1 → m < f → u.1 18 = nI la → u.1 20 = nI b → (64 : Int32) * u.2.1 14 j = nI base → PL (u.2.1 13) lt → ∃ w, m_Model_keepScan_163 n K f (nI k) (nI j) (nI i) u = K (nI k) (nI (j + 1)) w ∧ w.1 = u.1 ∧ w.2.2 = u.2.2 ∧ (∀ q, q ≠ 13 → w.2.1 q = u.2.1 q) ∧ PL (w.2.1 13) (nti b base m i lt) := by
  intro m
  induction m with
  | zero =>
    intro f i u lt hi hf h18 h20 hbs hL
    obtain ⟨f, rfl⟩ : ∃ g, f = g + 1 := ⟨f - 1, by omega⟩
    refine ⟨u, ?_, rfl, rfl, fun _ _ => rfl, hL⟩
    show m_Model_keepScan_163b n K _ (nI k) (nI j) (nI i) u = _
    unfold m_Model_keepScan_163b
    rw [if_pos (by rw [h18]; exact nI_lt (by omega) (by omega)), nI_1]
  | succ m ih =>
    intro f i u lt hi hf h18 h20 hbs hL
    obtain ⟨f, rfl⟩ : ∃ g, f = g + 1 := ⟨f - 1, by omega⟩
    obtain ⟨w, w1, w2, w3, w4, w5⟩ := ih f (i + 1) (sH u 13 (base + i) (nI b)) (va_up lt (base + i) (some b)) (by omega) (by omega) h18 h20 hbs (PL_up hL hb)
    refine ⟨w, ?_, w2, w3, fun q hq => (w4 q hq).trans (sH_ne hq), w5⟩
    show m_Model_keepScan_163b n K _ (nI k) (nI j) (nI i) u = _
    unfold m_Model_keepScan_163b
    rw [if_neg (by rw [h18]; exact nI_nlt (by omega) (by omega)), if_neg (nI_in (N := 4) hj (by omega)), nI_clamp (show j < 2 ^ 31 by omega), hbs, nI_add, if_neg (nI_in (N := 256) (c := base + i) (by omega) (by omega)), nI_clamp (by omega), h20, nI_1, w1]
theorem R_k93 {n c0 c fi la bf bi cnt k : Nat} {B : Nat → Nat} {cf : Nat → Nat} (hn : 20000 ≤ n) (hk : k + 30 < 61440) : ∀ (m f j : Nat) (u : St) (lt : Nat → Option Nat), j + m = c → m < f → ScM B c0 c fi la bf bi cnt cf u → PL (u.2.1 13) lt → ∃ w, m_Model_keepScan_93 n f (nI k) (nI j) u = (m_Model_readData n (nI k) w).bind (fun z => some z) ∧ w.1 = u.1 ∧ w.2.2 = u.2.2 ∧ (∀ q, q ≠ 13 → q ≠ 12 → w.2.1 q = u.2.1 q) ∧ PL (w.2.1 13) (nt bi fi la cf m j lt) ∧ (∀ q, q < k + 10 + 4 * j → w.2.1 12 q = u.2.1 12 q) ∧ (∀ i, j ≤ i → i < c → w.2.1 12 (k + 10 + 4 * i) = nI (cf i) ∧ w.2.1 12 (k + 11 + 4 * i) = nI (B (c0 + 2 + 2 * i) / 16) ∧ w.2.1 12 (k + 12 + 4 * i) = nI (B (c0 + 2 + 2 * i) % 16)) := by
  intro m
  induction m with
  | zero =>
    intro f j u lt hj hf hS hL
    obtain ⟨f, rfl⟩ : ∃ g, f = g + 1 := ⟨f - 1, by omega⟩
    have hc4 : c ≤ 4 := hS.2.2.2.2.2.2.2.1
    refine ⟨u, ?_, rfl, rfl, fun _ _ _ => rfl, hL, fun _ _ => rfl, fun i h1 h2 => absurd h1 (by omega)⟩
    show m_Model_keepScan_93b n _ (nI k) (nI j) u = _
    unfold m_Model_keepScan_93b
    rw [if_pos (by rw [hS.1]; exact nI_le (by omega) (by omega))]
  | succ m ih =>
    intro f j u lt hj hf hS hL
    have hS0 := hS
    obtain ⟨s15, s17, s18, s19, s20, sP, sD, sc, scn, sfl, sla, sbf, sbi, sc0, sbb⟩ := hS
    obtain ⟨f, rfl⟩ : ∃ g, f = g + 1 := ⟨f - 1, by omega⟩
    obtain ⟨p1, p2⟩ := sP j (by omega)
    obtain ⟨d1, d2, d3⟩ := sD j (by omega)
    have hin := nI_in (c := j) (N := 4) (by omega) (by omega)
    have ej : (nI j).toNatClampNeg = j := nI_clamp (by omega)
    have e10 : ∀ a, nI k + nI a + (4 : Int32) * nI j = nI (k + a + 4 * j) := by
      intro a
      rw [show (4 : Int32) = nI 4 from rfl, pk_mul, nI_add, nI_add]
    let v1 : St := sH u 12 (k + 10 + 4 * j) (nI (cf j))
    let v2 : St := sH v1 12 (k + 11 + 4 * j) (nI (B (c0 + 2 + 2 * j) / 16))
    let v3 : St := sH v2 12 (k + 12 + 4 * j) (nI (B (c0 + 2 + 2 * j) % 16))
    have v3r : ∀ q, q ≠ 12 → v3.2.1 q = u.2.1 q := fun q hq => (sH_ne hq).trans ((sH_ne hq).trans (sH_ne hq))
    have v3v : ∀ q, v3.2.1 12 q = if q = k + 12 + 4 * j then nI (B (c0 + 2 + 2 * j) % 16) else if q = k + 11 + 4 * j then nI (B (c0 + 2 + 2 * j) / 16) else if q = k + 10 + 4 * j then nI (cf j) else u.2.1 12 q := fun q => rfl
    obtain ⟨w, w1, w2, w3, w4, w5⟩ := R_k163 (n := n) (k := k) (j := j) (la := la) (b := bi) (base := 64 * cf j) (K := m_Model_keepScan_93 n f) (by omega) sla sbi (by omega) (la + 1 - fi) n fi v3 lt (by omega) (by omega) s18 s20 (by rw [v3r 14 (by decide), p1, show (64 : Int32) = nI 64 from rfl, pk_mul]) (by rw [v3r 13 (by decide)]; exact hL)
    have hS2 : ScM B c0 c fi la bf bi cnt cf w := by
      have g : ∀ q, q ≠ 12 → q ≠ 13 → w.2.1 q = u.2.1 q := fun q h1 h2 => (w4 q h2).trans (v3r q h1)
      unfold ScM PD
      rw [w2, g 14 (by decide) (by decide), g 15 (by decide) (by decide), g 16 (by decide) (by decide), g 17 (by decide) (by decide)]
      exact hS0
    obtain ⟨x, x1, x2, x3, x4, x5, x6, x7⟩ := ih f (j + 1) w (nti bi (64 * cf j) (la + 1 - fi) fi lt) (by omega) (by omega) hS2 w5
    refine ⟨x, ?_, x2.trans w2, x3.trans w3, fun q h1 h2 => (x4 q h1 h2).trans ((w4 q h1).trans (v3r q h2)), x5, fun q hq => ?_, fun i h1 h2 => ?_⟩
    · show m_Model_keepScan_93b n _ (nI k) (nI j) u = _
      unfold m_Model_keepScan_93b
      rw [if_neg (by rw [s15]; exact nI_ge (by omega) (by omega)), if_neg hin, ej, show (10 : Int32) = nI 10 from rfl, show (11 : Int32) = nI 11 from rfl, show (12 : Int32) = nI 12 from rfl, e10, e10, e10, if_neg (nI_in (N := 61440) (c := k + 10 + 4 * j) (by omega) (by omega)), p1, nI_clamp (show k + 10 + 4 * j < 2 ^ 31 by omega), Option.bind_some, if_neg (nI_in (N := 61440) (c := k + 11 + 4 * j) (by omega) (by omega)), nI_clamp (show k + 11 + 4 * j < 2 ^ 31 by omega), Option.bind_some, if_neg (nI_in (N := 61440) (c := k + 12 + 4 * j) (by omega) (by omega)), nI_clamp (show k + 12 + 4 * j < 2 ^ 31 by omega), d1]
      have hnj : ¬ (nI j < 0 ∨ 4 ≤ j) := fun q => q.elim (nI_pos (by omega)) (by omega)
      rw [if_neg hnj, if_neg hnj]
      have e16 : (sH u 12 (k + 10 + 4 * j) (nI (cf j))).2.1 16 j = nI (B (c0 + 2 + 2 * j) % 16) := d2
      rw [e16]
      have e17 : (sH (sH u 12 (k + 10 + 4 * j) (nI (cf j))) 12 (k + 11 + 4 * j) (nI (B (c0 + 2 + 2 * j) / 16))).1 17 = nI fi := s17
      rw [e17]
      exact w1.trans x1
    · rw [x6 q (by omega), w4 12 (by decide), v3v, if_neg (by omega), if_neg (by omega), if_neg (by omega)]
    · by_cases q : i = j
      · subst q
        rw [x6 (k + 10 + 4 * i) (by omega), x6 (k + 11 + 4 * i) (by omega), x6 (k + 12 + 4 * i) (by omega), w4 12 (by decide), v3v, v3v, v3v]
        refine ⟨?_, ?_, ?_⟩
        · rw [if_neg (by omega), if_neg (by omega), if_pos rfl]
        · rw [if_neg (by omega), if_pos rfl]
        · rw [if_pos rfl]
      · exact x7 i (by omega) h2
