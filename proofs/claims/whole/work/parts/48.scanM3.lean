def gS (u : St) (e : Er) : St := if u.1 2 = 0 then fM u e else u
theorem R_wrongS {n a b : Nat} {u : St} : m_Model_wrong n (nI a) (nI b) u = some (0, gS u (a, b)) := by
  unfold gS
  by_cases h : u.1 2 = 0
  · rw [R_wrong h, if_pos h]; rfl
  · rw [R_wrongF h, if_neg h]
theorem gS_0 {u : St} {e : Er} (h : u.1 2 = 0) : gS u e = fM u e := if_pos h
theorem gS_1 {u : St} {e : Er} (h : u.1 2 ≠ 0) : gS u e = u := if_neg h
theorem PMQ.has {B : Nat → Nat} {sz tb : Nat} {h q : Nat → Int32} {qm : Nat → Option Nat} (hQ : PMQ B sz h q qm) (htb : tb < 4) : h tb = 0 ↔ qm tb = none := by
  have := hQ tb htb
  cases hq : qm tb with
  | none => rw [hq] at this; exact ⟨fun _ => rfl, fun _ => this⟩
  | some a => rw [hq] at this; exact ⟨fun x => by rw [this.1] at x; exact absurd x (by decide), fun x => (by cases x)⟩
theorem PMW.has {B : Nat → Nat} {sz r : Nat} {h c s mn : Nat → Int32} {wm : Nat → Option Nat} (hW : PMW B sz h c s mn wm) (hr : r < 8) : h r = 0 ↔ wm r = none := by
  have := hW r hr
  cases hq : wm r with
  | none => rw [hq] at this; exact ⟨fun _ => rfl, fun _ => this⟩
  | some a => rw [hq] at this; exact ⟨fun x => by rw [this.1] at x; exact absurd x (by decide), fun x => (by cases x)⟩
theorem R_n32 {n c0 k fi la bf tv : Nat} {wm : Nat → Option Nat} {u : St} (hk : k < 4) (h17 : u.1 17 = nI fi) (h18 : u.1 18 = nI la) (h19 : u.1 19 = nI bf) (hfi : fi < 64) (hla : la < 64) (hbf : bf < 16) (hd : u.2.1 15 k = nI (tv / 16)) (ha : u.2.1 16 k = nI (tv % 16)) (hna : u.2.1 17 k = nI (c0 + 1 + 2 * k)) (ht1 : tv / 16 < 4) (ht2 : tv % 16 < 4) (hW : ∀ r, r < 8 → (u.2.1 8 r = 0 ↔ wm r = none)) : m_Model_needs_32 n (nI k) u = some (if ndW fi la bf wm tv = true then gS u (8, c0 + 2 + 2 * k) else u) := by
  have hin := nI_in (c := k) (N := 4) hk (by omega)
  have ek : (nI k).toNatClampNeg = k := nI_clamp (by omega)
  have e93 : m_Model_needs_93 n (nI k) u = some (gS u (8, c0 + 2 + 2 * k)) := by
    unfold m_Model_needs_93
    rw [if_neg hin, ek, hna, nI_1, show (8 : Int32) = nI 8 from rfl, R_wrongS, Option.bind_some, show c0 + 1 + 2 * k + 1 = c0 + 2 + 2 * k by omega]
  have e70 : m_Model_needs_70 n (nI k) u = some (if 0 < la ∧ wm (4 + tv % 16) = none then gS u (8, c0 + 2 + 2 * k) else u) := by
    unfold m_Model_needs_70
    rw [h18, if_neg hin, ek, ha, show (4 : Int32) + nI (tv % 16) = nI (4 + tv % 16) from nI_add 4 _, if_neg (nI_in (c := 4 + tv % 16) (N := 8) (by omega) (by omega)), nI_clamp (by omega), e93]
    by_cases c1 : 0 < la
    · rw [if_neg (nI_nle c1 (by omega))]
      by_cases c2 : wm (4 + tv % 16) = none
      · rw [if_pos ((hW _ (by omega)).mpr c2), if_pos ⟨c1, c2⟩]
      · rw [if_neg (fun x => c2 ((hW _ (by omega)).mp x)), if_neg (fun x => c2 x.2)]
    · rw [if_pos (show nI la ≤ 0 from nI_le (a := la) (b := 0) (by omega) (by omega)), if_neg (fun x => c1 x.1)]
  have e50 : m_Model_needs_50 n (nI k) u = some (if 0 < la ∧ wm (4 + tv % 16) = none then gS u (8, c0 + 2 + 2 * k) else u) := by
    unfold m_Model_needs_50 m_Model_needs_51
    rw [if_pos rfl, e70]
  have e51 : m_Model_needs_51 n (nI k) 1 u = some (if wm (tv / 16) = none ∨ (0 < la ∧ wm (4 + tv % 16) = none) then gS u (8, c0 + 2 + 2 * k) else u) := by
    unfold m_Model_needs_51
    rw [if_neg (by decide), if_neg hin, ek, hd, if_neg (nI_in (c := tv / 16) (N := 8) (by omega) (by omega)), nI_clamp (by omega), e93, e70]
    by_cases c2 : wm (tv / 16) = none
    · rw [if_pos ((hW _ (by omega)).mpr c2), if_pos (Or.inl c2)]
    · rw [if_neg (fun x => c2 ((hW _ (by omega)).mp x))]
      by_cases c3 : 0 < la ∧ wm (4 + tv % 16) = none
      · rw [if_pos c3, if_pos (Or.inr c3)]
      · rw [if_neg c3, if_neg (fun x => x.elim c2 c3)]
  unfold m_Model_needs_32 ndW
  rw [h17, h19]
  by_cases c1 : fi = 0
  · rw [if_pos (show nI fi = 0 by rw [c1]; rfl)]
    by_cases c2 : bf = 0
    · rw [if_pos (show nI bf = 0 by rw [c2]; rfl), e51]
      by_cases c3 : wm (tv / 16) = none ∨ (0 < la ∧ wm (4 + tv % 16) = none)
      · rw [if_pos c3, if_pos (by simpa [c1, c2] using c3)]
      · rw [if_neg c3, if_neg (by simpa [c1, c2] using c3)]
    · rw [if_neg (nI_ne0 (by omega) (by omega)), e50]
      by_cases c3 : 0 < la ∧ wm (4 + tv % 16) = none
      · rw [if_pos c3, if_pos (by simpa [c1, c2] using c3)]
      · rw [if_neg c3, if_neg (by simpa [c1, c2] using c3)]
  · rw [if_neg (nI_ne0 (by omega) (by omega)), e50]
    by_cases c3 : 0 < la ∧ wm (4 + tv % 16) = none
    · rw [if_pos c3, if_pos (by simpa [c1] using c3)]
    · rw [if_neg c3, if_neg (by simpa [c1] using c3)]
theorem R_needs {n c0 c fi la bf bi cnt p0 k : Nat} {B : Nat → Nat} {sz : Nat} {cf : Nat → Nat} {qm wm : Nat → Option Nat} {u : St} (hS : ScM B c0 c fi la bf bi cnt cf u) (hF : FrM B p0 cnt u) (hB : FrB B p0 cnt) (h2 : u.1 2 = 0) (hQ : PMQ B sz (u.2.1 6) (u.2.1 7) qm) (hW : PMW B sz (u.2.1 8) (u.2.1 9) (u.2.1 10) (u.2.1 11) wm) (htb : ∀ k, k < c → B (c0 + 2 + 2 * k) / 16 < 4 ∧ B (c0 + 2 + 2 * k) % 16 < 4) (hk : k < c) : Ev Gz (m_Model_needs n (nI k) u) (nd1 B c0 fi la bf (tqB B p0) qm wm cf k) (fun _ w => w = u) := by
  obtain ⟨s15, s17, s18, s19, s20, sP, sD, sc, scn, sfl, sla, sbf, sbi, sc0, sbb⟩ := hS
  obtain ⟨p1, p2⟩ := sP k hk
  obtain ⟨d1, d2, d3⟩ := sD k hk
  obtain ⟨t1, t2⟩ := htb k hk
  have htq := (hB.2.2 (cf k) p2).2.1
  have hin := nI_in (c := k) (N := 4) (by omega) (by omega)
  have ek : (nI k).toNatClampNeg = k := nI_clamp (by omega)
  have ec : (nI (cf k)).toNatClampNeg = cf k := nI_clamp (by omega)
  have e5 : u.2.1 5 (cf k) = nI (tqB B p0 (cf k)) := (hF.2.2 (cf k) p2).2.2.2.1
  have e32 := R_n32 (n := n) (c0 := c0) (u := u) (by omega) s17 s18 s19 (by omega) sla sbf d1 d2 d3 t1 t2 (fun r hr => hW.has hr)
  have hz8 : Gz (fM u (8, c0 + 1 + 2 * k)) (8, c0 + 1 + 2 * k) := ⟨rfl, rfl, by omega, by omega⟩
  have e32F := R_n32 (n := n) (c0 := c0) (u := fM u (8, c0 + 1 + 2 * k)) (tv := B (c0 + 2 + 2 * k)) (wm := wm) (k := k) (by omega) s17 s18 s19 (by omega) sla sbf d1 d2 d3 t1 t2 (fun r hr => hW.has hr)
  rw [gS_1 hz8.ne, ite_self] at e32F
  unfold m_Model_needs
  rw [if_neg hin, ek, p1, if_neg (nI_in (c := cf k) (N := 4) (by omega) (by omega)), ec, e5, if_neg (nI_in (c := tqB B p0 (cf k)) (N := 4) htq (by omega)), nI_clamp (by omega), if_neg (show ¬ (nI k < 0 ∨ 4 ≤ k) from fun q => q.elim (nI_pos (by omega)) (by omega)), d3, R_wrong h2, Option.bind_some]
  show Ev Gz (if u.2.1 6 (tqB B p0 (cf k)) = 0 then m_Model_needs_32 n (nI k) (fM u (8, c0 + 1 + 2 * k)) else _) _ _
  rw [e32F, e32, gS_0 h2]
  unfold nd1
  by_cases c1 : qm (tqB B p0 (cf k)) = none
  · rw [if_pos ((hQ.has htq).mpr c1), if_pos c1]
    exact Ev.er ⟨_, rfl, hz8⟩
  · rw [if_neg (fun x => c1 ((hQ.has htq).mp x)), if_neg c1]
    by_cases c2 : ndW fi la bf wm (B (c0 + 2 + 2 * k)) = true
    · rw [if_pos c2, if_pos c2]
      exact Ev.er ⟨_, rfl, ⟨rfl, rfl, by simp, by simp⟩⟩
    · rw [if_neg c2, if_neg c2]
      exact Ev.ok ⟨_, rfl, rfl⟩
theorem R_507F {n f : Nat} {x : Int32} {u : St} (h : u.1 2 ≠ 0) : m_Model_readScan_507 n (f + 1) x u = some u := by
  show m_Model_readScan_507b n _ x u = _
  unfold m_Model_readScan_507b
  rw [if_neg h]
  exact ite_self _
theorem R_475F {n f : Nat} {x3 x : Int32} {u : St} (hn : 20000 ≤ n) (h : u.1 2 ≠ 0) : m_Model_readScan_475 n (f + 1) x3 x u = some u := by
  obtain ⟨g, rfl⟩ : ∃ g, n = g + 1 := ⟨n - 1, by omega⟩
  show m_Model_readScan_475b (g + 1) _ x3 x u = _
  unfold m_Model_readScan_475b m_Model_readScan_504
  rw [if_neg h, R_507F h]
  exact ite_self _
theorem R_nd {n c0 c fi la bf bi cnt p0 : Nat} {B : Nat → Nat} {sz : Nat} {cf : Nat → Nat} {qm wm : Nat → Option Nat} {u : St} (hS : ScM B c0 c fi la bf bi cnt cf u) (hF : FrM B p0 cnt u) (hB : FrB B p0 cnt) (h2 : u.1 2 = 0) (hQ : PMQ B sz (u.2.1 6) (u.2.1 7) qm) (hW : PMW B sz (u.2.1 8) (u.2.1 9) (u.2.1 10) (u.2.1 11) wm) (htb : ∀ k, k < c → B (c0 + 2 + 2 * k) / 16 < 4 ∧ B (c0 + 2 + 2 * k) % 16 < 4) : ∀ (m f k : Nat), k + m = c → m + 1 < f → Ev Gz (m_Model_readScan_507 n f (nI k) u) (nd B c0 fi la bf (tqB B p0) qm wm cf m k) (fun _ w => w = u) := by
  intro m
  induction m with
  | zero =>
    intro f k hk hf
    obtain ⟨f, rfl⟩ : ∃ g, f = g + 1 := ⟨f - 1, by omega⟩
    have hc4 : c ≤ 4 := hS.2.2.2.2.2.2.2.1
    refine Ev.ok ⟨u, ?_, rfl⟩
    show m_Model_readScan_507b n _ (nI k) u = _
    unfold m_Model_readScan_507b
    rw [if_pos (by rw [hS.1]; exact nI_le (by omega) (by omega))]
  | succ m ih =>
    intro f k hk hf
    obtain ⟨f, rfl⟩ : ∃ g, f = g + 1 := ⟨f - 1, by omega⟩
    obtain ⟨f, rfl⟩ : ∃ g, f = g + 1 := ⟨f - 1, by omega⟩
    have hc4 : c ≤ 4 := hS.2.2.2.2.2.2.2.1
    have e1 : m_Model_readScan_507 n (f + 1 + 1) (nI k) u = (m_Model_needs n (nI k) u).bind (fun z526 => m_Model_readScan_507 n (f + 1) (nI (k + 1)) z526) := by
      show m_Model_readScan_507b n _ (nI k) u = _
      unfold m_Model_readScan_507b
      rw [if_neg (by rw [hS.1]; exact nI_ge (by omega) (by omega)), if_pos h2, nI_1]
    rw [e1]
    refine Ev.bind (R_needs hS hF hB h2 hQ hW htb (by omega)) (fun z e _ hz => ⟨z, R_507F hz.ne, hz⟩) ?_
    rintro z _ - - rfl
    exact ih (f + 1) (k + 1) (by omega) (by omega)
theorem R_od {n c0 c fi la bf bi cnt p0 q : Nat} {B : Nat → Nat} {sz : Nat} {cf : Nat → Nat} {qm wm lt : Nat → Option Nat} {seq : Bool} {x2 : Int32} {u : St} (hn : 20000 ≤ n) (hS : ScM B c0 c fi la bf bi cnt cf u) (hF : FrM B p0 cnt u) (hB : FrB B p0 cnt) (h2 : u.1 2 = 0) (h4 : u.1 4 = nI (q + 1)) (hL : PL (u.2.1 13) lt) (hQ : PMQ B sz (u.2.1 6) (u.2.1 7) qm) (hW : PMW B sz (u.2.1 8) (u.2.1 9) (u.2.1 10) (u.2.1 11) wm) (htb : ∀ k, k < c → B (c0 + 2 + 2 * k) / 16 < 4 ∧ B (c0 + 2 + 2 * k) % 16 < 4) (hx : x2 = if seq = true then 0 else 1) (hsq : seq = true → fi = 0 ∧ la = 63 ∧ bf = 0) (hss : seq = true → ∀ c, c < 4 → lt (64 * c) = none → ∀ i, i < 64 → lt (64 * c + i) = none) (hq : q < 100000) : ∀ (m f k : Nat), k + m = c → m + 1 < f → Ev Gz (m_Model_readScan_475 n f x2 (nI k) u) (eb (od seq c0 q fi la bf lt cf m k) (fun _ => nd B c0 fi la bf (tqB B p0) qm wm cf c 0)) (fun _ w => w = u) := by
  intro m
  induction m with
  | zero =>
    intro f k hk hf
    obtain ⟨f, rfl⟩ : ∃ g, f = g + 1 := ⟨f - 1, by omega⟩
    have hc4 : c ≤ 4 := hS.2.2.2.2.2.2.2.1
    have e1 : m_Model_readScan_475 n (f + 1) x2 (nI k) u = m_Model_readScan_507 n n (nI 0) u := by
      show m_Model_readScan_475b n _ x2 (nI k) u = _
      unfold m_Model_readScan_475b m_Model_readScan_504
      rw [if_pos (by rw [hS.1]; exact nI_le (by omega) (by omega))]; rfl
    rw [e1]
    exact R_nd hS hF hB h2 hQ hW htb c n 0 (by omega) (by omega)
  | succ m ih =>
    intro f k hk hf
    obtain ⟨f, rfl⟩ : ∃ g, f = g + 1 := ⟨f - 1, by omega⟩
    obtain ⟨f, rfl⟩ : ∃ g, f = g + 1 := ⟨f - 1, by omega⟩
    have hc4 : c ≤ 4 := hS.2.2.2.2.2.2.2.1
    have e1 : m_Model_readScan_475 n (f + 1 + 1) x2 (nI k) u = (m_Model_order n (nI k) x2 u).bind (fun z495 => m_Model_readScan_475 n (f + 1) x2 (nI (k + 1)) z495) := by
      show m_Model_readScan_475b n _ x2 (nI k) u = _
      unfold m_Model_readScan_475b
      rw [if_neg (by rw [hS.1]; exact nI_ge (by omega) (by omega)), if_pos h2, nI_1]
    have e2 : eb (od seq c0 q fi la bf lt cf (m + 1) k) (fun _ => nd B c0 fi la bf (tqB B p0) qm wm cf c 0) = eb (od1 seq c0 q fi la bf lt cf k) (fun _ => eb (od seq c0 q fi la bf lt cf m (k + 1)) (fun _ => nd B c0 fi la bf (tqB B p0) qm wm cf c 0)) := by
      show eb (eb (od1 seq c0 q fi la bf lt cf k) _) _ = _
      cases od1 seq c0 q fi la bf lt cf k <;> rfl
    rw [e1, e2]
    refine Ev.bind (R_order hn hS h2 h4 hL hx hsq hss (by omega) hq) (fun z e _ hz => ⟨z, R_475F hn hz.ne, hz⟩) ?_
    rintro z _ - - rfl
    exact ih (f + 1) (k + 1) (by omega) (by omega)
theorem R_469F {n : Nat} {x3 y : Int32} {u : St} (hn : 20000 ≤ n) (h : u.1 2 ≠ 0) : m_Model_readScan_469 n x3 y u = some u := by
  obtain ⟨g, rfl⟩ : ∃ g, n = g + 1 := ⟨n - 1, by omega⟩
  unfold m_Model_readScan_469
  rw [R_mustF h, Option.bind_some]
  exact R_475F hn h
theorem R_388F {n : Nat} {x3 y : Int32} {u : St} {e : Er} (hn : 20000 ≤ n) (h : Gz u e) : ∃ w, m_Model_readScan_388 n x3 y u = some w ∧ Gz w e := by
  unfold m_Model_readScan_388
  rw [R_mustF h.ne, Option.bind_some, R_nextF h, Option.bind_some]
  dsimp only
  rw [if_pos h.pos]
  exact ⟨_, R_469F (u := sG (sG u 19 ((0 : Int32) / 16)) 20 ((0 : Int32) - (0 : Int32) / 16 * 16)) hn h.ne, h⟩
theorem R_311F {n : Nat} {x3 y : Int32} {u : St} {e : Er} (hn : 20000 ≤ n) (h : Gz u e) : ∃ w, m_Model_readScan_311 n x3 y u = some w ∧ Gz w e := by
  unfold m_Model_readScan_311
  rw [R_mustF h.ne, Option.bind_some, R_nextF h, Option.bind_some]
  dsimp only
  rw [if_pos h.pos]
  exact R_388F (u := sG u 18 0) hn h
theorem R_236F {n : Nat} {u : St} {e : Er} (hn : 20000 ≤ n) (h : Gz u e) : ∃ w, m_Model_readScan_236 n u = some w ∧ Gz w e := by
  have : ∀ y, ∃ w, m_Model_readScan_251 n y u = some w ∧ Gz w e := by
    intro y
    unfold m_Model_readScan_251
    rw [R_nextF h, Option.bind_some]
    dsimp only
    rw [if_pos h.pos]
    exact R_311F (u := sG u 17 0) hn h
  unfold m_Model_readScan_236
  by_cases c : u.1 9 = 194
  · rw [if_pos c]; exact this 1
  · rw [if_neg c]; exact this 0
