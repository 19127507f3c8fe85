/-! the states of the two systems, and the cells that hold them -/
abbrev St : Type := (Nat → Int32) × (Nat → Nat → Int32) × (Nat → Nat → Int64) × (Nat → Nat)
def sG (t : St) (k : Nat) (v : Int32) : St := (upd t.1 k v, t.2)
def sH (t : St) (k i : Nat) (v : Int32) : St := (t.1, va_up t.2.1 k (upd (t.2.1 k) i v), t.2.2)
def sL (t : St) (k i : Nat) (v : Int64) : St := (t.1, t.2.1, va_up t.2.2.1 k (vp_updL (t.2.2.1 k) i v), t.2.2.2)
def sA (t : St) (k n : Nat) (f : Nat → Int32) : St := (t.1, va_up t.2.1 k f, t.2.2.1, va_up t.2.2.2 k n)
abbrev tyA (cI cB cJ cZ : ClassId) : List (ClassId × FieldType) := [(cI, .int), (cB, .byte), (cJ, .long), (cZ, .boolean)]
def aU (a : Nat → Nat) (u : Nat × Nat × Nat) : Nat → Nat := fun k => if k = 2 then u.1 else if k = 5 then u.2.1 else if k = 7 then u.2.2 else a k
def wO (cI cB cJ cZ : ClassId) (a : Nat → Nat) (t : St) : va_W := [(a 0, .inr (5, [.ref (a 1), .ref (a 3), .ref (a 11)])),
  (a 1, .inr (0, [.ref (a 2), .int (t.1 0)])),
  (a 2, .inl (cB, t.2.2.2 0, .inl (t.2.1 0))),
  (a 3, .inr (3, [.ref (a 1), .ref (a 4), .ref (a 6), .ref (a 8), .ref (a 9), .ref (a 10), .int (t.1 1), .int (t.1 2), .int (t.1 3), .int (t.1 4), .int (t.1 5), .int (t.1 6)])),
  (a 4, .inr (1, [.ref (a 5), .int (t.1 7)])),
  (a 5, .inl (cI, t.2.2.2 1, .inl (t.2.1 1))),
  (a 6, .inr (1, [.ref (a 7), .int (t.1 8)])),
  (a 7, .inl (cI, t.2.2.2 2, .inl (t.2.1 2))),
  (a 8, .inl (cI, 16, .inl (t.2.1 3))),
  (a 9, .inl (cI, 4, .inl (t.2.1 4))),
  (a 10, .inl (cI, 8, .inl (t.2.1 5))),
  (a 11, .inr (2, [.ref (a 1), .ref (a 3), .ref (a 12), .ref (a 14), .ref (a 15), .int (t.1 9), .int (t.1 10), .int (t.1 11), .int (t.1 12), .int (t.1 13), .int (t.1 14)])),
  (a 12, .inr (4, [.int (t.1 15), .int (t.1 16), .int (t.1 17), .int (t.1 18), .int (t.1 19), .int (t.1 20), .ref (a 13)])),
  (a 13, .inl (cI, 4, .inl (t.2.1 6))),
  (a 14, .inl (cI, 256, .inl (t.2.1 7))),
  (a 15, .inl (cJ, 4, .inr (.inl (t.2.2.1 0))))]
def isO : List Nat := [0, 1, 2, 3, 4, 5, 6, 7, 8, 9, 10, 11, 12, 13, 14, 15]
theorem hCO (cI cB cJ cZ : ClassId) (a : Nat → Nat) (t : St) : isO.map (fun i => (wO cI cB cJ cZ a t)[i]?) = (wO cI cB cJ cZ a t).map some := rfl
theorem hDO (cI cB cJ cZ : ClassId) (a : Nat → Nat) (t : St) : isO.filterMap (fun i => (wO cI cB cJ cZ a t)[i]?) = wO cI cB cJ cZ a t := rfl
def wM (cI cB cJ cZ : ClassId) (a : Nat → Nat) (t : St) : va_W := [(a 0, .inr (6, [.int (t.1 0), .ref (a 1), .int (t.1 1), .int (t.1 2), .int (t.1 3), .int (t.1 4), .int (t.1 5), .int (t.1 6), .int (t.1 7), .int (t.1 8), .ref (a 2), .int (t.1 9), .int (t.1 10), .int (t.1 11), .int (t.1 12), .ref (a 3), .ref (a 4), .ref (a 5), .ref (a 6), .int (t.1 13), .ref (a 7), .ref (a 8), .ref (a 9), .ref (a 10), .ref (a 11), .ref (a 12), .int (t.1 14), .ref (a 13), .ref (a 14), .int (t.1 15), .ref (a 15), .ref (a 16), .ref (a 17), .ref (a 18), .ref (a 19), .int (t.1 16), .int (t.1 17), .int (t.1 18), .int (t.1 19), .int (t.1 20)])),
  (a 1, .inl (cB, 16384, .inl (t.2.1 0))),
  (a 2, .inl (cI, 16384, .inl (t.2.1 1))),
  (a 3, .inl (cI, 4, .inl (t.2.1 2))),
  (a 4, .inl (cI, 4, .inl (t.2.1 3))),
  (a 5, .inl (cI, 4, .inl (t.2.1 4))),
  (a 6, .inl (cI, 4, .inl (t.2.1 5))),
  (a 7, .inl (cZ, 4, .inl (t.2.1 6))),
  (a 8, .inl (cI, 256, .inl (t.2.1 7))),
  (a 9, .inl (cZ, 8, .inl (t.2.1 8))),
  (a 10, .inl (cI, 136, .inl (t.2.1 9))),
  (a 11, .inl (cI, 2048, .inl (t.2.1 10))),
  (a 12, .inl (cI, 8, .inl (t.2.1 11))),
  (a 13, .inl (cI, 61440, .inl (t.2.1 12))),
  (a 14, .inl (cI, 256, .inl (t.2.1 13))),
  (a 15, .inl (cI, 4, .inl (t.2.1 14))),
  (a 16, .inl (cI, 4, .inl (t.2.1 15))),
  (a 17, .inl (cI, 4, .inl (t.2.1 16))),
  (a 18, .inl (cI, 4, .inl (t.2.1 17))),
  (a 19, .inl (cZ, 256, .inl (t.2.1 18)))]
def isM : List Nat := [0, 1, 2, 3, 4, 5, 6, 7, 8, 9, 10, 11, 12, 13, 14, 15, 16, 17, 18, 19]
theorem hCM (cI cB cJ cZ : ClassId) (a : Nat → Nat) (t : St) : isM.map (fun i => (wM cI cB cJ cZ a t)[i]?) = (wM cI cB cJ cZ a t).map some := rfl
theorem hDM (cI cB cJ cZ : ClassId) (a : Nat → Nat) (t : St) : isM.filterMap (fun i => (wM cI cB cJ cZ a t)[i]?) = wM cI cB cJ cZ a t := rfl
