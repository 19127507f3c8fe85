def m_Bytes_add_40 (n : Nat)  (x1 : Int32) (t : St) : Option (St) :=
 if ((t.1 0)) < 0 ∨ (t.2.2.2 0) ≤ ((t.1 0)).toNatClampNeg then none else
 some (sG (sH t 0 ((t.1 0)).toNatClampNeg (vp_nar .byte (x1).toInt8.toInt32)) 0 ((t.1 0) + (1 : Int32)))
def m_Bytes_add (n : Nat) (x1 : Int32) (t0 : St) : Option (St) :=
 if (t0.1 0) < (16384 : Int32) then
  if (t0.1 0) < (Int32.ofNat (t0.2.2.2 0)) then
   m_Bytes_add_40 n  x1 t0
  else
   if ¬ (¬ (((2 : Int32) * (t0.1 0))) < 0 ∧ ¬ (((2 : Int32) * (t0.1 0))) = Int32.ofNat (t0.2.2.2 0) ∧ 0 < (t0.2.2.2 0) ∧ 2 * (t0.2.2.2 0) ≤ (((2 : Int32) * (t0.1 0))).toNatClampNeg ∧ (((2 : Int32) * (t0.1 0))).toNatClampNeg ≤ 65536 ∧ (∀ i, i < (t0.2.2.2 0) → fits .byte (.int ((t0.2.1 0) i)) = true)) then none else
   m_Bytes_add_40 n  x1 (sA t0 0 (((2 : Int32) * (t0.1 0))).toNatClampNeg (va_cpy (t0.2.1 0) (fun _ => 0) 0 0 (t0.2.2.2 0)))
 else
  some t0
def m_Numbers_add_4_29 (n : Nat)  (x1 : Int32) (t : St) : Option (St) :=
 if ((t.1 7)) < 0 ∨ (t.2.2.2 1) ≤ ((t.1 7)).toNatClampNeg then none else
 some (sG (sH t 1 ((t.1 7)).toNatClampNeg x1) 7 ((t.1 7) + (1 : Int32)))
def m_Numbers_add_4 (n : Nat) (x1 : Int32) (t0 : St) : Option (St) :=
 if (t0.1 7) < (Int32.ofNat (t0.2.2.2 1)) then
  m_Numbers_add_4_29 n  x1 t0
 else
  if ¬ (¬ (((2 : Int32) * (t0.1 7))) < 0 ∧ ¬ (((2 : Int32) * (t0.1 7))) = Int32.ofNat (t0.2.2.2 1) ∧ 0 < (t0.2.2.2 1) ∧ 2 * (t0.2.2.2 1) ≤ (((2 : Int32) * (t0.1 7))).toNatClampNeg ∧ (((2 : Int32) * (t0.1 7))).toNatClampNeg ≤ 65536) then none else
  m_Numbers_add_4_29 n  x1 (sA t0 1 (((2 : Int32) * (t0.1 7))).toNatClampNeg (va_cpy (t0.2.1 1) (fun _ => 0) 0 0 (t0.2.2.2 1)))
def m_Numbers_add_6_29 (n : Nat)  (x1 : Int32) (t : St) : Option (St) :=
 if ((t.1 8)) < 0 ∨ (t.2.2.2 2) ≤ ((t.1 8)).toNatClampNeg then none else
 some (sG (sH t 2 ((t.1 8)).toNatClampNeg x1) 8 ((t.1 8) + (1 : Int32)))
def m_Numbers_add_6 (n : Nat) (x1 : Int32) (t0 : St) : Option (St) :=
 if (t0.1 8) < (Int32.ofNat (t0.2.2.2 2)) then
  m_Numbers_add_6_29 n  x1 t0
 else
  if ¬ (¬ (((2 : Int32) * (t0.1 8))) < 0 ∧ ¬ (((2 : Int32) * (t0.1 8))) = Int32.ofNat (t0.2.2.2 2) ∧ 0 < (t0.2.2.2 2) ∧ 2 * (t0.2.2.2 2) ≤ (((2 : Int32) * (t0.1 8))).toNatClampNeg ∧ (((2 : Int32) * (t0.1 8))).toNatClampNeg ≤ 65536) then none else
  m_Numbers_add_6_29 n  x1 (sA t0 2 (((2 : Int32) * (t0.1 8))).toNatClampNeg (va_cpy (t0.2.1 2) (fun _ => 0) 0 0 (t0.2.2.2 2)))
def m_Picture_addSegment (n : Nat) (x1 : Int32) (x2 : Int32) (t0 : St) : Option (St) :=
 (m_Numbers_add_4 n x1 t0).bind (fun z5 =>
  (m_Numbers_add_4 n x2 z5).bind (fun z13 =>
   some z13))
def m_Picture_addScan (n : Nat) (x1 : Int32) (x2 : Int32) (x3 : Int32) (x4 : Int32) (t0 : St) : Option (St) :=
 (m_Numbers_add_6 n x1 t0).bind (fun z5 =>
  (m_Numbers_add_6 n x2 z5).bind (fun z13 =>
   (m_Numbers_add_6 n x3 z13).bind (fun z21 =>
    (m_Numbers_add_6 n x4 z21).bind (fun z30 =>
     (m_Numbers_add_6 n (z30.1 5) z30).bind (fun z41 =>
      some z41)))))
def m_Parser_endData_43 (n : Nat)  (x1 : Int32) (x2 : Int32) (t : St) : Option (St) :=
 (m_Picture_addScan n (t.1 15) x1 ((t.1 9) - x1) x2 (sG t 12 (0 : Int32))).bind (fun z66 =>
  some z66)
def m_Parser_endData_18 (n : Nat)  (x1 : Int32) (x2 : Int32) (t : St) : Option (St) :=
 (m_Picture_scanCount n t).bind (fun z23 =>
  if z23.1 = 0 then
   if (z23.2.1 3) = 0 then
    (m_Picture_addScan n (z23.2.1 15) x1 ((z23.2.1 9) - x1) x2 (sG z23.2 12 (1 : Int32))).bind (fun z66 =>
     some z66)
   else
    m_Parser_endData_43 n  x1 x2 z23.2
  else
   m_Parser_endData_43 n  x1 x2 z23.2)
def m_Parser_endData (n : Nat) (x1 : Int32) (x2 : Int32) (x3 : Int32) (t0 : St) : Option (St) :=
 if x3 = (-1 : Int32) then
  (m_Parser_fail n (1 : Int32) (t0.1 0) t0).bind (fun z14 =>
   m_Parser_endData_18 n  x1 x2 z14.2)
 else
  m_Parser_endData_18 n  x1 x2 t0
def m_Parser_readData_139 (n : Nat)   (t : St) : Option (St) :=
 (m_Parser_fail n (1 : Int32) (t.1 0) t).bind (fun z148 =>
  some z148.2)
def m_Parser_readData_126 (n : Nat) (K7 : Int32 → Int32 → St → Option (St)) (x1 : Int32) (x2 : Int32) (t : St) : Option (St) :=
 K7 x1 x2 (sG t 9 ((t.1 9) + (2 : Int32)))
def m_Parser_readData_109 (n : Nat) (K7 : Int32 → Int32 → St → Option (St)) (x1 : Int32) (x2 : Int32) (x3 : Int32) (x4 : Int32) (t : St) : Option (St) :=
 if x3 = 0 then
  m_Parser_readData_126 n K7 x1 x2 t
 else
  if x4 = 0 then
   (m_Parser_endData n x1 x2 x3 t).bind (fun z122 =>
    some z122)
  else
   m_Parser_readData_126 n K7 x1 x2 t
def m_Parser_readData_99 (n : Nat) (K7 : Int32 → Int32 → St → Option (St)) (x1 : Int32) (x2 : Int32) (x3 : Int32) (y0 : Int32) (t : St) : Option (St) :=
 if y0 = 0 then
  m_Parser_readData_109 n K7 x1 x2 x3 y0 t
 else
  m_Parser_readData_109 n K7 x1 (x2 + 1) x3 y0 t
def m_Parser_readData_98 (n : Nat) (K7 : Int32 → Int32 → St → Option (St)) (x1 : Int32) (x2 : Int32) (x3 : Int32) (t : St) : Option (St) :=
 m_Parser_readData_99 n K7 x1 x2 x3 (0 : Int32) t
def m_Parser_readData_7b (n : Nat)  (K7 : Int32 → Int32 → St → Option (St)) (x1 : Int32) (x2 : Int32) (t : St) : Option (St) :=
 if (t.1 13) = 0 then
  if (t.1 0) ≤ (t.1 9) then
   m_Parser_readData_139 n  t
  else
   (m_Bytes_at n (t.1 9) t).bind (fun z36 =>
    if z36.1 = (255 : Int32) then
     (m_Bytes_at n ((z36.2.1 9) + (1 : Int32)) z36.2).bind (fun z68 =>
      if (z68.2.1 5) ≤ 0 then
       m_Parser_readData_98 n K7 x1 x2 z68.1 z68.2
      else
       if z68.1 = ((208 : Int32) + (x2 - x2 / (8 : Int32) * (8 : Int32))) then
        m_Parser_readData_99 n K7 x1 x2 z68.1 (1 : Int32) z68.2
       else
        m_Parser_readData_98 n K7 x1 x2 z68.1 z68.2)
    else
     K7 x1 x2 (sG z36.2 9 ((z36.2.1 9) + (1 : Int32))))
 else
  m_Parser_readData_139 n  t
def m_Parser_readData_7 (n : Nat)  : Nat → Int32 → Int32 → St → Option (St)
  | 0 => fun _ _ _ => none
  | k + 1 => m_Parser_readData_7b n  (m_Parser_readData_7 n  k)
def m_Parser_readData (n : Nat)  (t0 : St) : Option (St) :=
 m_Parser_readData_7 n  n (t0.1 9) (0 : Int32) t0
def m_Parser_readNext (n : Nat)  (t0 : St) : Option (St) :=
 (m_Parser_takeMarker n t0).bind (fun z6 =>
  if z6.1 = (-1 : Int32) then
   some z6.2
  else
   if z6.1 = (217 : Int32) then
    some (sG z6.2 6 (z6.2.1 9))
   else
    (m_Parser_takeLength n z6.2).bind (fun z36 =>
     (m_Picture_addSegment n (t0.1 9) (z36.1 9) z36).bind (fun z48 =>
      (m_Parser_readContents n z6.1 z48).bind (fun z53 =>
       if z6.1 = (218 : Int32) then
        (m_Parser_readData n z53).bind (fun z64 =>
         some z64)
       else
        some z53))))
def m_Reader_read_39 (n : Nat)   (t : St) : Option (Int32 × St) :=
 (m_Parser_finish n t).bind (fun z43 =>
  some (z43.1, z43.2))
def m_Reader_read_9b (n : Nat)  (K9 : Int32 → St → Option (Int32 × St)) (x1 : Int32) (t : St) : Option (Int32 × St) :=
 if (16384 : Int32) ≤ x1 then
  m_Reader_read_39 n  t
 else
  (m_Parser_goesOn n t).bind (fun z20 =>
   if z20.1 = 0 then
    m_Reader_read_39 n  z20.2
   else
    (m_Parser_readNext n z20.2).bind (fun z30 =>
     K9 (x1 + 1) z30))
def m_Reader_read_9 (n : Nat)  : Nat → Int32 → St → Option (Int32 × St)
  | 0 => fun _ _ => none
  | k + 1 => m_Reader_read_9b n  (m_Reader_read_9 n  k)
def m_Reader_read (n : Nat)  (t0 : St) : Option (Int32 × St) :=
 (m_Parser_begin n t0).bind (fun z4 =>
  m_Reader_read_9 n  n (0 : Int32) z4)
def m_Reader_give_33b (n : Nat)  (K33 : Int64 → Int32 → St → Option (Int32 × St)) (x1 : Int64) (x4 : Int32) (t : St) : Option (Int32 × St) :=
 if x4 < 0 then
  (m_Parser_forget n t).bind (fun z63 =>
   some ((1 : Int32), z63))
 else
  (m_Bytes_add n ((((x1).toUInt64 >>> ((((8 : Int32) * x4)).toInt64.toUInt64 &&& Int64.toUInt64 63)).toInt64)).toInt32 t).bind (fun z50 =>
   K33 x1 (x4 + (-1)) z50)
def m_Reader_give_33 (n : Nat)  : Nat → Int64 → Int32 → St → Option (Int32 × St)
  | 0 => fun _ _ _ => none
  | k + 1 => m_Reader_give_33b n  (m_Reader_give_33 n  k)
def m_Reader_give (n : Nat) (x1 : Int64) (x3 : Int32) (t0 : St) : Option (Int32 × St) :=
 if x3 < (1 : Int32) then
  some ((0 : Int32), t0)
 else
  if (8 : Int32) < x3 then
   some ((0 : Int32), t0)
  else
   if x3 ≤ ((16384 : Int32) - (t0.1 0)) then
    m_Reader_give_33 n  n x1 (x3 - (1 : Int32)) t0
   else
    some ((0 : Int32), t0)
