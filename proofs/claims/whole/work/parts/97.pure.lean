theorem pure_all : ∃ (n : Nat) (I : Nat → St → St → Prop), pureOK n I ∧ ∃ z w : St, m_Picture_clearP n tP0 = some z ∧ m_Model_forget n tM0 = some w ∧ I 0 (tO0 z) w := sorry
