/-! The tables lay the fields of each class. -/
set_option maxRecDepth 100000 in
theorem l_Ck : ∀ w ∈ u_ws R_Ck T_Ck 2, w ∈ tb := by decide +kernel
set_option maxRecDepth 100000 in
theorem l_Pi : ∀ w ∈ u_ws R_Pi T_Pi 3, w ∈ tb := by decide +kernel
set_option maxRecDepth 100000 in
theorem l_Rd : ∀ w ∈ u_ws R_Rd T_Rd 14, w ∈ tb := by decide +kernel
set_option maxRecDepth 100000 in
theorem l_Rc : ∀ w ∈ u_ws R_Rc T_Rc 12, w ∈ tb := by decide +kernel
set_option maxRecDepth 100000 in
theorem l_Se : ∀ w ∈ u_ws R_Se T_Se 11, w ∈ tb := by decide +kernel
set_option maxRecDepth 100000 in
theorem l_Sf : ∀ w ∈ u_ws R_Sf T_Sf 3, w ∈ tb := by decide +kernel
set_option maxRecDepth 100000 in
theorem l_Wr : ∀ w ∈ u_ws R_Wr T_Wr 2, w ∈ tb := by decide +kernel
set_option maxRecDepth 100000 in
theorem l_FF : ∀ w ∈ u_ws R_FF T_FF 2, w ∈ tb := by decide +kernel
set_option maxRecDepth 100000 in
theorem l_Mo : ∀ w ∈ u_ws R_Mo T_Mo 32, w ∈ tb := by decide +kernel
def isIA (L : List Nat) (o : Nat) : Prop := o ∈ L ∧ kd o = 15
def ush (x y : Int32) : Int32 := (x.toUInt32 >>> (y.toUInt32 &&& Int32.toUInt32 31)).toInt32
