/-! constants of longs and floats -/
theorem w741 : (Jvm.Cond.constantLong "CompactformsLaw" (102 : Nat) (31 : Int64)) ∈ GW := gw_of m741 rfl
theorem w742 : (Jvm.Cond.constantLong "CompactformsLaw" (104 : Nat) (1000003 : Int64)) ∈ GW := gw_of m742 rfl
theorem w743 : (Jvm.Cond.constantFloat "CompactformsLaw" (106 : Nat) (1090519040 : UInt32)) ∈ GW := gw_of m743 rfl
theorem w769 : (Jvm.Cond.constantFloat "CompactformsLaw" (74 : Nat) (3204448256 : UInt32)) ∈ GW := gw_of m769 rfl
