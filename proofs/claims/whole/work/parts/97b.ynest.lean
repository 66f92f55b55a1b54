/-! CONSTRUCTORS: the links of a nest -/
def yNest : List (String × Nat × MethodName × String) := [("ProtocolDesk$Rulebook", 28, yX4_init, "ProtocolDesk"), ("ProtocolDesk$Hall", 35, yX7_init, "ProtocolDesk"), ("ProtocolDesk", 9, yX3_init, "ProtocolDesk"), ("ProtocolDesk", 18, yX8_init, "ProtocolDesk"), ("ProtocolDesk", 59, yX0_init, "ProtocolDesk")]
