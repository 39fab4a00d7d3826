theorem op_push (a b c : Int) : okA (t_WF_push m2 a b c) (fun M => t_MO_push M a b c) = true := by sorry
theorem op_pushed (a b c : Int) : okA (t_WF_pushed m2 a b c) (fun M => t_MO_pushed M a b c) = true := by sorry
