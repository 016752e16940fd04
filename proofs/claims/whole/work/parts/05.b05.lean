theorem oxl_5 : (List.range' 550 110).all (fun pc => match oxi_114 pc with | none => true | some e => decide (decode code pc = .ok (e.1, e.2.1))) = true := by decide +kernel
