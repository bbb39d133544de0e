theorem probe_at : ((vx_atS RX7 187 "java/lang/IndexOutOfBoundsException" ["java/lang/RuntimeException", "java/lang/Exception"]).filter (fun w => !goodWord w)).length = 0 := by decide +kernel
