set_option maxRecDepth 100000 in
set_option maxHeartbeats 4000000 in
theorem tGall_0 : ((tCl.drop 0).take 60).all tGchk = true := by decide +kernel
set_option maxRecDepth 100000 in
set_option maxHeartbeats 4000000 in
theorem tGall_1 : ((tCl.drop 60).take 60).all tGchk = true := by decide +kernel
