set_option maxRecDepth 100000 in
set_option maxHeartbeats 4000000 in
theorem tGall_2 : ((tCl.drop 120).take 60).all tGchk = true := by decide +kernel
set_option maxRecDepth 100000 in
set_option maxHeartbeats 4000000 in
theorem tGall_3 : ((tCl.drop 180).take 60).all tGchk = true := by decide +kernel
