theorem dL_612 : decode code 612 = .ok (.ireturn, 1) := by decide +kernel
theorem dL_613 : decode code 613 = .ok (.iinc 4 4, 3) := by decide +kernel
theorem dL_616 : decode code 616 = .ok (.goto (-593), 3) := by decide +kernel
theorem dL_619 : decode code 619 = .ok (.iconst 1, 1) := by decide +kernel
theorem dL_620 : decode code 620 = .ok (.ireturn, 1) := by decide +kernel
