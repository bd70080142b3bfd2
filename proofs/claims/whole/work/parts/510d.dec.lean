/-! the law decoded -/
theorem dL_1100 : decode code 1100 = .ok (.iaload, 1) := by decide +kernel
theorem dL_1101 : decode code 1101 = .ok (.invokevirtual 150, 3) := by decide +kernel
theorem dL_1104 : decode code 1104 = .ok (.if_icmp .eq 5, 3) := by decide +kernel
theorem dL_1107 : decode code 1107 = .ok (.iconst 0, 1) := by decide +kernel
theorem dL_1108 : decode code 1108 = .ok (.ireturn, 1) := by decide +kernel
theorem dL_1109 : decode code 1109 = .ok (.iinc 3 6, 3) := by decide +kernel
theorem dL_1112 : decode code 1112 = .ok (.goto (-1094), 3) := by decide +kernel
theorem dL_1115 : decode code 1115 = .ok (.iconst 1, 1) := by decide +kernel
theorem dL_1116 : decode code 1116 = .ok (.ireturn, 1) := by decide +kernel
