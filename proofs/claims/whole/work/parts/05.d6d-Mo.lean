theorem d_Mo_count_213 : decode b_Mo_count 213 = .ok (.iaload, 1) := by decide +kernel
theorem d_Mo_count_214 : decode b_Mo_count 214 = .ok (.ireturn, 1) := by decide +kernel
theorem d_Mo_count_215 : decode b_Mo_count 215 = .ok (.bipush (-2), 2) := by decide +kernel
theorem d_Mo_count_217 : decode b_Mo_count 217 = .ok (.ireturn, 1) := by decide +kernel
