theorem dl_1282 : decode code 1282 = .ok (.aload_n 0, 1) := by decide +kernel
theorem dl_1283 : decode code 1283 = .ok (.iload_n 3, 1) := by decide +kernel
theorem dl_1284 : decode code 1284 = .ok (.iconst 1, 1) := by decide +kernel
theorem dl_1285 : decode code 1285 = .ok (.iadd, 1) := by decide +kernel
theorem dl_1286 : decode code 1286 = .ok (.iaload, 1) := by decide +kernel
theorem dl_1287 : decode code 1287 = .ok (.invokevirtual 169, 3) := by decide +kernel
theorem dl_1290 : decode code 1290 = .ok (.if_icmp .eq 5, 3) := by decide +kernel
theorem dl_1295 : decode code 1295 = .ok (.iinc 3 6, 3) := by decide +kernel
theorem dl_1298 : decode code 1298 = .ok (.goto (-1280), 3) := by decide +kernel
theorem dl_1301 : decode code 1301 = .ok (.iconst 1, 1) := by decide +kernel
theorem dl_1302 : decode code 1302 = .ok (.ireturn, 1) := by decide +kernel
