def R_LW : String := "MarchTestsLaw"
abbrev b_LW_cell : ByteArray := method_2_code
def y_LW_cell : MethodName := ⟨R_LW, "cell", "([II)I"⟩
abbrev b_LW_fault : ByteArray := method_3_code
def y_LW_fault : MethodName := ⟨R_LW, "fault", "(LMarchTests;III[J)I"⟩
abbrev hs_LW_fault : List (Nat × Nat × Nat × Nat) := [(0, 12, 15, 13), (0, 12, 19, 15), (0, 12, 23, 17)]
abbrev b_LW_run : ByteArray := method_4_code
def y_LW_run : MethodName := ⟨R_LW, "run", "(LMarchTests;I[J)I"⟩
abbrev hs_LW_run : List (Nat × Nat × Nat × Nat) := [(0, 9, 12, 15), (0, 9, 15, 17)]
abbrev b_LW_covered : ByteArray := method_5_code
def y_LW_covered : MethodName := ⟨R_LW, "covered", "(LMarchTests;II[J)I"⟩
abbrev hs_LW_covered : List (Nat × Nat × Nat × Nat) := [(0, 9, 12, 15), (0, 9, 16, 17)]
abbrev b_LW_machine : ByteArray := method_6_code
def y_LW_machine : MethodName := ⟨R_LW, "machine", "(LMarchTests;I[J)I"⟩
abbrev hs_LW_machine : List (Nat × Nat × Nat × Nat) := [(0, 9, 12, 15), (0, 9, 15, 13)]
abbrev b_LW_scramble : ByteArray := method_7_code
def y_LW_scramble : MethodName := ⟨R_LW, "scramble", "(LMarchTests;II[J)I"⟩
abbrev hs_LW_scramble : List (Nat × Nat × Nat × Nat) := [(0, 17, 20, 13)]
abbrev b_LW_failing : ByteArray := method_8_code
def y_LW_failing : MethodName := ⟨R_LW, "failing", "(LMarchTests;II[J)I"⟩
abbrev hs_LW_failing : List (Nat × Nat × Nat × Nat) := [(0, 10, 13, 13)]
abbrev b_LW_repair : ByteArray := method_9_code
def y_LW_repair : MethodName := ⟨R_LW, "repair", "(LMarchTests;IIJ[J)I"⟩
abbrev hs_LW_repair : List (Nat × Nat × Nat × Nat) := [(0, 12, 15, 17)]
abbrev b_LW_spare : ByteArray := method_10_code
def y_LW_spare : MethodName := ⟨R_LW, "spare", "(LMarchTests;II[J)I"⟩
abbrev hs_LW_spare : List (Nat × Nat × Nat × Nat) := [(0, 10, 13, 13)]
abbrev b_LW_fuse : ByteArray := method_11_code
def y_LW_fuse : MethodName := ⟨R_LW, "fuse", "(LMarchTests;I[J)I"⟩
abbrev hs_LW_fuse : List (Nat × Nat × Nat × Nat) := [(0, 9, 12, 13)]
abbrev b_LW_port : ByteArray := method_12_code
def y_LW_port : MethodName := ⟨R_LW, "port", "(LMarchTests;I[J)I"⟩
abbrev hs_LW_port : List (Nat × Nat × Nat × Nat) := [(0, 9, 12, 17)]
abbrev b_LW_ground : ByteArray := method_13_code
def y_LW_ground : MethodName := ⟨R_LW, "ground", "(LMarchTests;I[J)I"⟩
abbrev hs_LW_ground : List (Nat × Nat × Nat × Nat) := [(0, 16, 19, 17)]
theorem d_LW_cell_0 : decode b_LW_cell 0 = .ok (.iload_n 1, 1) := by decide +kernel
theorem d_LW_cell_1 : decode b_LW_cell 1 = .ok (.aload_n 0, 1) := by decide +kernel
theorem d_LW_cell_2 : decode b_LW_cell 2 = .ok (.arraylength, 1) := by decide +kernel
theorem d_LW_cell_3 : decode b_LW_cell 3 = .ok (.if_icmp .ge 9, 3) := by decide +kernel
theorem d_LW_cell_6 : decode b_LW_cell 6 = .ok (.aload_n 0, 1) := by decide +kernel
theorem d_LW_cell_7 : decode b_LW_cell 7 = .ok (.iload_n 1, 1) := by decide +kernel
theorem d_LW_cell_8 : decode b_LW_cell 8 = .ok (.iaload, 1) := by decide +kernel
theorem d_LW_cell_9 : decode b_LW_cell 9 = .ok (.goto 4, 3) := by decide +kernel
theorem d_LW_cell_12 : decode b_LW_cell 12 = .ok (.iconst 0, 1) := by decide +kernel
theorem d_LW_cell_13 : decode b_LW_cell 13 = .ok (.ireturn, 1) := by decide +kernel
theorem d_LW_fault_0 : decode b_LW_fault 0 = .ok (.aload 4, 2) := by decide +kernel
theorem d_LW_fault_2 : decode b_LW_fault 2 = .ok (.iconst 0, 1) := by decide +kernel
theorem d_LW_fault_3 : decode b_LW_fault 3 = .ok (.aload_n 0, 1) := by decide +kernel
theorem d_LW_fault_4 : decode b_LW_fault 4 = .ok (.iload_n 1, 1) := by decide +kernel
theorem d_LW_fault_5 : decode b_LW_fault 5 = .ok (.iload_n 2, 1) := by decide +kernel
theorem d_LW_fault_6 : decode b_LW_fault 6 = .ok (.iload_n 3, 1) := by decide +kernel
theorem d_LW_fault_7 : decode b_LW_fault 7 = .ok (.invokevirtual 7, 3) := by decide +kernel
theorem d_LW_fault_10 : decode b_LW_fault 10 = .ok (.i2l, 1) := by decide +kernel
theorem d_LW_fault_11 : decode b_LW_fault 11 = .ok (.lastore, 1) := by decide +kernel
theorem d_LW_fault_12 : decode b_LW_fault 12 = .ok (.goto 15, 3) := by decide +kernel
theorem d_LW_fault_15 : decode b_LW_fault 15 = .ok (.astore 5, 2) := by decide +kernel
theorem d_LW_fault_17 : decode b_LW_fault 17 = .ok (.iconst 1, 1) := by decide +kernel
theorem d_LW_fault_18 : decode b_LW_fault 18 = .ok (.ireturn, 1) := by decide +kernel
theorem d_LW_fault_19 : decode b_LW_fault 19 = .ok (.astore 5, 2) := by decide +kernel
theorem d_LW_fault_21 : decode b_LW_fault 21 = .ok (.iconst 2, 1) := by decide +kernel
theorem d_LW_fault_22 : decode b_LW_fault 22 = .ok (.ireturn, 1) := by decide +kernel
theorem d_LW_fault_23 : decode b_LW_fault 23 = .ok (.astore 5, 2) := by decide +kernel
theorem d_LW_fault_25 : decode b_LW_fault 25 = .ok (.iconst 3, 1) := by decide +kernel
theorem d_LW_fault_26 : decode b_LW_fault 26 = .ok (.ireturn, 1) := by decide +kernel
theorem d_LW_fault_27 : decode b_LW_fault 27 = .ok (.iconst 0, 1) := by decide +kernel
theorem d_LW_fault_28 : decode b_LW_fault 28 = .ok (.ireturn, 1) := by decide +kernel
theorem d_LW_run_0 : decode b_LW_run 0 = .ok (.aload_n 2, 1) := by decide +kernel
theorem d_LW_run_1 : decode b_LW_run 1 = .ok (.iconst 0, 1) := by decide +kernel
theorem d_LW_run_2 : decode b_LW_run 2 = .ok (.aload_n 0, 1) := by decide +kernel
theorem d_LW_run_3 : decode b_LW_run 3 = .ok (.iload_n 1, 1) := by decide +kernel
theorem d_LW_run_4 : decode b_LW_run 4 = .ok (.invokevirtual 19, 3) := by decide +kernel
theorem d_LW_run_7 : decode b_LW_run 7 = .ok (.i2l, 1) := by decide +kernel
theorem d_LW_run_8 : decode b_LW_run 8 = .ok (.lastore, 1) := by decide +kernel
theorem d_LW_run_9 : decode b_LW_run 9 = .ok (.goto 9, 3) := by decide +kernel
theorem d_LW_run_12 : decode b_LW_run 12 = .ok (.astore_n 3, 1) := by decide +kernel
theorem d_LW_run_13 : decode b_LW_run 13 = .ok (.iconst 1, 1) := by decide +kernel
theorem d_LW_run_14 : decode b_LW_run 14 = .ok (.ireturn, 1) := by decide +kernel
theorem d_LW_run_15 : decode b_LW_run 15 = .ok (.astore_n 3, 1) := by decide +kernel
theorem d_LW_run_16 : decode b_LW_run 16 = .ok (.iconst 2, 1) := by decide +kernel
theorem d_LW_run_17 : decode b_LW_run 17 = .ok (.ireturn, 1) := by decide +kernel
theorem d_LW_run_18 : decode b_LW_run 18 = .ok (.iconst 0, 1) := by decide +kernel
theorem d_LW_run_19 : decode b_LW_run 19 = .ok (.ireturn, 1) := by decide +kernel
theorem d_LW_covered_0 : decode b_LW_covered 0 = .ok (.aload_n 3, 1) := by decide +kernel
theorem d_LW_covered_1 : decode b_LW_covered 1 = .ok (.iconst 0, 1) := by decide +kernel
theorem d_LW_covered_2 : decode b_LW_covered 2 = .ok (.aload_n 0, 1) := by decide +kernel
theorem d_LW_covered_3 : decode b_LW_covered 3 = .ok (.iload_n 1, 1) := by decide +kernel
theorem d_LW_covered_4 : decode b_LW_covered 4 = .ok (.iload_n 2, 1) := by decide +kernel
theorem d_LW_covered_5 : decode b_LW_covered 5 = .ok (.invokevirtual 23, 3) := by decide +kernel
theorem d_LW_covered_8 : decode b_LW_covered 8 = .ok (.lastore, 1) := by decide +kernel
theorem d_LW_covered_9 : decode b_LW_covered 9 = .ok (.goto 11, 3) := by decide +kernel
theorem d_LW_covered_12 : decode b_LW_covered 12 = .ok (.astore 4, 2) := by decide +kernel
theorem d_LW_covered_14 : decode b_LW_covered 14 = .ok (.iconst 1, 1) := by decide +kernel
theorem d_LW_covered_15 : decode b_LW_covered 15 = .ok (.ireturn, 1) := by decide +kernel
theorem d_LW_covered_16 : decode b_LW_covered 16 = .ok (.astore 4, 2) := by decide +kernel
theorem d_LW_covered_18 : decode b_LW_covered 18 = .ok (.iconst 2, 1) := by decide +kernel
theorem d_LW_covered_19 : decode b_LW_covered 19 = .ok (.ireturn, 1) := by decide +kernel
theorem d_LW_covered_20 : decode b_LW_covered 20 = .ok (.iconst 0, 1) := by decide +kernel
theorem d_LW_covered_21 : decode b_LW_covered 21 = .ok (.ireturn, 1) := by decide +kernel
theorem d_LW_machine_0 : decode b_LW_machine 0 = .ok (.aload_n 2, 1) := by decide +kernel
theorem d_LW_machine_1 : decode b_LW_machine 1 = .ok (.iconst 0, 1) := by decide +kernel
theorem d_LW_machine_2 : decode b_LW_machine 2 = .ok (.aload_n 0, 1) := by decide +kernel
theorem d_LW_machine_3 : decode b_LW_machine 3 = .ok (.iload_n 1, 1) := by decide +kernel
theorem d_LW_machine_4 : decode b_LW_machine 4 = .ok (.invokevirtual 27, 3) := by decide +kernel
theorem d_LW_machine_7 : decode b_LW_machine 7 = .ok (.i2l, 1) := by decide +kernel
theorem d_LW_machine_8 : decode b_LW_machine 8 = .ok (.lastore, 1) := by decide +kernel
theorem d_LW_machine_9 : decode b_LW_machine 9 = .ok (.goto 9, 3) := by decide +kernel
theorem d_LW_machine_12 : decode b_LW_machine 12 = .ok (.astore_n 3, 1) := by decide +kernel
theorem d_LW_machine_13 : decode b_LW_machine 13 = .ok (.iconst 1, 1) := by decide +kernel
theorem d_LW_machine_14 : decode b_LW_machine 14 = .ok (.ireturn, 1) := by decide +kernel
theorem d_LW_machine_15 : decode b_LW_machine 15 = .ok (.astore_n 3, 1) := by decide +kernel
theorem d_LW_machine_16 : decode b_LW_machine 16 = .ok (.iconst 2, 1) := by decide +kernel
theorem d_LW_machine_17 : decode b_LW_machine 17 = .ok (.ireturn, 1) := by decide +kernel
theorem d_LW_machine_18 : decode b_LW_machine 18 = .ok (.iconst 0, 1) := by decide +kernel
theorem d_LW_machine_19 : decode b_LW_machine 19 = .ok (.ireturn, 1) := by decide +kernel
theorem d_LW_scramble_0 : decode b_LW_scramble 0 = .ok (.aload_n 3, 1) := by decide +kernel
theorem d_LW_scramble_1 : decode b_LW_scramble 1 = .ok (.iconst 0, 1) := by decide +kernel
theorem d_LW_scramble_2 : decode b_LW_scramble 2 = .ok (.aload_n 0, 1) := by decide +kernel
theorem d_LW_scramble_3 : decode b_LW_scramble 3 = .ok (.iload_n 1, 1) := by decide +kernel
theorem d_LW_scramble_4 : decode b_LW_scramble 4 = .ok (.iload_n 2, 1) := by decide +kernel
theorem d_LW_scramble_5 : decode b_LW_scramble 5 = .ok (.invokevirtual 30, 3) := by decide +kernel
theorem d_LW_scramble_8 : decode b_LW_scramble 8 = .ok (.ifCond .eq 7, 3) := by decide +kernel
theorem d_LW_scramble_11 : decode b_LW_scramble 11 = .ok (.lconst 1, 1) := by decide +kernel
theorem d_LW_scramble_12 : decode b_LW_scramble 12 = .ok (.goto 4, 3) := by decide +kernel
theorem d_LW_scramble_15 : decode b_LW_scramble 15 = .ok (.lconst 0, 1) := by decide +kernel
theorem d_LW_scramble_16 : decode b_LW_scramble 16 = .ok (.lastore, 1) := by decide +kernel
theorem d_LW_scramble_17 : decode b_LW_scramble 17 = .ok (.goto 7, 3) := by decide +kernel
theorem d_LW_scramble_20 : decode b_LW_scramble 20 = .ok (.astore 4, 2) := by decide +kernel
theorem d_LW_scramble_22 : decode b_LW_scramble 22 = .ok (.iconst 1, 1) := by decide +kernel
theorem d_LW_scramble_23 : decode b_LW_scramble 23 = .ok (.ireturn, 1) := by decide +kernel
theorem d_LW_scramble_24 : decode b_LW_scramble 24 = .ok (.iconst 0, 1) := by decide +kernel
theorem d_LW_scramble_25 : decode b_LW_scramble 25 = .ok (.ireturn, 1) := by decide +kernel
theorem d_LW_failing_0 : decode b_LW_failing 0 = .ok (.aload_n 3, 1) := by decide +kernel
theorem d_LW_failing_1 : decode b_LW_failing 1 = .ok (.iconst 0, 1) := by decide +kernel
theorem d_LW_failing_2 : decode b_LW_failing 2 = .ok (.aload_n 0, 1) := by decide +kernel
theorem d_LW_failing_3 : decode b_LW_failing 3 = .ok (.iload_n 1, 1) := by decide +kernel
theorem d_LW_failing_4 : decode b_LW_failing 4 = .ok (.iload_n 2, 1) := by decide +kernel
theorem d_LW_failing_5 : decode b_LW_failing 5 = .ok (.invokevirtual 34, 3) := by decide +kernel
theorem d_LW_failing_8 : decode b_LW_failing 8 = .ok (.i2l, 1) := by decide +kernel
theorem d_LW_failing_9 : decode b_LW_failing 9 = .ok (.lastore, 1) := by decide +kernel
theorem d_LW_failing_10 : decode b_LW_failing 10 = .ok (.goto 7, 3) := by decide +kernel
theorem d_LW_failing_13 : decode b_LW_failing 13 = .ok (.astore 4, 2) := by decide +kernel
theorem d_LW_failing_15 : decode b_LW_failing 15 = .ok (.iconst 1, 1) := by decide +kernel
theorem d_LW_failing_16 : decode b_LW_failing 16 = .ok (.ireturn, 1) := by decide +kernel
theorem d_LW_failing_17 : decode b_LW_failing 17 = .ok (.iconst 0, 1) := by decide +kernel
theorem d_LW_failing_18 : decode b_LW_failing 18 = .ok (.ireturn, 1) := by decide +kernel
theorem d_LW_repair_0 : decode b_LW_repair 0 = .ok (.aload 5, 2) := by decide +kernel
theorem d_LW_repair_2 : decode b_LW_repair 2 = .ok (.iconst 0, 1) := by decide +kernel
theorem d_LW_repair_3 : decode b_LW_repair 3 = .ok (.aload_n 0, 1) := by decide +kernel
theorem d_LW_repair_4 : decode b_LW_repair 4 = .ok (.iload_n 1, 1) := by decide +kernel
theorem d_LW_repair_5 : decode b_LW_repair 5 = .ok (.iload_n 2, 1) := by decide +kernel
theorem d_LW_repair_6 : decode b_LW_repair 6 = .ok (.lload_n 3, 1) := by decide +kernel
theorem d_LW_repair_7 : decode b_LW_repair 7 = .ok (.invokevirtual 38, 3) := by decide +kernel
theorem d_LW_repair_10 : decode b_LW_repair 10 = .ok (.i2l, 1) := by decide +kernel
theorem d_LW_repair_11 : decode b_LW_repair 11 = .ok (.lastore, 1) := by decide +kernel
theorem d_LW_repair_12 : decode b_LW_repair 12 = .ok (.goto 7, 3) := by decide +kernel
theorem d_LW_repair_15 : decode b_LW_repair 15 = .ok (.astore 6, 2) := by decide +kernel
theorem d_LW_repair_17 : decode b_LW_repair 17 = .ok (.iconst 1, 1) := by decide +kernel
theorem d_LW_repair_18 : decode b_LW_repair 18 = .ok (.ireturn, 1) := by decide +kernel
theorem d_LW_repair_19 : decode b_LW_repair 19 = .ok (.iconst 0, 1) := by decide +kernel
theorem d_LW_repair_20 : decode b_LW_repair 20 = .ok (.ireturn, 1) := by decide +kernel
theorem d_LW_spare_0 : decode b_LW_spare 0 = .ok (.aload_n 3, 1) := by decide +kernel
theorem d_LW_spare_1 : decode b_LW_spare 1 = .ok (.iconst 0, 1) := by decide +kernel
theorem d_LW_spare_2 : decode b_LW_spare 2 = .ok (.aload_n 0, 1) := by decide +kernel
theorem d_LW_spare_3 : decode b_LW_spare 3 = .ok (.iload_n 1, 1) := by decide +kernel
theorem d_LW_spare_4 : decode b_LW_spare 4 = .ok (.iload_n 2, 1) := by decide +kernel
theorem d_LW_spare_5 : decode b_LW_spare 5 = .ok (.invokevirtual 42, 3) := by decide +kernel
theorem d_LW_spare_8 : decode b_LW_spare 8 = .ok (.i2l, 1) := by decide +kernel
theorem d_LW_spare_9 : decode b_LW_spare 9 = .ok (.lastore, 1) := by decide +kernel
theorem d_LW_spare_10 : decode b_LW_spare 10 = .ok (.goto 7, 3) := by decide +kernel
theorem d_LW_spare_13 : decode b_LW_spare 13 = .ok (.astore 4, 2) := by decide +kernel
theorem d_LW_spare_15 : decode b_LW_spare 15 = .ok (.iconst 1, 1) := by decide +kernel
theorem d_LW_spare_16 : decode b_LW_spare 16 = .ok (.ireturn, 1) := by decide +kernel
theorem d_LW_spare_17 : decode b_LW_spare 17 = .ok (.iconst 0, 1) := by decide +kernel
theorem d_LW_spare_18 : decode b_LW_spare 18 = .ok (.ireturn, 1) := by decide +kernel
theorem d_LW_fuse_0 : decode b_LW_fuse 0 = .ok (.aload_n 2, 1) := by decide +kernel
theorem d_LW_fuse_1 : decode b_LW_fuse 1 = .ok (.iconst 0, 1) := by decide +kernel
theorem d_LW_fuse_2 : decode b_LW_fuse 2 = .ok (.aload_n 0, 1) := by decide +kernel
theorem d_LW_fuse_3 : decode b_LW_fuse 3 = .ok (.iload_n 1, 1) := by decide +kernel
theorem d_LW_fuse_4 : decode b_LW_fuse 4 = .ok (.invokevirtual 45, 3) := by decide +kernel
theorem d_LW_fuse_7 : decode b_LW_fuse 7 = .ok (.i2l, 1) := by decide +kernel
theorem d_LW_fuse_8 : decode b_LW_fuse 8 = .ok (.lastore, 1) := by decide +kernel
theorem d_LW_fuse_9 : decode b_LW_fuse 9 = .ok (.goto 6, 3) := by decide +kernel
theorem d_LW_fuse_12 : decode b_LW_fuse 12 = .ok (.astore_n 3, 1) := by decide +kernel
theorem d_LW_fuse_13 : decode b_LW_fuse 13 = .ok (.iconst 1, 1) := by decide +kernel
theorem d_LW_fuse_14 : decode b_LW_fuse 14 = .ok (.ireturn, 1) := by decide +kernel
theorem d_LW_fuse_15 : decode b_LW_fuse 15 = .ok (.iconst 0, 1) := by decide +kernel
theorem d_LW_fuse_16 : decode b_LW_fuse 16 = .ok (.ireturn, 1) := by decide +kernel
theorem d_LW_port_0 : decode b_LW_port 0 = .ok (.aload_n 2, 1) := by decide +kernel
theorem d_LW_port_1 : decode b_LW_port 1 = .ok (.iconst 0, 1) := by decide +kernel
theorem d_LW_port_2 : decode b_LW_port 2 = .ok (.aload_n 0, 1) := by decide +kernel
theorem d_LW_port_3 : decode b_LW_port 3 = .ok (.iload_n 1, 1) := by decide +kernel
theorem d_LW_port_4 : decode b_LW_port 4 = .ok (.invokevirtual 48, 3) := by decide +kernel
theorem d_LW_port_7 : decode b_LW_port 7 = .ok (.i2l, 1) := by decide +kernel
theorem d_LW_port_8 : decode b_LW_port 8 = .ok (.lastore, 1) := by decide +kernel
theorem d_LW_port_9 : decode b_LW_port 9 = .ok (.goto 6, 3) := by decide +kernel
theorem d_LW_port_12 : decode b_LW_port 12 = .ok (.astore_n 3, 1) := by decide +kernel
theorem d_LW_port_13 : decode b_LW_port 13 = .ok (.iconst 1, 1) := by decide +kernel
theorem d_LW_port_14 : decode b_LW_port 14 = .ok (.ireturn, 1) := by decide +kernel
theorem d_LW_port_15 : decode b_LW_port 15 = .ok (.iconst 0, 1) := by decide +kernel
theorem d_LW_port_16 : decode b_LW_port 16 = .ok (.ireturn, 1) := by decide +kernel
theorem d_LW_ground_0 : decode b_LW_ground 0 = .ok (.aload_n 2, 1) := by decide +kernel
theorem d_LW_ground_1 : decode b_LW_ground 1 = .ok (.iconst 0, 1) := by decide +kernel
theorem d_LW_ground_2 : decode b_LW_ground 2 = .ok (.aload_n 0, 1) := by decide +kernel
theorem d_LW_ground_3 : decode b_LW_ground 3 = .ok (.iload_n 1, 1) := by decide +kernel
theorem d_LW_ground_4 : decode b_LW_ground 4 = .ok (.invokevirtual 51, 3) := by decide +kernel
theorem d_LW_ground_7 : decode b_LW_ground 7 = .ok (.ifCond .eq 7, 3) := by decide +kernel
theorem d_LW_ground_10 : decode b_LW_ground 10 = .ok (.lconst 1, 1) := by decide +kernel
theorem d_LW_ground_11 : decode b_LW_ground 11 = .ok (.goto 4, 3) := by decide +kernel
theorem d_LW_ground_14 : decode b_LW_ground 14 = .ok (.lconst 0, 1) := by decide +kernel
theorem d_LW_ground_15 : decode b_LW_ground 15 = .ok (.lastore, 1) := by decide +kernel
theorem d_LW_ground_16 : decode b_LW_ground 16 = .ok (.goto 6, 3) := by decide +kernel
theorem d_LW_ground_19 : decode b_LW_ground 19 = .ok (.astore_n 3, 1) := by decide +kernel
theorem d_LW_ground_20 : decode b_LW_ground 20 = .ok (.iconst 1, 1) := by decide +kernel
theorem d_LW_ground_21 : decode b_LW_ground 21 = .ok (.ireturn, 1) := by decide +kernel
theorem d_LW_ground_22 : decode b_LW_ground 22 = .ok (.iconst 0, 1) := by decide +kernel
theorem d_LW_ground_23 : decode b_LW_ground 23 = .ok (.ireturn, 1) := by decide +kernel
