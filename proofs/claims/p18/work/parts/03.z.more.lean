/-! names of methods, what they take; what a throw wants of its class -/
theorem nmh_RJ0 : RJ0 ≠ "java/lang/invoke/MethodHandle" ∧ RJ0 ≠ "java/lang/invoke/VarHandle" := by decide +kernel
theorem nmh_RJ1 : RJ1 ≠ "java/lang/invoke/MethodHandle" ∧ RJ1 ≠ "java/lang/invoke/VarHandle" := by decide +kernel
theorem nmh_RJ4 : RJ4 ≠ "java/lang/invoke/MethodHandle" ∧ RJ4 ≠ "java/lang/invoke/VarHandle" := by decide +kernel
theorem nmh_RJ5 : RJ5 ≠ "java/lang/invoke/MethodHandle" ∧ RJ5 ≠ "java/lang/invoke/VarHandle" := by decide +kernel
theorem nmh_RJ6 : RJ6 ≠ "java/lang/invoke/MethodHandle" ∧ RJ6 ≠ "java/lang/invoke/VarHandle" := by decide +kernel
theorem nmh_RJ7 : RJ7 ≠ "java/lang/invoke/MethodHandle" ∧ RJ7 ≠ "java/lang/invoke/VarHandle" := by decide +kernel
theorem nmh_RJ8 : RJ8 ≠ "java/lang/invoke/MethodHandle" ∧ RJ8 ≠ "java/lang/invoke/VarHandle" := by decide +kernel
theorem nmh_RL : RL ≠ "java/lang/invoke/MethodHandle" ∧ RL ≠ "java/lang/invoke/VarHandle" := by decide +kernel
theorem nmh_RX0 : RX0 ≠ "java/lang/invoke/MethodHandle" ∧ RX0 ≠ "java/lang/invoke/VarHandle" := by decide +kernel
theorem nmh_RX1 : RX1 ≠ "java/lang/invoke/MethodHandle" ∧ RX1 ≠ "java/lang/invoke/VarHandle" := by decide +kernel
theorem nmh_RX2 : RX2 ≠ "java/lang/invoke/MethodHandle" ∧ RX2 ≠ "java/lang/invoke/VarHandle" := by decide +kernel
theorem nmh_RX3 : RX3 ≠ "java/lang/invoke/MethodHandle" ∧ RX3 ≠ "java/lang/invoke/VarHandle" := by decide +kernel
theorem nmh_RX5 : RX5 ≠ "java/lang/invoke/MethodHandle" ∧ RX5 ≠ "java/lang/invoke/VarHandle" := by decide +kernel
theorem pds_0 : (parseMethodDescriptor "(I)I").map (fun d => d.parameters.length) = some 1 := by decide +kernel
theorem pds_1 : (parseMethodDescriptor "(I)Z").map (fun d => d.parameters.length) = some 1 := by decide +kernel
theorem pds_2 : (parseMethodDescriptor "(III)V").map (fun d => d.parameters.length) = some 3 := by decide +kernel
theorem pds_3 : (parseMethodDescriptor "(II)I").map (fun d => d.parameters.length) = some 2 := by decide +kernel
theorem pds_4 : (parseMethodDescriptor "()I").map (fun d => d.parameters.length) = some 0 := by decide +kernel
theorem pds_5 : (parseMethodDescriptor "(LRangeledger$Book;)V").map (fun d => d.parameters.length) = some 1 := by decide +kernel
theorem pds_6 : (parseMethodDescriptor "(IIII)I").map (fun d => d.parameters.length) = some 4 := by decide +kernel
theorem pds_7 : (parseMethodDescriptor "(II)Z").map (fun d => d.parameters.length) = some 2 := by decide +kernel
theorem pds_8 : (parseMethodDescriptor "()LRangeledger$Book;").map (fun d => d.parameters.length) = some 0 := by decide +kernel
theorem pds_9 : (parseMethodDescriptor "(I)LRangeledger$Book;").map (fun d => d.parameters.length) = some 1 := by decide +kernel
theorem pds_10 : (parseMethodDescriptor "(I)V").map (fun d => d.parameters.length) = some 1 := by decide +kernel
theorem pds_11 : (parseMethodDescriptor "()V").map (fun d => d.parameters.length) = some 0 := by decide +kernel
theorem pds_12 : (parseMethodDescriptor "(III)LRangeledger$Book;").map (fun d => d.parameters.length) = some 3 := by decide +kernel
theorem pds_13 : (parseMethodDescriptor "(II)LRangeledger$Book;").map (fun d => d.parameters.length) = some 2 := by decide +kernel
theorem pds_14 : (parseMethodDescriptor "(LRangeledger$Book;)I").map (fun d => d.parameters.length) = some 1 := by decide +kernel
theorem pds_15 : (parseMethodDescriptor "(I)LRangeledger$View;").map (fun d => d.parameters.length) = some 1 := by decide +kernel
theorem pds_16 : (parseMethodDescriptor "()Z").map (fun d => d.parameters.length) = some 0 := by decide +kernel
theorem pds_17 : (parseMethodDescriptor "(LRangeledger$View;)V").map (fun d => d.parameters.length) = some 1 := by decide +kernel
theorem pds_18 : (parseMethodDescriptor "(II)V").map (fun d => d.parameters.length) = some 2 := by decide +kernel
theorem pds_19 : (parseMethodDescriptor "(LRangeledger$Book;Z)I").map (fun d => d.parameters.length) = some 2 := by decide +kernel
theorem pds_20 : (parseMethodDescriptor "(LRangeledger$Book;IZIZ)V").map (fun d => d.parameters.length) = some 5 := by decide +kernel
theorem pds_21 : (parseMethodDescriptor "(LRangeledger$View;)I").map (fun d => d.parameters.length) = some 1 := by decide +kernel
theorem pds_22 : (parseMethodDescriptor "(III)LRangeledger$View;").map (fun d => d.parameters.length) = some 3 := by decide +kernel
theorem pds_23 : (parseMethodDescriptor "()LRangeledger$Walk;").map (fun d => d.parameters.length) = some 0 := by decide +kernel
theorem pds_24 : (parseMethodDescriptor "(LRangeledger$Book;)Z").map (fun d => d.parameters.length) = some 1 := by decide +kernel
theorem pds_25 : (parseMethodDescriptor "(III)Z").map (fun d => d.parameters.length) = some 3 := by decide +kernel
theorem pds_26 : (parseMethodDescriptor "(ZI)Z").map (fun d => d.parameters.length) = some 2 := by decide +kernel
theorem pds_27 : (parseMethodDescriptor "([II)I").map (fun d => d.parameters.length) = some 2 := by decide +kernel
theorem pds_28 : (parseMethodDescriptor "([II)Z").map (fun d => d.parameters.length) = some 2 := by decide +kernel
theorem pds_29 : (parseMethodDescriptor "([IIZ)I").map (fun d => d.parameters.length) = some 3 := by decide +kernel
theorem pds_30 : (parseMethodDescriptor "(Z)I").map (fun d => d.parameters.length) = some 1 := by decide +kernel
theorem pds_31 : (parseMethodDescriptor "(I)[I").map (fun d => d.parameters.length) = some 1 := by decide +kernel
theorem pds_32 : (parseMethodDescriptor "(III)I").map (fun d => d.parameters.length) = some 3 := by decide +kernel
theorem pds_33 : (parseMethodDescriptor "([IZ)I").map (fun d => d.parameters.length) = some 2 := by decide +kernel
theorem pds_34 : (parseMethodDescriptor "([I)I").map (fun d => d.parameters.length) = some 1 := by decide +kernel
theorem pds_35 : (parseMethodDescriptor "([I)V").map (fun d => d.parameters.length) = some 1 := by decide +kernel
theorem pds_36 : (parseMethodDescriptor "([III)I").map (fun d => d.parameters.length) = some 3 := by decide +kernel
theorem pds_37 : (parseMethodDescriptor "()B").map (fun d => d.parameters.length) = some 0 := by decide +kernel
theorem pds_38 : (parseMethodDescriptor "([BII)[B").map (fun d => d.parameters.length) = some 3 := by decide +kernel
theorem pds_39 : (parseMethodDescriptor "([BI)[B").map (fun d => d.parameters.length) = some 2 := by decide +kernel
theorem pds_40 : (parseMethodDescriptor "([BIB)V").map (fun d => d.parameters.length) = some 3 := by decide +kernel
theorem pds_41 : (parseMethodDescriptor "(Ljava/lang/String;)Ljava/lang/StringBuilder;").map (fun d => d.parameters.length) = some 1 := by decide +kernel
theorem pds_42 : (parseMethodDescriptor "(C)Z").map (fun d => d.parameters.length) = some 1 := by decide +kernel
theorem pds_43 : (parseMethodDescriptor "(II[B)I").map (fun d => d.parameters.length) = some 3 := by decide +kernel
theorem pds_44 : (parseMethodDescriptor "(Ljava/lang/String;)V").map (fun d => d.parameters.length) = some 1 := by decide +kernel
theorem pds_45 : (parseMethodDescriptor "(Ljava/lang/AbstractStringBuilder;Ljava/lang/Void;)V").map (fun d => d.parameters.length) = some 2 := by decide +kernel
theorem pds_46 : (parseMethodDescriptor "(Ljava/lang/StringBuilder;)V").map (fun d => d.parameters.length) = some 1 := by decide +kernel
theorem pds_47 : (parseMethodDescriptor "()Ljava/lang/String;").map (fun d => d.parameters.length) = some 0 := by decide +kernel
theorem pds_48 : (parseMethodDescriptor "(I)Ljava/lang/StringBuilder;").map (fun d => d.parameters.length) = some 1 := by decide +kernel
theorem pds_49 : (parseMethodDescriptor "([I)Ljava/lang/String;").map (fun d => d.parameters.length) = some 1 := by decide +kernel
theorem pds_50 : (parseMethodDescriptor "([I)Z").map (fun d => d.parameters.length) = some 1 := by decide +kernel
theorem pds_51 : (parseMethodDescriptor "(JJ)J").map (fun d => d.parameters.length) = some 2 := by decide +kernel
theorem pds_52 : (parseMethodDescriptor "(C)Ljava/lang/StringBuilder;").map (fun d => d.parameters.length) = some 1 := by decide +kernel
theorem pds_53 : (parseMethodDescriptor "(II)Ljava/lang/String;").map (fun d => d.parameters.length) = some 2 := by decide +kernel
theorem pds_54 : (parseMethodDescriptor "(JI)J").map (fun d => d.parameters.length) = some 2 := by decide +kernel
theorem pds_55 : (parseMethodDescriptor "(IIII)Z").map (fun d => d.parameters.length) = some 4 := by decide +kernel
theorem pds_56 : (parseMethodDescriptor "(IZ)I").map (fun d => d.parameters.length) = some 2 := by decide +kernel
theorem pds_57 : (parseMethodDescriptor "(IIZ)I").map (fun d => d.parameters.length) = some 3 := by decide +kernel
theorem pds_58 : (parseMethodDescriptor "(IIZIZ)I").map (fun d => d.parameters.length) = some 5 := by decide +kernel
theorem pds_59 : (parseMethodDescriptor "(I)Ljava/lang/String;").map (fun d => d.parameters.length) = some 1 := by decide +kernel
theorem pds_60 : (parseMethodDescriptor "(LRangeledger;IIILRangeledgerLaw$Out;)I").map (fun d => d.parameters.length) = some 5 := by decide +kernel
theorem pds_61 : (parseMethodDescriptor "(LRangeledger;IIIILRangeledgerLaw$Out;)I").map (fun d => d.parameters.length) = some 6 := by decide +kernel
theorem pds_62 : (parseMethodDescriptor "(LRangeledger;IILRangeledgerLaw$Out;)I").map (fun d => d.parameters.length) = some 4 := by decide +kernel
theorem pds_63 : (parseMethodDescriptor "(LRangeledger;IZLRangeledgerLaw$Out;)I").map (fun d => d.parameters.length) = some 4 := by decide +kernel
theorem pds_64 : (parseMethodDescriptor "(LRangeledger;ILRangeledgerLaw$Out;)I").map (fun d => d.parameters.length) = some 3 := by decide +kernel
theorem pds_65 : (parseMethodDescriptor "(LRangeledger;IIZLRangeledgerLaw$Out;)I").map (fun d => d.parameters.length) = some 5 := by decide +kernel
theorem pds_66 : (parseMethodDescriptor "(LRangeledger;IIZIZLRangeledgerLaw$Out;)I").map (fun d => d.parameters.length) = some 7 := by decide +kernel
theorem pds_67 : (parseMethodDescriptor "(LRangeledger;LRangeledgerLaw$Out;)I").map (fun d => d.parameters.length) = some 2 := by decide +kernel
theorem pds_68 : (parseMethodDescriptor "()J").map (fun d => d.parameters.length) = some 0 := by decide +kernel
theorem pln_RJ0 : plainName RJ0 = true := by decide +kernel
theorem pln_RJ1 : plainName RJ1 = true := by decide +kernel
theorem pln_RJ4 : plainName RJ4 = true := by decide +kernel
theorem pln_RJ5 : plainName RJ5 = true := by decide +kernel
theorem pln_RJ6 : plainName RJ6 = true := by decide +kernel
theorem pln_RJ7 : plainName RJ7 = true := by decide +kernel
theorem pln_RJ8 : plainName RJ8 = true := by decide +kernel
theorem pln_RL : plainName RL = true := by decide +kernel
theorem pln_RX0 : plainName RX0 = true := by decide +kernel
theorem pln_RX1 : plainName RX1 = true := by decide +kernel
theorem pln_RX2 : plainName RX2 = true := by decide +kernel
theorem pln_RX3 : plainName RX3 = true := by decide +kernel
theorem pln_RX4 : plainName RX4 = true := by decide +kernel
theorem pln_RX5 : plainName RX5 = true := by decide +kernel
theorem tw_nm : ∀ n ∈ ["java/lang/RuntimeException", "java/lang/Exception"], Bundle.fit n = true := by decide +kernel
theorem tw_f0 : Bundle.fit "java/lang/IllegalArgumentException" = true := by decide +kernel
set_option maxRecDepth 20000 in
theorem tw_k40 : ∀ w ∈ (vx_atS RX3 90 "java/lang/IllegalArgumentException" ["java/lang/RuntimeException", "java/lang/Exception"]).filter (fun w => !goodWord w), w ∈ [Cond.castable "java/lang/IllegalArgumentException" "java/lang/IllegalArgumentException", Cond.declares (Bundle.initS "java/lang/RuntimeException"), Cond.declares (Bundle.initS "java/lang/Exception"), Cond.declares (Bundle.initS "java/lang/Throwable")] := by decide +kernel
set_option maxRecDepth 20000 in
theorem tw_k50 : ∀ w ∈ Cond.classLink RX3 86 "java/lang/IllegalArgumentException" :: Cond.initialized "java/lang/IllegalArgumentException" :: vx_atS RX3 90 "java/lang/IllegalArgumentException" ["java/lang/RuntimeException", "java/lang/Exception"], vx_ot w = true := by decide +kernel
theorem tw_ca0 : ("java/lang/IllegalArgumentException", "java/lang/IllegalArgumentException") ∈ xCasts := by decide +kernel
theorem tw_f1 : Bundle.fit "java/lang/IndexOutOfBoundsException" = true := by decide +kernel
set_option maxRecDepth 20000 in
theorem tw_k41 : ∀ w ∈ (vx_atS RX3 313 "java/lang/IndexOutOfBoundsException" ["java/lang/RuntimeException", "java/lang/Exception"]).filter (fun w => !goodWord w), w ∈ [Cond.castable "java/lang/IndexOutOfBoundsException" "java/lang/IndexOutOfBoundsException", Cond.declares (Bundle.initS "java/lang/RuntimeException"), Cond.declares (Bundle.initS "java/lang/Exception"), Cond.declares (Bundle.initS "java/lang/Throwable")] := by decide +kernel
set_option maxRecDepth 20000 in
theorem tw_k51 : ∀ w ∈ Cond.classLink RX3 309 "java/lang/IndexOutOfBoundsException" :: Cond.initialized "java/lang/IndexOutOfBoundsException" :: vx_atS RX3 313 "java/lang/IndexOutOfBoundsException" ["java/lang/RuntimeException", "java/lang/Exception"], vx_ot w = true := by decide +kernel
theorem tw_ca1 : ("java/lang/IndexOutOfBoundsException", "java/lang/IndexOutOfBoundsException") ∈ xCasts := by decide +kernel
theorem tw_f2 : Bundle.fit "java/lang/IllegalStateException" = true := by decide +kernel
set_option maxRecDepth 20000 in
theorem tw_k42 : ∀ w ∈ (vx_atS RX3 108 "java/lang/IllegalStateException" ["java/lang/RuntimeException", "java/lang/Exception"]).filter (fun w => !goodWord w), w ∈ [Cond.castable "java/lang/IllegalStateException" "java/lang/IllegalStateException", Cond.declares (Bundle.initS "java/lang/RuntimeException"), Cond.declares (Bundle.initS "java/lang/Exception"), Cond.declares (Bundle.initS "java/lang/Throwable")] := by decide +kernel
set_option maxRecDepth 20000 in
theorem tw_k52 : ∀ w ∈ Cond.classLink RX3 104 "java/lang/IllegalStateException" :: Cond.initialized "java/lang/IllegalStateException" :: vx_atS RX3 108 "java/lang/IllegalStateException" ["java/lang/RuntimeException", "java/lang/Exception"], vx_ot w = true := by decide +kernel
theorem tw_ca2 : ("java/lang/IllegalStateException", "java/lang/IllegalStateException") ∈ xCasts := by decide +kernel
