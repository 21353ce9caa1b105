/-! WORDS AND DECODE ROWS of constructors (printed by wip/mk3.py) -/
theorem w_obj1 : Cond.instanceMethod Lib.objectInit ∈ o_wt := o_in 24 (by decide +kernel) (by decide +kernel)
theorem w_obj2 : Cond.code Lib.objectInit ⟨#[0xb1]⟩ 1 none ∈ o_wt := o_in 25 (by decide +kernel) (by decide +kernel)
theorem w_ac1 : Cond.arrayClass .int ∈ o_wt := o_in 92 (by decide +kernel) (by decide +kernel)
theorem w_ac2 : Cond.arrayClass .char ∈ o_wt := o_in 42 (by decide +kernel) (by decide +kernel)
theorem w_in0 : Cond.instantiable (o_C 0).1 (o_C 0).2.2 ∈ o_wt := o_in 19 (by decide +kernel) (by decide +kernel)
theorem w_ini0 : Cond.initialized (o_C 0).1 ∈ o_wt := o_in 1 (by decide +kernel) (by decide +kernel)
theorem w_df0 : ∀ k, k < (o_C 0).2.2 → (parseFieldDescriptor ((o_C 0).2.1 k).2.2.1).map defaultValue = some (if o_rf 0 k = true then .null else .int 0) := by decide +kernel
theorem w_in1 : Cond.instantiable (o_C 1).1 (o_C 1).2.2 ∈ o_wt := o_in 60 (by decide +kernel) (by decide +kernel)
theorem w_ini1 : Cond.initialized (o_C 1).1 ∈ o_wt := o_in 4 (by decide +kernel) (by decide +kernel)
theorem w_df1 : ∀ k, k < (o_C 1).2.2 → (parseFieldDescriptor ((o_C 1).2.1 k).2.2.1).map defaultValue = some (if o_rf 1 k = true then .null else .int 0) := by decide +kernel
theorem w_in2 : Cond.instantiable (o_C 2).1 (o_C 2).2.2 ∈ o_wt := o_in 130 (by decide +kernel) (by decide +kernel)
theorem w_ini2 : Cond.initialized (o_C 2).1 ∈ o_wt := o_in 7 (by decide +kernel) (by decide +kernel)
theorem w_df2 : ∀ k, k < (o_C 2).2.2 → (parseFieldDescriptor ((o_C 2).2.1 k).2.2.1).map defaultValue = some (if o_rf 2 k = true then .null else .int 0) := by decide +kernel
theorem w_in3 : Cond.instantiable (o_C 3).1 (o_C 3).2.2 ∈ o_wt := o_in 44 (by decide +kernel) (by decide +kernel)
theorem w_ini3 : Cond.initialized (o_C 3).1 ∈ o_wt := o_in 3 (by decide +kernel) (by decide +kernel)
theorem w_df3 : ∀ k, k < (o_C 3).2.2 → (parseFieldDescriptor ((o_C 3).2.1 k).2.2.1).map defaultValue = some (if o_rf 3 k = true then .null else .int 0) := by decide +kernel
theorem w_in4 : Cond.instantiable (o_C 4).1 (o_C 4).2.2 ∈ o_wt := o_in 94 (by decide +kernel) (by decide +kernel)
theorem w_ini4 : Cond.initialized (o_C 4).1 ∈ o_wt := o_in 5 (by decide +kernel) (by decide +kernel)
theorem w_df4 : ∀ k, k < (o_C 4).2.2 → (parseFieldDescriptor ((o_C 4).2.1 k).2.2.1).map defaultValue = some (if o_rf 4 k = true then .null else .int 0) := by decide +kernel
theorem w_in5 : Cond.instantiable (o_C 5).1 (o_C 5).2.2 ∈ o_wt := o_in 187 (by decide +kernel) (by decide +kernel)
theorem w_ini5 : Cond.initialized (o_C 5).1 ∈ o_wt := o_in 10 (by decide +kernel) (by decide +kernel)
theorem w_df5 : ∀ k, k < (o_C 5).2.2 → (parseFieldDescriptor ((o_C 5).2.1 k).2.2.1).map defaultValue = some (if o_rf 5 k = true then .null else .int 0) := by decide +kernel
theorem w_in6 : Cond.instantiable (o_C 6).1 (o_C 6).2.2 ∈ o_wt := o_in 180 (by decide +kernel) (by decide +kernel)
theorem w_ini6 : Cond.initialized (o_C 6).1 ∈ o_wt := o_in 9 (by decide +kernel) (by decide +kernel)
theorem w_df6 : ∀ k, k < (o_C 6).2.2 → (parseFieldDescriptor ((o_C 6).2.1 k).2.2.1).map defaultValue = some (if o_rf 6 k = true then .null else .int 0) := by decide +kernel
theorem w_in7 : Cond.instantiable (o_C 7).1 (o_C 7).2.2 ∈ o_wt := o_in 101 (by decide +kernel) (by decide +kernel)
theorem w_ini7 : Cond.initialized (o_C 7).1 ∈ o_wt := o_in 6 (by decide +kernel) (by decide +kernel)
theorem w_df7 : ∀ k, k < (o_C 7).2.2 → (parseFieldDescriptor ((o_C 7).2.1 k).2.2.1).map defaultValue = some (if o_rf 7 k = true then .null else .int 0) := by decide +kernel
theorem w_in8 : Cond.instantiable (o_C 8).1 (o_C 8).2.2 ∈ o_wt := o_in 165 (by decide +kernel) (by decide +kernel)
theorem w_ini8 : Cond.initialized (o_C 8).1 ∈ o_wt := o_in 8 (by decide +kernel) (by decide +kernel)
theorem w_df8 : ∀ k, k < (o_C 8).2.2 → (parseFieldDescriptor ((o_C 8).2.1 k).2.2.1).map defaultValue = some (if o_rf 8 k = true then .null else .int 0) := by decide +kernel
theorem w_in9 : Cond.instantiable (o_C 9).1 (o_C 9).2.2 ∈ o_wt := o_in 27 (by decide +kernel) (by decide +kernel)
theorem w_ini9 : Cond.initialized (o_C 9).1 ∈ o_wt := o_in 2 (by decide +kernel) (by decide +kernel)
theorem w_df9 : ∀ k, k < (o_C 9).2.2 → (parseFieldDescriptor ((o_C 9).2.1 k).2.2.1).map defaultValue = some (if o_rf 9 k = true then .null else .int 0) := by decide +kernel
theorem w_in10 : Cond.instantiable (o_C 10).1 (o_C 10).2.2 ∈ o_wt := o_in 711 (by decide +kernel) (by decide +kernel)
theorem w_ini10 : Cond.initialized (o_C 10).1 ∈ o_wt := o_in 11 (by decide +kernel) (by decide +kernel)
theorem w_df10 : ∀ k, k < (o_C 10).2.2 → (parseFieldDescriptor ((o_C 10).2.1 k).2.2.1).map defaultValue = some (if o_rf 10 k = true then .null else .int 0) := by decide +kernel
theorem vX0_init : o_cd mX0_init ∈ o_wt := o_in 22 (by decide +kernel) (by decide +kernel)
theorem viX0_init : Cond.initialized yX0_init.cls ∈ o_wt := o_in 1 (by decide +kernel) (by decide +kernel)
theorem vnX0_init : Cond.instanceMethod yX0_init ∈ o_wt := o_in 21 (by decide +kernel) (by decide +kernel)
theorem w_ob0 : Cond.methodLink RX0 3 Lib.objectInit ∈ o_wt := o_in 23 (by decide +kernel) (by decide +kernel)
theorem w_cl0_9 : Cond.classLink RX0 9 (o_C 9).1 ∈ o_wt := o_in 26 (by decide +kernel) (by decide +kernel)
theorem w_li0_11 : Cond.methodLink RX0 11 yX9_init ∈ o_wt := o_in 28 (by decide +kernel) (by decide +kernel)
theorem w_cl0_21 : Cond.classLink RX0 21 (o_C 3).1 ∈ o_wt := o_in 43 (by decide +kernel) (by decide +kernel)
theorem w_li0_23 : Cond.methodLink RX0 23 yX3_init ∈ o_wt := o_in 45 (by decide +kernel) (by decide +kernel)
theorem w_cl0_33 : Cond.classLink RX0 33 (o_C 1).1 ∈ o_wt := o_in 59 (by decide +kernel) (by decide +kernel)
theorem w_cl0_40 : Cond.classLink RX0 40 (o_C 4).1 ∈ o_wt := o_in 93 (by decide +kernel) (by decide +kernel)
theorem w_li0_42 : Cond.methodLink RX0 42 yX4_init ∈ o_wt := o_in 95 (by decide +kernel) (by decide +kernel)
theorem w_cl0_47 : Cond.classLink RX0 47 (o_C 2).1 ∈ o_wt := o_in 129 (by decide +kernel) (by decide +kernel)
theorem w_cl0_54 : Cond.classLink RX0 54 (o_C 8).1 ∈ o_wt := o_in 164 (by decide +kernel) (by decide +kernel)
theorem w_cl0_61 : Cond.classLink RX0 61 (o_C 6).1 ∈ o_wt := o_in 179 (by decide +kernel) (by decide +kernel)
theorem w_li0_63 : Cond.methodLink RX0 63 yX6_init ∈ o_wt := o_in 181 (by decide +kernel) (by decide +kernel)
theorem vX9_init : o_cd mX9_init ∈ o_wt := o_in 30 (by decide +kernel) (by decide +kernel)
theorem viX9_init : Cond.initialized yX9_init.cls ∈ o_wt := o_in 2 (by decide +kernel) (by decide +kernel)
theorem vnX9_init : Cond.instanceMethod yX9_init ∈ o_wt := o_in 29 (by decide +kernel) (by decide +kernel)
theorem w_ob9 : Cond.methodLink RX9 1 Lib.objectInit ∈ o_wt := o_in 31 (by decide +kernel) (by decide +kernel)
theorem vX3_init : o_cd mX3_init ∈ o_wt := o_in 47 (by decide +kernel) (by decide +kernel)
theorem viX3_init : Cond.initialized yX3_init.cls ∈ o_wt := o_in 3 (by decide +kernel) (by decide +kernel)
theorem vnX3_init : Cond.instanceMethod yX3_init ∈ o_wt := o_in 46 (by decide +kernel) (by decide +kernel)
theorem w_ob3 : Cond.methodLink RX3 3 Lib.objectInit ∈ o_wt := o_in 48 (by decide +kernel) (by decide +kernel)
theorem vX1_init : o_cd mX1_init ∈ o_wt := o_in 63 (by decide +kernel) (by decide +kernel)
theorem viX1_init : Cond.initialized yX1_init.cls ∈ o_wt := o_in 4 (by decide +kernel) (by decide +kernel)
theorem vnX1_init : Cond.instanceMethod yX1_init ∈ o_wt := o_in 62 (by decide +kernel) (by decide +kernel)
theorem w_ob1 : Cond.methodLink RX1 3 Lib.objectInit ∈ o_wt := o_in 64 (by decide +kernel) (by decide +kernel)
theorem w_cl1_9 : Cond.classLink RX1 9 "[[I" ∈ o_wt := o_in 65 (by decide +kernel) (by decide +kernel)
theorem vX4_init : o_cd mX4_init ∈ o_wt := o_in 97 (by decide +kernel) (by decide +kernel)
theorem viX4_init : Cond.initialized yX4_init.cls ∈ o_wt := o_in 5 (by decide +kernel) (by decide +kernel)
theorem vnX4_init : Cond.instanceMethod yX4_init ∈ o_wt := o_in 96 (by decide +kernel) (by decide +kernel)
theorem w_ob4 : Cond.methodLink RX4 3 Lib.objectInit ∈ o_wt := o_in 98 (by decide +kernel) (by decide +kernel)
theorem w_cl4_9 : Cond.classLink RX4 9 (o_C 7).1 ∈ o_wt := o_in 99 (by decide +kernel) (by decide +kernel)
theorem vX7_init : o_cd mX7_init ∈ o_wt := o_in 104 (by decide +kernel) (by decide +kernel)
theorem viX7_init : Cond.initialized yX7_init.cls ∈ o_wt := o_in 6 (by decide +kernel) (by decide +kernel)
theorem vnX7_init : Cond.instanceMethod yX7_init ∈ o_wt := o_in 103 (by decide +kernel) (by decide +kernel)
theorem w_ob7 : Cond.methodLink RX7 3 Lib.objectInit ∈ o_wt := o_in 105 (by decide +kernel) (by decide +kernel)
theorem vX2_init : o_cd mX2_init ∈ o_wt := o_in 133 (by decide +kernel) (by decide +kernel)
theorem viX2_init : Cond.initialized yX2_init.cls ∈ o_wt := o_in 7 (by decide +kernel) (by decide +kernel)
theorem vnX2_init : Cond.instanceMethod yX2_init ∈ o_wt := o_in 132 (by decide +kernel) (by decide +kernel)
theorem w_ob2 : Cond.methodLink RX2 3 Lib.objectInit ∈ o_wt := o_in 134 (by decide +kernel) (by decide +kernel)
theorem w_gs2_22 : Cond.fieldLink RX2 22 "ReadCaller$Judge" "FIRST_OF_PAIR" "[I" ∈ o_wt := o_in 135 (by decide +kernel) (by decide +kernel)
theorem vX8_init : o_cd mX8_init ∈ o_wt := o_in 168 (by decide +kernel) (by decide +kernel)
theorem viX8_init : Cond.initialized yX8_init.cls ∈ o_wt := o_in 8 (by decide +kernel) (by decide +kernel)
theorem vnX8_init : Cond.instanceMethod yX8_init ∈ o_wt := o_in 167 (by decide +kernel) (by decide +kernel)
theorem w_ob8 : Cond.methodLink RX8 3 Lib.objectInit ∈ o_wt := o_in 169 (by decide +kernel) (by decide +kernel)
theorem vX6_init : o_cd mX6_init ∈ o_wt := o_in 183 (by decide +kernel) (by decide +kernel)
theorem viX6_init : Cond.initialized yX6_init.cls ∈ o_wt := o_in 9 (by decide +kernel) (by decide +kernel)
theorem vnX6_init : Cond.instanceMethod yX6_init ∈ o_wt := o_in 182 (by decide +kernel) (by decide +kernel)
theorem w_ob6 : Cond.methodLink RX6 3 Lib.objectInit ∈ o_wt := o_in 184 (by decide +kernel) (by decide +kernel)
theorem f6_9 : o_fl RX6 9 6 0 := ⟨o_in 240 (by decide +kernel) (by decide +kernel), by decide, wc6⟩
theorem f6_15 : o_fl RX6 15 6 1 := ⟨o_in 243 (by decide +kernel) (by decide +kernel), by decide, wc6⟩
theorem f6_19 : o_fl RX6 19 6 2 := ⟨o_in 246 (by decide +kernel) (by decide +kernel), by decide, wc6⟩
theorem f6_23 : o_fl RX6 23 6 3 := ⟨o_in 251 (by decide +kernel) (by decide +kernel), by decide, wc6⟩
theorem w_cl6_26 : Cond.classLink RX6 26 (o_C 5).1 ∈ o_wt := o_in 185 (by decide +kernel) (by decide +kernel)
theorem f6_32 : o_fl RX6 32 6 5 := ⟨o_in 259 (by decide +kernel) (by decide +kernel), by decide, wc6⟩
theorem vX5_init : o_cd mX5_init ∈ o_wt := o_in 190 (by decide +kernel) (by decide +kernel)
theorem viX5_init : Cond.initialized yX5_init.cls ∈ o_wt := o_in 10 (by decide +kernel) (by decide +kernel)
theorem vnX5_init : Cond.instanceMethod yX5_init ∈ o_wt := o_in 189 (by decide +kernel) (by decide +kernel)
theorem w_ob5 : Cond.methodLink RX5 3 Lib.objectInit ∈ o_wt := o_in 191 (by decide +kernel) (by decide +kernel)
theorem f5_22 : o_fl RX5 22 5 3 := ⟨o_in 202 (by decide +kernel) (by decide +kernel), by decide, wc5⟩
theorem vX10_init : o_cd mX10_init ∈ o_wt := o_in 714 (by decide +kernel) (by decide +kernel)
theorem viX10_init : Cond.initialized yX10_init.cls ∈ o_wt := o_in 11 (by decide +kernel) (by decide +kernel)
theorem vnX10_init : Cond.instanceMethod yX10_init ∈ o_wt := o_in 713 (by decide +kernel) (by decide +kernel)
theorem w_ob10 : Cond.methodLink RX10 1 Lib.objectInit ∈ o_wt := o_in 715 (by decide +kernel) (by decide +kernel)
theorem q0_11 {G : o_G} : n_cI G RX0 11 mX9_init 1 := ⟨vX9_init, viX9_init, vnX9_init, rfl, by decide, rfl, (by decide +kernel), Or.inl w_li0_11⟩
theorem q0_23 {G : o_G} : n_cI G RX0 23 mX3_init 1 := ⟨vX3_init, viX3_init, vnX3_init, rfl, by decide, rfl, (by decide +kernel), Or.inl w_li0_23⟩
theorem q0_35 {G : o_G} (h : ∀ U : State, o_E G U → va_Nw (.methodLinkNest RX0 35 yX1_init "ReadCaller") U) : n_cI G RX0 35 mX1_init 0 := ⟨vX1_init, viX1_init, vnX1_init, rfl, by decide, rfl, (by decide +kernel), Or.inr ⟨_, h⟩⟩
theorem q0_42 {G : o_G} : n_cI G RX0 42 mX4_init 0 := ⟨vX4_init, viX4_init, vnX4_init, rfl, by decide, rfl, (by decide +kernel), Or.inl w_li0_42⟩
theorem q0_49 {G : o_G} (h : ∀ U : State, o_E G U → va_Nw (.methodLinkNest RX0 49 yX2_init "ReadCaller") U) : n_cI G RX0 49 mX2_init 0 := ⟨vX2_init, viX2_init, vnX2_init, rfl, by decide, rfl, (by decide +kernel), Or.inr ⟨_, h⟩⟩
theorem q0_56 {G : o_G} (h : ∀ U : State, o_E G U → va_Nw (.methodLinkNest RX0 56 yX8_init "ReadCaller") U) : n_cI G RX0 56 mX8_init 0 := ⟨vX8_init, viX8_init, vnX8_init, rfl, by decide, rfl, (by decide +kernel), Or.inr ⟨_, h⟩⟩
theorem q0_63 {G : o_G} : n_cI G RX0 63 mX6_init 0 := ⟨vX6_init, viX6_init, vnX6_init, rfl, by decide, rfl, (by decide +kernel), Or.inl w_li0_63⟩
theorem q4_20 {G : o_G} (h : ∀ U : State, o_E G U → va_Nw (.methodLinkNest RX4 20 yX7_init "ReadCaller") U) : n_cI G RX4 20 mX7_init 0 := ⟨vX7_init, viX7_init, vnX7_init, rfl, by decide, rfl, (by decide +kernel), Or.inr ⟨_, h⟩⟩
theorem q6_35 {G : o_G} (h : ∀ U : State, o_E G U → va_Nw (.methodLinkNest RX6 35 yX5_init "ReadCaller") U) : n_cI G RX6 35 mX5_init 0 := ⟨vX5_init, viX5_init, vnX5_init, rfl, by decide, rfl, (by decide +kernel), Or.inr ⟨_, h⟩⟩
