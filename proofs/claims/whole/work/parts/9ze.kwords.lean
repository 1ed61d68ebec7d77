/-! words of the constructors -/
set_option maxRecDepth 20000 in
theorem aw_I : Cond.arrayClass .int ∈ jtbl := jt1 119 rfl rfl
set_option maxRecDepth 20000 in
theorem aw_B : Cond.arrayClass .byte ∈ jtbl := jt1 118 rfl rfl
set_option maxRecDepth 20000 in
theorem aw_L : Cond.arrayClass .long ∈ jtbl := jt1 120 rfl rfl
set_option maxRecDepth 20000 in
theorem aw_Z : Cond.arrayClass .boolean ∈ jtbl := jt7 31 rfl rfl
set_option maxRecDepth 20000 in
theorem ob_i : Cond.instanceMethod objectInit ∈ jtbl := jt1 28 rfl rfl
set_option maxRecDepth 20000 in
theorem ob_c : Cond.code objectInit ⟨#[0xb1]⟩ 1 none ∈ jtbl := jt1 29 rfl rfl
set_option maxRecDepth 20000 in
theorem ob_X11 : Cond.methodLink RX11 1 objectInit ∈ jtbl := jt1 27 rfl rfl
set_option maxRecDepth 20000 in
theorem ob_X0 : Cond.methodLink RX0 3 objectInit ∈ jtbl := jt2 185 rfl rfl
set_option maxRecDepth 20000 in
theorem ob_X1 : Cond.methodLink RX1 3 objectInit ∈ jtbl := jt2 123 rfl rfl
set_option maxRecDepth 20000 in
theorem ob_X2 : Cond.methodLink RX2 3 objectInit ∈ jtbl := jt2 220 rfl rfl
set_option maxRecDepth 20000 in
theorem ob_X3 : Cond.methodLink RX3 3 objectInit ∈ jtbl := jt2 20 rfl rfl
set_option maxRecDepth 20000 in
theorem ob_X4 : Cond.methodLink RX4 3 objectInit ∈ jtbl := jt2 14 rfl rfl
set_option maxRecDepth 20000 in
theorem ob_X5 : Cond.methodLink RX5 3 objectInit ∈ jtbl := jt1 43 rfl rfl
set_option maxRecDepth 20000 in
theorem ob_X6 : Cond.methodLink RX6 3 objectInit ∈ jtbl := jt1 37 rfl rfl
set_option maxRecDepth 20000 in
theorem ob_X7 : Cond.methodLink RX7 3 objectInit ∈ jtbl := jt1 126 rfl rfl
set_option maxRecDepth 20000 in
theorem ob_X8 : Cond.methodLink RX8 3 objectInit ∈ jtbl := jt2 117 rfl rfl
set_option maxRecDepth 20000 in
theorem ob_X9 : Cond.methodLink RX9 3 objectInit ∈ jtbl := jt3 8 rfl rfl
set_option maxRecDepth 20000 in
theorem ob_X10 : Cond.methodLink RX10 3 objectInit ∈ jtbl := jt2 93 rfl rfl
set_option maxRecDepth 20000 in
theorem ob_X12 : Cond.methodLink RX12 1 objectInit ∈ jtbl := jt6 107 rfl rfl
set_option maxRecDepth 20000 in
theorem cl_L_7 : Cond.classLink RL 7 "NineSights" ∈ jtbl := jt1 22 rfl rfl
set_option maxRecDepth 20000 in
theorem cl_X11_9 : Cond.classLink RX11 9 "NineSights$Tray" ∈ jtbl := jt1 30 rfl rfl
set_option maxRecDepth 20000 in
theorem cl_X11_19 : Cond.classLink RX11 19 "NineSights$PlainReader" ∈ jtbl := jt1 32 rfl rfl
set_option maxRecDepth 20000 in
theorem cl_X6_9 : Cond.classLink RX6 9 "NineSights$Plain" ∈ jtbl := jt1 38 rfl rfl
set_option maxRecDepth 20000 in
theorem cl_X6_18 : Cond.classLink RX6 18 "NineSights$Reader" ∈ jtbl := jt1 121 rfl rfl
set_option maxRecDepth 20000 in
theorem cl_X11_26 : Cond.classLink RX11 26 "NineSights$OrdersReader" ∈ jtbl := jt2 9 rfl rfl
set_option maxRecDepth 20000 in
theorem cl_X4_9 : Cond.classLink RX4 9 "NineSights$Orders" ∈ jtbl := jt2 15 rfl rfl
set_option maxRecDepth 20000 in
theorem cl_X4_18 : Cond.classLink RX4 18 "NineSights$Reader" ∈ jtbl := jt2 71 rfl rfl
set_option maxRecDepth 20000 in
theorem cl_X11_33 : Cond.classLink RX11 33 "NineSights$World" ∈ jtbl := jt2 88 rfl rfl
set_option maxRecDepth 20000 in
theorem cl_X10_9 : Cond.classLink RX10 9 "NineSights$Plain" ∈ jtbl := jt2 94 rfl rfl
set_option maxRecDepth 20000 in
theorem cl_X10_22 : Cond.classLink RX10 22 "NineSights$Orders" ∈ jtbl := jt2 96 rfl rfl
set_option maxRecDepth 20000 in
theorem cl_X11_44 : Cond.classLink RX11 44 "NineSights$Sights" ∈ jtbl := jt2 112 rfl rfl
set_option maxRecDepth 20000 in
theorem cl_X8_28 : Cond.classLink RX8 28 "NineSights$Cover" ∈ jtbl := jt2 118 rfl rfl
set_option maxRecDepth 20000 in
theorem cl_X11_51 : Cond.classLink RX11 51 "NineSights$Couple" ∈ jtbl := jt2 180 rfl rfl
set_option maxRecDepth 20000 in
theorem cl_X11_58 : Cond.classLink RX11 58 "NineSights$Mason" ∈ jtbl := jt2 215 rfl rfl
set_option maxRecDepth 20000 in
theorem cl_L_10 : Cond.classLink RL 10 "NineSightsModel" ∈ jtbl := jt6 102 rfl rfl
set_option maxRecDepth 20000 in
theorem mi_X11_21 : Cond.methodLinkNest RX11 21 yX6_init "NineSights" ∈ jnst := List.mem_filter.mpr ⟨jtm1 (List.mem_of_getElem? (i := 34) rfl), rfl⟩
set_option maxRecDepth 20000 in
theorem mi_X11_28 : Cond.methodLinkNest RX11 28 yX4_init "NineSights" ∈ jnst := List.mem_filter.mpr ⟨jtm2 (List.mem_of_getElem? (i := 11) rfl), rfl⟩
set_option maxRecDepth 20000 in
theorem mi_X11_35 : Cond.methodLinkNest RX11 35 yX10_init "NineSights" ∈ jnst := List.mem_filter.mpr ⟨jtm2 (List.mem_of_getElem? (i := 90) rfl), rfl⟩
set_option maxRecDepth 20000 in
theorem mi_X11_46 : Cond.methodLinkNest RX11 46 yX8_init "NineSights" ∈ jnst := List.mem_filter.mpr ⟨jtm2 (List.mem_of_getElem? (i := 114) rfl), rfl⟩
set_option maxRecDepth 20000 in
theorem mi_X11_53 : Cond.methodLinkNest RX11 53 yX0_init "NineSights" ∈ jnst := List.mem_filter.mpr ⟨jtm2 (List.mem_of_getElem? (i := 182) rfl), rfl⟩
set_option maxRecDepth 20000 in
theorem mi_X11_60 : Cond.methodLinkNest RX11 60 yX2_init "NineSights" ∈ jnst := List.mem_filter.mpr ⟨jtm2 (List.mem_of_getElem? (i := 217) rfl), rfl⟩
set_option maxRecDepth 20000 in
theorem mi_X11_82 : Cond.methodLinkNest RX11 82 yX9_init "NineSights" ∈ jnst := List.mem_filter.mpr ⟨jtm3 (List.mem_of_getElem? (i := 5) rfl), rfl⟩
set_option maxRecDepth 20000 in
theorem mi_X4_11 : Cond.methodLinkNest RX4 11 yX3_init "NineSights" ∈ jnst := List.mem_filter.mpr ⟨jtm2 (List.mem_of_getElem? (i := 17) rfl), rfl⟩
set_option maxRecDepth 20000 in
theorem mi_X6_11 : Cond.methodLinkNest RX6 11 yX5_init "NineSights" ∈ jnst := List.mem_filter.mpr ⟨jtm1 (List.mem_of_getElem? (i := 40) rfl), rfl⟩
set_option maxRecDepth 20000 in
theorem mi_X8_30 : Cond.methodLinkNest RX8 30 yX1_init "NineSights" ∈ jnst := List.mem_filter.mpr ⟨jtm2 (List.mem_of_getElem? (i := 120) rfl), rfl⟩
set_option maxRecDepth 20000 in
theorem mi_X10_11 : Cond.methodLinkNest RX10 11 yX5_init "NineSights" ∈ jnst := List.mem_filter.mpr ⟨jtm2 (List.mem_of_getElem? (i := 95) rfl), rfl⟩
set_option maxRecDepth 20000 in
theorem mi_X10_24 : Cond.methodLinkNest RX10 24 yX3_init "NineSights" ∈ jnst := List.mem_filter.mpr ⟨jtm2 (List.mem_of_getElem? (i := 97) rfl), rfl⟩
abbrev zX0 : List Value := [.null, .null, .null, .int 0, .null, .null, .null, .null]
set_option maxRecDepth 20000 in
theorem kcl_0 : kcl 0 zX0 := ⟨(RX0, TX0, 8), tyX0, rfl, jin0, tyX0_ok, jt2 181 rfl rfl, jt1 14 rfl rfl, by decide +kernel, rfl⟩
set_option maxRecDepth 20000 in
theorem km_0 : kmI mX0_init := ⟨jt2 184 rfl rfl, jt1 14 rfl rfl, by decide +kernel, by decide, jt2 183 rfl rfl, rfl, rfl⟩
set_option maxRecDepth 20000 in
theorem kf_0_0 : kfw RX0 0 0 (tyX0 0) := ⟨(RX0, TX0, 8), tyX0, rfl, tyX0_ok, nmX0, rfl, tyX0_ok 0 (by decide), rfl⟩
set_option maxRecDepth 20000 in
theorem kf_0_1 : kfw RX0 0 1 (tyX0 1) := ⟨(RX0, TX0, 8), tyX0, rfl, tyX0_ok, nmX0, rfl, tyX0_ok 1 (by decide), rfl⟩
set_option maxRecDepth 20000 in
theorem kf_0_2 : kfw RX0 0 2 (tyX0 2) := ⟨(RX0, TX0, 8), tyX0, rfl, tyX0_ok, nmX0, rfl, tyX0_ok 2 (by decide), rfl⟩
set_option maxRecDepth 20000 in
theorem kf_0_4 : kfw RX0 0 4 (tyX0 4) := ⟨(RX0, TX0, 8), tyX0, rfl, tyX0_ok, nmX0, rfl, tyX0_ok 4 (by decide), rfl⟩
set_option maxRecDepth 20000 in
theorem kf_0_5 : kfw RX0 0 5 (tyX0 5) := ⟨(RX0, TX0, 8), tyX0, rfl, tyX0_ok, nmX0, rfl, tyX0_ok 5 (by decide), rfl⟩
set_option maxRecDepth 20000 in
theorem kf_0_6 : kfw RX0 0 6 (tyX0 6) := ⟨(RX0, TX0, 8), tyX0, rfl, tyX0_ok, nmX0, rfl, tyX0_ok 6 (by decide), rfl⟩
set_option maxRecDepth 20000 in
theorem kf_0_7 : kfw RX0 0 7 (tyX0 7) := ⟨(RX0, TX0, 8), tyX0, rfl, tyX0_ok, nmX0, rfl, tyX0_ok 7 (by decide), rfl⟩
abbrev zX1 : List Value := [.int 0, .null, .null, .int 0, .null, .int 0, .long 0, .null, .null, .null]
set_option maxRecDepth 20000 in
theorem kcl_1 : kcl 1 zX1 := ⟨(RX1, TX1, 10), tyX1, rfl, jin1, tyX1_ok, jt2 119 rfl rfl, jt1 13 rfl rfl, by decide +kernel, rfl⟩
set_option maxRecDepth 20000 in
theorem km_1 : kmI mX1_init := ⟨jt2 122 rfl rfl, jt1 13 rfl rfl, by decide +kernel, by decide, jt2 121 rfl rfl, rfl, rfl⟩
set_option maxRecDepth 20000 in
theorem kf_1_1 : kfw RX1 1 1 (tyX1 1) := ⟨(RX1, TX1, 10), tyX1, rfl, tyX1_ok, nmX1, rfl, tyX1_ok 1 (by decide), rfl⟩
set_option maxRecDepth 20000 in
theorem kf_1_2 : kfw RX1 1 2 (tyX1 2) := ⟨(RX1, TX1, 10), tyX1, rfl, tyX1_ok, nmX1, rfl, tyX1_ok 2 (by decide), rfl⟩
set_option maxRecDepth 20000 in
theorem kf_1_4 : kfw RX1 1 4 (tyX1 4) := ⟨(RX1, TX1, 10), tyX1, rfl, tyX1_ok, nmX1, rfl, tyX1_ok 4 (by decide), rfl⟩
set_option maxRecDepth 20000 in
theorem kf_1_7 : kfw RX1 1 7 (tyX1 7) := ⟨(RX1, TX1, 10), tyX1, rfl, tyX1_ok, nmX1, rfl, tyX1_ok 7 (by decide), rfl⟩
set_option maxRecDepth 20000 in
theorem kf_1_8 : kfw RX1 1 8 (tyX1 8) := ⟨(RX1, TX1, 10), tyX1, rfl, tyX1_ok, nmX1, rfl, tyX1_ok 8 (by decide), rfl⟩
set_option maxRecDepth 20000 in
theorem kf_1_9 : kfw RX1 1 9 (tyX1 9) := ⟨(RX1, TX1, 10), tyX1, rfl, tyX1_ok, nmX1, rfl, tyX1_ok 9 (by decide), rfl⟩
abbrev zX2 : List Value := [.int 0, .int 0, .int 0, .int 0, .null, .int 0]
set_option maxRecDepth 20000 in
theorem kcl_2 : kcl 2 zX2 := ⟨(RX2, TX2, 6), tyX2, rfl, jin2, tyX2_ok, jt2 216 rfl rfl, jt1 15 rfl rfl, by decide +kernel, rfl⟩
set_option maxRecDepth 20000 in
theorem km_2 : kmI mX2_init := ⟨jt2 219 rfl rfl, jt1 15 rfl rfl, by decide +kernel, by decide, jt2 218 rfl rfl, rfl, rfl⟩
set_option maxRecDepth 20000 in
theorem kf_2_4 : kfw RX2 2 4 (tyX2 4) := ⟨(RX2, TX2, 6), tyX2, rfl, tyX2_ok, nmX2, rfl, tyX2_ok 4 (by decide), rfl⟩
abbrev zX3 : List Value := [.int 0, .int 0, .int 0, .null, .null, .null, .null, .null, .null, .null]
set_option maxRecDepth 20000 in
theorem kcl_3 : kcl 3 zX3 := ⟨(RX3, TX3, 10), tyX3, rfl, jin3, tyX3_ok, jt2 16 rfl rfl, jt1 10 rfl rfl, by decide +kernel, rfl⟩
set_option maxRecDepth 20000 in
theorem km_3 : kmI mX3_init := ⟨jt2 19 rfl rfl, jt1 10 rfl rfl, by decide +kernel, by decide, jt2 18 rfl rfl, rfl, rfl⟩
set_option maxRecDepth 20000 in
theorem kf_3_3 : kfw RX3 3 3 (tyX3 3) := ⟨(RX3, TX3, 10), tyX3, rfl, tyX3_ok, nmX3, rfl, tyX3_ok 3 (by decide), rfl⟩
set_option maxRecDepth 20000 in
theorem kf_3_4 : kfw RX3 3 4 (tyX3 4) := ⟨(RX3, TX3, 10), tyX3, rfl, tyX3_ok, nmX3, rfl, tyX3_ok 4 (by decide), rfl⟩
set_option maxRecDepth 20000 in
theorem kf_3_5 : kfw RX3 3 5 (tyX3 5) := ⟨(RX3, TX3, 10), tyX3, rfl, tyX3_ok, nmX3, rfl, tyX3_ok 5 (by decide), rfl⟩
set_option maxRecDepth 20000 in
theorem kf_3_6 : kfw RX3 3 6 (tyX3 6) := ⟨(RX3, TX3, 10), tyX3, rfl, tyX3_ok, nmX3, rfl, tyX3_ok 6 (by decide), rfl⟩
set_option maxRecDepth 20000 in
theorem kf_3_7 : kfw RX3 3 7 (tyX3 7) := ⟨(RX3, TX3, 10), tyX3, rfl, tyX3_ok, nmX3, rfl, tyX3_ok 7 (by decide), rfl⟩
set_option maxRecDepth 20000 in
theorem kf_3_8 : kfw RX3 3 8 (tyX3 8) := ⟨(RX3, TX3, 10), tyX3, rfl, tyX3_ok, nmX3, rfl, tyX3_ok 8 (by decide), rfl⟩
set_option maxRecDepth 20000 in
theorem kf_3_9 : kfw RX3 3 9 (tyX3 9) := ⟨(RX3, TX3, 10), tyX3, rfl, tyX3_ok, nmX3, rfl, tyX3_ok 9 (by decide), rfl⟩
abbrev zX4 : List Value := [.null, .null, .null, .int 0]
set_option maxRecDepth 20000 in
theorem kcl_4 : kcl 4 zX4 := ⟨(RX4, TX4, 4), tyX4, rfl, jin4, tyX4_ok, jt2 10 rfl rfl, jt1 9 rfl rfl, by decide +kernel, rfl⟩
set_option maxRecDepth 20000 in
theorem km_4 : kmI mX4_init := ⟨jt2 13 rfl rfl, jt1 9 rfl rfl, by decide +kernel, by decide, jt2 12 rfl rfl, rfl, rfl⟩
set_option maxRecDepth 20000 in
theorem kf_4_0 : kfw RX4 4 0 (tyX4 0) := ⟨(RX4, TX4, 4), tyX4, rfl, tyX4_ok, nmX4, rfl, tyX4_ok 0 (by decide), rfl⟩
set_option maxRecDepth 20000 in
theorem kf_4_1 : kfw RX4 4 1 (tyX4 1) := ⟨(RX4, TX4, 4), tyX4, rfl, tyX4_ok, nmX4, rfl, tyX4_ok 1 (by decide), rfl⟩
set_option maxRecDepth 20000 in
theorem kf_4_2 : kfw RX4 4 2 (tyX4 2) := ⟨(RX4, TX4, 4), tyX4, rfl, tyX4_ok, nmX4, rfl, tyX4_ok 2 (by decide), rfl⟩
abbrev zX5 : List Value := [.int 0, .int 0, .int 0, .int 0, .int 0, .null, .null, .null, .null, .null, .null, .null, .null]
set_option maxRecDepth 20000 in
theorem kcl_5 : kcl 5 zX5 := ⟨(RX5, TX5, 13), tyX5, rfl, jin5, tyX5_ok, jt1 39 rfl rfl, jt1 3 rfl rfl, by decide +kernel, rfl⟩
set_option maxRecDepth 20000 in
theorem km_5 : kmI mX5_init := ⟨jt1 42 rfl rfl, jt1 3 rfl rfl, by decide +kernel, by decide, jt1 41 rfl rfl, rfl, rfl⟩
set_option maxRecDepth 20000 in
theorem kf_5_5 : kfw RX5 5 5 (tyX5 5) := ⟨(RX5, TX5, 13), tyX5, rfl, tyX5_ok, nmX5, rfl, tyX5_ok 5 (by decide), rfl⟩
set_option maxRecDepth 20000 in
theorem kf_5_6 : kfw RX5 5 6 (tyX5 6) := ⟨(RX5, TX5, 13), tyX5, rfl, tyX5_ok, nmX5, rfl, tyX5_ok 6 (by decide), rfl⟩
set_option maxRecDepth 20000 in
theorem kf_5_7 : kfw RX5 5 7 (tyX5 7) := ⟨(RX5, TX5, 13), tyX5, rfl, tyX5_ok, nmX5, rfl, tyX5_ok 7 (by decide), rfl⟩
set_option maxRecDepth 20000 in
theorem kf_5_8 : kfw RX5 5 8 (tyX5 8) := ⟨(RX5, TX5, 13), tyX5, rfl, tyX5_ok, nmX5, rfl, tyX5_ok 8 (by decide), rfl⟩
set_option maxRecDepth 20000 in
theorem kf_5_9 : kfw RX5 5 9 (tyX5 9) := ⟨(RX5, TX5, 13), tyX5, rfl, tyX5_ok, nmX5, rfl, tyX5_ok 9 (by decide), rfl⟩
set_option maxRecDepth 20000 in
theorem kf_5_10 : kfw RX5 5 10 (tyX5 10) := ⟨(RX5, TX5, 13), tyX5, rfl, tyX5_ok, nmX5, rfl, tyX5_ok 10 (by decide), rfl⟩
set_option maxRecDepth 20000 in
theorem kf_5_11 : kfw RX5 5 11 (tyX5 11) := ⟨(RX5, TX5, 13), tyX5, rfl, tyX5_ok, nmX5, rfl, tyX5_ok 11 (by decide), rfl⟩
set_option maxRecDepth 20000 in
theorem kf_5_12 : kfw RX5 5 12 (tyX5 12) := ⟨(RX5, TX5, 13), tyX5, rfl, tyX5_ok, nmX5, rfl, tyX5_ok 12 (by decide), rfl⟩
abbrev zX6 : List Value := [.null, .null, .int 0, .int 0, .int 0]
set_option maxRecDepth 20000 in
theorem kcl_6 : kcl 6 zX6 := ⟨(RX6, TX6, 5), tyX6, rfl, jin6, tyX6_ok, jt1 33 rfl rfl, jt1 2 rfl rfl, by decide +kernel, rfl⟩
set_option maxRecDepth 20000 in
theorem km_6 : kmI mX6_init := ⟨jt1 36 rfl rfl, jt1 2 rfl rfl, by decide +kernel, by decide, jt1 35 rfl rfl, rfl, rfl⟩
set_option maxRecDepth 20000 in
theorem kf_6_0 : kfw RX6 6 0 (tyX6 0) := ⟨(RX6, TX6, 5), tyX6, rfl, tyX6_ok, nmX6, rfl, tyX6_ok 0 (by decide), rfl⟩
set_option maxRecDepth 20000 in
theorem kf_6_1 : kfw RX6 6 1 (tyX6 1) := ⟨(RX6, TX6, 5), tyX6, rfl, tyX6_ok, nmX6, rfl, tyX6_ok 1 (by decide), rfl⟩
abbrev zX7 : List Value := [.int 0, .int 0, .int 0, .int 0, .long 0, .int 0, .int 0, .int 0, .null, .null, .int 0, .int 0, .int 0, .int 0]
set_option maxRecDepth 20000 in
theorem kcl_7 : kcl 7 zX7 := ⟨(RX7, TX7, 14), tyX7, rfl, jin7, tyX7_ok, jt1 122 rfl rfl, jt1 4 rfl rfl, by decide +kernel, rfl⟩
set_option maxRecDepth 20000 in
theorem km_7 : kmI mX7_init := ⟨jt1 125 rfl rfl, jt1 4 rfl rfl, by decide +kernel, by decide, jt1 124 rfl rfl, rfl, rfl⟩
set_option maxRecDepth 20000 in
theorem kf_7_8 : kfw RX7 7 8 (tyX7 8) := ⟨(RX7, TX7, 14), tyX7, rfl, tyX7_ok, nmX7, rfl, tyX7_ok 8 (by decide), rfl⟩
abbrev zX8 : List Value := [.null, .null, .null, .null, .null, .null, .int 0]
set_option maxRecDepth 20000 in
theorem kcl_8 : kcl 8 zX8 := ⟨(RX8, TX8, 7), tyX8, rfl, jin8, tyX8_ok, jt2 113 rfl rfl, jt1 12 rfl rfl, by decide +kernel, rfl⟩
set_option maxRecDepth 20000 in
theorem km_8 : kmI mX8_init := ⟨jt2 116 rfl rfl, jt1 12 rfl rfl, by decide +kernel, by decide, jt2 115 rfl rfl, rfl, rfl⟩
set_option maxRecDepth 20000 in
theorem kf_8_0 : kfw RX8 8 0 (tyX8 0) := ⟨(RX8, TX8, 7), tyX8, rfl, tyX8_ok, nmX8, rfl, tyX8_ok 0 (by decide), rfl⟩
set_option maxRecDepth 20000 in
theorem kf_8_1 : kfw RX8 8 1 (tyX8 1) := ⟨(RX8, TX8, 7), tyX8, rfl, tyX8_ok, nmX8, rfl, tyX8_ok 1 (by decide), rfl⟩
set_option maxRecDepth 20000 in
theorem kf_8_2 : kfw RX8 8 2 (tyX8 2) := ⟨(RX8, TX8, 7), tyX8, rfl, tyX8_ok, nmX8, rfl, tyX8_ok 2 (by decide), rfl⟩
set_option maxRecDepth 20000 in
theorem kf_8_3 : kfw RX8 8 3 (tyX8 3) := ⟨(RX8, TX8, 7), tyX8, rfl, tyX8_ok, nmX8, rfl, tyX8_ok 3 (by decide), rfl⟩
set_option maxRecDepth 20000 in
theorem kf_8_4 : kfw RX8 8 4 (tyX8 4) := ⟨(RX8, TX8, 7), tyX8, rfl, tyX8_ok, nmX8, rfl, tyX8_ok 4 (by decide), rfl⟩
set_option maxRecDepth 20000 in
theorem kf_8_5 : kfw RX8 8 5 (tyX8 5) := ⟨(RX8, TX8, 7), tyX8, rfl, tyX8_ok, nmX8, rfl, tyX8_ok 5 (by decide), rfl⟩
abbrev zX9 : List Value := [.int 0, .int 0, .int 0, .null]
set_option maxRecDepth 20000 in
theorem kcl_9 : kcl 9 zX9 := ⟨(RX9, TX9, 4), tyX9, rfl, jin9, tyX9_ok, jt3 4 rfl rfl, jt1 16 rfl rfl, by decide +kernel, rfl⟩
set_option maxRecDepth 20000 in
theorem km_9 : kmI mX9_init := ⟨jt3 7 rfl rfl, jt1 16 rfl rfl, by decide +kernel, by decide, jt3 6 rfl rfl, rfl, rfl⟩
set_option maxRecDepth 20000 in
theorem kf_9_3 : kfw RX9 9 3 (tyX9 3) := ⟨(RX9, TX9, 4), tyX9, rfl, tyX9_ok, nmX9, rfl, tyX9_ok 3 (by decide), rfl⟩
abbrev zX10 : List Value := [.null, .null, .null]
set_option maxRecDepth 20000 in
theorem kcl_10 : kcl 10 zX10 := ⟨(RX10, TX10, 3), tyX10, rfl, jin10, tyX10_ok, jt2 89 rfl rfl, jt1 11 rfl rfl, by decide +kernel, rfl⟩
set_option maxRecDepth 20000 in
theorem km_10 : kmI mX10_init := ⟨jt2 92 rfl rfl, jt1 11 rfl rfl, by decide +kernel, by decide, jt2 91 rfl rfl, rfl, rfl⟩
set_option maxRecDepth 20000 in
theorem kf_10_0 : kfw RX10 10 0 (tyX10 0) := ⟨(RX10, TX10, 3), tyX10, rfl, tyX10_ok, nmX10, rfl, tyX10_ok 0 (by decide), rfl⟩
set_option maxRecDepth 20000 in
theorem kf_10_1 : kfw RX10 10 1 (tyX10 1) := ⟨(RX10, TX10, 3), tyX10, rfl, tyX10_ok, nmX10, rfl, tyX10_ok 1 (by decide), rfl⟩
set_option maxRecDepth 20000 in
theorem kf_10_2 : kfw RX10 10 2 (tyX10 2) := ⟨(RX10, TX10, 3), tyX10, rfl, tyX10_ok, nmX10, rfl, tyX10_ok 2 (by decide), rfl⟩
abbrev zX11 : List Value := [.null, .null, .null, .null, .null, .null, .null, .null, .null, .null, .null, .null, .null, .null, .int 0, .int 0, .int 0]
set_option maxRecDepth 20000 in
theorem kcl_11 : kcl 11 zX11 := ⟨(RX11, TX11, 17), tyX11, rfl, jin11, tyX11_ok, jt1 23 rfl rfl, jt1 1 rfl rfl, by decide +kernel, rfl⟩
set_option maxRecDepth 20000 in
theorem km_11 : kmI mX11_init := ⟨jt1 26 rfl rfl, jt1 1 rfl rfl, by decide +kernel, by decide, jt1 25 rfl rfl, rfl, rfl⟩
set_option maxRecDepth 20000 in
theorem kf_11_0 : kfw RX11 11 0 (tyX11 0) := ⟨(RX11, TX11, 17), tyX11, rfl, tyX11_ok, nmX11, rfl, tyX11_ok 0 (by decide), rfl⟩
set_option maxRecDepth 20000 in
theorem kf_11_1 : kfw RX11 11 1 (tyX11 1) := ⟨(RX11, TX11, 17), tyX11, rfl, tyX11_ok, nmX11, rfl, tyX11_ok 1 (by decide), rfl⟩
set_option maxRecDepth 20000 in
theorem kf_11_2 : kfw RX11 11 2 (tyX11 2) := ⟨(RX11, TX11, 17), tyX11, rfl, tyX11_ok, nmX11, rfl, tyX11_ok 2 (by decide), rfl⟩
set_option maxRecDepth 20000 in
theorem kf_11_3 : kfw RX11 11 3 (tyX11 3) := ⟨(RX11, TX11, 17), tyX11, rfl, tyX11_ok, nmX11, rfl, tyX11_ok 3 (by decide), rfl⟩
set_option maxRecDepth 20000 in
theorem kf_11_4 : kfw RX11 11 4 (tyX11 4) := ⟨(RX11, TX11, 17), tyX11, rfl, tyX11_ok, nmX11, rfl, tyX11_ok 4 (by decide), rfl⟩
set_option maxRecDepth 20000 in
theorem kf_11_5 : kfw RX11 11 5 (tyX11 5) := ⟨(RX11, TX11, 17), tyX11, rfl, tyX11_ok, nmX11, rfl, tyX11_ok 5 (by decide), rfl⟩
set_option maxRecDepth 20000 in
theorem kf_11_6 : kfw RX11 11 6 (tyX11 6) := ⟨(RX11, TX11, 17), tyX11, rfl, tyX11_ok, nmX11, rfl, tyX11_ok 6 (by decide), rfl⟩
set_option maxRecDepth 20000 in
theorem kf_11_7 : kfw RX11 11 7 (tyX11 7) := ⟨(RX11, TX11, 17), tyX11, rfl, tyX11_ok, nmX11, rfl, tyX11_ok 7 (by decide), rfl⟩
set_option maxRecDepth 20000 in
theorem kf_11_8 : kfw RX11 11 8 (tyX11 8) := ⟨(RX11, TX11, 17), tyX11, rfl, tyX11_ok, nmX11, rfl, tyX11_ok 8 (by decide), rfl⟩
set_option maxRecDepth 20000 in
theorem kf_11_9 : kfw RX11 11 9 (tyX11 9) := ⟨(RX11, TX11, 17), tyX11, rfl, tyX11_ok, nmX11, rfl, tyX11_ok 9 (by decide), rfl⟩
set_option maxRecDepth 20000 in
theorem kf_11_10 : kfw RX11 11 10 (tyX11 10) := ⟨(RX11, TX11, 17), tyX11, rfl, tyX11_ok, nmX11, rfl, tyX11_ok 10 (by decide), rfl⟩
set_option maxRecDepth 20000 in
theorem kf_11_11 : kfw RX11 11 11 (tyX11 11) := ⟨(RX11, TX11, 17), tyX11, rfl, tyX11_ok, nmX11, rfl, tyX11_ok 11 (by decide), rfl⟩
set_option maxRecDepth 20000 in
theorem kf_11_12 : kfw RX11 11 12 (tyX11 12) := ⟨(RX11, TX11, 17), tyX11, rfl, tyX11_ok, nmX11, rfl, tyX11_ok 12 (by decide), rfl⟩
set_option maxRecDepth 20000 in
theorem kf_11_13 : kfw RX11 11 13 (tyX11 13) := ⟨(RX11, TX11, 17), tyX11, rfl, tyX11_ok, nmX11, rfl, tyX11_ok 13 (by decide), rfl⟩
abbrev zX12 : List Value := [.int 0, .int 0, .long 0, .long 0, .null, .null, .null, .null, .int 0, .int 0, .int 0, .int 0, .int 0, .int 0, .int 0, .int 0, .int 0, .int 0, .int 0, .int 0, .int 0, .int 0, .long 0, .null, .null, .int 0, .null, .null, .null, .null, .null, .int 0, .int 0, .int 0, .int 0, .int 0, .null, .null, .null, .int 0, .int 0, .null, .int 0, .int 0, .int 0, .int 0, .int 0, .null, .null, .int 0, .int 0, .null, .null, .int 0]
set_option maxRecDepth 20000 in
theorem kcl_12 : kcl 12 zX12 := ⟨(RX12, TX12, 54), tyX12, rfl, jin12, tyX12_ok, jt6 103 rfl rfl, jt1 17 rfl rfl, by decide +kernel, rfl⟩
set_option maxRecDepth 20000 in
theorem km_12 : kmI mX12_init := ⟨jt6 106 rfl rfl, jt1 17 rfl rfl, by decide +kernel, by decide, jt6 105 rfl rfl, rfl, rfl⟩
set_option maxRecDepth 20000 in
theorem kf_12_4 : kfw RX12 12 4 (tyX12 4) := ⟨(RX12, TX12, 54), tyX12, rfl, tyX12_ok, nmX12, rfl, tyX12_ok 4 (by decide), rfl⟩
set_option maxRecDepth 20000 in
theorem kf_12_5 : kfw RX12 12 5 (tyX12 5) := ⟨(RX12, TX12, 54), tyX12, rfl, tyX12_ok, nmX12, rfl, tyX12_ok 5 (by decide), rfl⟩
set_option maxRecDepth 20000 in
theorem kf_12_6 : kfw RX12 12 6 (tyX12 6) := ⟨(RX12, TX12, 54), tyX12, rfl, tyX12_ok, nmX12, rfl, tyX12_ok 6 (by decide), rfl⟩
set_option maxRecDepth 20000 in
theorem kf_12_7 : kfw RX12 12 7 (tyX12 7) := ⟨(RX12, TX12, 54), tyX12, rfl, tyX12_ok, nmX12, rfl, tyX12_ok 7 (by decide), rfl⟩
set_option maxRecDepth 20000 in
theorem kf_12_23 : kfw RX12 12 23 (tyX12 23) := ⟨(RX12, TX12, 54), tyX12, rfl, tyX12_ok, nmX12, rfl, tyX12_ok 23 (by decide), rfl⟩
set_option maxRecDepth 20000 in
theorem kf_12_24 : kfw RX12 12 24 (tyX12 24) := ⟨(RX12, TX12, 54), tyX12, rfl, tyX12_ok, nmX12, rfl, tyX12_ok 24 (by decide), rfl⟩
set_option maxRecDepth 20000 in
theorem kf_12_26 : kfw RX12 12 26 (tyX12 26) := ⟨(RX12, TX12, 54), tyX12, rfl, tyX12_ok, nmX12, rfl, tyX12_ok 26 (by decide), rfl⟩
set_option maxRecDepth 20000 in
theorem kf_12_27 : kfw RX12 12 27 (tyX12 27) := ⟨(RX12, TX12, 54), tyX12, rfl, tyX12_ok, nmX12, rfl, tyX12_ok 27 (by decide), rfl⟩
set_option maxRecDepth 20000 in
theorem kf_12_28 : kfw RX12 12 28 (tyX12 28) := ⟨(RX12, TX12, 54), tyX12, rfl, tyX12_ok, nmX12, rfl, tyX12_ok 28 (by decide), rfl⟩
set_option maxRecDepth 20000 in
theorem kf_12_29 : kfw RX12 12 29 (tyX12 29) := ⟨(RX12, TX12, 54), tyX12, rfl, tyX12_ok, nmX12, rfl, tyX12_ok 29 (by decide), rfl⟩
set_option maxRecDepth 20000 in
theorem kf_12_30 : kfw RX12 12 30 (tyX12 30) := ⟨(RX12, TX12, 54), tyX12, rfl, tyX12_ok, nmX12, rfl, tyX12_ok 30 (by decide), rfl⟩
set_option maxRecDepth 20000 in
theorem kf_12_36 : kfw RX12 12 36 (tyX12 36) := ⟨(RX12, TX12, 54), tyX12, rfl, tyX12_ok, nmX12, rfl, tyX12_ok 36 (by decide), rfl⟩
set_option maxRecDepth 20000 in
theorem kf_12_37 : kfw RX12 12 37 (tyX12 37) := ⟨(RX12, TX12, 54), tyX12, rfl, tyX12_ok, nmX12, rfl, tyX12_ok 37 (by decide), rfl⟩
set_option maxRecDepth 20000 in
theorem kf_12_38 : kfw RX12 12 38 (tyX12 38) := ⟨(RX12, TX12, 54), tyX12, rfl, tyX12_ok, nmX12, rfl, tyX12_ok 38 (by decide), rfl⟩
set_option maxRecDepth 20000 in
theorem kf_12_41 : kfw RX12 12 41 (tyX12 41) := ⟨(RX12, TX12, 54), tyX12, rfl, tyX12_ok, nmX12, rfl, tyX12_ok 41 (by decide), rfl⟩
set_option maxRecDepth 20000 in
theorem kf_12_47 : kfw RX12 12 47 (tyX12 47) := ⟨(RX12, TX12, 54), tyX12, rfl, tyX12_ok, nmX12, rfl, tyX12_ok 47 (by decide), rfl⟩
set_option maxRecDepth 20000 in
theorem kf_12_48 : kfw RX12 12 48 (tyX12 48) := ⟨(RX12, TX12, 54), tyX12, rfl, tyX12_ok, nmX12, rfl, tyX12_ok 48 (by decide), rfl⟩
set_option maxRecDepth 20000 in
theorem kf_12_51 : kfw RX12 12 51 (tyX12 51) := ⟨(RX12, TX12, 54), tyX12, rfl, tyX12_ok, nmX12, rfl, tyX12_ok 51 (by decide), rfl⟩
set_option maxRecDepth 20000 in
theorem kf_12_52 : kfw RX12 12 52 (tyX12 52) := ⟨(RX12, TX12, 54), tyX12, rfl, tyX12_ok, nmX12, rfl, tyX12_ok 52 (by decide), rfl⟩
set_option maxRecDepth 20000 in
theorem ml_L_9 : Cond.methodLink RL 9 yX11_init ∈ jtbl := jt1 24 rfl rfl
set_option maxRecDepth 20000 in
theorem ml_L_12 : Cond.methodLink RL 12 yX12_init ∈ jtbl := jt6 104 rfl rfl
set_option maxRecDepth 20000 in
theorem ml_L_13 : Cond.methodLink RL 13 yX11_status ∈ jtbl := jt3 77 rfl rfl
set_option maxRecDepth 20000 in
theorem ml_L_17 : Cond.methodLink RL 17 yX12_status ∈ jtbl := jt7 32 rfl rfl
set_option maxRecDepth 20000 in
theorem ml_L_18 : Cond.methodLink RL 18 yX11_top ∈ jtbl := jt3 81 rfl rfl
set_option maxRecDepth 20000 in
theorem ml_L_22 : Cond.methodLink RL 22 yX12_top ∈ jtbl := jt7 36 rfl rfl
set_option maxRecDepth 20000 in
theorem ml_L_23 : Cond.methodLink RL 23 yX11_bottom ∈ jtbl := jt3 85 rfl rfl
set_option maxRecDepth 20000 in
theorem ml_L_26 : Cond.methodLink RL 26 yX12_bottom ∈ jtbl := jt7 40 rfl rfl
set_option maxRecDepth 20000 in
theorem ml_L_27 : Cond.methodLink RL 27 yX11_tray ∈ jtbl := jt3 89 rfl rfl
set_option maxRecDepth 20000 in
theorem ml_L_31 : Cond.methodLink RL 31 yX12_tray ∈ jtbl := jt7 44 rfl rfl
set_option maxRecDepth 20000 in
theorem ml_L_34 : Cond.methodLink RL 34 yX11_write ∈ jtbl := jt3 107 rfl rfl
set_option maxRecDepth 20000 in
theorem ml_L_38 : Cond.methodLink RL 38 yX12_write ∈ jtbl := jt7 52 rfl rfl
set_option maxRecDepth 20000 in
theorem ml_L_39 : Cond.methodLink RL 39 yX11_read ∈ jtbl := jt3 123 rfl rfl
set_option maxRecDepth 20000 in
theorem ml_L_43 : Cond.methodLink RL 43 yX12_read ∈ jtbl := jt7 67 rfl rfl
set_option maxRecDepth 20000 in
theorem ml_L_44 : Cond.methodLink RL 44 yX11_pour ∈ jtbl := jt3 131 rfl rfl
set_option maxRecDepth 20000 in
theorem ml_L_48 : Cond.methodLink RL 48 yX12_pour ∈ jtbl := jt7 72 rfl rfl
set_option maxRecDepth 20000 in
theorem ml_L_49 : Cond.methodLink RL 49 yX11_feed ∈ jtbl := jt3 138 rfl rfl
set_option maxRecDepth 20000 in
theorem ml_L_53 : Cond.methodLink RL 53 yX12_feed ∈ jtbl := jt7 76 rfl rfl
set_option maxRecDepth 20000 in
theorem ml_L_54 : Cond.methodLink RL 54 yX11_plain ∈ jtbl := jt3 146 rfl rfl
set_option maxRecDepth 20000 in
theorem ml_L_58 : Cond.methodLink RL 58 yX12_plain ∈ jtbl := jt7 88 rfl rfl
set_option maxRecDepth 20000 in
theorem ml_L_59 : Cond.methodLink RL 59 yX11_orders ∈ jtbl := jt4 28 rfl rfl
set_option maxRecDepth 20000 in
theorem ml_L_62 : Cond.methodLink RL 62 yX12_orders ∈ jtbl := jt9 33 rfl rfl
set_option maxRecDepth 20000 in
theorem ml_L_63 : Cond.methodLink RL 63 yX11_fault ∈ jtbl := jt4 94 rfl rfl
set_option maxRecDepth 20000 in
theorem ml_L_66 : Cond.methodLink RL 66 yX12_fault ∈ jtbl := jt7 84 rfl rfl
set_option maxRecDepth 20000 in
theorem ml_L_67 : Cond.methodLink RL 67 yX11_many ∈ jtbl := jt4 98 rfl rfl
set_option maxRecDepth 20000 in
theorem ml_L_70 : Cond.methodLink RL 70 yX12_many ∈ jtbl := jt8 23 rfl rfl
set_option maxRecDepth 20000 in
theorem ml_L_71 : Cond.methodLink RL 71 yX11_cell ∈ jtbl := jt4 102 rfl rfl
set_option maxRecDepth 20000 in
theorem ml_L_75 : Cond.methodLink RL 75 yX12_cell ∈ jtbl := jt8 32 rfl rfl
set_option maxRecDepth 20000 in
theorem ml_L_76 : Cond.methodLink RL 76 yX11_village ∈ jtbl := jt4 110 rfl rfl
set_option maxRecDepth 20000 in
theorem ml_L_79 : Cond.methodLink RL 79 yX12_village ∈ jtbl := jt8 40 rfl rfl
set_option maxRecDepth 20000 in
theorem ml_L_80 : Cond.methodLink RL 80 yX11_promised ∈ jtbl := jt4 123 rfl rfl
set_option maxRecDepth 20000 in
theorem ml_L_83 : Cond.methodLink RL 83 yX12_promised ∈ jtbl := jt8 52 rfl rfl
set_option maxRecDepth 20000 in
theorem ml_L_84 : Cond.methodLink RL 84 yX11_strip ∈ jtbl := jt4 133 rfl rfl
set_option maxRecDepth 20000 in
theorem ml_L_87 : Cond.methodLink RL 87 yX12_strip ∈ jtbl := jt8 60 rfl rfl
set_option maxRecDepth 20000 in
theorem ml_L_88 : Cond.methodLink RL 88 yX11_height ∈ jtbl := jt4 141 rfl rfl
set_option maxRecDepth 20000 in
theorem ml_L_91 : Cond.methodLink RL 91 yX12_height ∈ jtbl := jt8 69 rfl rfl
set_option maxRecDepth 20000 in
theorem ml_L_92 : Cond.methodLink RL 92 yX11_build ∈ jtbl := jt4 145 rfl rfl
set_option maxRecDepth 20000 in
theorem ml_L_96 : Cond.methodLink RL 96 yX12_build ∈ jtbl := jt8 73 rfl rfl
set_option maxRecDepth 20000 in
theorem ml_L_97 : Cond.methodLink RL 97 yX11_buildAll ∈ jtbl := jt4 153 rfl rfl
set_option maxRecDepth 20000 in
theorem ml_L_101 : Cond.methodLink RL 101 yX12_buildAll ∈ jtbl := jt8 78 rfl rfl
set_option maxRecDepth 20000 in
theorem ml_L_102 : Cond.methodLink RL 102 yX11_seen ∈ jtbl := jt4 171 rfl rfl
set_option maxRecDepth 20000 in
theorem ml_L_105 : Cond.methodLink RL 105 yX12_seen ∈ jtbl := jt8 94 rfl rfl
set_option maxRecDepth 20000 in
theorem ml_L_106 : Cond.methodLink RL 106 yX11_otherwise ∈ jtbl := jt4 183 rfl rfl
set_option maxRecDepth 20000 in
theorem ml_L_109 : Cond.methodLink RL 109 yX12_otherwise ∈ jtbl := jt8 103 rfl rfl
set_option maxRecDepth 20000 in
theorem ml_L_110 : Cond.methodLink RL 110 yX11_stone ∈ jtbl := jt4 201 rfl rfl
set_option maxRecDepth 20000 in
theorem ml_L_113 : Cond.methodLink RL 113 yX12_stone ∈ jtbl := jt8 107 rfl rfl
set_option maxRecDepth 20000 in
theorem ml_L_114 : Cond.methodLink RL 114 yX11_cap ∈ jtbl := jt4 209 rfl rfl
set_option maxRecDepth 20000 in
theorem ml_L_117 : Cond.methodLink RL 117 yX12_cap ∈ jtbl := jt8 115 rfl rfl
set_option maxRecDepth 20000 in
theorem ml_L_118 : Cond.methodLink RL 118 yX11_can ∈ jtbl := jt4 232 rfl rfl
set_option maxRecDepth 20000 in
theorem ml_L_121 : Cond.methodLink RL 121 yX12_can ∈ jtbl := jt8 132 rfl rfl
set_option maxRecDepth 20000 in
theorem ml_L_122 : Cond.methodLink RL 122 yX11_barred ∈ jtbl := jt5 11 rfl rfl
set_option maxRecDepth 20000 in
theorem ml_L_125 : Cond.methodLink RL 125 yX12_barred ∈ jtbl := jt8 144 rfl rfl
set_option maxRecDepth 20000 in
theorem ml_L_126 : Cond.methodLink RL 126 yX11_largest ∈ jtbl := jt5 15 rfl rfl
set_option maxRecDepth 20000 in
theorem ml_L_129 : Cond.methodLink RL 129 yX12_largest ∈ jtbl := jt8 148 rfl rfl
set_option maxRecDepth 20000 in
theorem ml_L_130 : Cond.methodLink RL 130 yX11_cheapest ∈ jtbl := jt5 23 rfl rfl
set_option maxRecDepth 20000 in
theorem ml_L_133 : Cond.methodLink RL 133 yX12_cheapest ∈ jtbl := jt8 152 rfl rfl
set_option maxRecDepth 20000 in
theorem ml_L_134 : Cond.methodLink RL 134 yX11_least ∈ jtbl := jt5 86 rfl rfl
set_option maxRecDepth 20000 in
theorem ml_L_137 : Cond.methodLink RL 137 yX12_least ∈ jtbl := jt8 183 rfl rfl
set_option maxRecDepth 20000 in
theorem ml_L_138 : Cond.methodLink RL 138 yX11_courts ∈ jtbl := jt5 97 rfl rfl
set_option maxRecDepth 20000 in
theorem ml_L_141 : Cond.methodLink RL 141 yX12_courts ∈ jtbl := jt8 194 rfl rfl
set_option maxRecDepth 20000 in
theorem ml_L_142 : Cond.methodLink RL 142 yX11_towns ∈ jtbl := jt5 106 rfl rfl
set_option maxRecDepth 20000 in
theorem ml_L_145 : Cond.methodLink RL 145 yX12_towns ∈ jtbl := jt8 198 rfl rfl
set_option maxRecDepth 20000 in
theorem ml_L_146 : Cond.methodLink RL 146 yX11_sure ∈ jtbl := jt5 146 rfl rfl
set_option maxRecDepth 20000 in
theorem ml_L_150 : Cond.methodLink RL 150 yX12_sure ∈ jtbl := jt8 207 rfl rfl
set_option maxRecDepth 20000 in
theorem ml_L_151 : Cond.methodLink RL 151 yX11_struck ∈ jtbl := jt5 154 rfl rfl
set_option maxRecDepth 20000 in
theorem ml_L_154 : Cond.methodLink RL 154 yX12_struck ∈ jtbl := jt8 211 rfl rfl
set_option maxRecDepth 20000 in
theorem ml_L_155 : Cond.methodLink RL 155 yX11_down ∈ jtbl := jt5 159 rfl rfl
set_option maxRecDepth 20000 in
theorem ml_L_158 : Cond.methodLink RL 158 yX12_down ∈ jtbl := jt8 215 rfl rfl
set_option maxRecDepth 20000 in
theorem ml_L_159 : Cond.methodLink RL 159 yX11_instead ∈ jtbl := jt5 164 rfl rfl
set_option maxRecDepth 20000 in
theorem ml_L_162 : Cond.methodLink RL 162 yX12_instead ∈ jtbl := jt8 219 rfl rfl
set_option maxRecDepth 20000 in
theorem ml_L_163 : Cond.methodLink RL 163 yX11_apart ∈ jtbl := jt5 180 rfl rfl
set_option maxRecDepth 20000 in
theorem ml_L_166 : Cond.methodLink RL 166 yX12_apart ∈ jtbl := jt8 227 rfl rfl
set_option maxRecDepth 20000 in
theorem ml_L_167 : Cond.methodLink RL 167 yX11_watchers ∈ jtbl := jt5 193 rfl rfl
set_option maxRecDepth 20000 in
theorem ml_L_170 : Cond.methodLink RL 170 yX12_watchers ∈ jtbl := jt8 235 rfl rfl
set_option maxRecDepth 20000 in
theorem ml_L_171 : Cond.methodLink RL 171 yX11_tenth ∈ jtbl := jt5 217 rfl rfl
set_option maxRecDepth 20000 in
theorem ml_L_174 : Cond.methodLink RL 174 yX12_tenth ∈ jtbl := jt9 8 rfl rfl
set_option maxRecDepth 20000 in
theorem ml_L_175 : Cond.methodLink RL 175 yX11_order ∈ jtbl := jt5 227 rfl rfl
set_option maxRecDepth 20000 in
theorem ml_L_178 : Cond.methodLink RL 178 yX12_order ∈ jtbl := jt9 13 rfl rfl
set_option maxRecDepth 20000 in
theorem ml_L_179 : Cond.methodLink RL 179 yX11_orderAt ∈ jtbl := jt6 11 rfl rfl
set_option maxRecDepth 20000 in
theorem ml_L_182 : Cond.methodLink RL 182 yX12_orderAt ∈ jtbl := jt9 21 rfl rfl
set_option maxRecDepth 20000 in
theorem ml_L_183 : Cond.methodLink RL 183 yX11_like ∈ jtbl := jt6 15 rfl rfl
set_option maxRecDepth 20000 in
theorem ml_L_186 : Cond.methodLink RL 186 yX12_like ∈ jtbl := jt9 25 rfl rfl
set_option maxRecDepth 20000 in
theorem ml_L_187 : Cond.methodLink RL 187 yX11_highest ∈ jtbl := jt6 23 rfl rfl
set_option maxRecDepth 20000 in
theorem ml_L_190 : Cond.methodLink RL 190 yX12_highest ∈ jtbl := jt9 29 rfl rfl
set_option maxRecDepth 20000 in
theorem ml_L_191 : Cond.methodLink RL 191 yX11_built ∈ jtbl := jt6 33 rfl rfl
set_option maxRecDepth 20000 in
theorem ml_L_194 : Cond.methodLink RL 194 yX12_built ∈ jtbl := jt9 57 rfl rfl
set_option maxRecDepth 20000 in
theorem ml_L_195 : Cond.methodLink RL 195 yX11_building ∈ jtbl := jt6 81 rfl rfl
set_option maxRecDepth 20000 in
theorem ml_L_198 : Cond.methodLink RL 198 yX12_building ∈ jtbl := jt9 99 rfl rfl
set_option maxRecDepth 20000 in
theorem ml_L_199 : Cond.methodLink RL 199 yX11_tally ∈ jtbl := jt6 85 rfl rfl
set_option maxRecDepth 20000 in
theorem ml_L_202 : Cond.methodLink RL 202 yX12_tally ∈ jtbl := jt9 103 rfl rfl
set_option maxRecDepth 20000 in
theorem ml_L_203 : Cond.methodLink RL 203 yX11_mark ∈ jtbl := jt6 89 rfl rfl
set_option maxRecDepth 20000 in
theorem ml_L_206 : Cond.methodLink RL 206 yX12_mark ∈ jtbl := jt9 108 rfl rfl
set_option maxRecDepth 20000 in
theorem ml_L_207 : Cond.methodLink RL 207 yX11_back ∈ jtbl := jt6 98 rfl rfl
set_option maxRecDepth 20000 in
theorem ml_L_210 : Cond.methodLink RL 210 yX12_back ∈ jtbl := jt9 116 rfl rfl
set_option maxRecDepth 20000 in
theorem sl_9 : Cond.fieldLink RJ0 9 "java/lang/String" "value" "[B" ∈ jtbl := jt9 121 rfl rfl
set_option maxRecDepth 20000 in
theorem sl_15 : Cond.fieldLink RJ0 15 "java/lang/String" "coder" "B" ∈ jtbl := jt9 122 rfl rfl
set_option maxRecDepth 20000 in
theorem sl_38 : Cond.fieldLink RJ0 38 "java/lang/String" "COMPACT_STRINGS" "Z" ∈ jtbl := jt1 136 rfl rfl
set_option maxRecDepth 20000 in
theorem sl_1053 : Cond.fieldLink RJ0 1053 "jdk/internal/util/Preconditions" "SIOOBE_FORMATTER" "Ljava/util/function/BiFunction;" ∈ jtbl := jt1 152 rfl rfl
