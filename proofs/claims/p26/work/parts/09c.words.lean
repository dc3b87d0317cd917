/-! THE TABLES' WORDS, by their places (written by program) -/
set_option maxRecDepth 100000 in
theorem fd_X11_204 : xFd RX11 204 0 0 RX0 TX0 5 := ⟨rfl, by decide, by decide, List.mem_filter.mpr ⟨List.mem_append_right _ (List.mem_of_getElem? (i := 232) rfl), by rfl⟩, rfl, rfl, uw_X0⟩
set_option maxRecDepth 100000 in
theorem fd_X0_15 : xFd RX0 15 0 1 RX0 TX0 5 := ⟨rfl, by decide, by decide, List.mem_filter.mpr ⟨List.mem_append_right _ (List.mem_of_getElem? (i := 233) rfl), by rfl⟩, rfl, rfl, uw_X0⟩
set_option maxRecDepth 100000 in
theorem fd_X11_205 : xFd RX11 205 0 1 RX0 TX0 5 := ⟨rfl, by decide, by decide, List.mem_filter.mpr ⟨List.mem_append_right _ (List.mem_of_getElem? (i := 234) rfl), by rfl⟩, rfl, rfl, uw_X0⟩
set_option maxRecDepth 100000 in
theorem fd_X0_18 : xFd RX0 18 0 2 RX0 TX0 5 := ⟨rfl, by decide, by decide, List.mem_filter.mpr ⟨List.mem_append_right _ (List.mem_of_getElem? (i := 235) rfl), by rfl⟩, rfl, rfl, uw_X0⟩
set_option maxRecDepth 100000 in
theorem fd_X10_159 : xFd RX10 159 0 2 RX0 TX0 5 := ⟨rfl, by decide, by decide, List.mem_filter.mpr ⟨List.mem_append_right _ (List.mem_of_getElem? (i := 236) rfl), by rfl⟩, rfl, rfl, uw_X0⟩
set_option maxRecDepth 100000 in
theorem fd_X11_208 : xFd RX11 208 0 2 RX0 TX0 5 := ⟨rfl, by decide, by decide, List.mem_filter.mpr ⟨List.mem_append_right _ (List.mem_of_getElem? (i := 237) rfl), by rfl⟩, rfl, rfl, uw_X0⟩
set_option maxRecDepth 100000 in
theorem fd_X0_21 : xFd RX0 21 0 3 RX0 TX0 5 := ⟨rfl, by decide, by decide, List.mem_filter.mpr ⟨List.mem_append_right _ (List.mem_of_getElem? (i := 238) rfl), by rfl⟩, rfl, rfl, uw_X0⟩
set_option maxRecDepth 100000 in
theorem fd_X11_211 : xFd RX11 211 0 3 RX0 TX0 5 := ⟨rfl, by decide, by decide, List.mem_filter.mpr ⟨List.mem_append_right _ (List.mem_of_getElem? (i := 239) rfl), by rfl⟩, rfl, rfl, uw_X0⟩
set_option maxRecDepth 100000 in
theorem fd_X0_24 : xFd RX0 24 0 4 RX0 TX0 5 := ⟨rfl, by decide, by decide, List.mem_filter.mpr ⟨List.mem_append_right _ (List.mem_of_getElem? (i := 240) rfl), by rfl⟩, rfl, rfl, uw_X0⟩
set_option maxRecDepth 100000 in
theorem fd_X10_112 : xFd RX10 112 0 4 RX0 TX0 5 := ⟨rfl, by decide, by decide, List.mem_filter.mpr ⟨List.mem_append_right _ (List.mem_of_getElem? (i := 241) rfl), by rfl⟩, rfl, rfl, uw_X0⟩
set_option maxRecDepth 100000 in
theorem fd_X11_104 : xFd RX11 104 0 4 RX0 TX0 5 := ⟨rfl, by decide, by decide, List.mem_filter.mpr ⟨List.mem_append_right _ (List.mem_of_getElem? (i := 242) rfl), by rfl⟩, rfl, rfl, uw_X0⟩
set_option maxRecDepth 100000 in
theorem fd_X8_198 : xFd RX8 198 0 4 RX0 TX0 5 := ⟨rfl, by decide, by decide, List.mem_filter.mpr ⟨List.mem_append_right _ (List.mem_of_getElem? (i := 243) rfl), by rfl⟩, rfl, rfl, uw_X0⟩
set_option maxRecDepth 100000 in
theorem ln_X10_48 : xLn RX10 48 yX6_init "PacketToll" cX6_init 1 none 0 := ⟨by decide +kernel, in_X6, co_X6_init, ⟨by decide +kernel, by decide +kernel⟩, by decide +kernel, by decide⟩
set_option maxRecDepth 100000 in
theorem lj_X6_3 : Cond.methodLink RX6 3 objectInit ∈ xT := List.mem_filter.mpr ⟨List.mem_append_right _ (List.mem_of_getElem? (i := 260) rfl), by rfl⟩
set_option maxRecDepth 100000 in
theorem fd_X6_9 : xFd RX6 9 6 0 RX6 TX6 7 := ⟨rfl, by decide, by decide, List.mem_filter.mpr ⟨List.mem_append_right _ (List.mem_of_getElem? (i := 261) rfl), by rfl⟩, rfl, rfl, uw_X6⟩
set_option maxRecDepth 100000 in
theorem fd_X6_15 : xFd RX6 15 6 1 RX6 TX6 7 := ⟨rfl, by decide, by decide, List.mem_filter.mpr ⟨List.mem_append_right _ (List.mem_of_getElem? (i := 262) rfl), by rfl⟩, rfl, rfl, uw_X6⟩
set_option maxRecDepth 100000 in
theorem fd_X6_18 : xFd RX6 18 6 2 RX6 TX6 7 := ⟨rfl, by decide, by decide, List.mem_filter.mpr ⟨List.mem_append_right _ (List.mem_of_getElem? (i := 263) rfl), by rfl⟩, rfl, rfl, uw_X6⟩
set_option maxRecDepth 100000 in
theorem fd_X6_21 : xFd RX6 21 6 3 RX6 TX6 7 := ⟨rfl, by decide, by decide, List.mem_filter.mpr ⟨List.mem_append_right _ (List.mem_of_getElem? (i := 264) rfl), by rfl⟩, rfl, rfl, uw_X6⟩
set_option maxRecDepth 100000 in
theorem fd_X6_24 : xFd RX6 24 6 4 RX6 TX6 7 := ⟨rfl, by decide, by decide, List.mem_filter.mpr ⟨List.mem_append_right _ (List.mem_of_getElem? (i := 265) rfl), by rfl⟩, rfl, rfl, uw_X6⟩
set_option maxRecDepth 100000 in
theorem fd_X6_27 : xFd RX6 27 6 5 RX6 TX6 7 := ⟨rfl, by decide, by decide, List.mem_filter.mpr ⟨List.mem_append_right _ (List.mem_of_getElem? (i := 266) rfl), by rfl⟩, rfl, rfl, uw_X6⟩
set_option maxRecDepth 100000 in
theorem fd_X6_31 : xFd RX6 31 6 6 RX6 TX6 7 := ⟨rfl, by decide, by decide, List.mem_filter.mpr ⟨List.mem_append_right _ (List.mem_of_getElem? (i := 267) rfl), by rfl⟩, rfl, rfl, uw_X6⟩
set_option maxRecDepth 100000 in
theorem lk_X10_55 : xLk RX10 55 yX7_init cX7_init 2 none 1 := ⟨List.mem_filter.mpr ⟨List.mem_append_right _ (List.mem_of_getElem? (i := 285) rfl), by rfl⟩, in_X7, co_X7_init, ⟨by decide +kernel, by decide +kernel⟩, by decide +kernel, by decide⟩
set_option maxRecDepth 100000 in
theorem lj_X7_3 : Cond.methodLink RX7 3 objectInit ∈ xT := List.mem_filter.mpr ⟨List.mem_append_right _ (List.mem_of_getElem? (i := 288) rfl), by rfl⟩
set_option maxRecDepth 100000 in
theorem fd_X7_15 : xFd RX7 15 7 0 RX7 TX7 2 := ⟨rfl, by decide, by decide, List.mem_filter.mpr ⟨List.mem_append_right _ (List.mem_of_getElem? (i := 289) rfl), by rfl⟩, rfl, rfl, uw_X7⟩
set_option maxRecDepth 100000 in
theorem fd_X7_9 : xFd RX7 9 7 1 RX7 TX7 2 := ⟨rfl, by decide, by decide, List.mem_filter.mpr ⟨List.mem_append_right _ (List.mem_of_getElem? (i := 290) rfl), by rfl⟩, rfl, rfl, uw_X7⟩
set_option maxRecDepth 100000 in
theorem fd_X10_12 : xFd RX10 12 10 0 RX10 TX10 15 := ⟨rfl, by decide, by decide, List.mem_filter.mpr ⟨List.mem_append_right _ (List.mem_of_getElem? (i := 297) rfl), by rfl⟩, rfl, rfl, uw_X10⟩
set_option maxRecDepth 100000 in
theorem fd_X11_86 : xFd RX11 86 10 0 RX10 TX10 15 := ⟨rfl, by decide, by decide, List.mem_filter.mpr ⟨List.mem_append_right _ (List.mem_of_getElem? (i := 298) rfl), by rfl⟩, rfl, rfl, uw_X10⟩
set_option maxRecDepth 100000 in
theorem fd_X8_145 : xFd RX8 145 10 0 RX10 TX10 15 := ⟨rfl, by decide, by decide, List.mem_filter.mpr ⟨List.mem_append_right _ (List.mem_of_getElem? (i := 299) rfl), by rfl⟩, rfl, rfl, uw_X10⟩
set_option maxRecDepth 100000 in
theorem fd_X10_21 : xFd RX10 21 10 1 RX10 TX10 15 := ⟨rfl, by decide, by decide, List.mem_filter.mpr ⟨List.mem_append_right _ (List.mem_of_getElem? (i := 300) rfl), by rfl⟩, rfl, rfl, uw_X10⟩
set_option maxRecDepth 100000 in
theorem fd_X11_93 : xFd RX11 93 10 1 RX10 TX10 15 := ⟨rfl, by decide, by decide, List.mem_filter.mpr ⟨List.mem_append_right _ (List.mem_of_getElem? (i := 301) rfl), by rfl⟩, rfl, rfl, uw_X10⟩
set_option maxRecDepth 100000 in
theorem fd_X8_162 : xFd RX8 162 10 1 RX10 TX10 15 := ⟨rfl, by decide, by decide, List.mem_filter.mpr ⟨List.mem_append_right _ (List.mem_of_getElem? (i := 302) rfl), by rfl⟩, rfl, rfl, uw_X10⟩
set_option maxRecDepth 100000 in
theorem fd_X10_28 : xFd RX10 28 10 2 RX10 TX10 15 := ⟨rfl, by decide, by decide, List.mem_filter.mpr ⟨List.mem_append_right _ (List.mem_of_getElem? (i := 303) rfl), by rfl⟩, rfl, rfl, uw_X10⟩
set_option maxRecDepth 100000 in
theorem fd_X11_165 : xFd RX11 165 10 2 RX10 TX10 15 := ⟨rfl, by decide, by decide, List.mem_filter.mpr ⟨List.mem_append_right _ (List.mem_of_getElem? (i := 304) rfl), by rfl⟩, rfl, rfl, uw_X10⟩
set_option maxRecDepth 100000 in
theorem fd_X10_35 : xFd RX10 35 10 3 RX10 TX10 15 := ⟨rfl, by decide, by decide, List.mem_filter.mpr ⟨List.mem_append_right _ (List.mem_of_getElem? (i := 305) rfl), by rfl⟩, rfl, rfl, uw_X10⟩
set_option maxRecDepth 100000 in
theorem fd_X11_74 : xFd RX11 74 10 3 RX10 TX10 15 := ⟨rfl, by decide, by decide, List.mem_filter.mpr ⟨List.mem_append_right _ (List.mem_of_getElem? (i := 306) rfl), by rfl⟩, rfl, rfl, uw_X10⟩
set_option maxRecDepth 100000 in
theorem fd_X8_186 : xFd RX8 186 10 3 RX10 TX10 15 := ⟨rfl, by decide, by decide, List.mem_filter.mpr ⟨List.mem_append_right _ (List.mem_of_getElem? (i := 307) rfl), by rfl⟩, rfl, rfl, uw_X10⟩
set_option maxRecDepth 100000 in
theorem fd_X10_42 : xFd RX10 42 10 4 RX10 TX10 15 := ⟨rfl, by decide, by decide, List.mem_filter.mpr ⟨List.mem_append_right _ (List.mem_of_getElem? (i := 308) rfl), by rfl⟩, rfl, rfl, uw_X10⟩
set_option maxRecDepth 100000 in
theorem fd_X11_100 : xFd RX11 100 10 4 RX10 TX10 15 := ⟨rfl, by decide, by decide, List.mem_filter.mpr ⟨List.mem_append_right _ (List.mem_of_getElem? (i := 309) rfl), by rfl⟩, rfl, rfl, uw_X10⟩
set_option maxRecDepth 100000 in
theorem fd_X8_194 : xFd RX8 194 10 4 RX10 TX10 15 := ⟨rfl, by decide, by decide, List.mem_filter.mpr ⟨List.mem_append_right _ (List.mem_of_getElem? (i := 310) rfl), by rfl⟩, rfl, rfl, uw_X10⟩
set_option maxRecDepth 100000 in
theorem fd_X10_49 : xFd RX10 49 10 5 RX10 TX10 15 := ⟨rfl, by decide, by decide, List.mem_filter.mpr ⟨List.mem_append_right _ (List.mem_of_getElem? (i := 311) rfl), by rfl⟩, rfl, rfl, uw_X10⟩
set_option maxRecDepth 100000 in
theorem fd_X10_58 : xFd RX10 58 10 6 RX10 TX10 15 := ⟨rfl, by decide, by decide, List.mem_filter.mpr ⟨List.mem_append_right _ (List.mem_of_getElem? (i := 312) rfl), by rfl⟩, rfl, rfl, uw_X10⟩
set_option maxRecDepth 100000 in
theorem fd_X8_91 : xFd RX8 91 10 6 RX10 TX10 15 := ⟨rfl, by decide, by decide, List.mem_filter.mpr ⟨List.mem_append_right _ (List.mem_of_getElem? (i := 313) rfl), by rfl⟩, rfl, rfl, uw_X10⟩
set_option maxRecDepth 100000 in
theorem fd_X10_98 : xFd RX10 98 10 7 RX10 TX10 15 := ⟨rfl, by decide, by decide, List.mem_filter.mpr ⟨List.mem_append_right _ (List.mem_of_getElem? (i := 314) rfl), by rfl⟩, rfl, rfl, uw_X10⟩
set_option maxRecDepth 100000 in
theorem fd_X11_83 : xFd RX11 83 10 7 RX10 TX10 15 := ⟨rfl, by decide, by decide, List.mem_filter.mpr ⟨List.mem_append_right _ (List.mem_of_getElem? (i := 315) rfl), by rfl⟩, rfl, rfl, uw_X10⟩
set_option maxRecDepth 100000 in
theorem fd_X10_62 : xFd RX10 62 10 8 RX10 TX10 15 := ⟨rfl, by decide, by decide, List.mem_filter.mpr ⟨List.mem_append_right _ (List.mem_of_getElem? (i := 316) rfl), by rfl⟩, rfl, rfl, uw_X10⟩
set_option maxRecDepth 100000 in
theorem fd_X11_117 : xFd RX11 117 10 8 RX10 TX10 15 := ⟨rfl, by decide, by decide, List.mem_filter.mpr ⟨List.mem_append_right _ (List.mem_of_getElem? (i := 317) rfl), by rfl⟩, rfl, rfl, uw_X10⟩
set_option maxRecDepth 100000 in
theorem fd_X8_131 : xFd RX8 131 10 8 RX10 TX10 15 := ⟨rfl, by decide, by decide, List.mem_filter.mpr ⟨List.mem_append_right _ (List.mem_of_getElem? (i := 318) rfl), by rfl⟩, rfl, rfl, uw_X10⟩
set_option maxRecDepth 100000 in
theorem fd_X10_66 : xFd RX10 66 10 9 RX10 TX10 15 := ⟨rfl, by decide, by decide, List.mem_filter.mpr ⟨List.mem_append_right _ (List.mem_of_getElem? (i := 319) rfl), by rfl⟩, rfl, rfl, uw_X10⟩
set_option maxRecDepth 100000 in
theorem fd_X8_135 : xFd RX8 135 10 9 RX10 TX10 15 := ⟨rfl, by decide, by decide, List.mem_filter.mpr ⟨List.mem_append_right _ (List.mem_of_getElem? (i := 320) rfl), by rfl⟩, rfl, rfl, uw_X10⟩
set_option maxRecDepth 100000 in
theorem fd_X10_69 : xFd RX10 69 10 10 RX10 TX10 15 := ⟨rfl, by decide, by decide, List.mem_filter.mpr ⟨List.mem_append_right _ (List.mem_of_getElem? (i := 321) rfl), by rfl⟩, rfl, rfl, uw_X10⟩
set_option maxRecDepth 100000 in
theorem fd_X8_138 : xFd RX8 138 10 10 RX10 TX10 15 := ⟨rfl, by decide, by decide, List.mem_filter.mpr ⟨List.mem_append_right _ (List.mem_of_getElem? (i := 322) rfl), by rfl⟩, rfl, rfl, uw_X10⟩
set_option maxRecDepth 100000 in
theorem fd_X10_101 : xFd RX10 101 10 11 RX10 TX10 15 := ⟨rfl, by decide, by decide, List.mem_filter.mpr ⟨List.mem_append_right _ (List.mem_of_getElem? (i := 323) rfl), by rfl⟩, rfl, rfl, uw_X10⟩
set_option maxRecDepth 100000 in
theorem fd_X11_111 : xFd RX11 111 10 11 RX10 TX10 15 := ⟨rfl, by decide, by decide, List.mem_filter.mpr ⟨List.mem_append_right _ (List.mem_of_getElem? (i := 324) rfl), by rfl⟩, rfl, rfl, uw_X10⟩
set_option maxRecDepth 100000 in
theorem fd_X10_104 : xFd RX10 104 10 12 RX10 TX10 15 := ⟨rfl, by decide, by decide, List.mem_filter.mpr ⟨List.mem_append_right _ (List.mem_of_getElem? (i := 325) rfl), by rfl⟩, rfl, rfl, uw_X10⟩
set_option maxRecDepth 100000 in
theorem fd_X11_114 : xFd RX11 114 10 12 RX10 TX10 15 := ⟨rfl, by decide, by decide, List.mem_filter.mpr ⟨List.mem_append_right _ (List.mem_of_getElem? (i := 326) rfl), by rfl⟩, rfl, rfl, uw_X10⟩
set_option maxRecDepth 100000 in
theorem fd_X10_72 : xFd RX10 72 10 13 RX10 TX10 15 := ⟨rfl, by decide, by decide, List.mem_filter.mpr ⟨List.mem_append_right _ (List.mem_of_getElem? (i := 327) rfl), by rfl⟩, rfl, rfl, uw_X10⟩
set_option maxRecDepth 100000 in
theorem fd_X11_239 : xFd RX11 239 10 13 RX10 TX10 15 := ⟨rfl, by decide, by decide, List.mem_filter.mpr ⟨List.mem_append_right _ (List.mem_of_getElem? (i := 328) rfl), by rfl⟩, rfl, rfl, uw_X10⟩
set_option maxRecDepth 100000 in
theorem fd_X10_76 : xFd RX10 76 10 14 RX10 TX10 15 := ⟨rfl, by decide, by decide, List.mem_filter.mpr ⟨List.mem_append_right _ (List.mem_of_getElem? (i := 329) rfl), by rfl⟩, rfl, rfl, uw_X10⟩
set_option maxRecDepth 100000 in
theorem fd_X11_242 : xFd RX11 242 10 14 RX10 TX10 15 := ⟨rfl, by decide, by decide, List.mem_filter.mpr ⟨List.mem_append_right _ (List.mem_of_getElem? (i := 330) rfl), by rfl⟩, rfl, rfl, uw_X10⟩
set_option maxRecDepth 100000 in
theorem fd_X8_12 : xFd RX8 12 8 0 RX8 TX8 9 := ⟨rfl, by decide, by decide, List.mem_filter.mpr ⟨List.mem_append_right _ (List.mem_of_getElem? (i := 362) rfl), by rfl⟩, rfl, rfl, uw_X8⟩
set_option maxRecDepth 100000 in
theorem fd_X11_37 : xFd RX11 37 8 0 RX8 TX8 9 := ⟨rfl, by decide, by decide, List.mem_filter.mpr ⟨List.mem_append_right _ (List.mem_of_getElem? (i := 363) rfl), by rfl⟩, rfl, rfl, uw_X8⟩
set_option maxRecDepth 100000 in
theorem fd_X8_21 : xFd RX8 21 8 1 RX8 TX8 9 := ⟨rfl, by decide, by decide, List.mem_filter.mpr ⟨List.mem_append_right _ (List.mem_of_getElem? (i := 364) rfl), by rfl⟩, rfl, rfl, uw_X8⟩
set_option maxRecDepth 100000 in
theorem fd_X11_68 : xFd RX11 68 8 1 RX8 TX8 9 := ⟨rfl, by decide, by decide, List.mem_filter.mpr ⟨List.mem_append_right _ (List.mem_of_getElem? (i := 365) rfl), by rfl⟩, rfl, rfl, uw_X8⟩
set_option maxRecDepth 100000 in
theorem fd_X8_29 : xFd RX8 29 8 2 RX8 TX8 9 := ⟨rfl, by decide, by decide, List.mem_filter.mpr ⟨List.mem_append_right _ (List.mem_of_getElem? (i := 366) rfl), by rfl⟩, rfl, rfl, uw_X8⟩
set_option maxRecDepth 100000 in
theorem fd_X11_61 : xFd RX11 61 8 2 RX8 TX8 9 := ⟨rfl, by decide, by decide, List.mem_filter.mpr ⟨List.mem_append_right _ (List.mem_of_getElem? (i := 367) rfl), by rfl⟩, rfl, rfl, uw_X8⟩
set_option maxRecDepth 100000 in
theorem fd_X8_33 : xFd RX8 33 8 3 RX8 TX8 9 := ⟨rfl, by decide, by decide, List.mem_filter.mpr ⟨List.mem_append_right _ (List.mem_of_getElem? (i := 368) rfl), by rfl⟩, rfl, rfl, uw_X8⟩
set_option maxRecDepth 100000 in
theorem fd_X11_60 : xFd RX11 60 8 3 RX8 TX8 9 := ⟨rfl, by decide, by decide, List.mem_filter.mpr ⟨List.mem_append_right _ (List.mem_of_getElem? (i := 369) rfl), by rfl⟩, rfl, rfl, uw_X8⟩
set_option maxRecDepth 100000 in
theorem fd_X8_25 : xFd RX8 25 8 4 RX8 TX8 9 := ⟨rfl, by decide, by decide, List.mem_filter.mpr ⟨List.mem_append_right _ (List.mem_of_getElem? (i := 370) rfl), by rfl⟩, rfl, rfl, uw_X8⟩
set_option maxRecDepth 100000 in
theorem fd_X8_77 : xFd RX8 77 8 5 RX8 TX8 9 := ⟨rfl, by decide, by decide, List.mem_filter.mpr ⟨List.mem_append_right _ (List.mem_of_getElem? (i := 371) rfl), by rfl⟩, rfl, rfl, uw_X8⟩
set_option maxRecDepth 100000 in
theorem fd_X8_36 : xFd RX8 36 8 6 RX8 TX8 9 := ⟨rfl, by decide, by decide, List.mem_filter.mpr ⟨List.mem_append_right _ (List.mem_of_getElem? (i := 372) rfl), by rfl⟩, rfl, rfl, uw_X8⟩
set_option maxRecDepth 100000 in
theorem fd_X8_40 : xFd RX8 40 8 7 RX8 TX8 9 := ⟨rfl, by decide, by decide, List.mem_filter.mpr ⟨List.mem_append_right _ (List.mem_of_getElem? (i := 373) rfl), by rfl⟩, rfl, rfl, uw_X8⟩
set_option maxRecDepth 100000 in
theorem fd_X8_43 : xFd RX8 43 8 8 RX8 TX8 9 := ⟨rfl, by decide, by decide, List.mem_filter.mpr ⟨List.mem_append_right _ (List.mem_of_getElem? (i := 374) rfl), by rfl⟩, rfl, rfl, uw_X8⟩
set_option maxRecDepth 100000 in
theorem ln_X11_18 : xLn RX11 18 yX10_init "PacketToll" cX10_init 1 none 0 := ⟨by decide +kernel, in_X10, co_X10_init, ⟨by decide +kernel, by decide +kernel⟩, by decide +kernel, by decide⟩
set_option maxRecDepth 100000 in
theorem lk_X11_28 : xLk RX11 28 yX3_init cX3_init 2 none 0 := ⟨List.mem_filter.mpr ⟨List.mem_append_right _ (List.mem_of_getElem? (i := 398) rfl), by rfl⟩, in_X3, co_X3_init, ⟨by decide +kernel, by decide +kernel⟩, by decide +kernel, by decide⟩
set_option maxRecDepth 100000 in
theorem lj_X3_3 : Cond.methodLink RX3 3 objectInit ∈ xT := List.mem_filter.mpr ⟨List.mem_append_right _ (List.mem_of_getElem? (i := 401) rfl), by rfl⟩
set_option maxRecDepth 100000 in
theorem ln_X3_17 : xLn RX3 17 yX10_init "PacketToll" cX10_init 1 none 0 := ⟨by decide +kernel, in_X10, co_X10_init, ⟨by decide +kernel, by decide +kernel⟩, by decide +kernel, by decide⟩
set_option maxRecDepth 100000 in
theorem fd_X3_11 : xFd RX3 11 3 0 RX3 TX3 3 := ⟨rfl, by decide, by decide, List.mem_filter.mpr ⟨List.mem_append_right _ (List.mem_of_getElem? (i := 405) rfl), by rfl⟩, rfl, rfl, uw_X3⟩
set_option maxRecDepth 100000 in
theorem fd_X3_30 : xFd RX3 30 3 1 RX3 TX3 3 := ⟨rfl, by decide, by decide, List.mem_filter.mpr ⟨List.mem_append_right _ (List.mem_of_getElem? (i := 406) rfl), by rfl⟩, rfl, rfl, uw_X3⟩
set_option maxRecDepth 100000 in
theorem fd_X3_18 : xFd RX3 18 3 2 RX3 TX3 3 := ⟨rfl, by decide, by decide, List.mem_filter.mpr ⟨List.mem_append_right _ (List.mem_of_getElem? (i := 407) rfl), by rfl⟩, rfl, rfl, uw_X3⟩
set_option maxRecDepth 100000 in
theorem fd_X11_10 : xFd RX11 10 11 0 RX11 TX11 5 := ⟨rfl, by decide, by decide, List.mem_filter.mpr ⟨List.mem_append_right _ (List.mem_of_getElem? (i := 415) rfl), by rfl⟩, rfl, rfl, uw_X11⟩
set_option maxRecDepth 100000 in
theorem fd_X11_19 : xFd RX11 19 11 1 RX11 TX11 5 := ⟨rfl, by decide, by decide, List.mem_filter.mpr ⟨List.mem_append_right _ (List.mem_of_getElem? (i := 416) rfl), by rfl⟩, rfl, rfl, uw_X11⟩
set_option maxRecDepth 100000 in
theorem fd_X11_23 : xFd RX11 23 11 2 RX11 TX11 5 := ⟨rfl, by decide, by decide, List.mem_filter.mpr ⟨List.mem_append_right _ (List.mem_of_getElem? (i := 417) rfl), by rfl⟩, rfl, rfl, uw_X11⟩
set_option maxRecDepth 100000 in
theorem fd_X11_29 : xFd RX11 29 11 3 RX11 TX11 5 := ⟨rfl, by decide, by decide, List.mem_filter.mpr ⟨List.mem_append_right _ (List.mem_of_getElem? (i := 418) rfl), by rfl⟩, rfl, rfl, uw_X11⟩
set_option maxRecDepth 100000 in
theorem fd_X11_33 : xFd RX11 33 11 4 RX11 TX11 5 := ⟨rfl, by decide, by decide, List.mem_filter.mpr ⟨List.mem_append_right _ (List.mem_of_getElem? (i := 419) rfl), by rfl⟩, rfl, rfl, uw_X11⟩
set_option maxRecDepth 100000 in
theorem lk_L_235 : xLk RL 235 yX11_errorOffset cX11_errorOffset 1 (some .int) 0 := ⟨List.mem_filter.mpr ⟨List.mem_append_right _ (List.mem_of_getElem? (i := 431) rfl), by rfl⟩, in_X11, co_X11_errorOffset, ⟨by decide +kernel, by decide +kernel⟩, by decide +kernel, by decide⟩
set_option maxRecDepth 100000 in
theorem lk_L_238 : xLk RL 238 yX11_undo cX11_undo 1 (some .int) 0 := ⟨List.mem_filter.mpr ⟨List.mem_append_right _ (List.mem_of_getElem? (i := 435) rfl), by rfl⟩, in_X11, co_X11_undo, ⟨by decide +kernel, by decide +kernel⟩, by decide +kernel, by decide⟩
set_option maxRecDepth 100000 in
theorem lk_X11_256 : xLk RX11 256 yX3_takeBack cX3_takeBack 4 (some .int) 1 := ⟨List.mem_filter.mpr ⟨List.mem_append_right _ (List.mem_of_getElem? (i := 439) rfl), by rfl⟩, in_X3, co_X3_takeBack, ⟨by decide +kernel, by decide +kernel⟩, by decide +kernel, by decide⟩
set_option maxRecDepth 100000 in
theorem lk_X3_22 : xLk RX3 22 yX3_at cX3_at 2 (some (.object "PacketToll$World")) 1 := ⟨List.mem_filter.mpr ⟨List.mem_append_right _ (List.mem_of_getElem? (i := 443) rfl), by rfl⟩, in_X3, co_X3_at, ⟨by decide +kernel, by decide +kernel⟩, by decide +kernel, by decide⟩
set_option maxRecDepth 100000 in
theorem lk_X3_26 : xLk RX3 26 yX10_copyFrom cX10_copyFrom 2 none 1 := ⟨List.mem_filter.mpr ⟨List.mem_append_right _ (List.mem_of_getElem? (i := 447) rfl), by rfl⟩, in_X10, co_X10_copyFrom, ⟨by decide +kernel, by decide +kernel⟩, by decide +kernel, by decide⟩
set_option maxRecDepth 100000 in
theorem lk_X10_79 : xLk RX10 79 yX2_copyFrom cX2_copyFrom 2 none 1 := ⟨List.mem_filter.mpr ⟨List.mem_append_right _ (List.mem_of_getElem? (i := 451) rfl), by rfl⟩, in_X2, co_X2_copyFrom, ⟨by decide +kernel, by decide +kernel⟩, by decide +kernel, by decide⟩
set_option maxRecDepth 100000 in
theorem ln_X2_25 : xLn RX2 25 yX11_copyRow "PacketToll" cX11_copyRow 3 none 3 := ⟨by decide +kernel, in_X11, co_X11_copyRow, ⟨by decide +kernel, by decide +kernel⟩, by decide +kernel, by decide⟩
set_option maxRecDepth 100000 in
theorem lj_X11_287 : Cond.methodLink RX11 287 arraycopyName ∈ xT := List.mem_filter.mpr ⟨List.mem_append_right _ (List.mem_of_getElem? (i := 458) rfl), by rfl⟩
set_option maxRecDepth 100000 in
theorem lk_X10_83 : xLk RX10 83 yX1_copyFrom cX1_copyFrom 2 none 1 := ⟨List.mem_filter.mpr ⟨List.mem_append_right _ (List.mem_of_getElem? (i := 461) rfl), by rfl⟩, in_X1, co_X1_copyFrom, ⟨by decide +kernel, by decide +kernel⟩, by decide +kernel, by decide⟩
set_option maxRecDepth 100000 in
theorem ln_X1_28 : xLn RX1 28 yX11_copyRow "PacketToll" cX11_copyRow 3 none 3 := ⟨by decide +kernel, in_X11, co_X11_copyRow, ⟨by decide +kernel, by decide +kernel⟩, by decide +kernel, by decide⟩
set_option maxRecDepth 100000 in
theorem lk_X10_86 : xLk RX10 86 yX4_copyFrom cX4_copyFrom 2 none 1 := ⟨List.mem_filter.mpr ⟨List.mem_append_right _ (List.mem_of_getElem? (i := 466) rfl), by rfl⟩, in_X4, co_X4_copyFrom, ⟨by decide +kernel, by decide +kernel⟩, by decide +kernel, by decide⟩
set_option maxRecDepth 100000 in
theorem ln_X4_27 : xLn RX4 27 yX11_copyRow "PacketToll" cX11_copyRow 3 none 3 := ⟨by decide +kernel, in_X11, co_X11_copyRow, ⟨by decide +kernel, by decide +kernel⟩, by decide +kernel, by decide⟩
set_option maxRecDepth 100000 in
theorem lk_X10_89 : xLk RX10 89 yX5_copyFrom cX5_copyFrom 2 none 1 := ⟨List.mem_filter.mpr ⟨List.mem_append_right _ (List.mem_of_getElem? (i := 471) rfl), by rfl⟩, in_X5, co_X5_copyFrom, ⟨by decide +kernel, by decide +kernel⟩, by decide +kernel, by decide⟩
set_option maxRecDepth 100000 in
theorem ln_X5_40 : xLn RX5 40 yX11_copyRow "PacketToll" cX11_copyRow 3 none 3 := ⟨by decide +kernel, in_X11, co_X11_copyRow, ⟨by decide +kernel, by decide +kernel⟩, by decide +kernel, by decide⟩
set_option maxRecDepth 100000 in
theorem lk_X10_92 : xLk RX10 92 yX0_copyFrom cX0_copyFrom 2 none 1 := ⟨List.mem_filter.mpr ⟨List.mem_append_right _ (List.mem_of_getElem? (i := 476) rfl), by rfl⟩, in_X0, co_X0_copyFrom, ⟨by decide +kernel, by decide +kernel⟩, by decide +kernel, by decide⟩
set_option maxRecDepth 100000 in
theorem ln_X0_28 : xLn RX0 28 yX11_copyRow "PacketToll" cX11_copyRow 3 none 3 := ⟨by decide +kernel, in_X11, co_X11_copyRow, ⟨by decide +kernel, by decide +kernel⟩, by decide +kernel, by decide⟩
set_option maxRecDepth 100000 in
theorem lk_X10_95 : xLk RX10 95 yX6_copyFrom cX6_copyFrom 2 none 1 := ⟨List.mem_filter.mpr ⟨List.mem_append_right _ (List.mem_of_getElem? (i := 481) rfl), by rfl⟩, in_X6, co_X6_copyFrom, ⟨by decide +kernel, by decide +kernel⟩, by decide +kernel, by decide⟩
set_option maxRecDepth 100000 in
theorem ln_X6_34 : xLn RX6 34 yX11_copyRow "PacketToll" cX11_copyRow 3 none 3 := ⟨by decide +kernel, in_X11, co_X11_copyRow, ⟨by decide +kernel, by decide +kernel⟩, by decide +kernel, by decide⟩
set_option maxRecDepth 100000 in
theorem lk_L_228 : xLk RL 228 yX13_init cX13_init 2 none 1 := ⟨List.mem_filter.mpr ⟨List.mem_append_right _ (List.mem_of_getElem? (i := 488) rfl), by rfl⟩, in_X13, co_X13_init, ⟨by decide +kernel, by decide +kernel⟩, by decide +kernel, by decide⟩
set_option maxRecDepth 100000 in
theorem lj_X13_1 : Cond.methodLink RX13 1 objectInit ∈ xT := List.mem_filter.mpr ⟨List.mem_append_right _ (List.mem_of_getElem? (i := 491) rfl), by rfl⟩
set_option maxRecDepth 100000 in
theorem fd_X13_7 : xFd RX13 7 19 0 RX13 TX13 1 := ⟨rfl, by decide, by decide, List.mem_filter.mpr ⟨List.mem_append_right _ (List.mem_of_getElem? (i := 492) rfl), by rfl⟩, rfl, rfl, uw_X13⟩
set_option maxRecDepth 100000 in
theorem lk_L_128 : xLk RL 128 yX13_below cX13_below 2 (some .int) 1 := ⟨List.mem_filter.mpr ⟨List.mem_append_right _ (List.mem_of_getElem? (i := 496) rfl), by rfl⟩, in_X13, co_X13_below, ⟨by decide +kernel, by decide +kernel⟩, by decide +kernel, by decide⟩
set_option maxRecDepth 100000 in
theorem ln_L_125 : xLn RL 125 yX14_init "PacketTollLaw" cX14_init 1 none 0 := ⟨by decide +kernel, in_X14, co_X14_init, ⟨by decide +kernel, by decide +kernel⟩, by decide +kernel, by decide⟩
set_option maxRecDepth 100000 in
theorem lj_X14_1 : Cond.methodLink RX14 1 objectInit ∈ xT := List.mem_filter.mpr ⟨List.mem_append_right _ (List.mem_of_getElem? (i := 506) rfl), by rfl⟩
set_option maxRecDepth 100000 in
theorem fd_X14_45 : xFd RX14 45 20 0 RX14 TX14 14 := ⟨rfl, by decide, by decide, List.mem_filter.mpr ⟨List.mem_append_right _ (List.mem_of_getElem? (i := 510) rfl), by rfl⟩, rfl, rfl, uw_X14⟩
set_option maxRecDepth 100000 in
theorem fd_L_258 : xFd RL 258 20 0 RX14 TX14 14 := ⟨rfl, by decide, by decide, List.mem_filter.mpr ⟨List.mem_append_right _ (List.mem_of_getElem? (i := 511) rfl), by rfl⟩, rfl, rfl, uw_X14⟩
set_option maxRecDepth 100000 in
theorem fd_X14_9 : xFd RX14 9 20 1 RX14 TX14 14 := ⟨rfl, by decide, by decide, List.mem_filter.mpr ⟨List.mem_append_right _ (List.mem_of_getElem? (i := 512) rfl), by rfl⟩, rfl, rfl, uw_X14⟩
set_option maxRecDepth 100000 in
theorem fd_L_133 : xFd RL 133 20 1 RX14 TX14 14 := ⟨rfl, by decide, by decide, List.mem_filter.mpr ⟨List.mem_append_right _ (List.mem_of_getElem? (i := 513) rfl), by rfl⟩, rfl, rfl, uw_X14⟩
set_option maxRecDepth 100000 in
theorem fd_X14_15 : xFd RX14 15 20 2 RX14 TX14 14 := ⟨rfl, by decide, by decide, List.mem_filter.mpr ⟨List.mem_append_right _ (List.mem_of_getElem? (i := 514) rfl), by rfl⟩, rfl, rfl, uw_X14⟩
set_option maxRecDepth 100000 in
theorem fd_L_151 : xFd RL 151 20 2 RX14 TX14 14 := ⟨rfl, by decide, by decide, List.mem_filter.mpr ⟨List.mem_append_right _ (List.mem_of_getElem? (i := 515) rfl), by rfl⟩, rfl, rfl, uw_X14⟩
set_option maxRecDepth 100000 in
theorem fd_X14_18 : xFd RX14 18 20 3 RX14 TX14 14 := ⟨rfl, by decide, by decide, List.mem_filter.mpr ⟨List.mem_append_right _ (List.mem_of_getElem? (i := 516) rfl), by rfl⟩, rfl, rfl, uw_X14⟩
set_option maxRecDepth 100000 in
theorem fd_L_148 : xFd RL 148 20 3 RX14 TX14 14 := ⟨rfl, by decide, by decide, List.mem_filter.mpr ⟨List.mem_append_right _ (List.mem_of_getElem? (i := 517) rfl), by rfl⟩, rfl, rfl, uw_X14⟩
set_option maxRecDepth 100000 in
theorem fd_X14_21 : xFd RX14 21 20 4 RX14 TX14 14 := ⟨rfl, by decide, by decide, List.mem_filter.mpr ⟨List.mem_append_right _ (List.mem_of_getElem? (i := 518) rfl), by rfl⟩, rfl, rfl, uw_X14⟩
set_option maxRecDepth 100000 in
theorem fd_L_157 : xFd RL 157 20 4 RX14 TX14 14 := ⟨rfl, by decide, by decide, List.mem_filter.mpr ⟨List.mem_append_right _ (List.mem_of_getElem? (i := 519) rfl), by rfl⟩, rfl, rfl, uw_X14⟩
set_option maxRecDepth 100000 in
theorem fd_X14_24 : xFd RX14 24 20 5 RX14 TX14 14 := ⟨rfl, by decide, by decide, List.mem_filter.mpr ⟨List.mem_append_right _ (List.mem_of_getElem? (i := 520) rfl), by rfl⟩, rfl, rfl, uw_X14⟩
set_option maxRecDepth 100000 in
theorem fd_L_161 : xFd RL 161 20 5 RX14 TX14 14 := ⟨rfl, by decide, by decide, List.mem_filter.mpr ⟨List.mem_append_right _ (List.mem_of_getElem? (i := 521) rfl), by rfl⟩, rfl, rfl, uw_X14⟩
set_option maxRecDepth 100000 in
theorem fd_X14_27 : xFd RX14 27 20 6 RX14 TX14 14 := ⟨rfl, by decide, by decide, List.mem_filter.mpr ⟨List.mem_append_right _ (List.mem_of_getElem? (i := 522) rfl), by rfl⟩, rfl, rfl, uw_X14⟩
set_option maxRecDepth 100000 in
theorem fd_X14_31 : xFd RX14 31 20 7 RX14 TX14 14 := ⟨rfl, by decide, by decide, List.mem_filter.mpr ⟨List.mem_append_right _ (List.mem_of_getElem? (i := 523) rfl), by rfl⟩, rfl, rfl, uw_X14⟩
set_option maxRecDepth 100000 in
theorem fd_L_195 : xFd RL 195 20 7 RX14 TX14 14 := ⟨rfl, by decide, by decide, List.mem_filter.mpr ⟨List.mem_append_right _ (List.mem_of_getElem? (i := 524) rfl), by rfl⟩, rfl, rfl, uw_X14⟩
set_option maxRecDepth 100000 in
theorem fd_X14_54 : xFd RX14 54 20 8 RX14 TX14 14 := ⟨rfl, by decide, by decide, List.mem_filter.mpr ⟨List.mem_append_right _ (List.mem_of_getElem? (i := 525) rfl), by rfl⟩, rfl, rfl, uw_X14⟩
set_option maxRecDepth 100000 in
theorem fd_X14_57 : xFd RX14 57 20 9 RX14 TX14 14 := ⟨rfl, by decide, by decide, List.mem_filter.mpr ⟨List.mem_append_right _ (List.mem_of_getElem? (i := 526) rfl), by rfl⟩, rfl, rfl, uw_X14⟩
set_option maxRecDepth 100000 in
theorem fd_X14_34 : xFd RX14 34 20 10 RX14 TX14 14 := ⟨rfl, by decide, by decide, List.mem_filter.mpr ⟨List.mem_append_right _ (List.mem_of_getElem? (i := 527) rfl), by rfl⟩, rfl, rfl, uw_X14⟩
set_option maxRecDepth 100000 in
theorem fd_L_165 : xFd RL 165 20 10 RX14 TX14 14 := ⟨rfl, by decide, by decide, List.mem_filter.mpr ⟨List.mem_append_right _ (List.mem_of_getElem? (i := 528) rfl), by rfl⟩, rfl, rfl, uw_X14⟩
set_option maxRecDepth 100000 in
theorem fd_X14_38 : xFd RX14 38 20 11 RX14 TX14 14 := ⟨rfl, by decide, by decide, List.mem_filter.mpr ⟨List.mem_append_right _ (List.mem_of_getElem? (i := 529) rfl), by rfl⟩, rfl, rfl, uw_X14⟩
set_option maxRecDepth 100000 in
theorem fd_L_170 : xFd RL 170 20 11 RX14 TX14 14 := ⟨rfl, by decide, by decide, List.mem_filter.mpr ⟨List.mem_append_right _ (List.mem_of_getElem? (i := 530) rfl), by rfl⟩, rfl, rfl, uw_X14⟩
set_option maxRecDepth 100000 in
theorem fd_X14_41 : xFd RX14 41 20 12 RX14 TX14 14 := ⟨rfl, by decide, by decide, List.mem_filter.mpr ⟨List.mem_append_right _ (List.mem_of_getElem? (i := 531) rfl), by rfl⟩, rfl, rfl, uw_X14⟩
set_option maxRecDepth 100000 in
theorem fd_L_173 : xFd RL 173 20 12 RX14 TX14 14 := ⟨rfl, by decide, by decide, List.mem_filter.mpr ⟨List.mem_append_right _ (List.mem_of_getElem? (i := 532) rfl), by rfl⟩, rfl, rfl, uw_X14⟩
set_option maxRecDepth 100000 in
theorem fd_X14_60 : xFd RX14 60 20 13 RX14 TX14 14 := ⟨rfl, by decide, by decide, List.mem_filter.mpr ⟨List.mem_append_right _ (List.mem_of_getElem? (i := 533) rfl), by rfl⟩, rfl, rfl, uw_X14⟩
set_option maxRecDepth 100000 in
theorem fd_L_183 : xFd RL 183 20 13 RX14 TX14 14 := ⟨rfl, by decide, by decide, List.mem_filter.mpr ⟨List.mem_append_right _ (List.mem_of_getElem? (i := 534) rfl), by rfl⟩, rfl, rfl, uw_X14⟩
set_option maxRecDepth 100000 in
theorem lk_L_252 : xLk RL 252 yX14_copy cX14_copy 2 (some (.object "PacketTollLaw$Road")) 0 := ⟨List.mem_filter.mpr ⟨List.mem_append_right _ (List.mem_of_getElem? (i := 564) rfl), by rfl⟩, in_X14, co_X14_copy, ⟨by decide +kernel, by decide +kernel⟩, by decide +kernel, by decide⟩
set_option maxRecDepth 100000 in
theorem lk_X14_44 : xLk RX14 44 yX14_init cX14_init 1 none 0 := ⟨List.mem_filter.mpr ⟨List.mem_append_right _ (List.mem_of_getElem? (i := 569) rfl), by rfl⟩, in_X14, co_X14_init, ⟨by decide +kernel, by decide +kernel⟩, by decide +kernel, by decide⟩
set_option maxRecDepth 100000 in
theorem ln_X14_48 : xLn RX14 48 yL_copied "PacketTollLaw" cL_copied 3 (some (.array (.array .int))) 1 := ⟨by decide +kernel, in_L, co_L_copied, ⟨by decide +kernel, by decide +kernel⟩, by decide +kernel, by decide⟩
set_option maxRecDepth 100000 in
theorem lk_L_266 : xLk RL 266 yX14_tick cX14_tick 5 none 0 := ⟨List.mem_filter.mpr ⟨List.mem_append_right _ (List.mem_of_getElem? (i := 580) rfl), by rfl⟩, in_X14, co_X14_tick, ⟨by decide +kernel, by decide +kernel⟩, by decide +kernel, by decide⟩
set_option maxRecDepth 100000 in
theorem lj_X14_72 : Cond.methodLink RX14 72 Lib.Math.min.name ∈ xT := List.mem_filter.mpr ⟨List.mem_append_right _ (List.mem_of_getElem? (i := 584) rfl), by rfl⟩
set_option maxRecDepth 100000 in
theorem ln_X14_105 : xLn RX14 105 yL_without "PacketTollLaw" cL_without 4 (some (.array (.array .int))) 2 := ⟨by decide +kernel, in_L, co_L_without, ⟨by decide +kernel, by decide +kernel⟩, by decide +kernel, by decide⟩
set_option maxRecDepth 100000 in
theorem lk_X14_109 : xLk RX14 109 yX14_arrives cX14_arrives 3 none 1 := ⟨List.mem_filter.mpr ⟨List.mem_append_right _ (List.mem_of_getElem? (i := 590) rfl), by rfl⟩, in_X14, co_X14_arrives, ⟨by decide +kernel, by decide +kernel⟩, by decide +kernel, by decide⟩
set_option maxRecDepth 100000 in
theorem lk_X14_64 : xLk RX14 64 yX14_gateOf cX14_gateOf 2 (some .int) 1 := ⟨List.mem_filter.mpr ⟨List.mem_append_right _ (List.mem_of_getElem? (i := 594) rfl), by rfl⟩, in_X14, co_X14_gateOf, ⟨by decide +kernel, by decide +kernel⟩, by decide +kernel, by decide⟩
set_option maxRecDepth 100000 in
theorem lk_X14_68 : xLk RX14 68 yX14_queue cX14_queue 8 (some .int) 2 := ⟨List.mem_filter.mpr ⟨List.mem_append_right _ (List.mem_of_getElem? (i := 598) rfl), by rfl⟩, in_X14, co_X14_queue, ⟨by decide +kernel, by decide +kernel⟩, by decide +kernel, by decide⟩
set_option maxRecDepth 100000 in
theorem ln_X14_77 : xLn RX14 77 yL_with "PacketTollLaw" cL_with 4 (some (.array (.array .int))) 2 := ⟨by decide +kernel, in_L, co_L_with, ⟨by decide +kernel, by decide +kernel⟩, by decide +kernel, by decide⟩
set_option maxRecDepth 100000 in
theorem lk_X14_113 : xLk RX14 113 yX14_passes cX14_passes 12 (some .boolean) 2 := ⟨List.mem_filter.mpr ⟨List.mem_append_right _ (List.mem_of_getElem? (i := 605) rfl), by rfl⟩, in_X14, co_X14_passes, ⟨by decide +kernel, by decide +kernel⟩, by decide +kernel, by decide⟩
set_option maxRecDepth 100000 in
theorem lk_X14_81 : xLk RX14 81 yX14_first cX14_first 8 (some (.array .int)) 2 := ⟨List.mem_filter.mpr ⟨List.mem_append_right _ (List.mem_of_getElem? (i := 609) rfl), by rfl⟩, in_X14, co_X14_first, ⟨by decide +kernel, by decide +kernel⟩, by decide +kernel, by decide⟩
set_option maxRecDepth 100000 in
theorem lk_X14_85 : xLk RX14 85 yX14_sum cX14_sum 7 (some .int) 1 := ⟨List.mem_filter.mpr ⟨List.mem_append_right _ (List.mem_of_getElem? (i := 613) rfl), by rfl⟩, in_X14, co_X14_sum, ⟨by decide +kernel, by decide +kernel⟩, by decide +kernel, by decide⟩
set_option maxRecDepth 100000 in
theorem lj_X14_89 : Cond.methodLink RX14 89 Lib.Math.max.name ∈ xT := List.mem_filter.mpr ⟨List.mem_append_right _ (List.mem_of_getElem? (i := 617) rfl), by rfl⟩
set_option maxRecDepth 100000 in
theorem lk_X14_92 : xLk RX14 92 yX12_value cX12_value 8 (some .long) 1 := ⟨List.mem_filter.mpr ⟨List.mem_append_right _ (List.mem_of_getElem? (i := 620) rfl), by rfl⟩, in_X12, co_X12_value, ⟨by decide +kernel, by decide +kernel⟩, by decide +kernel, by decide⟩
set_option maxRecDepth 100000 in
theorem lk_X12_72 : xLk RX12 72 yX12_value cX12_value 8 (some .long) 1 := ⟨List.mem_filter.mpr ⟨List.mem_append_right _ (List.mem_of_getElem? (i := 624) rfl), by rfl⟩, in_X12, co_X12_value, ⟨by decide +kernel, by decide +kernel⟩, by decide +kernel, by decide⟩
set_option maxRecDepth 100000 in
theorem lj_X12_80 : Cond.methodLink RX12 80 Lib.MathLoose.min_long.x ∈ xT := List.mem_filter.mpr ⟨List.mem_append_right _ (List.mem_of_getElem? (i := 627) rfl), by rfl⟩
set_option maxRecDepth 100000 in
theorem lj_X12_86 : Cond.methodLink RX12 86 Lib.MathLoose.max_long.x ∈ xT := List.mem_filter.mpr ⟨List.mem_append_right _ (List.mem_of_getElem? (i := 630) rfl), by rfl⟩
set_option maxRecDepth 100000 in
theorem lj_X14_100 : Cond.methodLink RX14 100 Lib.MathLoose.min_long.x ∈ xT := List.mem_filter.mpr ⟨List.mem_append_right _ (List.mem_of_getElem? (i := 634) rfl), by rfl⟩
set_option maxRecDepth 100000 in
theorem lj_X14_103 : Cond.methodLink RX14 103 Lib.MathLoose.max_long.x ∈ xT := List.mem_filter.mpr ⟨List.mem_append_right _ (List.mem_of_getElem? (i := 635) rfl), by rfl⟩
set_option maxRecDepth 100000 in
theorem lk_L_263 : xLk RL 263 yX14_count cX14_count 7 (some .int) 1 := ⟨List.mem_filter.mpr ⟨List.mem_append_right _ (List.mem_of_getElem? (i := 637) rfl), by rfl⟩, in_X14, co_X14_count, ⟨by decide +kernel, by decide +kernel⟩, by decide +kernel, by decide⟩
set_option maxRecDepth 100000 in
theorem lk_L_37 : xLk RL 37 yX11_load cX11_load 2 (some .int) 1 := ⟨List.mem_filter.mpr ⟨List.mem_append_right _ (List.mem_of_getElem? (i := 645) rfl), by rfl⟩, in_X11, co_X11_load, ⟨by decide +kernel, by decide +kernel⟩, by decide +kernel, by decide⟩
set_option maxRecDepth 100000 in
theorem lk_X11_57 : xLk RX11 57 yX8_read cX8_read 3 none 1 := ⟨List.mem_filter.mpr ⟨List.mem_append_right _ (List.mem_of_getElem? (i := 717) rfl), by rfl⟩, in_X8, co_X8_read, ⟨by decide +kernel, by decide +kernel⟩, by decide +kernel, by decide⟩
set_option maxRecDepth 100000 in
theorem lk_X8_46 : xLk RX8 46 yX10_clear cX10_clear 1 none 0 := ⟨List.mem_filter.mpr ⟨List.mem_append_right _ (List.mem_of_getElem? (i := 721) rfl), by rfl⟩, in_X10, co_X10_clear, ⟨by decide +kernel, by decide +kernel⟩, by decide +kernel, by decide⟩
set_option maxRecDepth 100000 in
theorem lk_X10_113 : xLk RX10 113 yX6_clear cX6_clear 1 none 0 := ⟨List.mem_filter.mpr ⟨List.mem_append_right _ (List.mem_of_getElem? (i := 725) rfl), by rfl⟩, in_X6, co_X6_clear, ⟨by decide +kernel, by decide +kernel⟩, by decide +kernel, by decide⟩
set_option maxRecDepth 100000 in
theorem lk_X8_49 : xLk RX8 49 yX9_open cX9_open 2 none 1 := ⟨List.mem_filter.mpr ⟨List.mem_append_right _ (List.mem_of_getElem? (i := 729) rfl), by rfl⟩, in_X9, co_X9_open, ⟨by decide +kernel, by decide +kernel⟩, by decide +kernel, by decide⟩
set_option maxRecDepth 100000 in
theorem lj_X9_19 : Cond.methodLink RX9 19 Lib.Math.min.name ∈ xT := List.mem_filter.mpr ⟨List.mem_append_right _ (List.mem_of_getElem? (i := 733) rfl), by rfl⟩
set_option maxRecDepth 100000 in
theorem lk_X9_31 : xLk RX9 31 yX9_moveOn cX9_moveOn 1 none 0 := ⟨List.mem_filter.mpr ⟨List.mem_append_right _ (List.mem_of_getElem? (i := 734) rfl), by rfl⟩, in_X9, co_X9_moveOn, ⟨by decide +kernel, by decide +kernel⟩, by decide +kernel, by decide⟩
set_option maxRecDepth 100000 in
theorem lk_X8_55 : xLk RX8 55 yX9_isWord cX9_isWord 3 (some .boolean) 1 := ⟨List.mem_filter.mpr ⟨List.mem_append_right _ (List.mem_of_getElem? (i := 740) rfl), by rfl⟩, in_X9, co_X9_isWord, ⟨by decide +kernel, by decide +kernel⟩, by decide +kernel, by decide⟩
set_option maxRecDepth 100000 in
theorem lk_X9_44 : xLk RX9 44 yJ0_length_8abf5 cJ0_length_8abf5 1 (some .int) 0 := ⟨List.mem_filter.mpr ⟨List.mem_append_right _ (List.mem_of_getElem? (i := 744) rfl), by rfl⟩, in_J0, co_J0_length_8abf5, ⟨by decide +kernel, by decide +kernel⟩, by decide +kernel, by decide⟩
set_option maxRecDepth 100000 in
theorem lk_J0_335 : xLk RJ0 335 yJ0_coder_7d493 cJ0_coder_7d493 1 (some .byte) 0 := ⟨List.mem_filter.mpr ⟨List.mem_append_right _ (List.mem_of_getElem? (i := 748) rfl), by rfl⟩, in_J0, co_J0_coder_7d493, ⟨by decide +kernel, by decide +kernel⟩, by decide +kernel, by decide⟩
set_option maxRecDepth 100000 in
theorem lk_X9_50 : xLk RX9 50 yJ0_charAt_5068e cJ0_charAt_5068e 2 (some .char) 1 := ⟨List.mem_filter.mpr ⟨List.mem_append_right _ (List.mem_of_getElem? (i := 754) rfl), by rfl⟩, in_J0, co_J0_charAt_5068e, ⟨by decide +kernel, by decide +kernel⟩, by decide +kernel, by decide⟩
set_option maxRecDepth 100000 in
theorem lk_J0_492 : xLk RJ0 492 yJ0_isLatin1_aae02 cJ0_isLatin1_aae02 1 (some .boolean) 0 := ⟨List.mem_filter.mpr ⟨List.mem_append_right _ (List.mem_of_getElem? (i := 758) rfl), by rfl⟩, in_J0, co_J0_isLatin1_aae02, ⟨by decide +kernel, by decide +kernel⟩, by decide +kernel, by decide⟩
set_option maxRecDepth 100000 in
theorem lk_J0_495 : xLk RJ0 495 yJ1_charAt_3b067 cJ1_charAt_3b067 2 (some .char) 2 := ⟨List.mem_filter.mpr ⟨List.mem_append_right _ (List.mem_of_getElem? (i := 762) rfl), by rfl⟩, in_J1, co_J1_charAt_3b067, ⟨by decide +kernel, by decide +kernel⟩, by decide +kernel, by decide⟩
set_option maxRecDepth 100000 in
theorem lk_J1_9 : xLk RJ1 9 yJ0_checkIndex_df160 cJ0_checkIndex_df160 2 none 2 := ⟨List.mem_filter.mpr ⟨List.mem_append_right _ (List.mem_of_getElem? (i := 765) rfl), by rfl⟩, in_J0, co_J0_checkIndex_df160, ⟨by decide +kernel, by decide +kernel⟩, by decide +kernel, by decide⟩
set_option maxRecDepth 100000 in
theorem lk_J0_1059 : xLk RJ0 1059 yJ3_checkIndex_8e157 cJ3_checkIndex_8e157 3 (some .int) 3 := ⟨List.mem_filter.mpr ⟨List.mem_append_right _ (List.mem_of_getElem? (i := 770) rfl), by rfl⟩, in_J3, co_J3_checkIndex_8e157, ⟨by decide +kernel, by decide +kernel⟩, by decide +kernel, by decide⟩
set_option maxRecDepth 100000 in
theorem lk_J0_498 : xLk RJ0 498 yJ2_charAt_3b067 cJ2_charAt_3b067 2 (some .char) 2 := ⟨List.mem_filter.mpr ⟨List.mem_append_right _ (List.mem_of_getElem? (i := 773) rfl), by rfl⟩, in_J2, co_J2_charAt_3b067, ⟨by decide +kernel, by decide +kernel⟩, by decide +kernel, by decide⟩
set_option maxRecDepth 100000 in
theorem lk_J2_67 : xLk RJ2 67 yJ2_checkIndex_2214a cJ2_checkIndex_2214a 2 none 2 := ⟨List.mem_filter.mpr ⟨List.mem_append_right _ (List.mem_of_getElem? (i := 776) rfl), by rfl⟩, in_J2, co_J2_checkIndex_2214a, ⟨by decide +kernel, by decide +kernel⟩, by decide +kernel, by decide⟩
set_option maxRecDepth 100000 in
theorem lk_J2_48 : xLk RJ2 48 yJ2_length_9d52b cJ2_length_9d52b 1 (some .int) 1 := ⟨List.mem_filter.mpr ⟨List.mem_append_right _ (List.mem_of_getElem? (i := 779) rfl), by rfl⟩, in_J2, co_J2_length_9d52b, ⟨by decide +kernel, by decide +kernel⟩, by decide +kernel, by decide⟩
set_option maxRecDepth 100000 in
theorem lk_J2_414 : xLk RJ2 414 yJ0_checkIndex_df160 cJ0_checkIndex_df160 2 none 2 := ⟨List.mem_filter.mpr ⟨List.mem_append_right _ (List.mem_of_getElem? (i := 782) rfl), by rfl⟩, in_J0, co_J0_checkIndex_df160, ⟨by decide +kernel, by decide +kernel⟩, by decide +kernel, by decide⟩
set_option maxRecDepth 100000 in
theorem lk_J2_71 : xLk RJ2 71 yJ2_getChar_3b067 cJ2_getChar_3b067 2 (some .char) 2 := ⟨List.mem_filter.mpr ⟨List.mem_append_right _ (List.mem_of_getElem? (i := 783) rfl), by rfl⟩, in_J2, co_J2_getChar_3b067, ⟨by decide +kernel, by decide +kernel⟩, by decide +kernel, by decide⟩
set_option maxRecDepth 100000 in
theorem lk_X8_59 : xLk RX8 59 yX9_moveOn cX9_moveOn 1 none 0 := ⟨List.mem_filter.mpr ⟨List.mem_append_right _ (List.mem_of_getElem? (i := 792) rfl), by rfl⟩, in_X9, co_X9_moveOn, ⟨by decide +kernel, by decide +kernel⟩, by decide +kernel, by decide⟩
set_option maxRecDepth 100000 in
theorem lk_X8_62 : xLk RX8 62 yX8_takeSign cX8_takeSign 2 none 1 := ⟨List.mem_filter.mpr ⟨List.mem_append_right _ (List.mem_of_getElem? (i := 793) rfl), by rfl⟩, in_X8, co_X8_takeSign, ⟨by decide +kernel, by decide +kernel⟩, by decide +kernel, by decide⟩
set_option maxRecDepth 100000 in
theorem lk_X8_65 : xLk RX8 65 yX8_fail cX8_fail 2 none 1 := ⟨List.mem_filter.mpr ⟨List.mem_append_right _ (List.mem_of_getElem? (i := 797) rfl), by rfl⟩, in_X8, co_X8_fail, ⟨by decide +kernel, by decide +kernel⟩, by decide +kernel, by decide⟩
set_option maxRecDepth 100000 in
theorem lk_X8_71 : xLk RX8 71 yX8_readStatement cX8_readStatement 1 none 0 := ⟨List.mem_filter.mpr ⟨List.mem_append_right _ (List.mem_of_getElem? (i := 801) rfl), by rfl⟩, in_X8, co_X8_readStatement, ⟨by decide +kernel, by decide +kernel⟩, by decide +kernel, by decide⟩
set_option maxRecDepth 100000 in
theorem lk_X8_107 : xLk RX8 107 yX8_readGate cX8_readGate 4 none 0 := ⟨List.mem_filter.mpr ⟨List.mem_append_right _ (List.mem_of_getElem? (i := 806) rfl), by rfl⟩, in_X8, co_X8_readGate, ⟨by decide +kernel, by decide +kernel⟩, by decide +kernel, by decide⟩
set_option maxRecDepth 100000 in
theorem lk_X8_154 : xLk RX8 154 yX8_takeCounted cX8_takeCounted 3 none 2 := ⟨List.mem_filter.mpr ⟨List.mem_append_right _ (List.mem_of_getElem? (i := 810) rfl), by rfl⟩, in_X8, co_X8_takeCounted, ⟨by decide +kernel, by decide +kernel⟩, by decide +kernel, by decide⟩
set_option maxRecDepth 100000 in
theorem lk_X8_127 : xLk RX8 127 yX8_takeNumber cX8_takeNumber 4 (some .int) 2 := ⟨List.mem_filter.mpr ⟨List.mem_append_right _ (List.mem_of_getElem? (i := 814) rfl), by rfl⟩, in_X8, co_X8_takeNumber, ⟨by decide +kernel, by decide +kernel⟩, by decide +kernel, by decide⟩
set_option maxRecDepth 100000 in
theorem lk_X8_101 : xLk RX8 101 yX8_numberStands cX8_numberStands 3 (some .boolean) 2 := ⟨List.mem_filter.mpr ⟨List.mem_append_right _ (List.mem_of_getElem? (i := 818) rfl), by rfl⟩, in_X8, co_X8_numberStands, ⟨by decide +kernel, by decide +kernel⟩, by decide +kernel, by decide⟩
set_option maxRecDepth 100000 in
theorem lk_X8_158 : xLk RX8 158 yX2_add cX2_add 4 none 3 := ⟨List.mem_filter.mpr ⟨List.mem_append_right _ (List.mem_of_getElem? (i := 822) rfl), by rfl⟩, in_X2, co_X2_add, ⟨by decide +kernel, by decide +kernel⟩, by decide +kernel, by decide⟩
set_option maxRecDepth 100000 in
theorem lk_X8_112 : xLk RX8 112 yX8_readFlow cX8_readFlow 2 none 0 := ⟨List.mem_filter.mpr ⟨List.mem_append_right _ (List.mem_of_getElem? (i := 827) rfl), by rfl⟩, in_X8, co_X8_readFlow, ⟨by decide +kernel, by decide +kernel⟩, by decide +kernel, by decide⟩
set_option maxRecDepth 100000 in
theorem lk_X8_169 : xLk RX8 169 yX1_open cX1_open 1 none 0 := ⟨List.mem_filter.mpr ⟨List.mem_append_right _ (List.mem_of_getElem? (i := 831) rfl), by rfl⟩, in_X1, co_X1_open, ⟨by decide +kernel, by decide +kernel⟩, by decide +kernel, by decide⟩
set_option maxRecDepth 100000 in
theorem lk_X8_171 : xLk RX8 171 yX8_readPlace cX8_readPlace 2 none 1 := ⟨List.mem_filter.mpr ⟨List.mem_append_right _ (List.mem_of_getElem? (i := 835) rfl), by rfl⟩, in_X8, co_X8_readPlace, ⟨by decide +kernel, by decide +kernel⟩, by decide +kernel, by decide⟩
set_option maxRecDepth 100000 in
theorem lk_X8_179 : xLk RX8 179 yX1_openRouteHas cX1_openRouteHas 3 (some .boolean) 1 := ⟨List.mem_filter.mpr ⟨List.mem_append_right _ (List.mem_of_getElem? (i := 839) rfl), by rfl⟩, in_X1, co_X1_openRouteHas, ⟨by decide +kernel, by decide +kernel⟩, by decide +kernel, by decide⟩
set_option maxRecDepth 100000 in
theorem lk_X1_32 : xLk RX1 32 yX1_gateAt cX1_gateAt 3 (some .int) 2 := ⟨List.mem_filter.mpr ⟨List.mem_append_right _ (List.mem_of_getElem? (i := 843) rfl), by rfl⟩, in_X1, co_X1_gateAt, ⟨by decide +kernel, by decide +kernel⟩, by decide +kernel, by decide⟩
set_option maxRecDepth 100000 in
theorem lk_X8_183 : xLk RX8 183 yX1_addPlace cX1_addPlace 2 none 1 := ⟨List.mem_filter.mpr ⟨List.mem_append_right _ (List.mem_of_getElem? (i := 847) rfl), by rfl⟩, in_X1, co_X1_addPlace, ⟨by decide +kernel, by decide +kernel⟩, by decide +kernel, by decide⟩
set_option maxRecDepth 100000 in
theorem lk_X8_176 : xLk RX8 176 yX1_close cX1_close 2 none 1 := ⟨List.mem_filter.mpr ⟨List.mem_append_right _ (List.mem_of_getElem? (i := 852) rfl), by rfl⟩, in_X1, co_X1_close, ⟨by decide +kernel, by decide +kernel⟩, by decide +kernel, by decide⟩
set_option maxRecDepth 100000 in
theorem lk_X8_117 : xLk RX8 117 yX8_readPacket cX8_readPacket 4 none 0 := ⟨List.mem_filter.mpr ⟨List.mem_append_right _ (List.mem_of_getElem? (i := 857) rfl), by rfl⟩, in_X8, co_X8_readPacket, ⟨by decide +kernel, by decide +kernel⟩, by decide +kernel, by decide⟩
set_option maxRecDepth 100000 in
theorem lk_X8_193 : xLk RX8 193 yX5_add cX5_add 4 none 3 := ⟨List.mem_filter.mpr ⟨List.mem_append_right _ (List.mem_of_getElem? (i := 861) rfl), by rfl⟩, in_X5, co_X5_add, ⟨by decide +kernel, by decide +kernel⟩, by decide +kernel, by decide⟩
set_option maxRecDepth 100000 in
theorem lk_X8_122 : xLk RX8 122 yX8_readCoupon cX8_readCoupon 4 none 0 := ⟨List.mem_filter.mpr ⟨List.mem_append_right _ (List.mem_of_getElem? (i := 866) rfl), by rfl⟩, in_X8, co_X8_readCoupon, ⟨by decide +kernel, by decide +kernel⟩, by decide +kernel, by decide⟩
set_option maxRecDepth 100000 in
theorem lk_X8_201 : xLk RX8 201 yX0_add cX0_add 4 none 3 := ⟨List.mem_filter.mpr ⟨List.mem_append_right _ (List.mem_of_getElem? (i := 870) rfl), by rfl⟩, in_X0, co_X0_add, ⟨by decide +kernel, by decide +kernel⟩, by decide +kernel, by decide⟩
set_option maxRecDepth 100000 in
theorem lk_X8_142 : xLk RX8 142 yX8_readSum cX8_readSum 4 none 1 := ⟨List.mem_filter.mpr ⟨List.mem_append_right _ (List.mem_of_getElem? (i := 877) rfl), by rfl⟩, in_X8, co_X8_readSum, ⟨by decide +kernel, by decide +kernel⟩, by decide +kernel, by decide⟩
set_option maxRecDepth 100000 in
theorem lk_X8_202 : xLk RX8 202 yX8_readTerm cX8_readTerm 4 none 1 := ⟨List.mem_filter.mpr ⟨List.mem_append_right _ (List.mem_of_getElem? (i := 881) rfl), by rfl⟩, in_X8, co_X8_readTerm, ⟨by decide +kernel, by decide +kernel⟩, by decide +kernel, by decide⟩
set_option maxRecDepth 100000 in
theorem lk_X8_211 : xLk RX8 211 yX8_readFactor cX8_readFactor 3 none 1 := ⟨List.mem_filter.mpr ⟨List.mem_append_right _ (List.mem_of_getElem? (i := 885) rfl), by rfl⟩, in_X8, co_X8_readFactor, ⟨by decide +kernel, by decide +kernel⟩, by decide +kernel, by decide⟩
set_option maxRecDepth 100000 in
theorem lk_X8_208 : xLk RX8 208 yX8_emit cX8_emit 2 none 1 := ⟨List.mem_filter.mpr ⟨List.mem_append_right _ (List.mem_of_getElem? (i := 892) rfl), by rfl⟩, in_X8, co_X8_emit, ⟨by decide +kernel, by decide +kernel⟩, by decide +kernel, by decide⟩
set_option maxRecDepth 100000 in
theorem lk_X8_205 : xLk RX8 205 yX8_isEither cX8_isEither 3 (some .boolean) 2 := ⟨List.mem_filter.mpr ⟨List.mem_append_right _ (List.mem_of_getElem? (i := 896) rfl), by rfl⟩, in_X8, co_X8_isEither, ⟨by decide +kernel, by decide +kernel⟩, by decide +kernel, by decide⟩
set_option maxRecDepth 100000 in
theorem lk_X8_74 : xLk RX8 74 yX10_clearLines cX10_clearLines 3 none 0 := ⟨List.mem_filter.mpr ⟨List.mem_append_right _ (List.mem_of_getElem? (i := 900) rfl), by rfl⟩, in_X10, co_X10_clearLines, ⟨by decide +kernel, by decide +kernel⟩, by decide +kernel, by decide⟩
set_option maxRecDepth 100000 in
theorem lk_X10_120 : xLk RX10 120 yX4_clear cX4_clear 3 none 2 := ⟨List.mem_filter.mpr ⟨List.mem_append_right _ (List.mem_of_getElem? (i := 904) rfl), by rfl⟩, in_X4, co_X4_clear, ⟨by decide +kernel, by decide +kernel⟩, by decide +kernel, by decide⟩
set_option maxRecDepth 100000 in
theorem lk_X8_82 : xLk RX8 82 yJ7_copyOf_59c91 cJ7_copyOf_59c91 3 (some (.array .int)) 2 := ⟨List.mem_filter.mpr ⟨List.mem_append_right _ (List.mem_of_getElem? (i := 909) rfl), by rfl⟩, in_J7, co_J7_copyOf_59c91, ⟨by decide +kernel, by decide +kernel⟩, by decide +kernel, by decide⟩
set_option maxRecDepth 100000 in
theorem lj_J7_304 : Cond.methodLink RJ7 304 Lib.Math.min.name ∈ xT := List.mem_filter.mpr ⟨List.mem_append_right _ (List.mem_of_getElem? (i := 914) rfl), by rfl⟩
set_option maxRecDepth 100000 in
theorem lj_J7_150 : Cond.methodLink RJ7 150 arraycopyName ∈ xT := List.mem_filter.mpr ⟨List.mem_append_right _ (List.mem_of_getElem? (i := 915) rfl), by rfl⟩
set_option maxRecDepth 100000 in
theorem lk_X8_88 : xLk RX8 88 yX7_init cX7_init 2 none 1 := ⟨List.mem_filter.mpr ⟨List.mem_append_right _ (List.mem_of_getElem? (i := 916) rfl), by rfl⟩, in_X7, co_X7_init, ⟨by decide +kernel, by decide +kernel⟩, by decide +kernel, by decide⟩
set_option maxRecDepth 100000 in
theorem lk_X11_64 : xLk RX11 64 yX3_keep cX3_keep 3 none 1 := ⟨List.mem_filter.mpr ⟨List.mem_append_right _ (List.mem_of_getElem? (i := 917) rfl), by rfl⟩, in_X3, co_X3_keep, ⟨by decide +kernel, by decide +kernel⟩, by decide +kernel, by decide⟩
set_option maxRecDepth 100000 in
theorem lj_X3_33 : Cond.methodLink RX3 33 Lib.Math.min.name ∈ xT := List.mem_filter.mpr ⟨List.mem_append_right _ (List.mem_of_getElem? (i := 921) rfl), by rfl⟩
set_option maxRecDepth 100000 in
theorem lk_X11_71 : xLk RX11 71 yX10_copyFrom cX10_copyFrom 2 none 1 := ⟨List.mem_filter.mpr ⟨List.mem_append_right _ (List.mem_of_getElem? (i := 922) rfl), by rfl⟩, in_X10, co_X10_copyFrom, ⟨by decide +kernel, by decide +kernel⟩, by decide +kernel, by decide⟩
set_option maxRecDepth 100000 in
theorem lk_L_56 : xLk RL 56 yX11_route cX11_route 4 (some .int) 2 := ⟨List.mem_filter.mpr ⟨List.mem_append_right _ (List.mem_of_getElem? (i := 929) rfl), by rfl⟩, in_X11, co_X11_route, ⟨by decide +kernel, by decide +kernel⟩, by decide +kernel, by decide⟩
set_option maxRecDepth 100000 in
theorem lk_X11_135 : xLk RX11 135 yX11_checkFlow cX11_checkFlow 2 none 1 := ⟨List.mem_filter.mpr ⟨List.mem_append_right _ (List.mem_of_getElem? (i := 933) rfl), by rfl⟩, in_X11, co_X11_checkFlow, ⟨by decide +kernel, by decide +kernel⟩, by decide +kernel, by decide⟩
set_option maxRecDepth 100000 in
theorem lk_X11_156 : xLk RX11 156 yX1_gateAt cX1_gateAt 3 (some .int) 2 := ⟨List.mem_filter.mpr ⟨List.mem_append_right _ (List.mem_of_getElem? (i := 953) rfl), by rfl⟩, in_X1, co_X1_gateAt, ⟨by decide +kernel, by decide +kernel⟩, by decide +kernel, by decide⟩
set_option maxRecDepth 100000 in
theorem lk_L_78 : xLk RL 78 yX11_curve cX11_curve 3 (some .int) 2 := ⟨List.mem_filter.mpr ⟨List.mem_append_right _ (List.mem_of_getElem? (i := 975) rfl), by rfl⟩, in_X11, co_X11_curve, ⟨by decide +kernel, by decide +kernel⟩, by decide +kernel, by decide⟩
set_option maxRecDepth 100000 in
theorem lk_X11_122 : xLk RX11 122 yX11_checkGate cX11_checkGate 2 none 1 := ⟨List.mem_filter.mpr ⟨List.mem_append_right _ (List.mem_of_getElem? (i := 979) rfl), by rfl⟩, in_X11, co_X11_checkGate, ⟨by decide +kernel, by decide +kernel⟩, by decide +kernel, by decide⟩
set_option maxRecDepth 100000 in
theorem lk_X11_214 : xLk RX11 214 yX11_checkRange cX11_checkRange 4 none 3 := ⟨List.mem_filter.mpr ⟨List.mem_append_right _ (List.mem_of_getElem? (i := 984) rfl), by rfl⟩, in_X11, co_X11_checkRange, ⟨by decide +kernel, by decide +kernel⟩, by decide +kernel, by decide⟩
set_option maxRecDepth 100000 in
theorem lk_L_81 : xLk RL 81 yX11_endsAt cX11_endsAt 2 (some .int) 1 := ⟨List.mem_filter.mpr ⟨List.mem_append_right _ (List.mem_of_getElem? (i := 992) rfl), by rfl⟩, in_X11, co_X11_endsAt, ⟨by decide +kernel, by decide +kernel⟩, by decide +kernel, by decide⟩
set_option maxRecDepth 100000 in
theorem lk_X11_177 : xLk RX11 177 yX11_checkPacket cX11_checkPacket 2 none 1 := ⟨List.mem_filter.mpr ⟨List.mem_append_right _ (List.mem_of_getElem? (i := 996) rfl), by rfl⟩, in_X11, co_X11_checkPacket, ⟨by decide +kernel, by decide +kernel⟩, by decide +kernel, by decide⟩
set_option maxRecDepth 100000 in
theorem lk_X11_228 : xLk RX11 228 yX5_hasEnded cX5_hasEnded 2 (some .boolean) 1 := ⟨List.mem_filter.mpr ⟨List.mem_append_right _ (List.mem_of_getElem? (i := 1001) rfl), by rfl⟩, in_X5, co_X5_hasEnded, ⟨by decide +kernel, by decide +kernel⟩, by decide +kernel, by decide⟩
set_option maxRecDepth 100000 in
theorem lk_X11_232 : xLk RX11 232 yX10_advance cX10_advance 5 none 2 := ⟨List.mem_filter.mpr ⟨List.mem_append_right _ (List.mem_of_getElem? (i := 1005) rfl), by rfl⟩, in_X10, co_X10_advance, ⟨by decide +kernel, by decide +kernel⟩, by decide +kernel, by decide⟩
set_option maxRecDepth 100000 in
theorem lk_X10_136 : xLk RX10 136 yX5_hasEnded cX5_hasEnded 2 (some .boolean) 1 := ⟨List.mem_filter.mpr ⟨List.mem_append_right _ (List.mem_of_getElem? (i := 1009) rfl), by rfl⟩, in_X5, co_X5_hasEnded, ⟨by decide +kernel, by decide +kernel⟩, by decide +kernel, by decide⟩
set_option maxRecDepth 100000 in
theorem lk_X10_140 : xLk RX10 140 yX10_quietTicks cX10_quietTicks 5 (some .int) 1 := ⟨List.mem_filter.mpr ⟨List.mem_append_right _ (List.mem_of_getElem? (i := 1010) rfl), by rfl⟩, in_X10, co_X10_quietTicks, ⟨by decide +kernel, by decide +kernel⟩, by decide +kernel, by decide⟩
set_option maxRecDepth 100000 in
theorem lj_X10_154 : Cond.methodLink RX10 154 Lib.Math.min.name ∈ xT := List.mem_filter.mpr ⟨List.mem_append_right _ (List.mem_of_getElem? (i := 1014) rfl), by rfl⟩
set_option maxRecDepth 100000 in
theorem lk_X10_162 : xLk RX10 162 yX10_ticksBeforePassage cX10_ticksBeforePassage 10 (some .int) 2 := ⟨List.mem_filter.mpr ⟨List.mem_append_right _ (List.mem_of_getElem? (i := 1015) rfl), by rfl⟩, in_X10, co_X10_ticksBeforePassage, ⟨by decide +kernel, by decide +kernel⟩, by decide +kernel, by decide⟩
set_option maxRecDepth 100000 in
theorem lk_X10_168 : xLk RX10 168 yX4_firstIn cX4_firstIn 3 (some .int) 1 := ⟨List.mem_filter.mpr ⟨List.mem_append_right _ (List.mem_of_getElem? (i := 1019) rfl), by rfl⟩, in_X4, co_X4_firstIn, ⟨by decide +kernel, by decide +kernel⟩, by decide +kernel, by decide⟩
set_option maxRecDepth 100000 in
theorem lk_X10_177 : xLk RX10 177 yX2_ticksBefore cX2_ticksBefore 4 (some .int) 3 := ⟨List.mem_filter.mpr ⟨List.mem_append_right _ (List.mem_of_getElem? (i := 1023) rfl), by rfl⟩, in_X2, co_X2_ticksBefore, ⟨by decide +kernel, by decide +kernel⟩, by decide +kernel, by decide⟩
set_option maxRecDepth 100000 in
theorem lk_X10_181 : xLk RX10 181 yX0_sumOf cX0_sumOf 4 (some .int) 1 := ⟨List.mem_filter.mpr ⟨List.mem_append_right _ (List.mem_of_getElem? (i := 1028) rfl), by rfl⟩, in_X0, co_X0_sumOf, ⟨by decide +kernel, by decide +kernel⟩, by decide +kernel, by decide⟩
set_option maxRecDepth 100000 in
theorem lj_X10_165 : Cond.methodLink RX10 165 Lib.Math.max.name ∈ xT := List.mem_filter.mpr ⟨List.mem_append_right _ (List.mem_of_getElem? (i := 1032) rfl), by rfl⟩
set_option maxRecDepth 100000 in
theorem lk_X10_144 : xLk RX10 144 yX10_rest cX10_rest 3 none 1 := ⟨List.mem_filter.mpr ⟨List.mem_append_right _ (List.mem_of_getElem? (i := 1033) rfl), by rfl⟩, in_X10, co_X10_rest, ⟨by decide +kernel, by decide +kernel⟩, by decide +kernel, by decide⟩
set_option maxRecDepth 100000 in
theorem lk_X10_190 : xLk RX10 190 yX10_refill cX10_refill 6 none 1 := ⟨List.mem_filter.mpr ⟨List.mem_append_right _ (List.mem_of_getElem? (i := 1037) rfl), by rfl⟩, in_X10, co_X10_refill, ⟨by decide +kernel, by decide +kernel⟩, by decide +kernel, by decide⟩
set_option maxRecDepth 100000 in
theorem lk_X10_193 : xLk RX10 193 yX10_noteLack cX10_noteLack 7 none 3 := ⟨List.mem_filter.mpr ⟨List.mem_append_right _ (List.mem_of_getElem? (i := 1041) rfl), by rfl⟩, in_X10, co_X10_noteLack, ⟨by decide +kernel, by decide +kernel⟩, by decide +kernel, by decide⟩
set_option maxRecDepth 100000 in
theorem lk_X10_148 : xLk RX10 148 yX10_tick cX10_tick 4 none 0 := ⟨List.mem_filter.mpr ⟨List.mem_append_right _ (List.mem_of_getElem? (i := 1045) rfl), by rfl⟩, in_X10, co_X10_tick, ⟨by decide +kernel, by decide +kernel⟩, by decide +kernel, by decide⟩
set_option maxRecDepth 100000 in
theorem lk_X10_197 : xLk RX10 197 yX0_removeEnding cX0_removeEnding 4 (some .int) 1 := ⟨List.mem_filter.mpr ⟨List.mem_append_right _ (List.mem_of_getElem? (i := 1049) rfl), by rfl⟩, in_X0, co_X0_removeEnding, ⟨by decide +kernel, by decide +kernel⟩, by decide +kernel, by decide⟩
set_option maxRecDepth 100000 in
theorem lk_X0_32 : xLk RX0 32 yX0_removeAt cX0_removeAt 3 none 1 := ⟨List.mem_filter.mpr ⟨List.mem_append_right _ (List.mem_of_getElem? (i := 1053) rfl), by rfl⟩, in_X0, co_X0_removeAt, ⟨by decide +kernel, by decide +kernel⟩, by decide +kernel, by decide⟩
set_option maxRecDepth 100000 in
theorem lk_X10_200 : xLk RX10 200 yX10_arrive cX10_arrive 5 none 1 := ⟨List.mem_filter.mpr ⟨List.mem_append_right _ (List.mem_of_getElem? (i := 1057) rfl), by rfl⟩, in_X10, co_X10_arrive, ⟨by decide +kernel, by decide +kernel⟩, by decide +kernel, by decide⟩
set_option maxRecDepth 100000 in
theorem lk_X10_132 : xLk RX10 132 yX1_gateAt cX1_gateAt 3 (some .int) 2 := ⟨List.mem_filter.mpr ⟨List.mem_append_right _ (List.mem_of_getElem? (i := 1061) rfl), by rfl⟩, in_X1, co_X1_gateAt, ⟨by decide +kernel, by decide +kernel⟩, by decide +kernel, by decide⟩
set_option maxRecDepth 100000 in
theorem lk_X10_215 : xLk RX10 215 yX4_join cX4_join 4 none 2 := ⟨List.mem_filter.mpr ⟨List.mem_append_right _ (List.mem_of_getElem? (i := 1062) rfl), by rfl⟩, in_X4, co_X4_join, ⟨by decide +kernel, by decide +kernel⟩, by decide +kernel, by decide⟩
set_option maxRecDepth 100000 in
theorem lk_X10_224 : xLk RX10 224 yX10_refund cX10_refund 4 none 2 := ⟨List.mem_filter.mpr ⟨List.mem_append_right _ (List.mem_of_getElem? (i := 1066) rfl), by rfl⟩, in_X10, co_X10_refund, ⟨by decide +kernel, by decide +kernel⟩, by decide +kernel, by decide⟩
set_option maxRecDepth 100000 in
theorem lk_X10_227 : xLk RX10 227 yX0_add cX0_add 4 none 3 := ⟨List.mem_filter.mpr ⟨List.mem_append_right _ (List.mem_of_getElem? (i := 1070) rfl), by rfl⟩, in_X0, co_X0_add, ⟨by decide +kernel, by decide +kernel⟩, by decide +kernel, by decide⟩
set_option maxRecDepth 100000 in
theorem lk_X10_203 : xLk RX10 203 yX10_openGate cX10_openGate 8 none 2 := ⟨List.mem_filter.mpr ⟨List.mem_append_right _ (List.mem_of_getElem? (i := 1071) rfl), by rfl⟩, in_X10, co_X10_openGate, ⟨by decide +kernel, by decide +kernel⟩, by decide +kernel, by decide⟩
set_option maxRecDepth 100000 in
theorem lk_X10_230 : xLk RX10 230 yX4_leave cX4_leave 3 none 1 := ⟨List.mem_filter.mpr ⟨List.mem_append_right _ (List.mem_of_getElem? (i := 1075) rfl), by rfl⟩, in_X4, co_X4_leave, ⟨by decide +kernel, by decide +kernel⟩, by decide +kernel, by decide⟩
set_option maxRecDepth 100000 in
theorem lk_X4_31 : xLk RX4 31 yX4_firstIn cX4_firstIn 3 (some .int) 1 := ⟨List.mem_filter.mpr ⟨List.mem_append_right _ (List.mem_of_getElem? (i := 1079) rfl), by rfl⟩, in_X4, co_X4_firstIn, ⟨by decide +kernel, by decide +kernel⟩, by decide +kernel, by decide⟩
set_option maxRecDepth 100000 in
theorem lk_X10_233 : xLk RX10 233 yX10_passGate cX10_passGate 6 none 4 := ⟨List.mem_filter.mpr ⟨List.mem_append_right _ (List.mem_of_getElem? (i := 1080) rfl), by rfl⟩, in_X10, co_X10_passGate, ⟨by decide +kernel, by decide +kernel⟩, by decide +kernel, by decide⟩
set_option maxRecDepth 100000 in
theorem lk_X10_237 : xLk RX10 237 yX0_spend cX0_spend 6 none 2 := ⟨List.mem_filter.mpr ⟨List.mem_append_right _ (List.mem_of_getElem? (i := 1084) rfl), by rfl⟩, in_X0, co_X0_spend, ⟨by decide +kernel, by decide +kernel⟩, by decide +kernel, by decide⟩
set_option maxRecDepth 100000 in
theorem lk_X0_36 : xLk RX0 36 yX0_firstToEnd cX0_firstToEnd 4 (some .int) 1 := ⟨List.mem_filter.mpr ⟨List.mem_append_right _ (List.mem_of_getElem? (i := 1088) rfl), by rfl⟩, in_X0, co_X0_firstToEnd, ⟨by decide +kernel, by decide +kernel⟩, by decide +kernel, by decide⟩
set_option maxRecDepth 100000 in
theorem lk_X10_243 : xLk RX10 243 yX7_valueFor cX7_valueFor 8 (some .int) 4 := ⟨List.mem_filter.mpr ⟨List.mem_append_right _ (List.mem_of_getElem? (i := 1092) rfl), by rfl⟩, in_X7, co_X7_valueFor, ⟨by decide +kernel, by decide +kernel⟩, by decide +kernel, by decide⟩
set_option maxRecDepth 100000 in
theorem lk_X7_18 : xLk RX7 18 yX7_combine cX7_combine 7 (some .int) 3 := ⟨List.mem_filter.mpr ⟨List.mem_append_right _ (List.mem_of_getElem? (i := 1096) rfl), by rfl⟩, in_X7, co_X7_combine, ⟨by decide +kernel, by decide +kernel⟩, by decide +kernel, by decide⟩
set_option maxRecDepth 100000 in
theorem lj_X7_35 : Cond.methodLink RX7 35 Lib.MathLoose.min_long.x ∈ xT := List.mem_filter.mpr ⟨List.mem_append_right _ (List.mem_of_getElem? (i := 1101) rfl), by rfl⟩
set_option maxRecDepth 100000 in
theorem lj_X7_38 : Cond.methodLink RX7 38 Lib.MathLoose.max_long.x ∈ xT := List.mem_filter.mpr ⟨List.mem_append_right _ (List.mem_of_getElem? (i := 1102) rfl), by rfl⟩
set_option maxRecDepth 100000 in
theorem lj_X7_22 : Cond.methodLink RX7 22 Lib.Math.min.name ∈ xT := List.mem_filter.mpr ⟨List.mem_append_right _ (List.mem_of_getElem? (i := 1103) rfl), by rfl⟩
set_option maxRecDepth 100000 in
theorem lj_X7_28 : Cond.methodLink RX7 28 Lib.Math.max.name ∈ xT := List.mem_filter.mpr ⟨List.mem_append_right _ (List.mem_of_getElem? (i := 1104) rfl), by rfl⟩
set_option maxRecDepth 100000 in
theorem lk_X10_247 : xLk RX10 247 yX6_add cX6_add 7 none 5 := ⟨List.mem_filter.mpr ⟨List.mem_append_right _ (List.mem_of_getElem? (i := 1105) rfl), by rfl⟩, in_X6, co_X6_add, ⟨by decide +kernel, by decide +kernel⟩, by decide +kernel, by decide⟩
set_option maxRecDepth 100000 in
theorem lk_L_87 : xLk RL 87 yX11_help cX11_help 6 (some .int) 1 := ⟨List.mem_filter.mpr ⟨List.mem_append_right _ (List.mem_of_getElem? (i := 1112) rfl), by rfl⟩, in_X11, co_X11_help, ⟨by decide +kernel, by decide +kernel⟩, by decide +kernel, by decide⟩
set_option maxRecDepth 100000 in
theorem lk_X11_236 : xLk RX11 236 yX0_add cX0_add 4 none 3 := ⟨List.mem_filter.mpr ⟨List.mem_append_right _ (List.mem_of_getElem? (i := 1116) rfl), by rfl⟩, in_X0, co_X0_add, ⟨by decide +kernel, by decide +kernel⟩, by decide +kernel, by decide⟩
set_option maxRecDepth 100000 in
theorem lj_X11_245 : Cond.methodLink RX11 245 Lib.Math.max.name ∈ xT := List.mem_filter.mpr ⟨List.mem_append_right _ (List.mem_of_getElem? (i := 1117) rfl), by rfl⟩
set_option maxRecDepth 100000 in
theorem lk_L_90 : xLk RL 90 yX11_pass cX11_pass 3 (some .int) 1 := ⟨List.mem_filter.mpr ⟨List.mem_append_right _ (List.mem_of_getElem? (i := 1121) rfl), by rfl⟩, in_X11, co_X11_pass, ⟨by decide +kernel, by decide +kernel⟩, by decide +kernel, by decide⟩
set_option maxRecDepth 100000 in
theorem lk_X11_107 : xLk RX11 107 yX5_countIn cX5_countIn 4 (some .int) 1 := ⟨List.mem_filter.mpr ⟨List.mem_append_right _ (List.mem_of_getElem? (i := 1125) rfl), by rfl⟩, in_X5, co_X5_countIn, ⟨by decide +kernel, by decide +kernel⟩, by decide +kernel, by decide⟩
set_option maxRecDepth 100000 in
theorem lk_L_93 : xLk RL 93 yX11_forward cX11_forward 5 (some .int) 2 := ⟨List.mem_filter.mpr ⟨List.mem_append_right _ (List.mem_of_getElem? (i := 1132) rfl), by rfl⟩, in_X11, co_X11_forward, ⟨by decide +kernel, by decide +kernel⟩, by decide +kernel, by decide⟩
set_option maxRecDepth 100000 in
theorem lk_X11_201 : xLk RX11 201 yX11_checkCoupon cX11_checkCoupon 2 none 1 := ⟨List.mem_filter.mpr ⟨List.mem_append_right _ (List.mem_of_getElem? (i := 1136) rfl), by rfl⟩, in_X11, co_X11_checkCoupon, ⟨by decide +kernel, by decide +kernel⟩, by decide +kernel, by decide⟩
set_option maxRecDepth 100000 in
theorem lk_L_96 : xLk RL 96 yX11_grant cX11_grant 4 (some .int) 3 := ⟨List.mem_filter.mpr ⟨List.mem_append_right _ (List.mem_of_getElem? (i := 1145) rfl), by rfl⟩, in_X11, co_X11_grant, ⟨by decide +kernel, by decide +kernel⟩, by decide +kernel, by decide⟩
set_option maxRecDepth 100000 in
theorem lk_L_102 : xLk RL 102 yX11_send cX11_send 3 (some .int) 2 := ⟨List.mem_filter.mpr ⟨List.mem_append_right _ (List.mem_of_getElem? (i := 1169) rfl), by rfl⟩, in_X11, co_X11_send, ⟨by decide +kernel, by decide +kernel⟩, by decide +kernel, by decide⟩
set_option maxRecDepth 100000 in
theorem lk_X11_255 : xLk RX11 255 yX5_add cX5_add 4 none 3 := ⟨List.mem_filter.mpr ⟨List.mem_append_right _ (List.mem_of_getElem? (i := 1174) rfl), by rfl⟩, in_X5, co_X5_add, ⟨by decide +kernel, by decide +kernel⟩, by decide +kernel, by decide⟩
set_option maxRecDepth 100000 in
theorem lk_L_105 : xLk RL 105 yX11_setThrift cX11_setThrift 4 (some .int) 2 := ⟨List.mem_filter.mpr ⟨List.mem_append_right _ (List.mem_of_getElem? (i := 1178) rfl), by rfl⟩, in_X11, co_X11_setThrift, ⟨by decide +kernel, by decide +kernel⟩, by decide +kernel, by decide⟩
set_option maxRecDepth 100000 in
theorem lk_L_137 : xLk RL 137 yL_with cL_with 4 (some (.array (.array .int))) 2 := ⟨List.mem_filter.mpr ⟨List.mem_append_right _ (List.mem_of_getElem? (i := 1182) rfl), by rfl⟩, in_L, co_L_with, ⟨by decide +kernel, by decide +kernel⟩, by decide +kernel, by decide⟩
set_option maxRecDepth 100000 in
theorem lk_L_248 : xLk RL 248 yL_randomRoad cL_randomRoad 9 (some (.object "PacketTollLaw$Road")) 3 := ⟨List.mem_filter.mpr ⟨List.mem_append_right _ (List.mem_of_getElem? (i := 1183) rfl), by rfl⟩, in_L, co_L_randomRoad, ⟨by decide +kernel, by decide +kernel⟩, by decide +kernel, by decide⟩
set_option maxRecDepth 100000 in
theorem lk_L_114 : xLk RL 114 yL_write cL_write 4 none 3 := ⟨List.mem_filter.mpr ⟨List.mem_append_right _ (List.mem_of_getElem? (i := 1187) rfl), by rfl⟩, in_L, co_L_write, ⟨by decide +kernel, by decide +kernel⟩, by decide +kernel, by decide⟩
set_option maxRecDepth 100000 in
theorem lk_L_23 : xLk RL 23 yJ0_length_8abf5 cJ0_length_8abf5 1 (some .int) 0 := ⟨List.mem_filter.mpr ⟨List.mem_append_right _ (List.mem_of_getElem? (i := 1190) rfl), by rfl⟩, in_J0, co_J0_length_8abf5, ⟨by decide +kernel, by decide +kernel⟩, by decide +kernel, by decide⟩
set_option maxRecDepth 100000 in
theorem lk_L_29 : xLk RL 29 yJ0_charAt_5068e cJ0_charAt_5068e 2 (some .char) 1 := ⟨List.mem_filter.mpr ⟨List.mem_append_right _ (List.mem_of_getElem? (i := 1191) rfl), by rfl⟩, in_J0, co_J0_charAt_5068e, ⟨by decide +kernel, by decide +kernel⟩, by decide +kernel, by decide⟩
set_option maxRecDepth 100000 in
theorem lk_L_33 : xLk RL 33 yL_put cL_put 3 none 3 := ⟨List.mem_filter.mpr ⟨List.mem_append_right _ (List.mem_of_getElem? (i := 1192) rfl), by rfl⟩, in_L, co_L_put, ⟨by decide +kernel, by decide +kernel⟩, by decide +kernel, by decide⟩
set_option maxRecDepth 100000 in
theorem lk_L_7 : xLk RL 7 yL_flush cL_flush 3 none 2 := ⟨List.mem_filter.mpr ⟨List.mem_append_right _ (List.mem_of_getElem? (i := 1195) rfl), by rfl⟩, in_L, co_L_flush, ⟨by decide +kernel, by decide +kernel⟩, by decide +kernel, by decide⟩
set_option maxRecDepth 100000 in
theorem lk_L_13 : xLk RL 13 yX11_append cX11_append 7 (some .int) 5 := ⟨List.mem_filter.mpr ⟨List.mem_append_right _ (List.mem_of_getElem? (i := 1198) rfl), by rfl⟩, in_X11, co_X11_append, ⟨by decide +kernel, by decide +kernel⟩, by decide +kernel, by decide⟩
set_option maxRecDepth 100000 in
theorem lk_X11_46 : xLk RX11 46 yX9_put cX9_put 3 none 1 := ⟨List.mem_filter.mpr ⟨List.mem_append_right _ (List.mem_of_getElem? (i := 1202) rfl), by rfl⟩, in_X9, co_X9_put, ⟨by decide +kernel, by decide +kernel⟩, by decide +kernel, by decide⟩
set_option maxRecDepth 100000 in
theorem lk_L_142 : xLk RL 142 yL_writeNumbers cL_writeNumbers 8 none 4 := ⟨List.mem_filter.mpr ⟨List.mem_append_right _ (List.mem_of_getElem? (i := 1207) rfl), by rfl⟩, in_L, co_L_writeNumbers, ⟨by decide +kernel, by decide +kernel⟩, by decide +kernel, by decide⟩
set_option maxRecDepth 100000 in
theorem lk_L_120 : xLk RL 120 yL_writeNumber cL_writeNumber 4 none 3 := ⟨List.mem_filter.mpr ⟨List.mem_append_right _ (List.mem_of_getElem? (i := 1211) rfl), by rfl⟩, in_L, co_L_writeNumber, ⟨by decide +kernel, by decide +kernel⟩, by decide +kernel, by decide⟩
set_option maxRecDepth 100000 in
theorem lk_L_177 : xLk RL 177 yX12_random cX12_random 3 (some (.object "PacketTollLaw$Node")) 2 := ⟨List.mem_filter.mpr ⟨List.mem_append_right _ (List.mem_of_getElem? (i := 1221) rfl), by rfl⟩, in_X12, co_X12_random, ⟨by decide +kernel, by decide +kernel⟩, by decide +kernel, by decide⟩
set_option maxRecDepth 100000 in
theorem lk_X12_9 : xLk RX12 9 yX12_init cX12_init 1 none 0 := ⟨List.mem_filter.mpr ⟨List.mem_append_right _ (List.mem_of_getElem? (i := 1226) rfl), by rfl⟩, in_X12, co_X12_init, ⟨by decide +kernel, by decide +kernel⟩, by decide +kernel, by decide⟩
set_option maxRecDepth 100000 in
theorem lj_X12_1 : Cond.methodLink RX12 1 objectInit ∈ xT := List.mem_filter.mpr ⟨List.mem_append_right _ (List.mem_of_getElem? (i := 1229) rfl), by rfl⟩
set_option maxRecDepth 100000 in
theorem fd_X12_16 : xFd RX12 16 12 0 RX12 TX12 4 := ⟨rfl, by decide, by decide, List.mem_filter.mpr ⟨List.mem_append_right _ (List.mem_of_getElem? (i := 1230) rfl), by rfl⟩, rfl, rfl, uw_X12⟩
set_option maxRecDepth 100000 in
theorem fd_X12_20 : xFd RX12 20 12 1 RX12 TX12 4 := ⟨rfl, by decide, by decide, List.mem_filter.mpr ⟨List.mem_append_right _ (List.mem_of_getElem? (i := 1231) rfl), by rfl⟩, rfl, rfl, uw_X12⟩
set_option maxRecDepth 100000 in
theorem fd_X12_27 : xFd RX12 27 12 2 RX12 TX12 4 := ⟨rfl, by decide, by decide, List.mem_filter.mpr ⟨List.mem_append_right _ (List.mem_of_getElem? (i := 1232) rfl), by rfl⟩, rfl, rfl, uw_X12⟩
set_option maxRecDepth 100000 in
theorem fd_X12_31 : xFd RX12 31 12 3 RX12 TX12 4 := ⟨rfl, by decide, by decide, List.mem_filter.mpr ⟨List.mem_append_right _ (List.mem_of_getElem? (i := 1233) rfl), by rfl⟩, rfl, rfl, uw_X12⟩
set_option maxRecDepth 100000 in
theorem lk_X12_10 : xLk RX12 10 yX13_below cX13_below 2 (some .int) 1 := ⟨List.mem_filter.mpr ⟨List.mem_append_right _ (List.mem_of_getElem? (i := 1243) rfl), by rfl⟩, in_X13, co_X13_below, ⟨by decide +kernel, by decide +kernel⟩, by decide +kernel, by decide⟩
set_option maxRecDepth 100000 in
theorem lk_X12_23 : xLk RX12 23 yX12_random cX12_random 3 (some (.object "PacketTollLaw$Node")) 2 := ⟨List.mem_filter.mpr ⟨List.mem_append_right _ (List.mem_of_getElem? (i := 1244) rfl), by rfl⟩, in_X12, co_X12_random, ⟨by decide +kernel, by decide +kernel⟩, by decide +kernel, by decide⟩
set_option maxRecDepth 100000 in
theorem lk_L_189 : xLk RL 189 yX12_text cX12_text 4 (some (.object "java/lang/String")) 1 := ⟨List.mem_filter.mpr ⟨List.mem_append_right _ (List.mem_of_getElem? (i := 1246) rfl), by rfl⟩, in_X12, co_X12_text, ⟨by decide +kernel, by decide +kernel⟩, by decide +kernel, by decide⟩
set_option maxRecDepth 100000 in
theorem lk_X12_36 : xLk RX12 36 yJ4_init_da8c8 cJ4_init_da8c8 1 none 0 := ⟨List.mem_filter.mpr ⟨List.mem_append_right _ (List.mem_of_getElem? (i := 1252) rfl), by rfl⟩, in_J4, co_J4_init_da8c8, ⟨by decide +kernel, by decide +kernel⟩, by decide +kernel, by decide⟩
set_option maxRecDepth 100000 in
theorem lk_J4_1 : xLk RJ4 1 yJ5_init_d00df cJ5_init_d00df 2 none 1 := ⟨List.mem_filter.mpr ⟨List.mem_append_right _ (List.mem_of_getElem? (i := 1255) rfl), by rfl⟩, in_J5, co_J5_init_d00df, ⟨by decide +kernel, by decide +kernel⟩, by decide +kernel, by decide⟩
set_option maxRecDepth 100000 in
theorem lj_J5_3 : Cond.methodLink RJ5 3 objectInit ∈ xT := List.mem_filter.mpr ⟨List.mem_append_right _ (List.mem_of_getElem? (i := 1258) rfl), by rfl⟩
set_option maxRecDepth 100000 in
theorem lk_J5_26 : xLk RJ5 26 yJ2_newBytesFor_77867 cJ2_newBytesFor_77867 1 (some (.array .byte)) 1 := ⟨List.mem_filter.mpr ⟨List.mem_append_right _ (List.mem_of_getElem? (i := 1260) rfl), by rfl⟩, in_J2, co_J2_newBytesFor_77867, ⟨by decide +kernel, by decide +kernel⟩, by decide +kernel, by decide⟩
set_option maxRecDepth 100000 in
theorem lk_J2_11 : xLk RJ2 11 yJ2_newBytesLength_0f7a4 cJ2_newBytesLength_0f7a4 1 (some .int) 1 := ⟨List.mem_filter.mpr ⟨List.mem_append_right _ (List.mem_of_getElem? (i := 1263) rfl), by rfl⟩, in_J2, co_J2_newBytesLength_0f7a4, ⟨by decide +kernel, by decide +kernel⟩, by decide +kernel, by decide⟩
set_option maxRecDepth 100000 in
theorem fd_J5_15 : xFd RJ5 15 22 0 RJ4 TJ4 4 := ⟨rfl, by decide, by decide, List.mem_filter.mpr ⟨List.mem_append_right _ (List.mem_of_getElem? (i := 1267) rfl), by rfl⟩, rfl, rfl, uw_J4⟩
set_option maxRecDepth 100000 in
theorem fd_J5_22 : xFd RJ5 22 22 1 RJ4 TJ4 4 := ⟨rfl, by decide, by decide, List.mem_filter.mpr ⟨List.mem_append_right _ (List.mem_of_getElem? (i := 1268) rfl), by rfl⟩, rfl, rfl, uw_J4⟩
set_option maxRecDepth 100000 in
theorem fd_J0_1048 : xFd RJ0 1048 22 2 RJ4 TJ4 4 := ⟨rfl, by decide, by decide, List.mem_filter.mpr ⟨List.mem_append_right _ (List.mem_of_getElem? (i := 1269) rfl), by rfl⟩, rfl, rfl, uw_J4⟩
set_option maxRecDepth 100000 in
theorem fd_J5_79 : xFd RJ5 79 22 3 RJ4 TJ4 4 := ⟨rfl, by decide, by decide, List.mem_filter.mpr ⟨List.mem_append_right _ (List.mem_of_getElem? (i := 1270) rfl), by rfl⟩, rfl, rfl, uw_J4⟩
set_option maxRecDepth 100000 in
theorem lk_X12_39 : xLk RX12 39 yJ4_append_15ec4 cJ4_append_15ec4 2 (some (.object "java/lang/StringBuilder")) 1 := ⟨List.mem_filter.mpr ⟨List.mem_append_right _ (List.mem_of_getElem? (i := 1281) rfl), by rfl⟩, in_J4, co_J4_append_15ec4, ⟨by decide +kernel, by decide +kernel⟩, by decide +kernel, by decide⟩
set_option maxRecDepth 100000 in
theorem lk_J4_29 : xLk RJ4 29 yJ5_append_cf1ce cJ5_append_cf1ce 3 (some (.object "java/lang/AbstractStringBuilder")) 1 := ⟨List.mem_filter.mpr ⟨List.mem_append_right _ (List.mem_of_getElem? (i := 1285) rfl), by rfl⟩, in_J5, co_J5_append_cf1ce, ⟨by decide +kernel, by decide +kernel⟩, by decide +kernel, by decide⟩
set_option maxRecDepth 100000 in
theorem lk_J5_204 : xLk RJ5 204 yJ5_appendNull_278bc cJ5_appendNull_278bc 3 (some (.object "java/lang/AbstractStringBuilder")) 0 := ⟨List.mem_filter.mpr ⟨List.mem_append_right _ (List.mem_of_getElem? (i := 1288) rfl), by rfl⟩, in_J5, co_J5_appendNull_278bc, ⟨by decide +kernel, by decide +kernel⟩, by decide +kernel, by decide⟩
set_option maxRecDepth 100000 in
theorem lk_J5_100 : xLk RJ5 100 yJ5_ensureCapacityInternal_d00df cJ5_ensureCapacityInternal_d00df 3 none 1 := ⟨List.mem_filter.mpr ⟨List.mem_append_right _ (List.mem_of_getElem? (i := 1292) rfl), by rfl⟩, in_J5, co_J5_ensureCapacityInternal_d00df, ⟨by decide +kernel, by decide +kernel⟩, by decide +kernel, by decide⟩
set_option maxRecDepth 100000 in
theorem lk_J5_104 : xLk RJ5 104 yJ5_newCapacity_0f7a4 cJ5_newCapacity_0f7a4 6 (some .int) 1 := ⟨List.mem_filter.mpr ⟨List.mem_append_right _ (List.mem_of_getElem? (i := 1296) rfl), by rfl⟩, in_J5, co_J5_newCapacity_0f7a4, ⟨by decide +kernel, by decide +kernel⟩, by decide +kernel, by decide⟩
set_option maxRecDepth 100000 in
theorem lk_J5_114 : xLk RJ5 114 yJ8_newLength_cabcc cJ8_newLength_cabcc 4 (some .int) 3 := ⟨List.mem_filter.mpr ⟨List.mem_append_right _ (List.mem_of_getElem? (i := 1300) rfl), by rfl⟩, in_J8, co_J8_newLength_cabcc, ⟨by decide +kernel, by decide +kernel⟩, by decide +kernel, by decide⟩
set_option maxRecDepth 100000 in
theorem lj_J8_194 : Cond.methodLink RJ8 194 Lib.Math.max.name ∈ xT := List.mem_filter.mpr ⟨List.mem_append_right _ (List.mem_of_getElem? (i := 1303) rfl), by rfl⟩
set_option maxRecDepth 100000 in
theorem lk_J8_201 : xLk RJ8 201 yJ8_hugeLength_7cf53 cJ8_hugeLength_7cf53 3 (some .int) 2 := ⟨List.mem_filter.mpr ⟨List.mem_append_right _ (List.mem_of_getElem? (i := 1305) rfl), by rfl⟩, in_J8, co_J8_hugeLength_7cf53, ⟨by decide +kernel, by decide +kernel⟩, by decide +kernel, by decide⟩
set_option maxRecDepth 100000 in
theorem lk_J5_108 : xLk RJ5 108 yJ7_copyOf_9075b cJ7_copyOf_9075b 3 (some (.array .byte)) 2 := ⟨List.mem_filter.mpr ⟨List.mem_append_right _ (List.mem_of_getElem? (i := 1309) rfl), by rfl⟩, in_J7, co_J7_copyOf_9075b, ⟨by decide +kernel, by decide +kernel⟩, by decide +kernel, by decide⟩
set_option maxRecDepth 100000 in
theorem lk_J5_83 : xLk RJ5 83 yJ5_isLatin1_aae02 cJ5_isLatin1_aae02 1 (some .boolean) 0 := ⟨List.mem_filter.mpr ⟨List.mem_append_right _ (List.mem_of_getElem? (i := 1317) rfl), by rfl⟩, in_J5, co_J5_isLatin1_aae02, ⟨by decide +kernel, by decide +kernel⟩, by decide +kernel, by decide⟩
set_option maxRecDepth 100000 in
theorem lk_J5_226 : xLk RJ5 226 yJ2_putCharsAt_cd4e5 cJ2_putCharsAt_cd4e5 7 (some .int) 6 := ⟨List.mem_filter.mpr ⟨List.mem_append_right _ (List.mem_of_getElem? (i := 1322) rfl), by rfl⟩, in_J2, co_J2_putCharsAt_cd4e5, ⟨by decide +kernel, by decide +kernel⟩, by decide +kernel, by decide⟩
set_option maxRecDepth 100000 in
theorem lk_J2_96 : xLk RJ2 96 yJ2_checkBoundsBeginEnd_d044e cJ2_checkBoundsBeginEnd_d044e 3 none 3 := ⟨List.mem_filter.mpr ⟨List.mem_append_right _ (List.mem_of_getElem? (i := 1325) rfl), by rfl⟩, in_J2, co_J2_checkBoundsBeginEnd_d044e, ⟨by decide +kernel, by decide +kernel⟩, by decide +kernel, by decide⟩
set_option maxRecDepth 100000 in
theorem lk_J2_241 : xLk RJ2 241 yJ0_checkBoundsBeginEnd_23922 cJ0_checkBoundsBeginEnd_23922 3 none 3 := ⟨List.mem_filter.mpr ⟨List.mem_append_right _ (List.mem_of_getElem? (i := 1328) rfl), by rfl⟩, in_J0, co_J0_checkBoundsBeginEnd_23922, ⟨by decide +kernel, by decide +kernel⟩, by decide +kernel, by decide⟩
set_option maxRecDepth 100000 in
theorem lk_J0_1062 : xLk RJ0 1062 yJ3_checkFromToIndex_8c36e cJ3_checkFromToIndex_8c36e 4 (some .int) 4 := ⟨List.mem_filter.mpr ⟨List.mem_append_right _ (List.mem_of_getElem? (i := 1331) rfl), by rfl⟩, in_J3, co_J3_checkFromToIndex_8c36e, ⟨by decide +kernel, by decide +kernel⟩, by decide +kernel, by decide⟩
set_option maxRecDepth 100000 in
theorem lk_J2_111 : xLk RJ2 111 yJ2_putChar_b72d1 cJ2_putChar_b72d1 3 none 3 := ⟨List.mem_filter.mpr ⟨List.mem_append_right _ (List.mem_of_getElem? (i := 1334) rfl), by rfl⟩, in_J2, co_J2_putChar_b72d1, ⟨by decide +kernel, by decide +kernel⟩, by decide +kernel, by decide⟩
set_option maxRecDepth 100000 in
theorem lk_J5_32 : xLk RJ5 32 yJ0_length_8abf5 cJ0_length_8abf5 1 (some .int) 0 := ⟨List.mem_filter.mpr ⟨List.mem_append_right _ (List.mem_of_getElem? (i := 1337) rfl), by rfl⟩, in_J0, co_J0_length_8abf5, ⟨by decide +kernel, by decide +kernel⟩, by decide +kernel, by decide⟩
set_option maxRecDepth 100000 in
theorem lk_J5_208 : xLk RJ5 208 yJ5_putStringAt_47b60 cJ5_putStringAt_47b60 3 none 2 := ⟨List.mem_filter.mpr ⟨List.mem_append_right _ (List.mem_of_getElem? (i := 1338) rfl), by rfl⟩, in_J5, co_J5_putStringAt_47b60, ⟨by decide +kernel, by decide +kernel⟩, by decide +kernel, by decide⟩
set_option maxRecDepth 100000 in
theorem lk_J5_397 : xLk RJ5 397 yJ5_inflateIfNeededFor_a7421 cJ5_inflateIfNeededFor_a7421 2 none 1 := ⟨List.mem_filter.mpr ⟨List.mem_append_right _ (List.mem_of_getElem? (i := 1342) rfl), by rfl⟩, in_J5, co_J5_inflateIfNeededFor_a7421, ⟨by decide +kernel, by decide +kernel⟩, by decide +kernel, by decide⟩
set_option maxRecDepth 100000 in
theorem lk_J5_40 : xLk RJ5 40 yJ0_coder_7d493 cJ0_coder_7d493 1 (some .byte) 0 := ⟨List.mem_filter.mpr ⟨List.mem_append_right _ (List.mem_of_getElem? (i := 1346) rfl), by rfl⟩, in_J0, co_J0_coder_7d493, ⟨by decide +kernel, by decide +kernel⟩, by decide +kernel, by decide⟩
set_option maxRecDepth 100000 in
theorem lk_J5_195 : xLk RJ5 195 yJ5_inflate_da8c8 cJ5_inflate_da8c8 2 none 0 := ⟨List.mem_filter.mpr ⟨List.mem_append_right _ (List.mem_of_getElem? (i := 1347) rfl), by rfl⟩, in_J5, co_J5_inflate_da8c8, ⟨by decide +kernel, by decide +kernel⟩, by decide +kernel, by decide⟩
set_option maxRecDepth 100000 in
theorem lk_J5_125 : xLk RJ5 125 yJ1_inflate_0e8fd cJ1_inflate_0e8fd 5 none 5 := ⟨List.mem_filter.mpr ⟨List.mem_append_right _ (List.mem_of_getElem? (i := 1351) rfl), by rfl⟩, in_J1, co_J1_inflate_0e8fd, ⟨by decide +kernel, by decide +kernel⟩, by decide +kernel, by decide⟩
set_option maxRecDepth 100000 in
theorem lk_J1_240 : xLk RJ1 240 yJ2_inflate_0e8fd cJ2_inflate_0e8fd 6 none 5 := ⟨List.mem_filter.mpr ⟨List.mem_append_right _ (List.mem_of_getElem? (i := 1354) rfl), by rfl⟩, in_J2, co_J2_inflate_0e8fd, ⟨by decide +kernel, by decide +kernel⟩, by decide +kernel, by decide⟩
set_option maxRecDepth 100000 in
theorem lk_J2_173 : xLk RJ2 173 yJ2_checkBoundsOffCount_d044e cJ2_checkBoundsOffCount_d044e 3 none 3 := ⟨List.mem_filter.mpr ⟨List.mem_append_right _ (List.mem_of_getElem? (i := 1357) rfl), by rfl⟩, in_J2, co_J2_checkBoundsOffCount_d044e, ⟨by decide +kernel, by decide +kernel⟩, by decide +kernel, by decide⟩
set_option maxRecDepth 100000 in
theorem lk_J2_419 : xLk RJ2 419 yJ0_checkBoundsOffCount_cabcc cJ0_checkBoundsOffCount_cabcc 3 (some .int) 3 := ⟨List.mem_filter.mpr ⟨List.mem_append_right _ (List.mem_of_getElem? (i := 1360) rfl), by rfl⟩, in_J0, co_J0_checkBoundsOffCount_cabcc, ⟨by decide +kernel, by decide +kernel⟩, by decide +kernel, by decide⟩
set_option maxRecDepth 100000 in
theorem lk_J0_1065 : xLk RJ0 1065 yJ3_checkFromIndexSize_8c36e cJ3_checkFromIndexSize_8c36e 4 (some .int) 4 := ⟨List.mem_filter.mpr ⟨List.mem_append_right _ (List.mem_of_getElem? (i := 1363) rfl), by rfl⟩, in_J3, co_J3_checkFromIndexSize_8c36e, ⟨by decide +kernel, by decide +kernel⟩, by decide +kernel, by decide⟩
set_option maxRecDepth 100000 in
theorem lk_J5_399 : xLk RJ5 399 yJ0_getBytes_840e7 cJ0_getBytes_840e7 4 none 3 := ⟨List.mem_filter.mpr ⟨List.mem_append_right _ (List.mem_of_getElem? (i := 1366) rfl), by rfl⟩, in_J0, co_J0_getBytes_840e7, ⟨by decide +kernel, by decide +kernel⟩, by decide +kernel, by decide⟩
set_option maxRecDepth 100000 in
theorem lj_J0_212 : Cond.methodLink RJ0 212 arraycopyName ∈ xT := List.mem_filter.mpr ⟨List.mem_append_right _ (List.mem_of_getElem? (i := 1370) rfl), by rfl⟩
set_option maxRecDepth 100000 in
theorem lk_J0_106 : xLk RJ0 106 yJ1_inflate_0e8fd cJ1_inflate_0e8fd 5 none 5 := ⟨List.mem_filter.mpr ⟨List.mem_append_right _ (List.mem_of_getElem? (i := 1371) rfl), by rfl⟩, in_J1, co_J1_inflate_0e8fd, ⟨by decide +kernel, by decide +kernel⟩, by decide +kernel, by decide⟩
set_option maxRecDepth 100000 in
theorem lk_X12_43 : xLk RX12 43 yJ4_append_bf812 cJ4_append_bf812 2 (some (.object "java/lang/StringBuilder")) 1 := ⟨List.mem_filter.mpr ⟨List.mem_append_right _ (List.mem_of_getElem? (i := 1372) rfl), by rfl⟩, in_J4, co_J4_append_bf812, ⟨by decide +kernel, by decide +kernel⟩, by decide +kernel, by decide⟩
set_option maxRecDepth 100000 in
theorem lk_J4_53 : xLk RJ4 53 yJ5_append_c97b9 cJ5_append_c97b9 4 (some (.object "java/lang/AbstractStringBuilder")) 1 := ⟨List.mem_filter.mpr ⟨List.mem_append_right _ (List.mem_of_getElem? (i := 1376) rfl), by rfl⟩, in_J5, co_J5_append_c97b9, ⟨by decide +kernel, by decide +kernel⟩, by decide +kernel, by decide⟩
set_option maxRecDepth 100000 in
theorem lk_J5_245 : xLk RJ5 245 yJ6_stringSize_0f7a4 cJ6_stringSize_0f7a4 4 (some .int) 1 := ⟨List.mem_filter.mpr ⟨List.mem_append_right _ (List.mem_of_getElem? (i := 1379) rfl), by rfl⟩, in_J6, co_J6_stringSize_0f7a4, ⟨by decide +kernel, by decide +kernel⟩, by decide +kernel, by decide⟩
set_option maxRecDepth 100000 in
theorem lk_J5_248 : xLk RJ5 248 yJ6_getChars_ba4f3 cJ6_getChars_ba4f3 7 (some .int) 3 := ⟨List.mem_filter.mpr ⟨List.mem_append_right _ (List.mem_of_getElem? (i := 1382) rfl), by rfl⟩, in_J6, co_J6_getChars_ba4f3, ⟨by decide +kernel, by decide +kernel⟩, by decide +kernel, by decide⟩
set_option maxRecDepth 100000 in
theorem lk_J5_251 : xLk RJ5 251 yJ2_getChars_46870 cJ2_getChars_46870 5 (some .int) 4 := ⟨List.mem_filter.mpr ⟨List.mem_append_right _ (List.mem_of_getElem? (i := 1389) rfl), by rfl⟩, in_J2, co_J2_getChars_46870, ⟨by decide +kernel, by decide +kernel⟩, by decide +kernel, by decide⟩
set_option maxRecDepth 100000 in
theorem lk_J2_393 : xLk RJ2 393 yJ2_getChars_ba4f3 cJ2_getChars_ba4f3 7 (some .int) 3 := ⟨List.mem_filter.mpr ⟨List.mem_append_right _ (List.mem_of_getElem? (i := 1392) rfl), by rfl⟩, in_J2, co_J2_getChars_ba4f3, ⟨by decide +kernel, by decide +kernel⟩, by decide +kernel, by decide⟩
set_option maxRecDepth 100000 in
theorem lk_X12_46 : xLk RX12 46 yJ4_toString_0e30d cJ4_toString_0e30d 1 (some (.object "java/lang/String")) 0 := ⟨List.mem_filter.mpr ⟨List.mem_append_right _ (List.mem_of_getElem? (i := 1397) rfl), by rfl⟩, in_J4, co_J4_toString_0e30d, ⟨by decide +kernel, by decide +kernel⟩, by decide +kernel, by decide⟩
set_option maxRecDepth 100000 in
theorem lk_J4_137 : xLk RJ4 137 yJ0_init_81219 cJ0_init_81219 2 none 1 := ⟨List.mem_filter.mpr ⟨List.mem_append_right _ (List.mem_of_getElem? (i := 1403) rfl), by rfl⟩, in_J0, co_J0_init_81219, ⟨by decide +kernel, by decide +kernel⟩, by decide +kernel, by decide⟩
set_option maxRecDepth 100000 in
theorem lk_J0_489 : xLk RJ0 489 yJ0_init_db425 cJ0_init_db425 5 none 2 := ⟨List.mem_filter.mpr ⟨List.mem_append_right _ (List.mem_of_getElem? (i := 1406) rfl), by rfl⟩, in_J0, co_J0_init_db425, ⟨by decide +kernel, by decide +kernel⟩, by decide +kernel, by decide⟩
set_option maxRecDepth 100000 in
theorem lj_J0_1 : Cond.methodLink RJ0 1 objectInit ∈ xT := List.mem_filter.mpr ⟨List.mem_append_right _ (List.mem_of_getElem? (i := 1409) rfl), by rfl⟩
set_option maxRecDepth 100000 in
theorem lk_J0_552 : xLk RJ0 552 yJ5_getValue_6d5f1 cJ5_getValue_6d5f1 1 (some (.array .byte)) 0 := ⟨List.mem_filter.mpr ⟨List.mem_append_right _ (List.mem_of_getElem? (i := 1410) rfl), by rfl⟩, in_J5, co_J5_getValue_6d5f1, ⟨by decide +kernel, by decide +kernel⟩, by decide +kernel, by decide⟩
set_option maxRecDepth 100000 in
theorem lk_J0_549 : xLk RJ0 549 yJ5_length_8abf5 cJ5_length_8abf5 1 (some .int) 0 := ⟨List.mem_filter.mpr ⟨List.mem_append_right _ (List.mem_of_getElem? (i := 1415) rfl), by rfl⟩, in_J5, co_J5_length_8abf5, ⟨by decide +kernel, by decide +kernel⟩, by decide +kernel, by decide⟩
set_option maxRecDepth 100000 in
theorem lk_J4_343 : xLk RJ4 343 yJ5_length_8abf5 cJ5_length_8abf5 1 (some .int) 0 := ⟨List.mem_filter.mpr ⟨List.mem_append_right _ (List.mem_of_getElem? (i := 1421) rfl), by rfl⟩, in_J5, co_J5_length_8abf5, ⟨by decide +kernel, by decide +kernel⟩, by decide +kernel, by decide⟩
set_option maxRecDepth 100000 in
theorem lk_J0_1047 : xLk RJ0 1047 yJ5_isLatin1_aae02 cJ5_isLatin1_aae02 1 (some .boolean) 0 := ⟨List.mem_filter.mpr ⟨List.mem_append_right _ (List.mem_of_getElem? (i := 1423) rfl), by rfl⟩, in_J5, co_J5_isLatin1_aae02, ⟨by decide +kernel, by decide +kernel⟩, by decide +kernel, by decide⟩
set_option maxRecDepth 100000 in
theorem lk_J0_54 : xLk RJ0 54 yJ7_copyOfRange_39247 cJ7_copyOfRange_39247 3 (some (.array .byte)) 3 := ⟨List.mem_filter.mpr ⟨List.mem_append_right _ (List.mem_of_getElem? (i := 1424) rfl), by rfl⟩, in_J7, co_J7_copyOfRange_39247, ⟨by decide +kernel, by decide +kernel⟩, by decide +kernel, by decide⟩
set_option maxRecDepth 100000 in
theorem lk_J7_339 : xLk RJ7 339 yJ7_copyOfRangeByte_39247 cJ7_copyOfRangeByte_39247 5 (some (.array .byte)) 3 := ⟨List.mem_filter.mpr ⟨List.mem_append_right _ (List.mem_of_getElem? (i := 1427) rfl), by rfl⟩, in_J7, co_J7_copyOfRangeByte_39247, ⟨by decide +kernel, by decide +kernel⟩, by decide +kernel, by decide⟩
set_option maxRecDepth 100000 in
theorem lk_J7_343 : xLk RJ7 343 yJ7_checkLength_df160 cJ7_checkLength_df160 2 none 2 := ⟨List.mem_filter.mpr ⟨List.mem_append_right _ (List.mem_of_getElem? (i := 1430) rfl), by rfl⟩, in_J7, co_J7_checkLength_df160, ⟨by decide +kernel, by decide +kernel⟩, by decide +kernel, by decide⟩
set_option maxRecDepth 100000 in
theorem lk_J7_47 : xLk RJ7 47 yJ4_init_da8c8 cJ4_init_da8c8 1 none 0 := ⟨List.mem_filter.mpr ⟨List.mem_append_right _ (List.mem_of_getElem? (i := 1435) rfl), by rfl⟩, in_J4, co_J4_init_da8c8, ⟨by decide +kernel, by decide +kernel⟩, by decide +kernel, by decide⟩
set_option maxRecDepth 100000 in
theorem lk_J7_54 : xLk RJ7 54 yJ4_append_bf812 cJ4_append_bf812 2 (some (.object "java/lang/StringBuilder")) 1 := ⟨List.mem_filter.mpr ⟨List.mem_append_right _ (List.mem_of_getElem? (i := 1436) rfl), by rfl⟩, in_J4, co_J4_append_bf812, ⟨by decide +kernel, by decide +kernel⟩, by decide +kernel, by decide⟩
set_option maxRecDepth 100000 in
theorem lk_J7_50 : xLk RJ7 50 yJ4_append_15ec4 cJ4_append_15ec4 2 (some (.object "java/lang/StringBuilder")) 1 := ⟨List.mem_filter.mpr ⟨List.mem_append_right _ (List.mem_of_getElem? (i := 1438) rfl), by rfl⟩, in_J4, co_J4_append_15ec4, ⟨by decide +kernel, by decide +kernel⟩, by decide +kernel, by decide⟩
set_option maxRecDepth 100000 in
theorem lk_J7_61 : xLk RJ7 61 yJ4_toString_0e30d cJ4_toString_0e30d 1 (some (.object "java/lang/String")) 0 := ⟨List.mem_filter.mpr ⟨List.mem_append_right _ (List.mem_of_getElem? (i := 1439) rfl), by rfl⟩, in_J4, co_J4_toString_0e30d, ⟨by decide +kernel, by decide +kernel⟩, by decide +kernel, by decide⟩
set_option maxRecDepth 100000 in
theorem lk_J0_1051 : xLk RJ0 1051 yJ2_compress_39247 cJ2_compress_39247 6 (some (.array .byte)) 3 := ⟨List.mem_filter.mpr ⟨List.mem_append_right _ (List.mem_of_getElem? (i := 1441) rfl), by rfl⟩, in_J2, co_J2_compress_39247, ⟨by decide +kernel, by decide +kernel⟩, by decide +kernel, by decide⟩
set_option maxRecDepth 100000 in
theorem lk_J2_123 : xLk RJ2 123 yJ2_compress_5af95 cJ2_compress_5af95 7 (some .int) 5 := ⟨List.mem_filter.mpr ⟨List.mem_append_right _ (List.mem_of_getElem? (i := 1444) rfl), by rfl⟩, in_J2, co_J2_compress_5af95, ⟨by decide +kernel, by decide +kernel⟩, by decide +kernel, by decide⟩
set_option maxRecDepth 100000 in
theorem lk_J2_126 : xLk RJ2 126 yJ7_copyOfRange_39247 cJ7_copyOfRange_39247 3 (some (.array .byte)) 3 := ⟨List.mem_filter.mpr ⟨List.mem_append_right _ (List.mem_of_getElem? (i := 1447) rfl), by rfl⟩, in_J7, co_J7_copyOfRange_39247, ⟨by decide +kernel, by decide +kernel⟩, by decide +kernel, by decide⟩
set_option maxRecDepth 100000 in
theorem lk_J0_47 : xLk RJ0 47 yJ2_coderFromArrayLen_85cad cJ2_coderFromArrayLen_85cad 2 (some .byte) 2 := ⟨List.mem_filter.mpr ⟨List.mem_append_right _ (List.mem_of_getElem? (i := 1448) rfl), by rfl⟩, in_J2, co_J2_coderFromArrayLen_85cad, ⟨by decide +kernel, by decide +kernel⟩, by decide +kernel, by decide⟩
set_option maxRecDepth 100000 in
theorem fd_J0_9 : xFd RJ0 9 21 0 RJ0 TJ0 4 := ⟨rfl, by decide, by decide, List.mem_filter.mpr ⟨List.mem_append_right _ (List.mem_of_getElem? (i := 1451) rfl), by rfl⟩, rfl, rfl, uw_J0⟩
set_option maxRecDepth 100000 in
theorem fd_J0_15 : xFd RJ0 15 21 1 RJ0 TJ0 4 := ⟨rfl, by decide, by decide, List.mem_filter.mpr ⟨List.mem_append_right _ (List.mem_of_getElem? (i := 1452) rfl), by rfl⟩, rfl, rfl, uw_J0⟩
set_option maxRecDepth 100000 in
theorem lk_X12_56 : xLk RX12 56 yX12_text cX12_text 4 (some (.object "java/lang/String")) 1 := ⟨List.mem_filter.mpr ⟨List.mem_append_right _ (List.mem_of_getElem? (i := 1464) rfl), by rfl⟩, in_X12, co_X12_text, ⟨by decide +kernel, by decide +kernel⟩, by decide +kernel, by decide⟩
set_option maxRecDepth 100000 in
theorem lk_L_197 : xLk RL 197 yL_loadText cL_loadText 3 (some .int) 2 := ⟨List.mem_filter.mpr ⟨List.mem_append_right _ (List.mem_of_getElem? (i := 1472) rfl), by rfl⟩, in_L, co_L_loadText, ⟨by decide +kernel, by decide +kernel⟩, by decide +kernel, by decide⟩
set_option maxRecDepth 100000 in
theorem lk_L_231 : xLk RL 231 yL_agrees cL_agrees 5 (some .boolean) 2 := ⟨List.mem_filter.mpr ⟨List.mem_append_right _ (List.mem_of_getElem? (i := 1475) rfl), by rfl⟩, in_L, co_L_agrees, ⟨by decide +kernel, by decide +kernel⟩, by decide +kernel, by decide⟩
set_option maxRecDepth 100000 in
theorem lk_L_201 : xLk RL 201 yX11_checksum cX11_checksum 5 (some .long) 0 := ⟨List.mem_filter.mpr ⟨List.mem_append_right _ (List.mem_of_getElem? (i := 1478) rfl), by rfl⟩, in_X11, co_X11_checksum, ⟨by decide +kernel, by decide +kernel⟩, by decide +kernel, by decide⟩
set_option maxRecDepth 100000 in
theorem lk_X11_262 : xLk RX11 262 yX11_state cX11_state 2 (some .int) 1 := ⟨List.mem_filter.mpr ⟨List.mem_append_right _ (List.mem_of_getElem? (i := 1483) rfl), by rfl⟩, in_X11, co_X11_state, ⟨by decide +kernel, by decide +kernel⟩, by decide +kernel, by decide⟩
set_option maxRecDepth 100000 in
theorem lk_X11_264 : xLk RX11 264 yX11_flow cX11_flow 3 (some .int) 2 := ⟨List.mem_filter.mpr ⟨List.mem_append_right _ (List.mem_of_getElem? (i := 1488) rfl), by rfl⟩, in_X11, co_X11_flow, ⟨by decide +kernel, by decide +kernel⟩, by decide +kernel, by decide⟩
set_option maxRecDepth 100000 in
theorem lk_X11_147 : xLk RX11 147 yX0_countOf cX0_countOf 4 (some .int) 1 := ⟨List.mem_filter.mpr ⟨List.mem_append_right _ (List.mem_of_getElem? (i := 1492) rfl), by rfl⟩, in_X0, co_X0_countOf, ⟨by decide +kernel, by decide +kernel⟩, by decide +kernel, by decide⟩
set_option maxRecDepth 100000 in
theorem lk_X11_150 : xLk RX11 150 yX0_sumOf cX0_sumOf 4 (some .int) 1 := ⟨List.mem_filter.mpr ⟨List.mem_append_right _ (List.mem_of_getElem? (i := 1496) rfl), by rfl⟩, in_X0, co_X0_sumOf, ⟨by decide +kernel, by decide +kernel⟩, by decide +kernel, by decide⟩
set_option maxRecDepth 100000 in
theorem lk_X11_153 : xLk RX11 153 yX5_deliveredSizeOf cX5_deliveredSizeOf 4 (some .int) 1 := ⟨List.mem_filter.mpr ⟨List.mem_append_right _ (List.mem_of_getElem? (i := 1497) rfl), by rfl⟩, in_X5, co_X5_deliveredSizeOf, ⟨by decide +kernel, by decide +kernel⟩, by decide +kernel, by decide⟩
set_option maxRecDepth 100000 in
theorem lk_X11_266 : xLk RX11 266 yX11_packet cX11_packet 3 (some .int) 2 := ⟨List.mem_filter.mpr ⟨List.mem_append_right _ (List.mem_of_getElem? (i := 1501) rfl), by rfl⟩, in_X11, co_X11_packet, ⟨by decide +kernel, by decide +kernel⟩, by decide +kernel, by decide⟩
set_option maxRecDepth 100000 in
theorem lk_X11_192 : xLk RX11 192 yX10_gateOf cX10_gateOf 4 (some .int) 1 := ⟨List.mem_filter.mpr ⟨List.mem_append_right _ (List.mem_of_getElem? (i := 1505) rfl), by rfl⟩, in_X10, co_X10_gateOf, ⟨by decide +kernel, by decide +kernel⟩, by decide +kernel, by decide⟩
set_option maxRecDepth 100000 in
theorem lk_X11_269 : xLk RX11 269 yX11_coupon cX11_coupon 3 (some .int) 2 := ⟨List.mem_filter.mpr ⟨List.mem_append_right _ (List.mem_of_getElem? (i := 1509) rfl), by rfl⟩, in_X11, co_X11_coupon, ⟨by decide +kernel, by decide +kernel⟩, by decide +kernel, by decide⟩
set_option maxRecDepth 100000 in
theorem lk_X11_272 : xLk RX11 272 yX11_tokens cX11_tokens 3 (some .int) 2 := ⟨List.mem_filter.mpr ⟨List.mem_append_right _ (List.mem_of_getElem? (i := 1513) rfl), by rfl⟩, in_X11, co_X11_tokens, ⟨by decide +kernel, by decide +kernel⟩, by decide +kernel, by decide⟩
set_option maxRecDepth 100000 in
theorem lk_X11_274 : xLk RX11 274 yX11_queue cX11_queue 3 (some .int) 2 := ⟨List.mem_filter.mpr ⟨List.mem_append_right _ (List.mem_of_getElem? (i := 1517) rfl), by rfl⟩, in_X11, co_X11_queue, ⟨by decide +kernel, by decide +kernel⟩, by decide +kernel, by decide⟩
set_option maxRecDepth 100000 in
theorem lk_L_205 : xLk RL 205 yX14_checksum cX14_checksum 11 (some .long) 0 := ⟨List.mem_filter.mpr ⟨List.mem_append_right _ (List.mem_of_getElem? (i := 1521) rfl), by rfl⟩, in_X14, co_X14_checksum, ⟨by decide +kernel, by decide +kernel⟩, by decide +kernel, by decide⟩
set_option maxRecDepth 100000 in
theorem lk_X14_129 : xLk RX14 129 yX14_told cX14_told 2 (some .int) 1 := ⟨List.mem_filter.mpr ⟨List.mem_append_right _ (List.mem_of_getElem? (i := 1526) rfl), by rfl⟩, in_X14, co_X14_told, ⟨by decide +kernel, by decide +kernel⟩, by decide +kernel, by decide⟩
set_option maxRecDepth 100000 in
theorem lk_X14_124 : xLk RX14 124 yX14_count cX14_count 7 (some .int) 1 := ⟨List.mem_filter.mpr ⟨List.mem_append_right _ (List.mem_of_getElem? (i := 1530) rfl), by rfl⟩, in_X14, co_X14_count, ⟨by decide +kernel, by decide +kernel⟩, by decide +kernel, by decide⟩
set_option maxRecDepth 100000 in
theorem lk_X14_132 : xLk RX14 132 yX14_flow cX14_flow 8 (some .int) 2 := ⟨List.mem_filter.mpr ⟨List.mem_append_right _ (List.mem_of_getElem? (i := 1531) rfl), by rfl⟩, in_X14, co_X14_flow, ⟨by decide +kernel, by decide +kernel⟩, by decide +kernel, by decide⟩
set_option maxRecDepth 100000 in
theorem lk_X14_135 : xLk RX14 135 yX14_packet cX14_packet 4 (some .int) 2 := ⟨List.mem_filter.mpr ⟨List.mem_append_right _ (List.mem_of_getElem? (i := 1535) rfl), by rfl⟩, in_X14, co_X14_packet, ⟨by decide +kernel, by decide +kernel⟩, by decide +kernel, by decide⟩
set_option maxRecDepth 100000 in
theorem lk_L_43 : xLk RL 43 yX11_state cX11_state 2 (some .int) 1 := ⟨List.mem_filter.mpr ⟨List.mem_append_right _ (List.mem_of_getElem? (i := 1542) rfl), by rfl⟩, in_X11, co_X11_state, ⟨by decide +kernel, by decide +kernel⟩, by decide +kernel, by decide⟩
set_option maxRecDepth 100000 in
theorem lk_L_208 : xLk RL 208 yX14_told cX14_told 2 (some .int) 1 := ⟨List.mem_filter.mpr ⟨List.mem_append_right _ (List.mem_of_getElem? (i := 1543) rfl), by rfl⟩, in_X14, co_X14_told, ⟨by decide +kernel, by decide +kernel⟩, by decide +kernel, by decide⟩
set_option maxRecDepth 100000 in
theorem lk_L_53 : xLk RL 53 yX11_flow cX11_flow 3 (some .int) 2 := ⟨List.mem_filter.mpr ⟨List.mem_append_right _ (List.mem_of_getElem? (i := 1547) rfl), by rfl⟩, in_X11, co_X11_flow, ⟨by decide +kernel, by decide +kernel⟩, by decide +kernel, by decide⟩
set_option maxRecDepth 100000 in
theorem lk_L_214 : xLk RL 214 yX14_flow cX14_flow 8 (some .int) 2 := ⟨List.mem_filter.mpr ⟨List.mem_append_right _ (List.mem_of_getElem? (i := 1548) rfl), by rfl⟩, in_X14, co_X14_flow, ⟨by decide +kernel, by decide +kernel⟩, by decide +kernel, by decide⟩
set_option maxRecDepth 100000 in
theorem lk_L_68 : xLk RL 68 yX11_packet cX11_packet 3 (some .int) 2 := ⟨List.mem_filter.mpr ⟨List.mem_append_right _ (List.mem_of_getElem? (i := 1552) rfl), by rfl⟩, in_X11, co_X11_packet, ⟨by decide +kernel, by decide +kernel⟩, by decide +kernel, by decide⟩
set_option maxRecDepth 100000 in
theorem lk_L_217 : xLk RL 217 yX14_packet cX14_packet 4 (some .int) 2 := ⟨List.mem_filter.mpr ⟨List.mem_append_right _ (List.mem_of_getElem? (i := 1553) rfl), by rfl⟩, in_X14, co_X14_packet, ⟨by decide +kernel, by decide +kernel⟩, by decide +kernel, by decide⟩
set_option maxRecDepth 100000 in
theorem lk_L_71 : xLk RL 71 yX11_coupon cX11_coupon 3 (some .int) 2 := ⟨List.mem_filter.mpr ⟨List.mem_append_right _ (List.mem_of_getElem? (i := 1557) rfl), by rfl⟩, in_X11, co_X11_coupon, ⟨by decide +kernel, by decide +kernel⟩, by decide +kernel, by decide⟩
set_option maxRecDepth 100000 in
theorem lk_L_62 : xLk RL 62 yX11_tokens cX11_tokens 3 (some .int) 2 := ⟨List.mem_filter.mpr ⟨List.mem_append_right _ (List.mem_of_getElem? (i := 1561) rfl), by rfl⟩, in_X11, co_X11_tokens, ⟨by decide +kernel, by decide +kernel⟩, by decide +kernel, by decide⟩
set_option maxRecDepth 100000 in
theorem lk_L_65 : xLk RL 65 yX11_queue cX11_queue 3 (some .int) 2 := ⟨List.mem_filter.mpr ⟨List.mem_append_right _ (List.mem_of_getElem? (i := 1565) rfl), by rfl⟩, in_X11, co_X11_queue, ⟨by decide +kernel, by decide +kernel⟩, by decide +kernel, by decide⟩
set_option maxRecDepth 100000 in
theorem lk_L_224 : xLk RL 224 yX14_queue cX14_queue 8 (some .int) 2 := ⟨List.mem_filter.mpr ⟨List.mem_append_right _ (List.mem_of_getElem? (i := 1566) rfl), by rfl⟩, in_X14, co_X14_queue, ⟨by decide +kernel, by decide +kernel⟩, by decide +kernel, by decide⟩
set_option maxRecDepth 100000 in
theorem lk_L_46 : xLk RL 46 yX11_gate cX11_gate 3 (some .int) 2 := ⟨List.mem_filter.mpr ⟨List.mem_append_right _ (List.mem_of_getElem? (i := 1570) rfl), by rfl⟩, in_X11, co_X11_gate, ⟨by decide +kernel, by decide +kernel⟩, by decide +kernel, by decide⟩
set_option maxRecDepth 100000 in
theorem jw_obj_im : Cond.instanceMethod objectInit ∈ xT := List.mem_filter.mpr ⟨List.mem_append_right _ (List.mem_of_getElem? (i := 41) rfl), by rfl⟩
set_option maxRecDepth 100000 in
theorem jw_obj_co : Cond.code objectInit ⟨#[0xb1]⟩ 1 none ∈ xT := List.mem_filter.mpr ⟨List.mem_append_right _ (List.mem_of_getElem? (i := 42) rfl), by rfl⟩
set_option maxRecDepth 100000 in
theorem jw_cp_nat : Cond.native arraycopyName ∈ xT := List.mem_filter.mpr ⟨List.mem_append_right _ (List.mem_of_getElem? (i := 460) rfl), by rfl⟩
set_option maxRecDepth 100000 in
theorem jw_cp_st : Cond.static arraycopyName ∈ xT := List.mem_filter.mpr ⟨List.mem_append_right _ (List.mem_of_getElem? (i := 459) rfl), by rfl⟩
set_option maxRecDepth 100000 in
theorem jw_cp_in : Cond.initialized "java/lang/System" ∈ xT := List.mem_filter.mpr ⟨List.mem_append_right _ (List.mem_of_getElem? (i := 20) rfl), by rfl⟩
set_option maxRecDepth 100000 in
theorem jw_ma_in : Cond.initialized "java/lang/Math" ∈ xT := List.mem_filter.mpr ⟨List.mem_append_right _ (List.mem_of_getElem? (i := 21) rfl), by rfl⟩
set_option maxRecDepth 100000 in
theorem jw_max_st : Cond.static Lib.Math.max.name ∈ xT := List.mem_filter.mpr ⟨List.mem_append_right _ (List.mem_of_getElem? (i := 618) rfl), by rfl⟩
set_option maxRecDepth 100000 in
theorem jw_max_co : Cond.code Lib.Math.max.name Lib.Math.max.code 2 (some .int) ∈ xT := List.mem_filter.mpr ⟨List.mem_append_right _ (List.mem_of_getElem? (i := 619) rfl), by rfl⟩
set_option maxRecDepth 100000 in
theorem jw_min_st : Cond.static Lib.Math.min.name ∈ xT := List.mem_filter.mpr ⟨List.mem_append_right _ (List.mem_of_getElem? (i := 585) rfl), by rfl⟩
set_option maxRecDepth 100000 in
theorem jw_min_co : Cond.code Lib.Math.min.name Lib.Math.min.code 2 (some .int) ∈ xT := List.mem_filter.mpr ⟨List.mem_append_right _ (List.mem_of_getElem? (i := 586) rfl), by rfl⟩
set_option maxRecDepth 100000 in
theorem jw_maxL_st : Cond.static Lib.MathLoose.max_long.x ∈ xT := List.mem_filter.mpr ⟨List.mem_append_right _ (List.mem_of_getElem? (i := 631) rfl), by rfl⟩
set_option maxRecDepth 100000 in
theorem jw_maxL_co : Cond.code Lib.MathLoose.max_long.x Lib.MathLoose.max_long.code 4 (some .long) ∈ xT := List.mem_filter.mpr ⟨List.mem_append_right _ (List.mem_of_getElem? (i := 632) rfl), by rfl⟩
set_option maxRecDepth 100000 in
theorem jw_minL_st : Cond.static Lib.MathLoose.min_long.x ∈ xT := List.mem_filter.mpr ⟨List.mem_append_right _ (List.mem_of_getElem? (i := 628) rfl), by rfl⟩
set_option maxRecDepth 100000 in
theorem jw_minL_co : Cond.code Lib.MathLoose.min_long.x Lib.MathLoose.min_long.code 4 (some .long) ∈ xT := List.mem_filter.mpr ⟨List.mem_append_right _ (List.mem_of_getElem? (i := 629) rfl), by rfl⟩
