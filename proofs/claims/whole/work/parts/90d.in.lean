set_option maxRecDepth 20000 in
theorem wi_r37 : ∀ w ∈ wsL_law_r37, w ∈ lw_tbl := fun w h => (goodIn_p wsL_law_r37 [1135, 826, 1139, 831, 1143] (by decide +kernel) (by decide +kernel) w h).1
set_option maxRecDepth 20000 in
theorem inX0 : ∀ w ∈ wsX00, w ∈ lw_tbl := fun w h => (goodIn_p wsX00 [] (by decide +kernel) (by decide +kernel) w h).1
set_option maxRecDepth 20000 in
theorem inX1 : ∀ w ∈ wsX10, w ∈ lw_tbl := fun w h => (goodIn_p wsX10 [] (by decide +kernel) (by decide +kernel) w h).1
set_option maxRecDepth 20000 in
theorem inX2 : ∀ w ∈ wsX20, w ∈ lw_tbl := fun w h => (goodIn_p wsX20 [] (by decide +kernel) (by decide +kernel) w h).1
set_option maxRecDepth 20000 in
theorem inX3 : ∀ w ∈ wsX30, w ∈ lw_tbl := fun w h => (goodIn_p wsX30 [] (by decide +kernel) (by decide +kernel) w h).1
set_option maxRecDepth 20000 in
theorem inX4 : ∀ w ∈ wsX40, w ∈ lw_tbl := fun w h => (goodIn_p wsX40 [] (by decide +kernel) (by decide +kernel) w h).1
set_option maxRecDepth 20000 in
theorem inX5 : ∀ w ∈ wsX50, w ∈ lw_tbl := fun w h => (goodIn_p wsX50 [] (by decide +kernel) (by decide +kernel) w h).1
set_option maxRecDepth 20000 in
theorem inX6 : ∀ w ∈ wsX60, w ∈ lw_tbl := fun w h => (goodIn_p wsX60 [] (by decide +kernel) (by decide +kernel) w h).1
set_option maxRecDepth 20000 in
theorem inX7 : ∀ w ∈ wsX70, w ∈ lw_tbl := fun w h => (goodIn_p wsX70 [] (by decide +kernel) (by decide +kernel) w h).1
set_option maxRecDepth 20000 in
theorem inX8 : ∀ w ∈ wsX80, w ∈ lw_tbl := fun w h => (goodIn_p wsX80 [] (by decide +kernel) (by decide +kernel) w h).1
set_option maxRecDepth 20000 in
theorem inX9 : ∀ w ∈ wsX90, w ∈ lw_tbl := fun w h => (goodIn_p wsX90 [] (by decide +kernel) (by decide +kernel) w h).1
theorem wi_app {a b : List Cond} (ha : ∀ w ∈ a, w ∈ lw_tbl) (hb : ∀ w ∈ b, w ∈ lw_tbl) : ∀ w ∈ a ++ b, w ∈ lw_tbl := fun w h => (List.mem_append.mp h).elim (ha w) (hb w)
theorem wsL_law_in : ∀ w ∈ wsL_law, w ∈ lw_tbl := (wi_app (wi_app (wi_app (wi_app (wi_app (wi_app (wi_app (wi_app (wi_app (wi_app (wi_app (wi_app wi_r1 (wi_app wi_r2 (wi_app wi_r3 (wi_app wi_r4 (wi_app wi_r5 (wi_app wi_r6 (wi_app wi_r7 (wi_app wi_r8 (wi_app wi_r9 (wi_app wi_r10 (wi_app wi_r11 (wi_app wi_r12 (wi_app wi_r13 (wi_app wi_r14 (wi_app wi_r15 (wi_app wi_r16 (wi_app wi_r17 (wi_app wi_r18 (wi_app wi_r19 (wi_app wi_r20 (wi_app wi_r21 (wi_app wi_r22 (wi_app wi_r23 (wi_app wi_r24 (wi_app wi_r25 (wi_app wi_r26 (wi_app wi_r27 (wi_app wi_r28 (wi_app wi_r29 (wi_app wi_r30 (wi_app wi_r31 (wi_app wi_r32 (wi_app wi_r33 (wi_app wi_r34 (wi_app wi_r35 (wi_app wi_r36 wi_r37)))))))))))))))))))))))))))))))))))) inX8) inX9) inX5) inX7) inX2) inX0) inX4) inX1) inX3) inX6) (fun _ h => absurd h List.not_mem_nil))
