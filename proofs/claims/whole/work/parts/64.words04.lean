set_option maxRecDepth 20000 in
theorem gl_wsX10 : GoodIn lw_tbl wsX10 := goodIn_of _ (by decide +kernel)
set_option maxRecDepth 20000 in
theorem gl_wsX00 : GoodIn lw_tbl wsX00 := goodIn_of _ (by decide +kernel)
set_option maxRecDepth 20000 in
theorem gl_wsX20 : GoodIn lw_tbl wsX20 := goodIn_of _ (by decide +kernel)
set_option maxRecDepth 20000 in
theorem gl_wsX30 : GoodIn lw_tbl wsX30 := goodIn_of _ (by decide +kernel)
set_option maxRecDepth 20000 in
theorem gl_wsX60 : GoodIn lw_tbl wsX60 := goodIn_of _ (by decide +kernel)
set_option maxRecDepth 20000 in
theorem gl_wsX50 : GoodIn lw_tbl wsX50 := goodIn_of _ (by decide +kernel)
set_option maxRecDepth 20000 in
theorem gl_law : GoodIn lw_tbl wsL_law := goodIn_app (goodIn_app (goodIn_app (goodIn_app (goodIn_app (goodIn_app (goodIn_app (goodIn_app (goodIn_app (goodIn_app (goodIn_app (goodIn_app (goodIn_app gl_r1 (goodIn_app gl_r2 (goodIn_app gl_r3 (goodIn_app gl_r4 (goodIn_app gl_r5 (goodIn_app gl_r6 (goodIn_app gl_r7 (goodIn_app gl_r8 (goodIn_app gl_r9 (goodIn_app gl_r10 (goodIn_app gl_r11 (goodIn_app gl_r12 (goodIn_app gl_r13 (goodIn_app gl_r14 (goodIn_app gl_r15 (goodIn_app gl_r16 (goodIn_app gl_r17 (goodIn_app gl_r18 (goodIn_app gl_r19 (goodIn_app gl_r20 (goodIn_app gl_r21 (goodIn_app gl_r22 (goodIn_app gl_r23 (goodIn_app gl_r24 (goodIn_app gl_r25 (goodIn_app gl_r26 (goodIn_app gl_r27 (goodIn_app gl_r28 (goodIn_app gl_r29 (goodIn_app gl_r30 (goodIn_app gl_r31 (goodIn_app gl_r32 (goodIn_app gl_r33 (goodIn_app gl_r34 (goodIn_app gl_r35 (goodIn_app gl_r36 (goodIn_app gl_r37 (goodIn_app gl_r38 (goodIn_app gl_r39 (goodIn_app gl_r40 (goodIn_app gl_r41 (goodIn_app gl_r42 (gl_r43))))))))))))))))))))))))))))))))))))))))))) gl_wsX90) gl_wsX100) gl_wsX80) gl_wsX40) gl_wsX70) gl_wsX10) gl_wsX00) gl_wsX20) gl_wsX30) gl_wsX60) gl_wsX50) (fun _ h => absurd h List.not_mem_nil)
theorem gl_in : ∀ w ∈ wsL_law, w ∈ lw_tbl := fun w h => (gl_law w h).1

