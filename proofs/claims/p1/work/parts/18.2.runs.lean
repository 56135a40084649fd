/-! THE RUNS OF THE CASES: four -/
set_option maxRecDepth 1000000 in
theorem rm_r_e3 : rm_chk (rm_runL 4 rm_cs_e3.2) = true := by decide +kernel
set_option maxRecDepth 1000000 in
theorem rm_r_e4 : rm_chk (rm_runL 4 rm_cs_e4.2) = true := by decide +kernel
set_option maxRecDepth 1000000 in
theorem rm_r_f_l : rm_chk (rm_runL 4 rm_cs_f_l.2) = true := by decide +kernel
set_option maxRecDepth 1000000 in
theorem rm_r_f_h : rm_chk (rm_runL 4 rm_cs_f_h.2) = true := by decide +kernel
set_option maxRecDepth 1000000 in
theorem rm_r_f_zl : rm_chk (rm_runL 4 rm_cs_f_zl.2) = true := by decide +kernel
set_option maxRecDepth 1000000 in
theorem rm_r_f_zh : rm_chk (rm_runL 4 rm_cs_f_zh.2) = true := by decide +kernel
set_option maxRecDepth 1000000 in
theorem rm_r_f_zzl : rm_chk (rm_runL 4 rm_cs_f_zzl.2) = true := by decide +kernel
set_option maxRecDepth 1000000 in
theorem rm_r_f_zzh : rm_chk (rm_runL 4 rm_cs_f_zzh.2) = true := by decide +kernel
set_option maxRecDepth 1000000 in
theorem rm_r_f_zzzl : rm_chk (rm_runL 4 rm_cs_f_zzzl.2) = true := by decide +kernel
set_option maxRecDepth 1000000 in
theorem rm_r_f_zzzh : rm_chk (rm_runL 4 rm_cs_f_zzzh.2) = true := by decide +kernel
set_option maxRecDepth 1000000 in
theorem rm_r_f_zzzz : rm_chk (rm_runL 4 rm_cs_f_zzzz.2) = true := by decide +kernel
set_option maxRecDepth 1000000 in
theorem rm_r_f_zzzg : rm_chk (rm_runL 4 rm_cs_f_zzzg.2) = true := by decide +kernel
set_option maxRecDepth 1000000 in
theorem rm_r_f_zzgl : rm_chk (rm_runL 4 rm_cs_f_zzgl.2) = true := by decide +kernel
set_option maxRecDepth 1000000 in
theorem rm_r_f_zzgh : rm_chk (rm_runL 4 rm_cs_f_zzgh.2) = true := by decide +kernel
set_option maxRecDepth 1000000 in
theorem rm_r_f_zzgz : rm_chk (rm_runL 4 rm_cs_f_zzgz.2) = true := by decide +kernel
set_option maxRecDepth 1000000 in
theorem rm_r_f_zzgg : rm_chk (rm_runL 4 rm_cs_f_zzgg.2) = true := by decide +kernel
set_option maxRecDepth 1000000 in
theorem rm_r_f_zgl : rm_chk (rm_runL 4 rm_cs_f_zgl.2) = true := by decide +kernel
set_option maxRecDepth 1000000 in
theorem rm_r_f_zgh : rm_chk (rm_runL 4 rm_cs_f_zgh.2) = true := by decide +kernel
set_option maxRecDepth 1000000 in
theorem rm_r_f_zgzl : rm_chk (rm_runL 4 rm_cs_f_zgzl.2) = true := by decide +kernel
set_option maxRecDepth 1000000 in
theorem rm_r_f_zgzh : rm_chk (rm_runL 4 rm_cs_f_zgzh.2) = true := by decide +kernel
set_option maxRecDepth 1000000 in
theorem rm_r_f_zgzz : rm_chk (rm_runL 4 rm_cs_f_zgzz.2) = true := by decide +kernel
set_option maxRecDepth 1000000 in
theorem rm_r_f_zgzg : rm_chk (rm_runL 4 rm_cs_f_zgzg.2) = true := by decide +kernel
set_option maxRecDepth 1000000 in
theorem rm_r_f_zggl : rm_chk (rm_runL 4 rm_cs_f_zggl.2) = true := by decide +kernel
set_option maxRecDepth 1000000 in
theorem rm_r_f_zggh : rm_chk (rm_runL 4 rm_cs_f_zggh.2) = true := by decide +kernel
set_option maxRecDepth 1000000 in
theorem rm_r_f_zggz : rm_chk (rm_runL 4 rm_cs_f_zggz.2) = true := by decide +kernel
set_option maxRecDepth 1000000 in
theorem rm_r_f_zggg : rm_chk (rm_runL 4 rm_cs_f_zggg.2) = true := by decide +kernel
set_option maxRecDepth 1000000 in
theorem rm_r_f_gl : rm_chk (rm_runL 4 rm_cs_f_gl.2) = true := by decide +kernel
set_option maxRecDepth 1000000 in
theorem rm_r_f_gh : rm_chk (rm_runL 4 rm_cs_f_gh.2) = true := by decide +kernel
set_option maxRecDepth 1000000 in
theorem rm_r_f_gzl : rm_chk (rm_runL 4 rm_cs_f_gzl.2) = true := by decide +kernel
set_option maxRecDepth 1000000 in
theorem rm_r_f_gzh : rm_chk (rm_runL 4 rm_cs_f_gzh.2) = true := by decide +kernel
set_option maxRecDepth 1000000 in
theorem rm_r_f_gzzl : rm_chk (rm_runL 4 rm_cs_f_gzzl.2) = true := by decide +kernel
set_option maxRecDepth 1000000 in
theorem rm_r_f_gzzh : rm_chk (rm_runL 4 rm_cs_f_gzzh.2) = true := by decide +kernel
set_option maxRecDepth 1000000 in
theorem rm_r_f_gzzz : rm_chk (rm_runL 4 rm_cs_f_gzzz.2) = true := by decide +kernel
set_option maxRecDepth 1000000 in
theorem rm_r_f_gzzg : rm_chk (rm_runL 4 rm_cs_f_gzzg.2) = true := by decide +kernel
set_option maxRecDepth 1000000 in
theorem rm_r_f_gzgl : rm_chk (rm_runL 4 rm_cs_f_gzgl.2) = true := by decide +kernel
set_option maxRecDepth 1000000 in
theorem rm_r_f_gzgh : rm_chk (rm_runL 4 rm_cs_f_gzgh.2) = true := by decide +kernel
set_option maxRecDepth 1000000 in
theorem rm_r_f_gzgz : rm_chk (rm_runL 4 rm_cs_f_gzgz.2) = true := by decide +kernel
set_option maxRecDepth 1000000 in
theorem rm_r_f_gzgg : rm_chk (rm_runL 4 rm_cs_f_gzgg.2) = true := by decide +kernel
set_option maxRecDepth 1000000 in
theorem rm_r_f_ggl : rm_chk (rm_runL 4 rm_cs_f_ggl.2) = true := by decide +kernel
set_option maxRecDepth 1000000 in
theorem rm_r_f_ggh : rm_chk (rm_runL 4 rm_cs_f_ggh.2) = true := by decide +kernel
set_option maxRecDepth 1000000 in
theorem rm_r_f_ggzl : rm_chk (rm_runL 4 rm_cs_f_ggzl.2) = true := by decide +kernel
set_option maxRecDepth 1000000 in
theorem rm_r_f_ggzh : rm_chk (rm_runL 4 rm_cs_f_ggzh.2) = true := by decide +kernel
set_option maxRecDepth 1000000 in
theorem rm_r_f_ggzz : rm_chk (rm_runL 4 rm_cs_f_ggzz.2) = true := by decide +kernel
set_option maxRecDepth 1000000 in
theorem rm_r_f_ggzg : rm_chk (rm_runL 4 rm_cs_f_ggzg.2) = true := by decide +kernel
set_option maxRecDepth 1000000 in
theorem rm_r_f_gggl : rm_chk (rm_runL 4 rm_cs_f_gggl.2) = true := by decide +kernel
set_option maxRecDepth 1000000 in
theorem rm_r_f_gggh : rm_chk (rm_runL 4 rm_cs_f_gggh.2) = true := by decide +kernel
set_option maxRecDepth 1000000 in
theorem rm_r_f_gggz : rm_chk (rm_runL 4 rm_cs_f_gggz.2) = true := by decide +kernel
set_option maxRecDepth 1000000 in
theorem rm_r_f_gggg : rm_chk (rm_runL 4 rm_cs_f_gggg.2) = true := by decide +kernel
