/-! the class's parse: what it leaves: what it leaves. -/
abbrev fpI : List Nat := [213, 214, 215, 216, 217, 218, 219, 232, 233, 234, 235, 236, 237, 238, 239, 240, 241, 242, 243, 248, 249, 250, 251, 252, 253, 254, 255, 256, 257, 258, 259, 260, 264, 265, 266, 267, 268, 269, 270, 271, 272, 273, 274, 275, 309, 311, 312, 313, 314, 315, 317, 318, 319, 320, 321, 322, 323, 324, 326, 327, 328, 329, 330, 331, 332, 333, 334, 335, 337, 600, 601, 602, 603, 604]
abbrev fpJ : List Nat := [325, 336]
section FR_fp
variable {N : Nat} {c : ms}
theorem fp_fn_Tokens_kindAt_Tk {v1 : Int32} {s : ms} (h : Eb fpI fpJ c s) : KF fpI fpJ c (fn_Tokens_kindAt_Tk N v1 s) := by
  unfold fn_Tokens_kindAt_Tk
  repeat' (first | with_reducible exact KF.none | with_reducible refine KF.ite ?_ ?_ | with_reducible refine KF.bind ?_ (fun _ _ => ?_) | with_reducible refine KF.some ?_ | refine Eb.upI ?_ (by decide) | refine Eb.upJ ?_ (by decide) | assumption)
theorem fp_fn_Tokens_extraAt_Tk {v1 : Int32} {s : ms} (h : Eb fpI fpJ c s) : KF fpI fpJ c (fn_Tokens_extraAt_Tk N v1 s) := by
  unfold fn_Tokens_extraAt_Tk
  repeat' (first | with_reducible exact KF.none | with_reducible refine KF.ite ?_ ?_ | with_reducible refine KF.bind ?_ (fun _ _ => ?_) | with_reducible refine KF.some ?_ | refine Eb.upI ?_ (by decide) | refine Eb.upJ ?_ (by decide) | assumption)
theorem fp_fn_Tokens_take_Tk {s : ms} (h : Eb fpI fpJ c s) : KF fpI fpJ c (fn_Tokens_take_Tk N s) := by
  unfold fn_Tokens_take_Tk
  repeat' (first | with_reducible exact KF.none | with_reducible refine KF.ite ?_ ?_ | with_reducible refine KF.bind ?_ (fun _ _ => ?_) | with_reducible refine KF.some ?_ | with_reducible refine fp_fn_Tokens_extraAt_Tk ?_ | with_reducible refine fp_fn_Tokens_kindAt_Tk ?_ | refine Eb.upI ?_ (by decide) | refine Eb.upJ ?_ (by decide) | assumption)
theorem fp_fn_Tokens_start_Tk {s : ms} (h : Eb fpI fpJ c s) : KF fpI fpJ c (fn_Tokens_start_Tk N s) := by
  unfold fn_Tokens_start_Tk
  repeat' (first | with_reducible exact KF.none | with_reducible refine KF.ite ?_ ?_ | with_reducible refine KF.bind ?_ (fun _ _ => ?_) | with_reducible refine KF.some ?_ | with_reducible refine fp_fn_Tokens_take_Tk ?_ | refine Eb.upI ?_ (by decide) | refine Eb.upJ ?_ (by decide) | assumption)
theorem fp_fn_Tokens_misfit_Tk {s : ms} (h : Eb fpI fpJ c s) : KF fpI fpJ c (fn_Tokens_misfit_Tk N s) := by
  unfold fn_Tokens_misfit_Tk
  repeat' (first | with_reducible exact KF.none | with_reducible refine KF.ite ?_ ?_ | with_reducible refine KF.bind ?_ (fun _ _ => ?_) | with_reducible refine KF.some ?_ | refine Eb.upI ?_ (by decide) | refine Eb.upJ ?_ (by decide) | assumption)
theorem fp_fn_Tokens_stop_Tk {v1 : Int32} {s : ms} (h : Eb fpI fpJ c s) : KF fpI fpJ c (fn_Tokens_stop_Tk N v1 s) := by
  unfold fn_Tokens_stop_Tk
  repeat' (first | with_reducible exact KF.none | with_reducible refine KF.ite ?_ ?_ | with_reducible refine KF.bind ?_ (fun _ _ => ?_) | with_reducible refine KF.some ?_ | refine Eb.upI ?_ (by decide) | refine Eb.upJ ?_ (by decide) | assumption)
theorem fp_fn_Tokens_need_Tk {v1 : Int32} {s : ms} (h : Eb fpI fpJ c s) : KF fpI fpJ c (fn_Tokens_need_Tk N v1 s) := by
  unfold fn_Tokens_need_Tk
  repeat' (first | with_reducible exact KF.none | with_reducible refine KF.ite ?_ ?_ | with_reducible refine KF.bind ?_ (fun _ _ => ?_) | with_reducible refine KF.some ?_ | with_reducible refine fp_fn_Tokens_misfit_Tk ?_ | with_reducible refine fp_fn_Tokens_stop_Tk ?_ | with_reducible refine fp_fn_Tokens_take_Tk ?_ | refine Eb.upI ?_ (by decide) | refine Eb.upJ ?_ (by decide) | assumption)
theorem fp_fn_Tokens_due_Tk {v1 : Int32} {s : ms} (h : Eb fpI fpJ c s) : KF fpI fpJ c (fn_Tokens_due_Tk N v1 s) := by
  unfold fn_Tokens_due_Tk
  repeat' (first | with_reducible exact KF.none | with_reducible refine KF.ite ?_ ?_ | with_reducible refine KF.bind ?_ (fun _ _ => ?_) | with_reducible refine KF.some ?_ | with_reducible refine fp_fn_Tokens_misfit_Tk ?_ | with_reducible refine fp_fn_Tokens_stop_Tk ?_ | refine Eb.upI ?_ (by decide) | refine Eb.upJ ?_ (by decide) | assumption)
theorem fp_fn_Checker_isOff_Ch {s : ms} (h : Eb fpI fpJ c s) : KF fpI fpJ c (fn_Checker_isOff_Ch N s) := by
  unfold fn_Checker_isOff_Ch
  repeat' (first | with_reducible exact KF.none | with_reducible refine KF.ite ?_ ?_ | with_reducible refine KF.bind ?_ (fun _ _ => ?_) | with_reducible refine KF.some ?_ | refine Eb.upI ?_ (by decide) | refine Eb.upJ ?_ (by decide) | assumption)
theorem fp_fn_Checker_moduleOf_Ch {v1 : Int32} {s : ms} (h : Eb fpI fpJ c s) : KF fpI fpJ c (fn_Checker_moduleOf_Ch N v1 s) := by
  unfold fn_Checker_moduleOf_Ch
  repeat' (first | with_reducible exact KF.none | with_reducible refine KF.ite ?_ ?_ | with_reducible refine KF.bind ?_ (fun _ _ => ?_) | with_reducible refine KF.some ?_ | refine Eb.upI ?_ (by decide) | refine Eb.upJ ?_ (by decide) | assumption)
theorem fp_bk_Checker_moduleBegins_Ch_33 {s : ms} (h : Eb fpI fpJ c s) : KF fpI fpJ c (bk_Checker_moduleBegins_Ch_33 N s) := by
  unfold bk_Checker_moduleBegins_Ch_33
  repeat' (first | with_reducible exact KF.none | with_reducible refine KF.ite ?_ ?_ | with_reducible refine KF.bind ?_ (fun _ _ => ?_) | with_reducible refine KF.some ?_ | refine Eb.upI ?_ (by decide) | refine Eb.upJ ?_ (by decide) | assumption)
theorem fp_fn_Checker_moduleBegins_Ch {v1 : Int32} {s : ms} (h : Eb fpI fpJ c s) : KF fpI fpJ c (fn_Checker_moduleBegins_Ch N v1 s) := by
  unfold fn_Checker_moduleBegins_Ch
  repeat' (first | with_reducible exact KF.none | with_reducible refine KF.ite ?_ ?_ | with_reducible refine KF.bind ?_ (fun _ _ => ?_) | with_reducible refine KF.some ?_ | with_reducible refine fp_bk_Checker_moduleBegins_Ch_33 ?_ | refine Eb.upI ?_ (by decide) | refine Eb.upJ ?_ (by decide) | assumption)
theorem fp_fn_Design_addModule_Ds {v1 : Int32} {s : ms} (h : Eb fpI fpJ c s) : KF fpI fpJ c (fn_Design_addModule_Ds N v1 s) := by
  unfold fn_Design_addModule_Ds
  repeat' (first | with_reducible exact KF.none | with_reducible refine KF.ite ?_ ?_ | with_reducible refine KF.bind ?_ (fun _ _ => ?_) | with_reducible refine KF.some ?_ | refine Eb.upI ?_ (by decide) | refine Eb.upJ ?_ (by decide) | assumption)
theorem fp_fn_Checker_refuse_Ch {v1 : Int32} {v2 : Int32} {s : ms} (h : Eb fpI fpJ c s) : KF fpI fpJ c (fn_Checker_refuse_Ch N v1 v2 s) := by
  unfold fn_Checker_refuse_Ch
  repeat' (first | with_reducible exact KF.none | with_reducible refine KF.ite ?_ ?_ | with_reducible refine KF.bind ?_ (fun _ _ => ?_) | with_reducible refine KF.some ?_ | refine Eb.upI ?_ (by decide) | refine Eb.upJ ?_ (by decide) | assumption)
theorem fp_fn_Meaning_module_Me {v1 : Int32} {v2 : Int32} {s : ms} (h : Eb fpI fpJ c s) : KF fpI fpJ c (fn_Meaning_module_Me N v1 v2 s) := by
  unfold fn_Meaning_module_Me
  repeat' (first | with_reducible exact KF.none | with_reducible refine KF.ite ?_ ?_ | with_reducible refine KF.bind ?_ (fun _ _ => ?_) | with_reducible refine KF.some ?_ | with_reducible refine fp_fn_Checker_isOff_Ch ?_ | with_reducible refine fp_fn_Checker_moduleBegins_Ch ?_ | with_reducible refine fp_fn_Checker_moduleOf_Ch ?_ | with_reducible refine fp_fn_Checker_refuse_Ch ?_ | with_reducible refine fp_fn_Design_addModule_Ds ?_ | refine Eb.upI ?_ (by decide) | refine Eb.upJ ?_ (by decide) | assumption)
theorem fp_fn_Tokens_open_Tk {v1 : Int32} {s : ms} (h : Eb fpI fpJ c s) : KF fpI fpJ c (fn_Tokens_open_Tk N v1 s) := by
  unfold fn_Tokens_open_Tk
  repeat' (first | with_reducible exact KF.none | with_reducible refine KF.ite ?_ ?_ | with_reducible refine KF.bind ?_ (fun _ _ => ?_) | with_reducible refine KF.some ?_ | with_reducible refine fp_fn_Tokens_misfit_Tk ?_ | with_reducible refine fp_fn_Tokens_stop_Tk ?_ | with_reducible refine fp_fn_Tokens_take_Tk ?_ | refine Eb.upI ?_ (by decide) | refine Eb.upJ ?_ (by decide) | assumption)
theorem fp_bk_Tokens_shut_Tk_23 {s : ms} (h : Eb fpI fpJ c s) : KF fpI fpJ c (bk_Tokens_shut_Tk_23 N s) := by
  unfold bk_Tokens_shut_Tk_23
  repeat' (first | with_reducible exact KF.none | with_reducible refine KF.ite ?_ ?_ | with_reducible refine KF.bind ?_ (fun _ _ => ?_) | with_reducible refine KF.some ?_ | refine Eb.upI ?_ (by decide) | refine Eb.upJ ?_ (by decide) | assumption)
theorem fp_fn_Tokens_shut_Tk {v1 : Int32} {s : ms} (h : Eb fpI fpJ c s) : KF fpI fpJ c (fn_Tokens_shut_Tk N v1 s) := by
  unfold fn_Tokens_shut_Tk
  repeat' (first | with_reducible exact KF.none | with_reducible refine KF.ite ?_ ?_ | with_reducible refine KF.bind ?_ (fun _ _ => ?_) | with_reducible refine KF.some ?_ | with_reducible refine fp_bk_Tokens_shut_Tk_23 ?_ | with_reducible refine fp_fn_Tokens_misfit_Tk ?_ | with_reducible refine fp_fn_Tokens_stop_Tk ?_ | with_reducible refine fp_fn_Tokens_take_Tk ?_ | refine Eb.upI ?_ (by decide) | refine Eb.upJ ?_ (by decide) | assumption)
theorem fp_bk_Meaning_range_Me_35 {x2 : Int32} {s : ms} (h : Eb fpI fpJ c s) : KF fpI fpJ c (bk_Meaning_range_Me_35 N x2 s) := by
  unfold bk_Meaning_range_Me_35
  repeat' (first | with_reducible exact KF.none | with_reducible refine KF.ite ?_ ?_ | with_reducible refine KF.bind ?_ (fun _ _ => ?_) | with_reducible refine KF.some ?_ | refine Eb.upI ?_ (by decide) | refine Eb.upJ ?_ (by decide) | assumption)
theorem fp_bk_Meaning_range_Me_25 {x1 : Int32} {x2 : Int32} {s : ms} (h : Eb fpI fpJ c s) : KF fpI fpJ c (bk_Meaning_range_Me_25 N x1 x2 s) := by
  unfold bk_Meaning_range_Me_25
  repeat' (first | with_reducible exact KF.none | with_reducible refine KF.ite ?_ ?_ | with_reducible refine KF.bind ?_ (fun _ _ => ?_) | with_reducible refine KF.some ?_ | with_reducible refine fp_bk_Meaning_range_Me_35 ?_ | with_reducible refine fp_fn_Checker_refuse_Ch ?_ | refine Eb.upI ?_ (by decide) | refine Eb.upJ ?_ (by decide) | assumption)
theorem fp_fn_Meaning_range_Me {v1 : Int32} {v2 : Int32} {v3 : Int32} {s : ms} (h : Eb fpI fpJ c s) : KF fpI fpJ c (fn_Meaning_range_Me N v1 v2 v3 s) := by
  unfold fn_Meaning_range_Me
  repeat' (first | with_reducible exact KF.none | with_reducible refine KF.ite ?_ ?_ | with_reducible refine KF.bind ?_ (fun _ _ => ?_) | with_reducible refine KF.some ?_ | with_reducible refine fp_bk_Meaning_range_Me_25 ?_ | with_reducible refine fp_bk_Meaning_range_Me_35 ?_ | with_reducible refine fp_fn_Checker_isOff_Ch ?_ | refine Eb.upI ?_ (by decide) | refine Eb.upJ ?_ (by decide) | assumption)
theorem fp_fn_Checker_meantBy_Ch {v1 : Int32} {s : ms} (h : Eb fpI fpJ c s) : KF fpI fpJ c (fn_Checker_meantBy_Ch N v1 s) := by
  unfold fn_Checker_meantBy_Ch
  repeat' (first | with_reducible exact KF.none | with_reducible refine KF.ite ?_ ?_ | with_reducible refine KF.bind ?_ (fun _ _ => ?_) | with_reducible refine KF.some ?_ | refine Eb.upI ?_ (by decide) | refine Eb.upJ ?_ (by decide) | assumption)
theorem fp_fn_Checker_mean_Ch {v1 : Int32} {v2 : Int32} {s : ms} (h : Eb fpI fpJ c s) : KF fpI fpJ c (fn_Checker_mean_Ch N v1 v2 s) := by
  unfold fn_Checker_mean_Ch
  repeat' (first | with_reducible exact KF.none | with_reducible refine KF.ite ?_ ?_ | with_reducible refine KF.bind ?_ (fun _ _ => ?_) | with_reducible refine KF.some ?_ | refine Eb.upI ?_ (by decide) | refine Eb.upJ ?_ (by decide) | assumption)
theorem fp_fn_Parts_addDecl_Ps {v1 : Int32} {v2 : Int32} {v3 : Int32} {s : ms} (h : Eb fpI fpJ c s) : KF fpI fpJ c (fn_Parts_addDecl_Ps N v1 v2 v3 s) := by
  unfold fn_Parts_addDecl_Ps
  repeat' (first | with_reducible exact KF.none | with_reducible refine KF.ite ?_ ?_ | with_reducible refine KF.bind ?_ (fun _ _ => ?_) | with_reducible refine KF.some ?_ | refine Eb.upI ?_ (by decide) | refine Eb.upJ ?_ (by decide) | assumption)
theorem fp_fn_Meaning_declare_Me {v1 : Int32} {v2 : Int32} {v3 : Int32} {s : ms} (h : Eb fpI fpJ c s) : KF fpI fpJ c (fn_Meaning_declare_Me N v1 v2 v3 s) := by
  unfold fn_Meaning_declare_Me
  repeat' (first | with_reducible exact KF.none | with_reducible refine KF.ite ?_ ?_ | with_reducible refine KF.bind ?_ (fun _ _ => ?_) | with_reducible refine KF.some ?_ | with_reducible refine fp_fn_Checker_isOff_Ch ?_ | with_reducible refine fp_fn_Checker_mean_Ch ?_ | with_reducible refine fp_fn_Checker_meantBy_Ch ?_ | with_reducible refine fp_fn_Checker_refuse_Ch ?_ | with_reducible refine fp_fn_Parts_addDecl_Ps ?_ | refine Eb.upI ?_ (by decide) | refine Eb.upJ ?_ (by decide) | assumption)
theorem fp_fn_Code_widthOf_Ks {v1 : Int32} {s : ms} (h : Eb fpI fpJ c s) : KF fpI fpJ c (fn_Code_widthOf_Ks N v1 s) := by
  unfold fn_Code_widthOf_Ks
  repeat' (first | with_reducible exact KF.none | with_reducible refine KF.ite ?_ ?_ | with_reducible refine KF.bind ?_ (fun _ _ => ?_) | with_reducible refine KF.some ?_ | refine Eb.upI ?_ (by decide) | refine Eb.upJ ?_ (by decide) | assumption)
theorem fp_fn_Code_valueOf_Ks {v1 : Int32} {s : ms} (h : Eb fpI fpJ c s) : KF fpI fpJ c (fn_Code_valueOf_Ks N v1 s) := by
  unfold fn_Code_valueOf_Ks
  repeat' (first | with_reducible exact KF.none | with_reducible refine KF.ite ?_ ?_ | with_reducible refine KF.bind ?_ (fun _ _ => ?_) | with_reducible refine KF.some ?_ | refine Eb.upI ?_ (by decide) | refine Eb.upJ ?_ (by decide) | assumption)
theorem fp_bk_Meaning_beginsWith_Me_56 {x1 : Int32} {x3 : Int32} {s : ms} (h : Eb fpI fpJ c s) : KF fpI fpJ c (bk_Meaning_beginsWith_Me_56 N x1 x3 s) := by
  unfold bk_Meaning_beginsWith_Me_56
  repeat' (first | with_reducible exact KF.none | with_reducible refine KF.ite ?_ ?_ | with_reducible refine KF.bind ?_ (fun _ _ => ?_) | with_reducible refine KF.some ?_ | with_reducible refine fp_fn_Code_valueOf_Ks ?_ | refine Eb.upI ?_ (by decide) | refine Eb.upJ ?_ (by decide) | assumption)
theorem fp_fn_Meaning_beginsWith_Me {v1 : Int32} {v2 : Int32} {s : ms} (h : Eb fpI fpJ c s) : KF fpI fpJ c (fn_Meaning_beginsWith_Me N v1 v2 s) := by
  unfold fn_Meaning_beginsWith_Me
  repeat' (first | with_reducible exact KF.none | with_reducible refine KF.ite ?_ ?_ | with_reducible refine KF.bind ?_ (fun _ _ => ?_) | with_reducible refine KF.some ?_ | with_reducible refine fp_bk_Meaning_beginsWith_Me_56 ?_ | with_reducible refine fp_fn_Checker_isOff_Ch ?_ | with_reducible refine fp_fn_Checker_refuse_Ch ?_ | with_reducible refine fp_fn_Code_widthOf_Ks ?_ | refine Eb.upI ?_ (by decide) | refine Eb.upJ ?_ (by decide) | assumption)
theorem fp_bk_Grammar_declaration_Gr_188 {s : ms} (h : Eb fpI fpJ c s) : KF fpI fpJ c (bk_Grammar_declaration_Gr_188 N s) := by
  unfold bk_Grammar_declaration_Gr_188
  repeat' (first | with_reducible exact KF.none | with_reducible refine KF.ite ?_ ?_ | with_reducible refine KF.bind ?_ (fun _ _ => ?_) | with_reducible refine KF.some ?_ | with_reducible refine fp_fn_Tokens_take_Tk ?_ | refine Eb.upI ?_ (by decide) | refine Eb.upJ ?_ (by decide) | assumption)
theorem fp_bk_Grammar_declaration_Gr_124 {x1 : Int32} {s : ms} (h : Eb fpI fpJ c s) : KF fpI fpJ c (bk_Grammar_declaration_Gr_124 N x1 s) := by
  unfold bk_Grammar_declaration_Gr_124
  repeat' (first | with_reducible exact KF.none | with_reducible refine KF.ite ?_ ?_ | with_reducible refine KF.bind ?_ (fun _ _ => ?_) | with_reducible refine KF.some ?_ | with_reducible refine fp_bk_Grammar_declaration_Gr_188 ?_ | with_reducible refine fp_fn_Meaning_beginsWith_Me ?_ | with_reducible refine fp_fn_Tokens_due_Tk ?_ | with_reducible refine fp_fn_Tokens_take_Tk ?_ | refine Eb.upI ?_ (by decide) | refine Eb.upJ ?_ (by decide) | assumption)
theorem fp_bk_Grammar_declaration_Gr_91 {x1 : Int32} {s : ms} (h : Eb fpI fpJ c s) : KF fpI fpJ c (bk_Grammar_declaration_Gr_91 N x1 s) := by
  unfold bk_Grammar_declaration_Gr_91
  repeat' (first | with_reducible exact KF.none | with_reducible refine KF.ite ?_ ?_ | with_reducible refine KF.bind ?_ (fun _ _ => ?_) | with_reducible refine KF.some ?_ | with_reducible refine fp_bk_Grammar_declaration_Gr_124 ?_ | with_reducible refine fp_fn_Meaning_declare_Me ?_ | with_reducible refine fp_fn_Tokens_due_Tk ?_ | refine Eb.upI ?_ (by decide) | refine Eb.upJ ?_ (by decide) | assumption)
theorem fp_fn_Grammar_declaration_Gr {v1 : Int32} {s : ms} (h : Eb fpI fpJ c s) : KF fpI fpJ c (fn_Grammar_declaration_Gr N v1 s) := by
  unfold fn_Grammar_declaration_Gr
  repeat' (first | with_reducible exact KF.none | with_reducible refine KF.ite ?_ ?_ | with_reducible refine KF.bind ?_ (fun _ _ => ?_) | with_reducible refine KF.some ?_ | with_reducible refine fp_bk_Grammar_declaration_Gr_91 ?_ | with_reducible refine fp_fn_Meaning_range_Me ?_ | with_reducible refine fp_fn_Tokens_need_Tk ?_ | with_reducible refine fp_fn_Tokens_open_Tk ?_ | with_reducible refine fp_fn_Tokens_shut_Tk ?_ | refine Eb.upI ?_ (by decide) | refine Eb.upJ ?_ (by decide) | assumption)
theorem fp_fn_Grammar_port_Gr {s : ms} (h : Eb fpI fpJ c s) : KF fpI fpJ c (fn_Grammar_port_Gr N s) := by
  unfold fn_Grammar_port_Gr
  repeat' (first | with_reducible exact KF.none | with_reducible refine KF.ite ?_ ?_ | with_reducible refine KF.bind ?_ (fun _ _ => ?_) | with_reducible refine KF.some ?_ | with_reducible refine fp_fn_Grammar_declaration_Gr ?_ | with_reducible refine fp_fn_Tokens_need_Tk ?_ | with_reducible refine fp_fn_Tokens_take_Tk ?_ | refine Eb.upI ?_ (by decide) | refine Eb.upJ ?_ (by decide) | assumption)
theorem fp_fn_Design_setPorts_Ds {s : ms} (h : Eb fpI fpJ c s) : KF fpI fpJ c (fn_Design_setPorts_Ds N s) := by
  unfold fn_Design_setPorts_Ds
  repeat' (first | with_reducible exact KF.none | with_reducible refine KF.ite ?_ ?_ | with_reducible refine KF.bind ?_ (fun _ _ => ?_) | with_reducible refine KF.some ?_ | refine Eb.upI ?_ (by decide) | refine Eb.upJ ?_ (by decide) | assumption)
theorem fp_fn_Meaning_portsEnd_Me {s : ms} (h : Eb fpI fpJ c s) : KF fpI fpJ c (fn_Meaning_portsEnd_Me N s) := by
  unfold fn_Meaning_portsEnd_Me
  repeat' (first | with_reducible exact KF.none | with_reducible refine KF.ite ?_ ?_ | with_reducible refine KF.bind ?_ (fun _ _ => ?_) | with_reducible refine KF.some ?_ | with_reducible refine fp_fn_Checker_isOff_Ch ?_ | with_reducible refine fp_fn_Design_setPorts_Ds ?_ | refine Eb.upI ?_ (by decide) | refine Eb.upJ ?_ (by decide) | assumption)
theorem fp_bk_Grammar_moduleHead_Gr_116 {s : ms} (h : Eb fpI fpJ c s) : KF fpI fpJ c (bk_Grammar_moduleHead_Gr_116 N s) := by
  unfold bk_Grammar_moduleHead_Gr_116
  repeat' (first | with_reducible exact KF.none | with_reducible refine KF.ite ?_ ?_ | with_reducible refine KF.bind ?_ (fun _ _ => ?_) | with_reducible refine KF.some ?_ | with_reducible refine fp_fn_Meaning_portsEnd_Me ?_ | with_reducible refine fp_fn_Tokens_need_Tk ?_ | with_reducible refine fp_fn_Tokens_shut_Tk ?_ | refine Eb.upI ?_ (by decide) | refine Eb.upJ ?_ (by decide) | assumption)
theorem fp_bd_Grammar_moduleHead_Gr_76 {k_76 : Int32 → ms → Option (Unit × ms)} (hk_76 : ∀ y0 s, Eb fpI fpJ c s → KF fpI fpJ c (k_76 y0 s)) {x1 : Int32} {s : ms} (h : Eb fpI fpJ c s) : KF fpI fpJ c (bd_Grammar_moduleHead_Gr_76 N k_76 x1 s) := by
  unfold bd_Grammar_moduleHead_Gr_76
  repeat' (first | with_reducible exact KF.none | with_reducible refine KF.ite ?_ ?_ | with_reducible refine KF.bind ?_ (fun _ _ => ?_) | with_reducible refine KF.some ?_ | with_reducible refine fp_bk_Grammar_moduleHead_Gr_116 ?_ | with_reducible refine fp_fn_Grammar_port_Gr ?_ | with_reducible refine fp_fn_Tokens_take_Tk ?_ | with_reducible refine hk_76 _ _ ?_ | refine Eb.upI ?_ (by decide) | refine Eb.upJ ?_ (by decide) | assumption)
theorem fp_hd_Grammar_moduleHead_Gr_76 : ∀ (n : Nat) (x1 : Int32) (s : ms), Eb fpI fpJ c s → KF fpI fpJ c (hd_Grammar_moduleHead_Gr_76 N n x1 s)
  | 0, _, _, _ => KF.none
  | n + 1, x1, s, h => fp_bd_Grammar_moduleHead_Gr_76 (fun x1 s h => fp_hd_Grammar_moduleHead_Gr_76 n x1 s h) h
theorem fp_bk_Grammar_moduleHead_Gr_42 {s : ms} (h : Eb fpI fpJ c s) : KF fpI fpJ c (bk_Grammar_moduleHead_Gr_42 N s) := by
  unfold bk_Grammar_moduleHead_Gr_42
  repeat' (first | with_reducible exact KF.none | with_reducible refine KF.ite ?_ ?_ | with_reducible refine KF.bind ?_ (fun _ _ => ?_) | with_reducible refine KF.some ?_ | with_reducible refine fp_bk_Grammar_moduleHead_Gr_116 ?_ | with_reducible refine fp_fn_Grammar_port_Gr ?_ | with_reducible refine fp_fn_Tokens_open_Tk ?_ | with_reducible refine fp_fn_Tokens_take_Tk ?_ | with_reducible refine fp_hd_Grammar_moduleHead_Gr_76 _ _ _ ?_ | refine Eb.upI ?_ (by decide) | refine Eb.upJ ?_ (by decide) | assumption)
theorem fp_fn_Grammar_moduleHead_Gr {s : ms} (h : Eb fpI fpJ c s) : KF fpI fpJ c (fn_Grammar_moduleHead_Gr N s) := by
  unfold fn_Grammar_moduleHead_Gr
  repeat' (first | with_reducible exact KF.none | with_reducible refine KF.ite ?_ ?_ | with_reducible refine KF.bind ?_ (fun _ _ => ?_) | with_reducible refine KF.some ?_ | with_reducible refine fp_bk_Grammar_moduleHead_Gr_42 ?_ | with_reducible refine fp_fn_Meaning_module_Me ?_ | with_reducible refine fp_fn_Tokens_due_Tk ?_ | with_reducible refine fp_fn_Tokens_need_Tk ?_ | refine Eb.upI ?_ (by decide) | refine Eb.upJ ?_ (by decide) | assumption)
theorem fp_fn_Parts_addChild_Ps {v1 : Int32} {s : ms} (h : Eb fpI fpJ c s) : KF fpI fpJ c (fn_Parts_addChild_Ps N v1 s) := by
  unfold fn_Parts_addChild_Ps
  repeat' (first | with_reducible exact KF.none | with_reducible refine KF.ite ?_ ?_ | with_reducible refine KF.bind ?_ (fun _ _ => ?_) | with_reducible refine KF.some ?_ | refine Eb.upI ?_ (by decide) | refine Eb.upJ ?_ (by decide) | assumption)
theorem fp_bk_Meaning_instance_Me_38 {x2 : Int32} {s : ms} (h : Eb fpI fpJ c s) : KF fpI fpJ c (bk_Meaning_instance_Me_38 N x2 s) := by
  unfold bk_Meaning_instance_Me_38
  repeat' (first | with_reducible exact KF.none | with_reducible refine KF.ite ?_ ?_ | with_reducible refine KF.bind ?_ (fun _ _ => ?_) | with_reducible refine KF.some ?_ | with_reducible refine fp_fn_Checker_refuse_Ch ?_ | refine Eb.upI ?_ (by decide) | refine Eb.upJ ?_ (by decide) | assumption)
theorem fp_fn_Meaning_instance_Me {v1 : Int32} {v2 : Int32} {s : ms} (h : Eb fpI fpJ c s) : KF fpI fpJ c (fn_Meaning_instance_Me N v1 v2 s) := by
  unfold fn_Meaning_instance_Me
  repeat' (first | with_reducible exact KF.none | with_reducible refine KF.ite ?_ ?_ | with_reducible refine KF.bind ?_ (fun _ _ => ?_) | with_reducible refine KF.some ?_ | with_reducible refine fp_bk_Meaning_instance_Me_38 ?_ | with_reducible refine fp_fn_Checker_isOff_Ch ?_ | with_reducible refine fp_fn_Checker_moduleOf_Ch ?_ | with_reducible refine fp_fn_Parts_addChild_Ps ?_ | refine Eb.upI ?_ (by decide) | refine Eb.upJ ?_ (by decide) | assumption)
theorem fp_fn_Meaning_instanceName_Me {v1 : Int32} {v2 : Int32} {s : ms} (h : Eb fpI fpJ c s) : KF fpI fpJ c (fn_Meaning_instanceName_Me N v1 v2 s) := by
  unfold fn_Meaning_instanceName_Me
  repeat' (first | with_reducible exact KF.none | with_reducible refine KF.ite ?_ ?_ | with_reducible refine KF.bind ?_ (fun _ _ => ?_) | with_reducible refine KF.some ?_ | with_reducible refine fp_fn_Checker_isOff_Ch ?_ | with_reducible refine fp_fn_Checker_mean_Ch ?_ | with_reducible refine fp_fn_Checker_meantBy_Ch ?_ | with_reducible refine fp_fn_Checker_refuse_Ch ?_ | refine Eb.upI ?_ (by decide) | refine Eb.upJ ?_ (by decide) | assumption)
theorem fp_fn_Design_isModule_Ds {v1 : Int32} {s : ms} (h : Eb fpI fpJ c s) : KF fpI fpJ c (fn_Design_isModule_Ds N v1 s) := by
  unfold fn_Design_isModule_Ds
  repeat' (first | with_reducible exact KF.none | with_reducible refine KF.ite ?_ ?_ | with_reducible refine KF.bind ?_ (fun _ _ => ?_) | with_reducible refine KF.some ?_ | refine Eb.upI ?_ (by decide) | refine Eb.upJ ?_ (by decide) | assumption)
theorem fp_fn_Design_portCount_Ds {v1 : Int32} {s : ms} (h : Eb fpI fpJ c s) : KF fpI fpJ c (fn_Design_portCount_Ds N v1 s) := by
  unfold fn_Design_portCount_Ds
  repeat' (first | with_reducible exact KF.none | with_reducible refine KF.ite ?_ ?_ | with_reducible refine KF.bind ?_ (fun _ _ => ?_) | with_reducible refine KF.some ?_ | with_reducible refine fp_fn_Design_isModule_Ds ?_ | refine Eb.upI ?_ (by decide) | refine Eb.upJ ?_ (by decide) | assumption)
theorem fp_fn_Meaning_instanceEnd_Me {s : ms} (h : Eb fpI fpJ c s) : KF fpI fpJ c (fn_Meaning_instanceEnd_Me N s) := by
  unfold fn_Meaning_instanceEnd_Me
  repeat' (first | with_reducible exact KF.none | with_reducible refine KF.ite ?_ ?_ | with_reducible refine KF.bind ?_ (fun _ _ => ?_) | with_reducible refine KF.some ?_ | with_reducible refine fp_fn_Checker_isOff_Ch ?_ | with_reducible refine fp_fn_Checker_refuse_Ch ?_ | with_reducible refine fp_fn_Design_portCount_Ds ?_ | refine Eb.upI ?_ (by decide) | refine Eb.upJ ?_ (by decide) | assumption)
theorem fp_fn_Grammar_instanceEnd_Gr {s : ms} (h : Eb fpI fpJ c s) : KF fpI fpJ c (fn_Grammar_instanceEnd_Gr N s) := by
  unfold fn_Grammar_instanceEnd_Gr
  repeat' (first | with_reducible exact KF.none | with_reducible refine KF.ite ?_ ?_ | with_reducible refine KF.bind ?_ (fun _ _ => ?_) | with_reducible refine KF.some ?_ | with_reducible refine fp_fn_Meaning_instanceEnd_Me ?_ | with_reducible refine fp_fn_Tokens_need_Tk ?_ | with_reducible refine fp_fn_Tokens_shut_Tk ?_ | refine Eb.upI ?_ (by decide) | refine Eb.upJ ?_ (by decide) | assumption)
theorem fp_bk_Grammar_instance_Gr_60 {s : ms} (h : Eb fpI fpJ c s) : KF fpI fpJ c (bk_Grammar_instance_Gr_60 N s) := by
  unfold bk_Grammar_instance_Gr_60
  repeat' (first | with_reducible exact KF.none | with_reducible refine KF.ite ?_ ?_ | with_reducible refine KF.bind ?_ (fun _ _ => ?_) | with_reducible refine KF.some ?_ | with_reducible refine fp_fn_Grammar_instanceEnd_Gr ?_ | with_reducible refine fp_fn_Tokens_open_Tk ?_ | with_reducible refine fp_fn_Tokens_take_Tk ?_ | refine Eb.upI ?_ (by decide) | refine Eb.upJ ?_ (by decide) | assumption)
theorem fp_fn_Grammar_instance_Gr {s : ms} (h : Eb fpI fpJ c s) : KF fpI fpJ c (fn_Grammar_instance_Gr N s) := by
  unfold fn_Grammar_instance_Gr
  repeat' (first | with_reducible exact KF.none | with_reducible refine KF.ite ?_ ?_ | with_reducible refine KF.bind ?_ (fun _ _ => ?_) | with_reducible refine KF.some ?_ | with_reducible refine fp_bk_Grammar_instance_Gr_60 ?_ | with_reducible refine fp_fn_Meaning_instanceName_Me ?_ | with_reducible refine fp_fn_Meaning_instance_Me ?_ | with_reducible refine fp_fn_Tokens_due_Tk ?_ | with_reducible refine fp_fn_Tokens_take_Tk ?_ | refine Eb.upI ?_ (by decide) | refine Eb.upJ ?_ (by decide) | assumption)
theorem fp_fn_Design_firstDecl_Ds {v1 : Int32} {s : ms} (h : Eb fpI fpJ c s) : KF fpI fpJ c (fn_Design_firstDecl_Ds N v1 s) := by
  unfold fn_Design_firstDecl_Ds
  repeat' (first | with_reducible exact KF.none | with_reducible refine KF.ite ?_ ?_ | with_reducible refine KF.bind ?_ (fun _ _ => ?_) | with_reducible refine KF.some ?_ | with_reducible refine fp_fn_Design_isModule_Ds ?_ | refine Eb.upI ?_ (by decide) | refine Eb.upJ ?_ (by decide) | assumption)
theorem fp_fn_C_capped {v0 : Int32} {v1 : Int32} {s : ms} (h : Eb fpI fpJ c s) : KF fpI fpJ c (fn_C_capped N v0 v1 s) := by
  unfold fn_C_capped
  repeat' (first | with_reducible exact KF.none | with_reducible refine KF.ite ?_ ?_ | with_reducible refine KF.bind ?_ (fun _ _ => ?_) | with_reducible refine KF.some ?_ | refine Eb.upI ?_ (by decide) | refine Eb.upJ ?_ (by decide) | assumption)
theorem fp_fn_Design_sumOf_Ds {v1 : Int32} {v2 : Int32} {s : ms} (h : Eb fpI fpJ c s) : KF fpI fpJ c (fn_Design_sumOf_Ds N v1 v2 s) := by
  unfold fn_Design_sumOf_Ds
  repeat' (first | with_reducible exact KF.none | with_reducible refine KF.ite ?_ ?_ | with_reducible refine KF.bind ?_ (fun _ _ => ?_) | with_reducible refine KF.some ?_ | with_reducible refine fp_fn_Design_isModule_Ds ?_ | refine Eb.upI ?_ (by decide) | refine Eb.upJ ?_ (by decide) | assumption)
theorem fp_bd_Design_sumUp_Ds_201 {k_174 : Int32 → Int32 → ms → Option (Unit × ms)} (hk_174 : ∀ y0 y1 s, Eb fpI fpJ c s → KF fpI fpJ c (k_174 y0 y1 s)) {k_201 : Int32 → Int32 → Int32 → Int32 → ms → Option (Unit × ms)} (hk_201 : ∀ y0 y1 y2 y3 s, Eb fpI fpJ c s → KF fpI fpJ c (k_201 y0 y1 y2 y3 s)) {x2 : Int32} {x5 : Int32} {x6 : Int32} {x7 : Int32} {s : ms} (h : Eb fpI fpJ c s) : KF fpI fpJ c (bd_Design_sumUp_Ds_201 N k_174 k_201 x2 x5 x6 x7 s) := by
  unfold bd_Design_sumUp_Ds_201
  repeat' (first | with_reducible exact KF.none | with_reducible refine KF.ite ?_ ?_ | with_reducible refine KF.bind ?_ (fun _ _ => ?_) | with_reducible refine KF.some ?_ | with_reducible refine fp_fn_C_capped ?_ | with_reducible refine fp_fn_Design_sumOf_Ds ?_ | with_reducible refine hk_174 _ _ _ ?_ | with_reducible refine hk_201 _ _ _ _ _ ?_ | refine Eb.upI ?_ (by decide) | refine Eb.upJ ?_ (by decide) | assumption)
theorem fp_hd_Design_sumUp_Ds_201 {k_174 : Int32 → Int32 → ms → Option (Unit × ms)} (hk_174 : ∀ x0 x1 s, Eb fpI fpJ c s → KF fpI fpJ c (k_174 x0 x1 s)) : ∀ (n : Nat) (x2 : Int32) (x5 : Int32) (x6 : Int32) (x7 : Int32) (s : ms), Eb fpI fpJ c s → KF fpI fpJ c (hd_Design_sumUp_Ds_201 N k_174 n x2 x5 x6 x7 s)
  | 0, _, _, _, _, _, _ => KF.none
  | n + 1, x2, x5, x6, x7, s, h => fp_bd_Design_sumUp_Ds_201 hk_174 (fun x2 x5 x6 x7 s h => fp_hd_Design_sumUp_Ds_201 hk_174 n x2 x5 x6 x7 s h) h
theorem fp_bd_Design_sumUp_Ds_174 {k_174 : Int32 → Int32 → ms → Option (Unit × ms)} (hk_174 : ∀ y0 y1 s, Eb fpI fpJ c s → KF fpI fpJ c (k_174 y0 y1 s)) {x2 : Int32} {x5 : Int32} {s : ms} (h : Eb fpI fpJ c s) : KF fpI fpJ c (bd_Design_sumUp_Ds_174 N k_174 x2 x5 s) := by
  unfold bd_Design_sumUp_Ds_174
  repeat' (first | with_reducible exact KF.none | with_reducible refine KF.ite ?_ ?_ | with_reducible refine KF.bind ?_ (fun _ _ => ?_) | with_reducible refine KF.some ?_ | with_reducible refine fp_hd_Design_sumUp_Ds_201 hk_174 _ _ _ _ _ _ ?_ | with_reducible refine hk_174 _ _ _ ?_ | refine Eb.upI ?_ (by decide) | refine Eb.upJ ?_ (by decide) | assumption)
theorem fp_hd_Design_sumUp_Ds_174 : ∀ (n : Nat) (x2 : Int32) (x5 : Int32) (s : ms), Eb fpI fpJ c s → KF fpI fpJ c (hd_Design_sumUp_Ds_174 N n x2 x5 s)
  | 0, _, _, _, _ => KF.none
  | n + 1, x2, x5, s, h => fp_bd_Design_sumUp_Ds_174 (fun x2 x5 s h => fp_hd_Design_sumUp_Ds_174 n x2 x5 s h) h
theorem fp_bd_Design_sumUp_Ds_80 {k_80 : Int32 → Int32 → Int32 → Int32 → Int32 → ms → Option (Unit × ms)} (hk_80 : ∀ y0 y1 y2 y3 y4 s, Eb fpI fpJ c s → KF fpI fpJ c (k_80 y0 y1 y2 y3 y4 s)) {x1 : Int32} {x2 : Int32} {x3 : Int32} {x4 : Int32} {x5 : Int32} {s : ms} (h : Eb fpI fpJ c s) : KF fpI fpJ c (bd_Design_sumUp_Ds_80 N k_80 x1 x2 x3 x4 x5 s) := by
  unfold bd_Design_sumUp_Ds_80
  repeat' (first | with_reducible exact KF.none | with_reducible refine KF.ite ?_ ?_ | with_reducible refine KF.bind ?_ (fun _ _ => ?_) | with_reducible refine KF.some ?_ | with_reducible refine fp_hd_Design_sumUp_Ds_174 _ _ _ _ ?_ | with_reducible refine hk_80 _ _ _ _ _ _ ?_ | refine Eb.upI ?_ (by decide) | refine Eb.upJ ?_ (by decide) | assumption)
theorem fp_hd_Design_sumUp_Ds_80 : ∀ (n : Nat) (x1 : Int32) (x2 : Int32) (x3 : Int32) (x4 : Int32) (x5 : Int32) (s : ms), Eb fpI fpJ c s → KF fpI fpJ c (hd_Design_sumUp_Ds_80 N n x1 x2 x3 x4 x5 s)
  | 0, _, _, _, _, _, _, _ => KF.none
  | n + 1, x1, x2, x3, x4, x5, s, h => fp_bd_Design_sumUp_Ds_80 (fun x1 x2 x3 x4 x5 s h => fp_hd_Design_sumUp_Ds_80 n x1 x2 x3 x4 x5 s h) h
theorem fp_bd_Design_sumUp_Ds_22 {k_22 : Int32 → Int32 → Int32 → Int32 → ms → Option (Unit × ms)} (hk_22 : ∀ y0 y1 y2 y3 s, Eb fpI fpJ c s → KF fpI fpJ c (k_22 y0 y1 y2 y3 s)) {x1 : Int32} {x2 : Int32} {x3 : Int32} {x4 : Int32} {s : ms} (h : Eb fpI fpJ c s) : KF fpI fpJ c (bd_Design_sumUp_Ds_22 N k_22 x1 x2 x3 x4 s) := by
  unfold bd_Design_sumUp_Ds_22
  repeat' (first | with_reducible exact KF.none | with_reducible refine KF.ite ?_ ?_ | with_reducible refine KF.bind ?_ (fun _ _ => ?_) | with_reducible refine KF.some ?_ | with_reducible refine fp_fn_C_capped ?_ | with_reducible refine fp_hd_Design_sumUp_Ds_80 _ _ _ _ _ _ _ ?_ | with_reducible refine hk_22 _ _ _ _ _ ?_ | refine Eb.upI ?_ (by decide) | refine Eb.upJ ?_ (by decide) | assumption)
theorem fp_hd_Design_sumUp_Ds_22 : ∀ (n : Nat) (x1 : Int32) (x2 : Int32) (x3 : Int32) (x4 : Int32) (s : ms), Eb fpI fpJ c s → KF fpI fpJ c (hd_Design_sumUp_Ds_22 N n x1 x2 x3 x4 s)
  | 0, _, _, _, _, _, _ => KF.none
  | n + 1, x1, x2, x3, x4, s, h => fp_bd_Design_sumUp_Ds_22 (fun x1 x2 x3 x4 s h => fp_hd_Design_sumUp_Ds_22 n x1 x2 x3 x4 s h) h
theorem fp_fn_Design_sumUp_Ds {v1 : Int32} {s : ms} (h : Eb fpI fpJ c s) : KF fpI fpJ c (fn_Design_sumUp_Ds N v1 s) := by
  unfold fn_Design_sumUp_Ds
  repeat' (first | with_reducible exact KF.none | with_reducible refine KF.ite ?_ ?_ | with_reducible refine KF.bind ?_ (fun _ _ => ?_) | with_reducible refine KF.some ?_ | with_reducible refine fp_hd_Design_sumUp_Ds_22 _ _ _ _ _ _ ?_ | refine Eb.upI ?_ (by decide) | refine Eb.upJ ?_ (by decide) | assumption)
theorem fp_bd_Meaning_moduleEnd_Me_28 {k_28 : Int32 → ms → Option (Unit × ms)} (hk_28 : ∀ y0 s, Eb fpI fpJ c s → KF fpI fpJ c (k_28 y0 s)) {x1 : Int32} {s : ms} (h : Eb fpI fpJ c s) : KF fpI fpJ c (bd_Meaning_moduleEnd_Me_28 N k_28 x1 s) := by
  unfold bd_Meaning_moduleEnd_Me_28
  repeat' (first | with_reducible exact KF.none | with_reducible refine KF.ite ?_ ?_ | with_reducible refine KF.bind ?_ (fun _ _ => ?_) | with_reducible refine KF.some ?_ | with_reducible refine fp_fn_Checker_refuse_Ch ?_ | with_reducible refine fp_fn_Design_sumUp_Ds ?_ | with_reducible refine hk_28 _ _ ?_ | refine Eb.upI ?_ (by decide) | refine Eb.upJ ?_ (by decide) | assumption)
theorem fp_hd_Meaning_moduleEnd_Me_28 : ∀ (n : Nat) (x1 : Int32) (s : ms), Eb fpI fpJ c s → KF fpI fpJ c (hd_Meaning_moduleEnd_Me_28 N n x1 s)
  | 0, _, _, _ => KF.none
  | n + 1, x1, s, h => fp_bd_Meaning_moduleEnd_Me_28 (fun x1 s h => fp_hd_Meaning_moduleEnd_Me_28 n x1 s h) h
theorem fp_fn_Meaning_moduleEnd_Me {s : ms} (h : Eb fpI fpJ c s) : KF fpI fpJ c (fn_Meaning_moduleEnd_Me N s) := by
  unfold fn_Meaning_moduleEnd_Me
  repeat' (first | with_reducible exact KF.none | with_reducible refine KF.ite ?_ ?_ | with_reducible refine KF.bind ?_ (fun _ _ => ?_) | with_reducible refine KF.some ?_ | with_reducible refine fp_fn_Checker_isOff_Ch ?_ | with_reducible refine fp_fn_Design_firstDecl_Ds ?_ | with_reducible refine fp_hd_Meaning_moduleEnd_Me_28 _ _ _ ?_ | refine Eb.upI ?_ (by decide) | refine Eb.upJ ?_ (by decide) | assumption)
theorem fp_fn_Checker_sortOf_Ch {v1 : Int32} {s : ms} (h : Eb fpI fpJ c s) : KF fpI fpJ c (fn_Checker_sortOf_Ch N v1 s) := by
  unfold fn_Checker_sortOf_Ch
  repeat' (first | with_reducible exact KF.none | with_reducible refine KF.ite ?_ ?_ | with_reducible refine KF.bind ?_ (fun _ _ => ?_) | with_reducible refine KF.some ?_ | refine Eb.upI ?_ (by decide) | refine Eb.upJ ?_ (by decide) | assumption)
theorem fp_fn_Meaning_assignTo_Me {v1 : Int32} {v2 : Int32} {s : ms} (h : Eb fpI fpJ c s) : KF fpI fpJ c (fn_Meaning_assignTo_Me N v1 v2 s) := by
  unfold fn_Meaning_assignTo_Me
  repeat' (first | with_reducible exact KF.none | with_reducible refine KF.ite ?_ ?_ | with_reducible refine KF.bind ?_ (fun _ _ => ?_) | with_reducible refine KF.some ?_ | with_reducible refine fp_fn_Checker_isOff_Ch ?_ | with_reducible refine fp_fn_Checker_meantBy_Ch ?_ | with_reducible refine fp_fn_Checker_refuse_Ch ?_ | with_reducible refine fp_fn_Checker_sortOf_Ch ?_ | refine Eb.upI ?_ (by decide) | refine Eb.upJ ?_ (by decide) | assumption)
theorem fp_fn_Checker_expBegins_Ch {s : ms} (h : Eb fpI fpJ c s) : KF fpI fpJ c (fn_Checker_expBegins_Ch N s) := by
  unfold fn_Checker_expBegins_Ch
  repeat' (first | with_reducible exact KF.none | with_reducible refine KF.ite ?_ ?_ | with_reducible refine KF.bind ?_ (fun _ _ => ?_) | with_reducible refine KF.some ?_ | with_reducible refine fp_fn_Checker_isOff_Ch ?_ | refine Eb.upI ?_ (by decide) | refine Eb.upJ ?_ (by decide) | assumption)
theorem fp_fn_Grammar_expFor_Gr {v1 : Int32} {s : ms} (h : Eb fpI fpJ c s) : KF fpI fpJ c (fn_Grammar_expFor_Gr N v1 s) := by
  unfold fn_Grammar_expFor_Gr
  repeat' (first | with_reducible exact KF.none | with_reducible refine KF.ite ?_ ?_ | with_reducible refine KF.bind ?_ (fun _ _ => ?_) | with_reducible refine KF.some ?_ | with_reducible refine fp_fn_Checker_expBegins_Ch ?_ | refine Eb.upI ?_ (by decide) | refine Eb.upJ ?_ (by decide) | assumption)
theorem fp_bk_Grammar_assignment_Gr_39 {s : ms} (h : Eb fpI fpJ c s) : KF fpI fpJ c (bk_Grammar_assignment_Gr_39 N s) := by
  unfold bk_Grammar_assignment_Gr_39
  repeat' (first | with_reducible exact KF.none | with_reducible refine KF.ite ?_ ?_ | with_reducible refine KF.bind ?_ (fun _ _ => ?_) | with_reducible refine KF.some ?_ | with_reducible refine fp_fn_Grammar_expFor_Gr ?_ | with_reducible refine fp_fn_Tokens_need_Tk ?_ | with_reducible refine fp_fn_Tokens_take_Tk ?_ | refine Eb.upI ?_ (by decide) | refine Eb.upJ ?_ (by decide) | assumption)
theorem fp_fn_Grammar_assignment_Gr {s : ms} (h : Eb fpI fpJ c s) : KF fpI fpJ c (fn_Grammar_assignment_Gr N s) := by
  unfold fn_Grammar_assignment_Gr
  repeat' (first | with_reducible exact KF.none | with_reducible refine KF.ite ?_ ?_ | with_reducible refine KF.bind ?_ (fun _ _ => ?_) | with_reducible refine KF.some ?_ | with_reducible refine fp_bk_Grammar_assignment_Gr_39 ?_ | with_reducible refine fp_fn_Meaning_assignTo_Me ?_ | with_reducible refine fp_fn_Tokens_due_Tk ?_ | with_reducible refine fp_fn_Tokens_take_Tk ?_ | refine Eb.upI ?_ (by decide) | refine Eb.upJ ?_ (by decide) | assumption)
theorem fp_fn_Meaning_always_Me {s : ms} (h : Eb fpI fpJ c s) : KF fpI fpJ c (fn_Meaning_always_Me N s) := by
  unfold fn_Meaning_always_Me
  repeat' (first | with_reducible exact KF.none | with_reducible refine KF.ite ?_ ?_ | with_reducible refine KF.bind ?_ (fun _ _ => ?_) | with_reducible refine KF.some ?_ | with_reducible refine fp_fn_Checker_isOff_Ch ?_ | refine Eb.upI ?_ (by decide) | refine Eb.upJ ?_ (by decide) | assumption)
theorem fp_fn_Grammar_always_Gr {s : ms} (h : Eb fpI fpJ c s) : KF fpI fpJ c (fn_Grammar_always_Gr N s) := by
  unfold fn_Grammar_always_Gr
  repeat' (first | with_reducible exact KF.none | with_reducible refine KF.ite ?_ ?_ | with_reducible refine KF.bind ?_ (fun _ _ => ?_) | with_reducible refine KF.some ?_ | with_reducible refine fp_fn_Meaning_always_Me ?_ | with_reducible refine fp_fn_Tokens_need_Tk ?_ | with_reducible refine fp_fn_Tokens_open_Tk ?_ | with_reducible refine fp_fn_Tokens_shut_Tk ?_ | with_reducible refine fp_fn_Tokens_take_Tk ?_ | refine Eb.upI ?_ (by decide) | refine Eb.upJ ?_ (by decide) | assumption)
theorem fp_fn_Tokens_refuse_Tk {s : ms} (h : Eb fpI fpJ c s) : KF fpI fpJ c (fn_Tokens_refuse_Tk N s) := by
  unfold fn_Tokens_refuse_Tk
  repeat' (first | with_reducible exact KF.none | with_reducible refine KF.ite ?_ ?_ | with_reducible refine KF.bind ?_ (fun _ _ => ?_) | with_reducible refine KF.some ?_ | with_reducible refine fp_fn_Tokens_misfit_Tk ?_ | with_reducible refine fp_fn_Tokens_stop_Tk ?_ | refine Eb.upI ?_ (by decide) | refine Eb.upJ ?_ (by decide) | assumption)
theorem fp_bk_Grammar_item_Gr_96 {t0 : Int32} {s : ms} (h : Eb fpI fpJ c s) : KF fpI fpJ c (bk_Grammar_item_Gr_96 N t0 s) := by
  unfold bk_Grammar_item_Gr_96
  repeat' (first | with_reducible exact KF.none | with_reducible refine KF.ite ?_ ?_ | with_reducible refine KF.bind ?_ (fun _ _ => ?_) | with_reducible refine KF.some ?_ | with_reducible refine fp_fn_Grammar_declaration_Gr ?_ | with_reducible refine fp_fn_Tokens_need_Tk ?_ | refine Eb.upI ?_ (by decide) | refine Eb.upJ ?_ (by decide) | assumption)
theorem fp_fn_Grammar_item_Gr {s : ms} (h : Eb fpI fpJ c s) : KF fpI fpJ c (fn_Grammar_item_Gr N s) := by
  unfold fn_Grammar_item_Gr
  repeat' (first | with_reducible exact KF.none | with_reducible refine KF.ite ?_ ?_ | with_reducible refine KF.bind ?_ (fun _ _ => ?_) | with_reducible refine KF.some ?_ | with_reducible refine fp_bk_Grammar_item_Gr_96 ?_ | with_reducible refine fp_fn_Grammar_always_Gr ?_ | with_reducible refine fp_fn_Grammar_assignment_Gr ?_ | with_reducible refine fp_fn_Grammar_expFor_Gr ?_ | with_reducible refine fp_fn_Grammar_instance_Gr ?_ | with_reducible refine fp_fn_Meaning_moduleEnd_Me ?_ | with_reducible refine fp_fn_Tokens_open_Tk ?_ | with_reducible refine fp_fn_Tokens_refuse_Tk ?_ | with_reducible refine fp_fn_Tokens_take_Tk ?_ | refine Eb.upI ?_ (by decide) | refine Eb.upJ ?_ (by decide) | assumption)
theorem fp_bd_Checker_declCalled_Ch_7 {k_7 : Int32 → Int32 → Int32 → ms → Option (Int32 × ms)} (hk_7 : ∀ y0 y1 y2 s, Eb fpI fpJ c s → KF fpI fpJ c (k_7 y0 y1 y2 s)) {x1 : Int32} {x3 : Int32} {x4 : Int32} {s : ms} (h : Eb fpI fpJ c s) : KF fpI fpJ c (bd_Checker_declCalled_Ch_7 N k_7 x1 x3 x4 s) := by
  unfold bd_Checker_declCalled_Ch_7
  repeat' (first | with_reducible exact KF.none | with_reducible refine KF.ite ?_ ?_ | with_reducible refine KF.bind ?_ (fun _ _ => ?_) | with_reducible refine KF.some ?_ | with_reducible refine hk_7 _ _ _ _ ?_ | refine Eb.upI ?_ (by decide) | refine Eb.upJ ?_ (by decide) | assumption)
theorem fp_hd_Checker_declCalled_Ch_7 : ∀ (n : Nat) (x1 : Int32) (x3 : Int32) (x4 : Int32) (s : ms), Eb fpI fpJ c s → KF fpI fpJ c (hd_Checker_declCalled_Ch_7 N n x1 x3 x4 s)
  | 0, _, _, _, _, _ => KF.none
  | n + 1, x1, x3, x4, s, h => fp_bd_Checker_declCalled_Ch_7 (fun x1 x3 x4 s h => fp_hd_Checker_declCalled_Ch_7 n x1 x3 x4 s h) h
theorem fp_fn_Checker_declCalled_Ch {v1 : Int32} {v2 : Int32} {v3 : Int32} {s : ms} (h : Eb fpI fpJ c s) : KF fpI fpJ c (fn_Checker_declCalled_Ch N v1 v2 v3 s) := by
  unfold fn_Checker_declCalled_Ch
  repeat' (first | with_reducible exact KF.none | with_reducible refine KF.ite ?_ ?_ | with_reducible refine KF.bind ?_ (fun _ _ => ?_) | with_reducible refine KF.some ?_ | with_reducible refine fp_hd_Checker_declCalled_Ch_7 _ _ _ _ _ ?_ | refine Eb.upI ?_ (by decide) | refine Eb.upJ ?_ (by decide) | assumption)
theorem fp_bd_Parts_isLinked_Ps_7 {k_7 : Int32 → Int32 → ms → Option (Int32 × ms)} (hk_7 : ∀ y0 y1 s, Eb fpI fpJ c s → KF fpI fpJ c (k_7 y0 y1 s)) {x2 : Int32} {x3 : Int32} {s : ms} (h : Eb fpI fpJ c s) : KF fpI fpJ c (bd_Parts_isLinked_Ps_7 N k_7 x2 x3 s) := by
  unfold bd_Parts_isLinked_Ps_7
  repeat' (first | with_reducible exact KF.none | with_reducible refine KF.ite ?_ ?_ | with_reducible refine KF.bind ?_ (fun _ _ => ?_) | with_reducible refine KF.some ?_ | with_reducible refine hk_7 _ _ _ ?_ | refine Eb.upI ?_ (by decide) | refine Eb.upJ ?_ (by decide) | assumption)
theorem fp_hd_Parts_isLinked_Ps_7 : ∀ (n : Nat) (x2 : Int32) (x3 : Int32) (s : ms), Eb fpI fpJ c s → KF fpI fpJ c (hd_Parts_isLinked_Ps_7 N n x2 x3 s)
  | 0, _, _, _, _ => KF.none
  | n + 1, x2, x3, s, h => fp_bd_Parts_isLinked_Ps_7 (fun x2 x3 s h => fp_hd_Parts_isLinked_Ps_7 n x2 x3 s h) h
theorem fp_fn_Parts_isLinked_Ps {v1 : Int32} {v2 : Int32} {s : ms} (h : Eb fpI fpJ c s) : KF fpI fpJ c (fn_Parts_isLinked_Ps N v1 v2 s) := by
  unfold fn_Parts_isLinked_Ps
  repeat' (first | with_reducible exact KF.none | with_reducible refine KF.ite ?_ ?_ | with_reducible refine KF.bind ?_ (fun _ _ => ?_) | with_reducible refine KF.some ?_ | with_reducible refine fp_hd_Parts_isLinked_Ps_7 _ _ _ _ ?_ | refine Eb.upI ?_ (by decide) | refine Eb.upJ ?_ (by decide) | assumption)
theorem fp_fn_Parts_addLink_Ps {v1 : Int32} {s : ms} (h : Eb fpI fpJ c s) : KF fpI fpJ c (fn_Parts_addLink_Ps N v1 s) := by
  unfold fn_Parts_addLink_Ps
  repeat' (first | with_reducible exact KF.none | with_reducible refine KF.ite ?_ ?_ | with_reducible refine KF.bind ?_ (fun _ _ => ?_) | with_reducible refine KF.some ?_ | refine Eb.upI ?_ (by decide) | refine Eb.upJ ?_ (by decide) | assumption)
theorem fp_bk_Meaning_linkTo_Me_100 {x2 : Int32} {s : ms} (h : Eb fpI fpJ c s) : KF fpI fpJ c (bk_Meaning_linkTo_Me_100 N x2 s) := by
  unfold bk_Meaning_linkTo_Me_100
  repeat' (first | with_reducible exact KF.none | with_reducible refine KF.ite ?_ ?_ | with_reducible refine KF.bind ?_ (fun _ _ => ?_) | with_reducible refine KF.some ?_ | with_reducible refine fp_fn_Checker_refuse_Ch ?_ | refine Eb.upI ?_ (by decide) | refine Eb.upJ ?_ (by decide) | assumption)
theorem fp_fn_Meaning_linkTo_Me {v1 : Int32} {v2 : Int32} {s : ms} (h : Eb fpI fpJ c s) : KF fpI fpJ c (fn_Meaning_linkTo_Me N v1 v2 s) := by
  unfold fn_Meaning_linkTo_Me
  repeat' (first | with_reducible exact KF.none | with_reducible refine KF.ite ?_ ?_ | with_reducible refine KF.bind ?_ (fun _ _ => ?_) | with_reducible refine KF.some ?_ | with_reducible refine fp_bk_Meaning_linkTo_Me_100 ?_ | with_reducible refine fp_fn_Checker_declCalled_Ch ?_ | with_reducible refine fp_fn_Checker_isOff_Ch ?_ | with_reducible refine fp_fn_Design_firstDecl_Ds ?_ | with_reducible refine fp_fn_Design_portCount_Ds ?_ | with_reducible refine fp_fn_Parts_addLink_Ps ?_ | with_reducible refine fp_fn_Parts_isLinked_Ps ?_ | refine Eb.upI ?_ (by decide) | refine Eb.upJ ?_ (by decide) | assumption)
theorem fp_bk_Grammar_link_Gr_52 {s : ms} (h : Eb fpI fpJ c s) : KF fpI fpJ c (bk_Grammar_link_Gr_52 N s) := by
  unfold bk_Grammar_link_Gr_52
  repeat' (first | with_reducible exact KF.none | with_reducible refine KF.ite ?_ ?_ | with_reducible refine KF.bind ?_ (fun _ _ => ?_) | with_reducible refine KF.some ?_ | with_reducible refine fp_fn_Grammar_expFor_Gr ?_ | with_reducible refine fp_fn_Tokens_open_Tk ?_ | with_reducible refine fp_fn_Tokens_take_Tk ?_ | refine Eb.upI ?_ (by decide) | refine Eb.upJ ?_ (by decide) | assumption)
theorem fp_fn_Grammar_link_Gr {s : ms} (h : Eb fpI fpJ c s) : KF fpI fpJ c (fn_Grammar_link_Gr N s) := by
  unfold fn_Grammar_link_Gr
  repeat' (first | with_reducible exact KF.none | with_reducible refine KF.ite ?_ ?_ | with_reducible refine KF.bind ?_ (fun _ _ => ?_) | with_reducible refine KF.some ?_ | with_reducible refine fp_bk_Grammar_link_Gr_52 ?_ | with_reducible refine fp_fn_Meaning_linkTo_Me ?_ | with_reducible refine fp_fn_Tokens_due_Tk ?_ | with_reducible refine fp_fn_Tokens_need_Tk ?_ | refine Eb.upI ?_ (by decide) | refine Eb.upJ ?_ (by decide) | assumption)
theorem fp_bk_Meaning_storeTo_Me_87 {x3 : Int32} {s : ms} (h : Eb fpI fpJ c s) : KF fpI fpJ c (bk_Meaning_storeTo_Me_87 N x3 s) := by
  unfold bk_Meaning_storeTo_Me_87
  repeat' (first | with_reducible exact KF.none | with_reducible refine KF.ite ?_ ?_ | with_reducible refine KF.bind ?_ (fun _ _ => ?_) | with_reducible refine KF.some ?_ | refine Eb.upI ?_ (by decide) | refine Eb.upJ ?_ (by decide) | assumption)
theorem fp_fn_Meaning_storeTo_Me {v1 : Int32} {v2 : Int32} {s : ms} (h : Eb fpI fpJ c s) : KF fpI fpJ c (fn_Meaning_storeTo_Me N v1 v2 s) := by
  unfold fn_Meaning_storeTo_Me
  repeat' (first | with_reducible exact KF.none | with_reducible refine KF.ite ?_ ?_ | with_reducible refine KF.bind ?_ (fun _ _ => ?_) | with_reducible refine KF.some ?_ | with_reducible refine fp_bk_Meaning_storeTo_Me_87 ?_ | with_reducible refine fp_fn_Checker_isOff_Ch ?_ | with_reducible refine fp_fn_Checker_meantBy_Ch ?_ | with_reducible refine fp_fn_Checker_refuse_Ch ?_ | with_reducible refine fp_fn_Checker_sortOf_Ch ?_ | refine Eb.upI ?_ (by decide) | refine Eb.upJ ?_ (by decide) | assumption)
theorem fp_bk_Grammar_part_Gr_53 {x1 : Int32} {x2 : Int32} {s : ms} (h : Eb fpI fpJ c s) : KF fpI fpJ c (bk_Grammar_part_Gr_53 N x1 x2 s) := by
  unfold bk_Grammar_part_Gr_53
  repeat' (first | with_reducible exact KF.none | with_reducible refine KF.ite ?_ ?_ | with_reducible refine KF.bind ?_ (fun _ _ => ?_) | with_reducible refine KF.some ?_ | with_reducible refine fp_fn_Tokens_shut_Tk ?_ | refine Eb.upI ?_ (by decide) | refine Eb.upJ ?_ (by decide) | assumption)
theorem fp_fn_Grammar_part_Gr {s : ms} (h : Eb fpI fpJ c s) : KF fpI fpJ c (fn_Grammar_part_Gr N s) := by
  unfold fn_Grammar_part_Gr
  repeat' (first | with_reducible exact KF.none | with_reducible refine KF.ite ?_ ?_ | with_reducible refine KF.bind ?_ (fun _ _ => ?_) | with_reducible refine KF.some ?_ | with_reducible refine fp_bk_Grammar_part_Gr_53 ?_ | with_reducible refine fp_fn_Tokens_need_Tk ?_ | with_reducible refine fp_fn_Tokens_take_Tk ?_ | refine Eb.upI ?_ (by decide) | refine Eb.upJ ?_ (by decide) | assumption)
theorem fp_fn_Checker_partWidth {v0 : Int32} {v1 : Int32} {s : ms} (h : Eb fpI fpJ c s) : KF fpI fpJ c (fn_Checker_partWidth N v0 v1 s) := by
  unfold fn_Checker_partWidth
  repeat' (first | with_reducible exact KF.none | with_reducible refine KF.ite ?_ ?_ | with_reducible refine KF.bind ?_ (fun _ _ => ?_) | with_reducible refine KF.some ?_ | refine Eb.upI ?_ (by decide) | refine Eb.upJ ?_ (by decide) | assumption)
theorem fp_fn_Checker_lowOf {v0 : Int32} {s : ms} (h : Eb fpI fpJ c s) : KF fpI fpJ c (fn_Checker_lowOf N v0 s) := by
  unfold fn_Checker_lowOf
  repeat' (first | with_reducible exact KF.none | with_reducible refine KF.ite ?_ ?_ | with_reducible refine KF.bind ?_ (fun _ _ => ?_) | with_reducible refine KF.some ?_ | refine Eb.upI ?_ (by decide) | refine Eb.upJ ?_ (by decide) | assumption)
theorem fp_fn_Meaning_storePart_Me {v1 : Int32} {v2 : Int32} {s : ms} (h : Eb fpI fpJ c s) : KF fpI fpJ c (fn_Meaning_storePart_Me N v1 v2 s) := by
  unfold fn_Meaning_storePart_Me
  repeat' (first | with_reducible exact KF.none | with_reducible refine KF.ite ?_ ?_ | with_reducible refine KF.bind ?_ (fun _ _ => ?_) | with_reducible refine KF.some ?_ | with_reducible refine fp_fn_Checker_isOff_Ch ?_ | with_reducible refine fp_fn_Checker_lowOf ?_ | with_reducible refine fp_fn_Checker_partWidth ?_ | with_reducible refine fp_fn_Checker_refuse_Ch ?_ | refine Eb.upI ?_ (by decide) | refine Eb.upJ ?_ (by decide) | assumption)
theorem fp_bk_Grammar_store_Gr_69 {s : ms} (h : Eb fpI fpJ c s) : KF fpI fpJ c (bk_Grammar_store_Gr_69 N s) := by
  unfold bk_Grammar_store_Gr_69
  repeat' (first | with_reducible exact KF.none | with_reducible refine KF.ite ?_ ?_ | with_reducible refine KF.bind ?_ (fun _ _ => ?_) | with_reducible refine KF.some ?_ | with_reducible refine fp_fn_Grammar_expFor_Gr ?_ | with_reducible refine fp_fn_Tokens_need_Tk ?_ | refine Eb.upI ?_ (by decide) | refine Eb.upJ ?_ (by decide) | assumption)
theorem fp_fn_Grammar_store_Gr {s : ms} (h : Eb fpI fpJ c s) : KF fpI fpJ c (fn_Grammar_store_Gr N s) := by
  unfold fn_Grammar_store_Gr
  repeat' (first | with_reducible exact KF.none | with_reducible refine KF.ite ?_ ?_ | with_reducible refine KF.bind ?_ (fun _ _ => ?_) | with_reducible refine KF.some ?_ | with_reducible refine fp_bk_Grammar_store_Gr_69 ?_ | with_reducible refine fp_fn_Grammar_part_Gr ?_ | with_reducible refine fp_fn_Meaning_storePart_Me ?_ | with_reducible refine fp_fn_Meaning_storeTo_Me ?_ | with_reducible refine fp_fn_Tokens_open_Tk ?_ | with_reducible refine fp_fn_Tokens_take_Tk ?_ | refine Eb.upI ?_ (by decide) | refine Eb.upJ ?_ (by decide) | assumption)
theorem fp_fn_Grammar_goOnIn_Gr {v1 : Int32} {s : ms} (h : Eb fpI fpJ c s) : KF fpI fpJ c (fn_Grammar_goOnIn_Gr N v1 s) := by
  unfold fn_Grammar_goOnIn_Gr
  repeat' (first | with_reducible exact KF.none | with_reducible refine KF.ite ?_ ?_ | with_reducible refine KF.bind ?_ (fun _ _ => ?_) | with_reducible refine KF.some ?_ | refine Eb.upI ?_ (by decide) | refine Eb.upJ ?_ (by decide) | assumption)
theorem fp_fn_Grammar_enter_Gr {v1 : Int32} {s : ms} (h : Eb fpI fpJ c s) : KF fpI fpJ c (fn_Grammar_enter_Gr N v1 s) := by
  unfold fn_Grammar_enter_Gr
  repeat' (first | with_reducible exact KF.none | with_reducible refine KF.ite ?_ ?_ | with_reducible refine KF.bind ?_ (fun _ _ => ?_) | with_reducible refine KF.some ?_ | with_reducible refine fp_fn_Grammar_goOnIn_Gr ?_ | refine Eb.upI ?_ (by decide) | refine Eb.upJ ?_ (by decide) | assumption)
theorem fp_fn_Grammar_statement_Gr {s : ms} (h : Eb fpI fpJ c s) : KF fpI fpJ c (fn_Grammar_statement_Gr N s) := by
  unfold fn_Grammar_statement_Gr
  repeat' (first | with_reducible exact KF.none | with_reducible refine KF.ite ?_ ?_ | with_reducible refine KF.bind ?_ (fun _ _ => ?_) | with_reducible refine KF.some ?_ | with_reducible refine fp_fn_Grammar_enter_Gr ?_ | with_reducible refine fp_fn_Grammar_expFor_Gr ?_ | with_reducible refine fp_fn_Grammar_store_Gr ?_ | with_reducible refine fp_fn_Tokens_open_Tk ?_ | with_reducible refine fp_fn_Tokens_refuse_Tk ?_ | refine Eb.upI ?_ (by decide) | refine Eb.upJ ?_ (by decide) | assumption)
theorem fp_fn_Tokens_shutQuietly_Tk {s : ms} (h : Eb fpI fpJ c s) : KF fpI fpJ c (fn_Tokens_shutQuietly_Tk N s) := by
  unfold fn_Tokens_shutQuietly_Tk
  repeat' (first | with_reducible exact KF.none | with_reducible refine KF.ite ?_ ?_ | with_reducible refine KF.bind ?_ (fun _ _ => ?_) | with_reducible refine KF.some ?_ | refine Eb.upI ?_ (by decide) | refine Eb.upJ ?_ (by decide) | assumption)
theorem fp_fn_Code_aim_Ks {v1 : Int32} {s : ms} (h : Eb fpI fpJ c s) : KF fpI fpJ c (fn_Code_aim_Ks N v1 s) := by
  unfold fn_Code_aim_Ks
  repeat' (first | with_reducible exact KF.none | with_reducible refine KF.ite ?_ ?_ | with_reducible refine KF.bind ?_ (fun _ _ => ?_) | with_reducible refine KF.some ?_ | refine Eb.upI ?_ (by decide) | refine Eb.upJ ?_ (by decide) | assumption)
theorem fp_fn_Meaning_ifEnd_Me {s : ms} (h : Eb fpI fpJ c s) : KF fpI fpJ c (fn_Meaning_ifEnd_Me N s) := by
  unfold fn_Meaning_ifEnd_Me
  repeat' (first | with_reducible exact KF.none | with_reducible refine KF.ite ?_ ?_ | with_reducible refine KF.bind ?_ (fun _ _ => ?_) | with_reducible refine KF.some ?_ | with_reducible refine fp_fn_Checker_isOff_Ch ?_ | with_reducible refine fp_fn_Code_aim_Ks ?_ | refine Eb.upI ?_ (by decide) | refine Eb.upJ ?_ (by decide) | assumption)
theorem fp_fn_Grammar_ifEnd_Gr {s : ms} (h : Eb fpI fpJ c s) : KF fpI fpJ c (fn_Grammar_ifEnd_Gr N s) := by
  unfold fn_Grammar_ifEnd_Gr
  repeat' (first | with_reducible exact KF.none | with_reducible refine KF.ite ?_ ?_ | with_reducible refine KF.bind ?_ (fun _ _ => ?_) | with_reducible refine KF.some ?_ | with_reducible refine fp_fn_Meaning_ifEnd_Me ?_ | with_reducible refine fp_fn_Tokens_shutQuietly_Tk ?_ | refine Eb.upI ?_ (by decide) | refine Eb.upJ ?_ (by decide) | assumption)
theorem fp_fn_Code_emit_Ks {v1 : Int32} {v2 : Int32} {s : ms} (h : Eb fpI fpJ c s) : KF fpI fpJ c (fn_Code_emit_Ks N v1 v2 s) := by
  unfold fn_Code_emit_Ks
  repeat' (first | with_reducible exact KF.none | with_reducible refine KF.ite ?_ ?_ | with_reducible refine KF.bind ?_ (fun _ _ => ?_) | with_reducible refine KF.some ?_ | refine Eb.upI ?_ (by decide) | refine Eb.upJ ?_ (by decide) | assumption)
theorem fp_fn_Meaning_otherwise_Me {s : ms} (h : Eb fpI fpJ c s) : KF fpI fpJ c (fn_Meaning_otherwise_Me N s) := by
  unfold fn_Meaning_otherwise_Me
  repeat' (first | with_reducible exact KF.none | with_reducible refine KF.ite ?_ ?_ | with_reducible refine KF.bind ?_ (fun _ _ => ?_) | with_reducible refine KF.some ?_ | with_reducible refine fp_fn_Checker_isOff_Ch ?_ | with_reducible refine fp_fn_Code_aim_Ks ?_ | with_reducible refine fp_fn_Code_emit_Ks ?_ | refine Eb.upI ?_ (by decide) | refine Eb.upJ ?_ (by decide) | assumption)
theorem fp_fn_Grammar_otherwise_Gr {s : ms} (h : Eb fpI fpJ c s) : KF fpI fpJ c (fn_Grammar_otherwise_Gr N s) := by
  unfold fn_Grammar_otherwise_Gr
  repeat' (first | with_reducible exact KF.none | with_reducible refine KF.ite ?_ ?_ | with_reducible refine KF.bind ?_ (fun _ _ => ?_) | with_reducible refine KF.some ?_ | with_reducible refine fp_fn_Grammar_goOnIn_Gr ?_ | with_reducible refine fp_fn_Meaning_otherwise_Me ?_ | with_reducible refine fp_fn_Tokens_take_Tk ?_ | refine Eb.upI ?_ (by decide) | refine Eb.upJ ?_ (by decide) | assumption)
theorem fp_fn_Code_argAt_Ks {v1 : Int32} {s : ms} (h : Eb fpI fpJ c s) : KF fpI fpJ c (fn_Code_argAt_Ks N v1 s) := by
  unfold fn_Code_argAt_Ks
  repeat' (first | with_reducible exact KF.none | with_reducible refine KF.ite ?_ ?_ | with_reducible refine KF.bind ?_ (fun _ _ => ?_) | with_reducible refine KF.some ?_ | refine Eb.upI ?_ (by decide) | refine Eb.upJ ?_ (by decide) | assumption)
theorem fp_bd_Code_aimAll_Ks_4 {k_4 : Int32 → Int32 → ms → Option (Unit × ms)} (hk_4 : ∀ y0 y1 s, Eb fpI fpJ c s → KF fpI fpJ c (k_4 y0 y1 s)) {x2 : Int32} {x3 : Int32} {s : ms} (h : Eb fpI fpJ c s) : KF fpI fpJ c (bd_Code_aimAll_Ks_4 N k_4 x2 x3 s) := by
  unfold bd_Code_aimAll_Ks_4
  repeat' (first | with_reducible exact KF.none | with_reducible refine KF.ite ?_ ?_ | with_reducible refine KF.bind ?_ (fun _ _ => ?_) | with_reducible refine KF.some ?_ | with_reducible refine fp_fn_Code_aim_Ks ?_ | with_reducible refine fp_fn_Code_argAt_Ks ?_ | with_reducible refine hk_4 _ _ _ ?_ | refine Eb.upI ?_ (by decide) | refine Eb.upJ ?_ (by decide) | assumption)
theorem fp_hd_Code_aimAll_Ks_4 : ∀ (n : Nat) (x2 : Int32) (x3 : Int32) (s : ms), Eb fpI fpJ c s → KF fpI fpJ c (hd_Code_aimAll_Ks_4 N n x2 x3 s)
  | 0, _, _, _, _ => KF.none
  | n + 1, x2, x3, s, h => fp_bd_Code_aimAll_Ks_4 (fun x2 x3 s h => fp_hd_Code_aimAll_Ks_4 n x2 x3 s h) h
theorem fp_fn_Code_aimAll_Ks {v1 : Int32} {s : ms} (h : Eb fpI fpJ c s) : KF fpI fpJ c (fn_Code_aimAll_Ks N v1 s) := by
  unfold fn_Code_aimAll_Ks
  repeat' (first | with_reducible exact KF.none | with_reducible refine KF.ite ?_ ?_ | with_reducible refine KF.bind ?_ (fun _ _ => ?_) | with_reducible refine KF.some ?_ | with_reducible refine fp_hd_Code_aimAll_Ks_4 _ _ _ _ ?_ | refine Eb.upI ?_ (by decide) | refine Eb.upJ ?_ (by decide) | assumption)
theorem fp_fn_Meaning_caseEnd_Me {s : ms} (h : Eb fpI fpJ c s) : KF fpI fpJ c (fn_Meaning_caseEnd_Me N s) := by
  unfold fn_Meaning_caseEnd_Me
  repeat' (first | with_reducible exact KF.none | with_reducible refine KF.ite ?_ ?_ | with_reducible refine KF.bind ?_ (fun _ _ => ?_) | with_reducible refine KF.some ?_ | with_reducible refine fp_fn_Checker_isOff_Ch ?_ | with_reducible refine fp_fn_Code_aimAll_Ks ?_ | with_reducible refine fp_fn_Code_emit_Ks ?_ | refine Eb.upI ?_ (by decide) | refine Eb.upJ ?_ (by decide) | assumption)
theorem fp_fn_Grammar_caseEnd_Gr {s : ms} (h : Eb fpI fpJ c s) : KF fpI fpJ c (fn_Grammar_caseEnd_Gr N s) := by
  unfold fn_Grammar_caseEnd_Gr
  repeat' (first | with_reducible exact KF.none | with_reducible refine KF.ite ?_ ?_ | with_reducible refine KF.bind ?_ (fun _ _ => ?_) | with_reducible refine KF.some ?_ | with_reducible refine fp_fn_Meaning_caseEnd_Me ?_ | with_reducible refine fp_fn_Tokens_shut_Tk ?_ | refine Eb.upI ?_ (by decide) | refine Eb.upJ ?_ (by decide) | assumption)
theorem fp_fn_Checker_spend_Ch {v1 : Int32} {s : ms} (h : Eb fpI fpJ c s) : KF fpI fpJ c (fn_Checker_spend_Ch N v1 s) := by
  unfold fn_Checker_spend_Ch
  repeat' (first | with_reducible exact KF.none | with_reducible refine KF.ite ?_ ?_ | with_reducible refine KF.bind ?_ (fun _ _ => ?_) | with_reducible refine KF.some ?_ | with_reducible refine fp_fn_C_capped ?_ | refine Eb.upI ?_ (by decide) | refine Eb.upJ ?_ (by decide) | assumption)
theorem fp_bk_Meaning_label_Me_52 {x1 : Int32} {x3 : Int32} {s : ms} (h : Eb fpI fpJ c s) : KF fpI fpJ c (bk_Meaning_label_Me_52 N x1 x3 s) := by
  unfold bk_Meaning_label_Me_52
  repeat' (first | with_reducible exact KF.none | with_reducible refine KF.ite ?_ ?_ | with_reducible refine KF.bind ?_ (fun _ _ => ?_) | with_reducible refine KF.some ?_ | with_reducible refine fp_fn_Checker_spend_Ch ?_ | with_reducible refine fp_fn_Code_emit_Ks ?_ | refine Eb.upI ?_ (by decide) | refine Eb.upJ ?_ (by decide) | assumption)
theorem fp_fn_Meaning_label_Me {v1 : Int32} {v2 : Int32} {s : ms} (h : Eb fpI fpJ c s) : KF fpI fpJ c (fn_Meaning_label_Me N v1 v2 s) := by
  unfold fn_Meaning_label_Me
  repeat' (first | with_reducible exact KF.none | with_reducible refine KF.ite ?_ ?_ | with_reducible refine KF.bind ?_ (fun _ _ => ?_) | with_reducible refine KF.some ?_ | with_reducible refine fp_bk_Meaning_label_Me_52 ?_ | with_reducible refine fp_fn_Checker_isOff_Ch ?_ | with_reducible refine fp_fn_Checker_refuse_Ch ?_ | with_reducible refine fp_fn_Code_widthOf_Ks ?_ | refine Eb.upI ?_ (by decide) | refine Eb.upJ ?_ (by decide) | assumption)
theorem fp_fn_Meaning_labelsEnd_Me {s : ms} (h : Eb fpI fpJ c s) : KF fpI fpJ c (fn_Meaning_labelsEnd_Me N s) := by
  unfold fn_Meaning_labelsEnd_Me
  repeat' (first | with_reducible exact KF.none | with_reducible refine KF.ite ?_ ?_ | with_reducible refine KF.bind ?_ (fun _ _ => ?_) | with_reducible refine KF.some ?_ | with_reducible refine fp_fn_Checker_isOff_Ch ?_ | with_reducible refine fp_fn_Code_aimAll_Ks ?_ | with_reducible refine fp_fn_Code_emit_Ks ?_ | refine Eb.upI ?_ (by decide) | refine Eb.upJ ?_ (by decide) | assumption)
theorem fp_bk_Grammar_arm_Gr_116 {s : ms} (h : Eb fpI fpJ c s) : KF fpI fpJ c (bk_Grammar_arm_Gr_116 N s) := by
  unfold bk_Grammar_arm_Gr_116
  repeat' (first | with_reducible exact KF.none | with_reducible refine KF.ite ?_ ?_ | with_reducible refine KF.bind ?_ (fun _ _ => ?_) | with_reducible refine KF.some ?_ | with_reducible refine fp_fn_Grammar_goOnIn_Gr ?_ | with_reducible refine fp_fn_Meaning_labelsEnd_Me ?_ | with_reducible refine fp_fn_Tokens_need_Tk ?_ | refine Eb.upI ?_ (by decide) | refine Eb.upJ ?_ (by decide) | assumption)
theorem fp_bk_Grammar_arm_Gr_103 {k_41 : Int32 → ms → Option (Unit × ms)} (hk_41 : ∀ y0 s, Eb fpI fpJ c s → KF fpI fpJ c (k_41 y0 s)) {x1 : Int32} {s : ms} (h : Eb fpI fpJ c s) : KF fpI fpJ c (bk_Grammar_arm_Gr_103 N k_41 x1 s) := by
  unfold bk_Grammar_arm_Gr_103
  repeat' (first | with_reducible exact KF.none | with_reducible refine KF.ite ?_ ?_ | with_reducible refine KF.bind ?_ (fun _ _ => ?_) | with_reducible refine KF.some ?_ | with_reducible refine fp_fn_Tokens_take_Tk ?_ | with_reducible refine hk_41 _ _ ?_ | refine Eb.upI ?_ (by decide) | refine Eb.upJ ?_ (by decide) | assumption)
theorem fp_bd_Grammar_arm_Gr_41 {k_41 : Int32 → ms → Option (Unit × ms)} (hk_41 : ∀ y0 s, Eb fpI fpJ c s → KF fpI fpJ c (k_41 y0 s)) {x1 : Int32} {s : ms} (h : Eb fpI fpJ c s) : KF fpI fpJ c (bd_Grammar_arm_Gr_41 N k_41 x1 s) := by
  unfold bd_Grammar_arm_Gr_41
  repeat' (first | with_reducible exact KF.none | with_reducible refine KF.ite ?_ ?_ | with_reducible refine KF.bind ?_ (fun _ _ => ?_) | with_reducible refine KF.some ?_ | with_reducible refine fp_bk_Grammar_arm_Gr_103 hk_41 ?_ | with_reducible refine fp_bk_Grammar_arm_Gr_116 ?_ | with_reducible refine fp_fn_Meaning_label_Me ?_ | with_reducible refine fp_fn_Tokens_due_Tk ?_ | with_reducible refine fp_fn_Tokens_take_Tk ?_ | with_reducible refine hk_41 _ _ ?_ | refine Eb.upI ?_ (by decide) | refine Eb.upJ ?_ (by decide) | assumption)
theorem fp_hd_Grammar_arm_Gr_41 : ∀ (n : Nat) (x1 : Int32) (s : ms), Eb fpI fpJ c s → KF fpI fpJ c (hd_Grammar_arm_Gr_41 N n x1 s)
  | 0, _, _, _ => KF.none
  | n + 1, x1, s, h => fp_bd_Grammar_arm_Gr_41 (fun x1 s h => fp_hd_Grammar_arm_Gr_41 n x1 s h) h
theorem fp_fn_Grammar_arm_Gr {s : ms} (h : Eb fpI fpJ c s) : KF fpI fpJ c (fn_Grammar_arm_Gr N s) := by
  unfold fn_Grammar_arm_Gr
  repeat' (first | with_reducible exact KF.none | with_reducible refine KF.ite ?_ ?_ | with_reducible refine KF.bind ?_ (fun _ _ => ?_) | with_reducible refine KF.some ?_ | with_reducible refine fp_fn_Grammar_caseEnd_Gr ?_ | with_reducible refine fp_fn_Grammar_goOnIn_Gr ?_ | with_reducible refine fp_fn_Meaning_label_Me ?_ | with_reducible refine fp_fn_Tokens_need_Tk ?_ | with_reducible refine fp_fn_Tokens_take_Tk ?_ | with_reducible refine fp_hd_Grammar_arm_Gr_41 _ _ _ ?_ | refine Eb.upI ?_ (by decide) | refine Eb.upJ ?_ (by decide) | assumption)
theorem fp_fn_Meaning_armEnd_Me {s : ms} (h : Eb fpI fpJ c s) : KF fpI fpJ c (fn_Meaning_armEnd_Me N s) := by
  unfold fn_Meaning_armEnd_Me
  repeat' (first | with_reducible exact KF.none | with_reducible refine KF.ite ?_ ?_ | with_reducible refine KF.bind ?_ (fun _ _ => ?_) | with_reducible refine KF.some ?_ | with_reducible refine fp_fn_Checker_isOff_Ch ?_ | with_reducible refine fp_fn_Code_aim_Ks ?_ | with_reducible refine fp_fn_Code_emit_Ks ?_ | refine Eb.upI ?_ (by decide) | refine Eb.upJ ?_ (by decide) | assumption)
theorem fp_bk_Design_addPiece_Ds_54 {t0 : Int32} {t1 : Int32} {s : ms} (h : Eb fpI fpJ c s) : KF fpI fpJ c (bk_Design_addPiece_Ds_54 N t0 t1 s) := by
  unfold bk_Design_addPiece_Ds_54
  repeat' (first | with_reducible exact KF.none | with_reducible refine KF.ite ?_ ?_ | with_reducible refine KF.bind ?_ (fun _ _ => ?_) | with_reducible refine KF.some ?_ | refine Eb.upI ?_ (by decide) | refine Eb.upJ ?_ (by decide) | assumption)
theorem fp_fn_Design_addPiece_Ds {v1 : Int32} {v2 : Int32} {s : ms} (h : Eb fpI fpJ c s) : KF fpI fpJ c (fn_Design_addPiece_Ds N v1 v2 s) := by
  unfold fn_Design_addPiece_Ds
  repeat' (first | with_reducible exact KF.none | with_reducible refine KF.ite ?_ ?_ | with_reducible refine KF.bind ?_ (fun _ _ => ?_) | with_reducible refine KF.some ?_ | with_reducible refine fp_bk_Design_addPiece_Ds_54 ?_ | refine Eb.upI ?_ (by decide) | refine Eb.upJ ?_ (by decide) | assumption)
theorem fp_fn_Meaning_alwaysEnd_Me {s : ms} (h : Eb fpI fpJ c s) : KF fpI fpJ c (fn_Meaning_alwaysEnd_Me N s) := by
  unfold fn_Meaning_alwaysEnd_Me
  repeat' (first | with_reducible exact KF.none | with_reducible refine KF.ite ?_ ?_ | with_reducible refine KF.bind ?_ (fun _ _ => ?_) | with_reducible refine KF.some ?_ | with_reducible refine fp_fn_Checker_isOff_Ch ?_ | with_reducible refine fp_fn_Design_addPiece_Ds ?_ | refine Eb.upI ?_ (by decide) | refine Eb.upJ ?_ (by decide) | assumption)
theorem fp_fn_Grammar_behindStatement_Gr {s : ms} (h : Eb fpI fpJ c s) : KF fpI fpJ c (fn_Grammar_behindStatement_Gr N s) := by
  unfold fn_Grammar_behindStatement_Gr
  repeat' (first | with_reducible exact KF.none | with_reducible refine KF.ite ?_ ?_ | with_reducible refine KF.bind ?_ (fun _ _ => ?_) | with_reducible refine KF.some ?_ | with_reducible refine fp_fn_Grammar_arm_Gr ?_ | with_reducible refine fp_fn_Grammar_caseEnd_Gr ?_ | with_reducible refine fp_fn_Grammar_goOnIn_Gr ?_ | with_reducible refine fp_fn_Grammar_ifEnd_Gr ?_ | with_reducible refine fp_fn_Grammar_otherwise_Gr ?_ | with_reducible refine fp_fn_Meaning_alwaysEnd_Me ?_ | with_reducible refine fp_fn_Meaning_armEnd_Me ?_ | with_reducible refine fp_fn_Tokens_shut_Tk ?_ | refine Eb.upI ?_ (by decide) | refine Eb.upJ ?_ (by decide) | assumption)
theorem fp_fn_Checker_push_Ch {v1 : Int32} {s : ms} (h : Eb fpI fpJ c s) : KF fpI fpJ c (fn_Checker_push_Ch N v1 s) := by
  unfold fn_Checker_push_Ch
  repeat' (first | with_reducible exact KF.none | with_reducible refine KF.ite ?_ ?_ | with_reducible refine KF.bind ?_ (fun _ _ => ?_) | with_reducible refine KF.some ?_ | refine Eb.upI ?_ (by decide) | refine Eb.upJ ?_ (by decide) | assumption)
theorem fp_fn_Checker_localOf_Ch {v1 : Int32} {s : ms} (h : Eb fpI fpJ c s) : KF fpI fpJ c (fn_Checker_localOf_Ch N v1 s) := by
  unfold fn_Checker_localOf_Ch
  repeat' (first | with_reducible exact KF.none | with_reducible refine KF.ite ?_ ?_ | with_reducible refine KF.bind ?_ (fun _ _ => ?_) | with_reducible refine KF.some ?_ | refine Eb.upI ?_ (by decide) | refine Eb.upJ ?_ (by decide) | assumption)
theorem fp_fn_Checker_name_Ch {v1 : Int32} {v2 : Int32} {s : ms} (h : Eb fpI fpJ c s) : KF fpI fpJ c (fn_Checker_name_Ch N v1 v2 s) := by
  unfold fn_Checker_name_Ch
  repeat' (first | with_reducible exact KF.none | with_reducible refine KF.ite ?_ ?_ | with_reducible refine KF.bind ?_ (fun _ _ => ?_) | with_reducible refine KF.some ?_ | with_reducible refine fp_fn_Checker_isOff_Ch ?_ | with_reducible refine fp_fn_Checker_localOf_Ch ?_ | with_reducible refine fp_fn_Checker_meantBy_Ch ?_ | with_reducible refine fp_fn_Checker_push_Ch ?_ | with_reducible refine fp_fn_Checker_refuse_Ch ?_ | with_reducible refine fp_fn_Checker_sortOf_Ch ?_ | with_reducible refine fp_fn_Code_emit_Ks ?_ | refine Eb.upI ?_ (by decide) | refine Eb.upJ ?_ (by decide) | assumption)
theorem fp_fn_Grammar_hold_Gr {v1 : Int32} {v2 : Int32} {v3 : Int32} {s : ms} (h : Eb fpI fpJ c s) : KF fpI fpJ c (fn_Grammar_hold_Gr N v1 v2 v3 s) := by
  unfold fn_Grammar_hold_Gr
  repeat' (first | with_reducible exact KF.none | with_reducible refine KF.ite ?_ ?_ | with_reducible refine KF.bind ?_ (fun _ _ => ?_) | with_reducible refine KF.some ?_ | refine Eb.upI ?_ (by decide) | refine Eb.upJ ?_ (by decide) | assumption)
theorem fp_fn_Checker_pop_Ch {s : ms} (h : Eb fpI fpJ c s) : KF fpI fpJ c (fn_Checker_pop_Ch N s) := by
  unfold fn_Checker_pop_Ch
  repeat' (first | with_reducible exact KF.none | with_reducible refine KF.ite ?_ ?_ | with_reducible refine KF.bind ?_ (fun _ _ => ?_) | with_reducible refine KF.some ?_ | refine Eb.upI ?_ (by decide) | refine Eb.upJ ?_ (by decide) | assumption)
theorem fp_fn_Checker_part_Ch {v1 : Int32} {v2 : Int32} {s : ms} (h : Eb fpI fpJ c s) : KF fpI fpJ c (fn_Checker_part_Ch N v1 v2 s) := by
  unfold fn_Checker_part_Ch
  repeat' (first | with_reducible exact KF.none | with_reducible refine KF.ite ?_ ?_ | with_reducible refine KF.bind ?_ (fun _ _ => ?_) | with_reducible refine KF.some ?_ | with_reducible refine fp_fn_Checker_isOff_Ch ?_ | with_reducible refine fp_fn_Checker_lowOf ?_ | with_reducible refine fp_fn_Checker_partWidth ?_ | with_reducible refine fp_fn_Checker_pop_Ch ?_ | with_reducible refine fp_fn_Checker_push_Ch ?_ | with_reducible refine fp_fn_Checker_refuse_Ch ?_ | with_reducible refine fp_fn_Code_emit_Ks ?_ | refine Eb.upI ?_ (by decide) | refine Eb.upJ ?_ (by decide) | assumption)
theorem fp_fn_Grammar_named_Gr {s : ms} (h : Eb fpI fpJ c s) : KF fpI fpJ c (fn_Grammar_named_Gr N s) := by
  unfold fn_Grammar_named_Gr
  repeat' (first | with_reducible exact KF.none | with_reducible refine KF.ite ?_ ?_ | with_reducible refine KF.bind ?_ (fun _ _ => ?_) | with_reducible refine KF.some ?_ | with_reducible refine fp_fn_Checker_name_Ch ?_ | with_reducible refine fp_fn_Checker_part_Ch ?_ | with_reducible refine fp_fn_Grammar_hold_Gr ?_ | with_reducible refine fp_fn_Grammar_part_Gr ?_ | with_reducible refine fp_fn_Tokens_open_Tk ?_ | with_reducible refine fp_fn_Tokens_take_Tk ?_ | refine Eb.upI ?_ (by decide) | refine Eb.upJ ?_ (by decide) | assumption)
theorem fp_fn_Checker_literal_Ch {v1 : Int32} {s : ms} (h : Eb fpI fpJ c s) : KF fpI fpJ c (fn_Checker_literal_Ch N v1 s) := by
  unfold fn_Checker_literal_Ch
  repeat' (first | with_reducible exact KF.none | with_reducible refine KF.ite ?_ ?_ | with_reducible refine KF.bind ?_ (fun _ _ => ?_) | with_reducible refine KF.some ?_ | with_reducible refine fp_fn_Checker_isOff_Ch ?_ | with_reducible refine fp_fn_Checker_push_Ch ?_ | with_reducible refine fp_fn_Code_emit_Ks ?_ | with_reducible refine fp_fn_Code_widthOf_Ks ?_ | refine Eb.upI ?_ (by decide) | refine Eb.upJ ?_ (by decide) | assumption)
theorem fp_fn_Grammar_isUnary {v0 : Int32} {s : ms} (h : Eb fpI fpJ c s) : KF fpI fpJ c (fn_Grammar_isUnary N v0 s) := by
  unfold fn_Grammar_isUnary
  repeat' (first | with_reducible exact KF.none | with_reducible refine KF.ite ?_ ?_ | with_reducible refine KF.bind ?_ (fun _ _ => ?_) | with_reducible refine KF.some ?_ | refine Eb.upI ?_ (by decide) | refine Eb.upJ ?_ (by decide) | assumption)
theorem fp_bk_Grammar_signsBefore_Gr_47 {x1 : Int32} {s : ms} (h : Eb fpI fpJ c s) : KF fpI fpJ c (bk_Grammar_signsBefore_Gr_47 N x1 s) := by
  unfold bk_Grammar_signsBefore_Gr_47
  repeat' (first | with_reducible exact KF.none | with_reducible refine KF.ite ?_ ?_ | with_reducible refine KF.bind ?_ (fun _ _ => ?_) | with_reducible refine KF.some ?_ | with_reducible refine fp_fn_Grammar_hold_Gr ?_ | refine Eb.upI ?_ (by decide) | refine Eb.upJ ?_ (by decide) | assumption)
theorem fp_bd_Grammar_signsBefore_Gr_10 {k_10 : Int32 → Int32 → ms → Option (Unit × ms)} (hk_10 : ∀ y0 y1 s, Eb fpI fpJ c s → KF fpI fpJ c (k_10 y0 y1 s)) {x1 : Int32} {x2 : Int32} {s : ms} (h : Eb fpI fpJ c s) : KF fpI fpJ c (bd_Grammar_signsBefore_Gr_10 N k_10 x1 x2 s) := by
  unfold bd_Grammar_signsBefore_Gr_10
  repeat' (first | with_reducible exact KF.none | with_reducible refine KF.ite ?_ ?_ | with_reducible refine KF.bind ?_ (fun _ _ => ?_) | with_reducible refine KF.some ?_ | with_reducible refine fp_bk_Grammar_signsBefore_Gr_47 ?_ | with_reducible refine fp_fn_Grammar_isUnary ?_ | with_reducible refine fp_fn_Tokens_take_Tk ?_ | with_reducible refine hk_10 _ _ _ ?_ | refine Eb.upI ?_ (by decide) | refine Eb.upJ ?_ (by decide) | assumption)
theorem fp_hd_Grammar_signsBefore_Gr_10 : ∀ (n : Nat) (x1 : Int32) (x2 : Int32) (s : ms), Eb fpI fpJ c s → KF fpI fpJ c (hd_Grammar_signsBefore_Gr_10 N n x1 x2 s)
  | 0, _, _, _, _ => KF.none
  | n + 1, x1, x2, s, h => fp_bd_Grammar_signsBefore_Gr_10 (fun x1 x2 s h => fp_hd_Grammar_signsBefore_Gr_10 n x1 x2 s h) h
theorem fp_fn_Grammar_signsBefore_Gr {s : ms} (h : Eb fpI fpJ c s) : KF fpI fpJ c (fn_Grammar_signsBefore_Gr N s) := by
  unfold fn_Grammar_signsBefore_Gr
  repeat' (first | with_reducible exact KF.none | with_reducible refine KF.ite ?_ ?_ | with_reducible refine KF.bind ?_ (fun _ _ => ?_) | with_reducible refine KF.some ?_ | with_reducible refine fp_hd_Grammar_signsBefore_Gr_10 _ _ _ _ ?_ | refine Eb.upI ?_ (by decide) | refine Eb.upJ ?_ (by decide) | assumption)
theorem fp_fn_Grammar_brace_Gr {s : ms} (h : Eb fpI fpJ c s) : KF fpI fpJ c (fn_Grammar_brace_Gr N s) := by
  unfold fn_Grammar_brace_Gr
  repeat' (first | with_reducible exact KF.none | with_reducible refine KF.ite ?_ ?_ | with_reducible refine KF.bind ?_ (fun _ _ => ?_) | with_reducible refine KF.some ?_ | with_reducible refine fp_fn_Grammar_hold_Gr ?_ | with_reducible refine fp_fn_Tokens_open_Tk ?_ | with_reducible refine fp_fn_Tokens_take_Tk ?_ | refine Eb.upI ?_ (by decide) | refine Eb.upJ ?_ (by decide) | assumption)
theorem fp_fn_Grammar_operand_Gr {s : ms} (h : Eb fpI fpJ c s) : KF fpI fpJ c (fn_Grammar_operand_Gr N s) := by
  unfold fn_Grammar_operand_Gr
  repeat' (first | with_reducible exact KF.none | with_reducible refine KF.ite ?_ ?_ | with_reducible refine KF.bind ?_ (fun _ _ => ?_) | with_reducible refine KF.some ?_ | with_reducible refine fp_fn_Checker_literal_Ch ?_ | with_reducible refine fp_fn_Grammar_brace_Gr ?_ | with_reducible refine fp_fn_Grammar_hold_Gr ?_ | with_reducible refine fp_fn_Grammar_named_Gr ?_ | with_reducible refine fp_fn_Grammar_signsBefore_Gr ?_ | with_reducible refine fp_fn_Tokens_open_Tk ?_ | with_reducible refine fp_fn_Tokens_refuse_Tk ?_ | with_reducible refine fp_fn_Tokens_take_Tk ?_ | refine Eb.upI ?_ (by decide) | refine Eb.upJ ?_ (by decide) | assumption)
theorem fp_fn_Grammar_rankOf {v0 : Int32} {s : ms} (h : Eb fpI fpJ c s) : KF fpI fpJ c (fn_Grammar_rankOf N v0 s) := by
  unfold fn_Grammar_rankOf
  repeat' (first | with_reducible exact KF.none | with_reducible refine KF.ite ?_ ?_ | with_reducible refine KF.bind ?_ (fun _ _ => ?_) | with_reducible refine KF.some ?_ | refine Eb.upI ?_ (by decide) | refine Eb.upJ ?_ (by decide) | assumption)
theorem fp_fn_Checker_asks {v0 : Int32} {s : ms} (h : Eb fpI fpJ c s) : KF fpI fpJ c (fn_Checker_asks N v0 s) := by
  unfold fn_Checker_asks
  repeat' (first | with_reducible exact KF.none | with_reducible refine KF.ite ?_ ?_ | with_reducible refine KF.bind ?_ (fun _ _ => ?_) | with_reducible refine KF.some ?_ | refine Eb.upI ?_ (by decide) | refine Eb.upJ ?_ (by decide) | assumption)
theorem fp_bk_Checker_binary_Ch_140 {x1 : Int32} {x4 : Int32} {t0 : Int32} {s : ms} (h : Eb fpI fpJ c s) : KF fpI fpJ c (bk_Checker_binary_Ch_140 N x1 x4 t0 s) := by
  unfold bk_Checker_binary_Ch_140
  repeat' (first | with_reducible exact KF.none | with_reducible refine KF.ite ?_ ?_ | with_reducible refine KF.bind ?_ (fun _ _ => ?_) | with_reducible refine KF.some ?_ | with_reducible refine fp_fn_Checker_push_Ch ?_ | with_reducible refine fp_fn_Code_emit_Ks ?_ | refine Eb.upI ?_ (by decide) | refine Eb.upJ ?_ (by decide) | assumption)
theorem fp_bk_Checker_binary_Ch_126 {x1 : Int32} {x4 : Int32} {s : ms} (h : Eb fpI fpJ c s) : KF fpI fpJ c (bk_Checker_binary_Ch_126 N x1 x4 s) := by
  unfold bk_Checker_binary_Ch_126
  repeat' (first | with_reducible exact KF.none | with_reducible refine KF.ite ?_ ?_ | with_reducible refine KF.bind ?_ (fun _ _ => ?_) | with_reducible refine KF.some ?_ | with_reducible refine fp_bk_Checker_binary_Ch_140 ?_ | with_reducible refine fp_fn_Checker_asks ?_ | refine Eb.upI ?_ (by decide) | refine Eb.upJ ?_ (by decide) | assumption)
theorem fp_bk_Checker_binary_Ch_123 {x1 : Int32} {x4 : Int32} {t0 : Int32} {s : ms} (h : Eb fpI fpJ c s) : KF fpI fpJ c (bk_Checker_binary_Ch_123 N x1 x4 t0 s) := by
  unfold bk_Checker_binary_Ch_123
  repeat' (first | with_reducible exact KF.none | with_reducible refine KF.ite ?_ ?_ | with_reducible refine KF.bind ?_ (fun _ _ => ?_) | with_reducible refine KF.some ?_ | with_reducible refine fp_bk_Checker_binary_Ch_126 ?_ | with_reducible refine fp_fn_Checker_spend_Ch ?_ | refine Eb.upI ?_ (by decide) | refine Eb.upJ ?_ (by decide) | assumption)
theorem fp_bk_Checker_binary_Ch_80 {x1 : Int32} {x3 : Int32} {x4 : Int32} {x5 : Int32} {s : ms} (h : Eb fpI fpJ c s) : KF fpI fpJ c (bk_Checker_binary_Ch_80 N x1 x3 x4 x5 s) := by
  unfold bk_Checker_binary_Ch_80
  repeat' (first | with_reducible exact KF.none | with_reducible refine KF.ite ?_ ?_ | with_reducible refine KF.bind ?_ (fun _ _ => ?_) | with_reducible refine KF.some ?_ | with_reducible refine fp_bk_Checker_binary_Ch_123 ?_ | with_reducible refine fp_bk_Checker_binary_Ch_126 ?_ | with_reducible refine fp_fn_Checker_spend_Ch ?_ | refine Eb.upI ?_ (by decide) | refine Eb.upJ ?_ (by decide) | assumption)
theorem fp_bk_Checker_binary_Ch_59 {x1 : Int32} {x2 : Int32} {x3 : Int32} {x4 : Int32} {x5 : Int32} {t0 : Int32} {s : ms} (h : Eb fpI fpJ c s) : KF fpI fpJ c (bk_Checker_binary_Ch_59 N x1 x2 x3 x4 x5 t0 s) := by
  unfold bk_Checker_binary_Ch_59
  repeat' (first | with_reducible exact KF.none | with_reducible refine KF.ite ?_ ?_ | with_reducible refine KF.bind ?_ (fun _ _ => ?_) | with_reducible refine KF.some ?_ | with_reducible refine fp_bk_Checker_binary_Ch_80 ?_ | with_reducible refine fp_fn_Checker_refuse_Ch ?_ | refine Eb.upI ?_ (by decide) | refine Eb.upJ ?_ (by decide) | assumption)
theorem fp_bk_Checker_binary_Ch_54 {x1 : Int32} {x2 : Int32} {x3 : Int32} {x4 : Int32} {x5 : Int32} {s : ms} (h : Eb fpI fpJ c s) : KF fpI fpJ c (bk_Checker_binary_Ch_54 N x1 x2 x3 x4 x5 s) := by
  unfold bk_Checker_binary_Ch_54
  repeat' (first | with_reducible exact KF.none | with_reducible refine KF.ite ?_ ?_ | with_reducible refine KF.bind ?_ (fun _ _ => ?_) | with_reducible refine KF.some ?_ | with_reducible refine fp_bk_Checker_binary_Ch_59 ?_ | refine Eb.upI ?_ (by decide) | refine Eb.upJ ?_ (by decide) | assumption)
theorem fp_bk_Checker_binary_Ch_36 {x1 : Int32} {x2 : Int32} {x3 : Int32} {x4 : Int32} {t0 : Int32} {s : ms} (h : Eb fpI fpJ c s) : KF fpI fpJ c (bk_Checker_binary_Ch_36 N x1 x2 x3 x4 t0 s) := by
  unfold bk_Checker_binary_Ch_36
  repeat' (first | with_reducible exact KF.none | with_reducible refine KF.ite ?_ ?_ | with_reducible refine KF.bind ?_ (fun _ _ => ?_) | with_reducible refine KF.some ?_ | with_reducible refine fp_bk_Checker_binary_Ch_54 ?_ | with_reducible refine fp_bk_Checker_binary_Ch_59 ?_ | refine Eb.upI ?_ (by decide) | refine Eb.upJ ?_ (by decide) | assumption)
theorem fp_bk_Checker_binary_Ch_31 {x1 : Int32} {x2 : Int32} {x3 : Int32} {x4 : Int32} {s : ms} (h : Eb fpI fpJ c s) : KF fpI fpJ c (bk_Checker_binary_Ch_31 N x1 x2 x3 x4 s) := by
  unfold bk_Checker_binary_Ch_31
  repeat' (first | with_reducible exact KF.none | with_reducible refine KF.ite ?_ ?_ | with_reducible refine KF.bind ?_ (fun _ _ => ?_) | with_reducible refine KF.some ?_ | with_reducible refine fp_bk_Checker_binary_Ch_36 ?_ | refine Eb.upI ?_ (by decide) | refine Eb.upJ ?_ (by decide) | assumption)
theorem fp_fn_Checker_binary_Ch {v1 : Int32} {v2 : Int32} {s : ms} (h : Eb fpI fpJ c s) : KF fpI fpJ c (fn_Checker_binary_Ch N v1 v2 s) := by
  unfold fn_Checker_binary_Ch
  repeat' (first | with_reducible exact KF.none | with_reducible refine KF.ite ?_ ?_ | with_reducible refine KF.bind ?_ (fun _ _ => ?_) | with_reducible refine KF.some ?_ | with_reducible refine fp_bk_Checker_binary_Ch_31 ?_ | with_reducible refine fp_bk_Checker_binary_Ch_36 ?_ | with_reducible refine fp_fn_Checker_isOff_Ch ?_ | with_reducible refine fp_fn_Checker_pop_Ch ?_ | refine Eb.upI ?_ (by decide) | refine Eb.upJ ?_ (by decide) | assumption)
theorem fp_bk_Checker_unary_Ch_36 {x1 : Int32} {x2 : Int32} {t0 : Int32} {s : ms} (h : Eb fpI fpJ c s) : KF fpI fpJ c (bk_Checker_unary_Ch_36 N x1 x2 t0 s) := by
  unfold bk_Checker_unary_Ch_36
  repeat' (first | with_reducible exact KF.none | with_reducible refine KF.ite ?_ ?_ | with_reducible refine KF.bind ?_ (fun _ _ => ?_) | with_reducible refine KF.some ?_ | with_reducible refine fp_fn_Checker_push_Ch ?_ | with_reducible refine fp_fn_Code_emit_Ks ?_ | refine Eb.upI ?_ (by decide) | refine Eb.upJ ?_ (by decide) | assumption)
theorem fp_bk_Checker_unary_Ch_31 {x1 : Int32} {x2 : Int32} {s : ms} (h : Eb fpI fpJ c s) : KF fpI fpJ c (bk_Checker_unary_Ch_31 N x1 x2 s) := by
  unfold bk_Checker_unary_Ch_31
  repeat' (first | with_reducible exact KF.none | with_reducible refine KF.ite ?_ ?_ | with_reducible refine KF.bind ?_ (fun _ _ => ?_) | with_reducible refine KF.some ?_ | with_reducible refine fp_bk_Checker_unary_Ch_36 ?_ | refine Eb.upI ?_ (by decide) | refine Eb.upJ ?_ (by decide) | assumption)
theorem fp_fn_Checker_unary_Ch {v1 : Int32} {s : ms} (h : Eb fpI fpJ c s) : KF fpI fpJ c (fn_Checker_unary_Ch N v1 s) := by
  unfold fn_Checker_unary_Ch
  repeat' (first | with_reducible exact KF.none | with_reducible refine KF.ite ?_ ?_ | with_reducible refine KF.bind ?_ (fun _ _ => ?_) | with_reducible refine KF.some ?_ | with_reducible refine fp_bk_Checker_unary_Ch_31 ?_ | with_reducible refine fp_bk_Checker_unary_Ch_36 ?_ | with_reducible refine fp_fn_Checker_isOff_Ch ?_ | with_reducible refine fp_fn_Checker_pop_Ch ?_ | with_reducible refine fp_fn_Checker_spend_Ch ?_ | refine Eb.upI ?_ (by decide) | refine Eb.upJ ?_ (by decide) | assumption)
theorem fp_bd_Grammar_apply_Gr_90 {k_0 : Int32 → ms → Option (Unit × ms)} (hk_0 : ∀ y0 s, Eb fpI fpJ c s → KF fpI fpJ c (k_0 y0 s)) {k_90 : Int32 → Int32 → ms → Option (Unit × ms)} (hk_90 : ∀ y0 y1 s, Eb fpI fpJ c s → KF fpI fpJ c (k_90 y0 y1 s)) {x1 : Int32} {x2 : Int32} {s : ms} (h : Eb fpI fpJ c s) : KF fpI fpJ c (bd_Grammar_apply_Gr_90 N k_0 k_90 x1 x2 s) := by
  unfold bd_Grammar_apply_Gr_90
  repeat' (first | with_reducible exact KF.none | with_reducible refine KF.ite ?_ ?_ | with_reducible refine KF.bind ?_ (fun _ _ => ?_) | with_reducible refine KF.some ?_ | with_reducible refine fp_fn_Checker_unary_Ch ?_ | with_reducible refine fp_fn_Tokens_kindAt_Tk ?_ | with_reducible refine hk_0 _ _ ?_ | with_reducible refine hk_90 _ _ _ ?_ | refine Eb.upI ?_ (by decide) | refine Eb.upJ ?_ (by decide) | assumption)
theorem fp_hd_Grammar_apply_Gr_90 {k_0 : Int32 → ms → Option (Unit × ms)} (hk_0 : ∀ x0 s, Eb fpI fpJ c s → KF fpI fpJ c (k_0 x0 s)) : ∀ (n : Nat) (x1 : Int32) (x2 : Int32) (s : ms), Eb fpI fpJ c s → KF fpI fpJ c (hd_Grammar_apply_Gr_90 N k_0 n x1 x2 s)
  | 0, _, _, _, _ => KF.none
  | n + 1, x1, x2, s, h => fp_bd_Grammar_apply_Gr_90 hk_0 (fun x1 x2 s h => fp_hd_Grammar_apply_Gr_90 hk_0 n x1 x2 s h) h
theorem fp_bd_Grammar_apply_Gr_0 {k_0 : Int32 → ms → Option (Unit × ms)} (hk_0 : ∀ y0 s, Eb fpI fpJ c s → KF fpI fpJ c (k_0 y0 s)) {x1 : Int32} {s : ms} (h : Eb fpI fpJ c s) : KF fpI fpJ c (bd_Grammar_apply_Gr_0 N k_0 x1 s) := by
  unfold bd_Grammar_apply_Gr_0
  repeat' (first | with_reducible exact KF.none | with_reducible refine KF.ite ?_ ?_ | with_reducible refine KF.bind ?_ (fun _ _ => ?_) | with_reducible refine KF.some ?_ | with_reducible refine fp_fn_Checker_binary_Ch ?_ | with_reducible refine fp_fn_Grammar_rankOf ?_ | with_reducible refine fp_hd_Grammar_apply_Gr_90 hk_0 _ _ _ _ ?_ | with_reducible refine hk_0 _ _ ?_ | refine Eb.upI ?_ (by decide) | refine Eb.upJ ?_ (by decide) | assumption)
theorem fp_hd_Grammar_apply_Gr_0 : ∀ (n : Nat) (x1 : Int32) (s : ms), Eb fpI fpJ c s → KF fpI fpJ c (hd_Grammar_apply_Gr_0 N n x1 s)
  | 0, _, _, _ => KF.none
  | n + 1, x1, s, h => fp_bd_Grammar_apply_Gr_0 (fun x1 s h => fp_hd_Grammar_apply_Gr_0 n x1 s h) h
theorem fp_fn_Grammar_apply_Gr {v1 : Int32} {s : ms} (h : Eb fpI fpJ c s) : KF fpI fpJ c (fn_Grammar_apply_Gr N v1 s) := by
  unfold fn_Grammar_apply_Gr
  repeat' (first | with_reducible exact KF.none | with_reducible refine KF.ite ?_ ?_ | with_reducible refine KF.bind ?_ (fun _ _ => ?_) | with_reducible refine KF.some ?_ | with_reducible refine fp_hd_Grammar_apply_Gr_0 _ _ _ ?_ | refine Eb.upI ?_ (by decide) | refine Eb.upJ ?_ (by decide) | assumption)
theorem fp_fn_Checker_choose_Ch {v1 : Int32} {s : ms} (h : Eb fpI fpJ c s) : KF fpI fpJ c (fn_Checker_choose_Ch N v1 s) := by
  unfold fn_Checker_choose_Ch
  repeat' (first | with_reducible exact KF.none | with_reducible refine KF.ite ?_ ?_ | with_reducible refine KF.bind ?_ (fun _ _ => ?_) | with_reducible refine KF.some ?_ | with_reducible refine fp_fn_Checker_isOff_Ch ?_ | with_reducible refine fp_fn_Checker_pop_Ch ?_ | with_reducible refine fp_fn_Checker_push_Ch ?_ | with_reducible refine fp_fn_Checker_refuse_Ch ?_ | with_reducible refine fp_fn_Checker_spend_Ch ?_ | with_reducible refine fp_fn_Code_emit_Ks ?_ | refine Eb.upI ?_ (by decide) | refine Eb.upJ ?_ (by decide) | assumption)
theorem fp_fn_Checker_join_Ch {s : ms} (h : Eb fpI fpJ c s) : KF fpI fpJ c (fn_Checker_join_Ch N s) := by
  unfold fn_Checker_join_Ch
  repeat' (first | with_reducible exact KF.none | with_reducible refine KF.ite ?_ ?_ | with_reducible refine KF.bind ?_ (fun _ _ => ?_) | with_reducible refine KF.some ?_ | with_reducible refine fp_fn_C_capped ?_ | with_reducible refine fp_fn_Checker_isOff_Ch ?_ | with_reducible refine fp_fn_Checker_pop_Ch ?_ | with_reducible refine fp_fn_Checker_push_Ch ?_ | with_reducible refine fp_fn_Code_emit_Ks ?_ | refine Eb.upI ?_ (by decide) | refine Eb.upJ ?_ (by decide) | assumption)
theorem fp_bk_Checker_braces_Ch_26 {x2 : Int32} {s : ms} (h : Eb fpI fpJ c s) : KF fpI fpJ c (bk_Checker_braces_Ch_26 N x2 s) := by
  unfold bk_Checker_braces_Ch_26
  repeat' (first | with_reducible exact KF.none | with_reducible refine KF.ite ?_ ?_ | with_reducible refine KF.bind ?_ (fun _ _ => ?_) | with_reducible refine KF.some ?_ | with_reducible refine fp_fn_Checker_push_Ch ?_ | refine Eb.upI ?_ (by decide) | refine Eb.upJ ?_ (by decide) | assumption)
theorem fp_fn_Checker_braces_Ch {v1 : Int32} {s : ms} (h : Eb fpI fpJ c s) : KF fpI fpJ c (fn_Checker_braces_Ch N v1 s) := by
  unfold fn_Checker_braces_Ch
  repeat' (first | with_reducible exact KF.none | with_reducible refine KF.ite ?_ ?_ | with_reducible refine KF.bind ?_ (fun _ _ => ?_) | with_reducible refine KF.some ?_ | with_reducible refine fp_bk_Checker_braces_Ch_26 ?_ | with_reducible refine fp_fn_Checker_isOff_Ch ?_ | with_reducible refine fp_fn_Checker_pop_Ch ?_ | with_reducible refine fp_fn_Checker_refuse_Ch ?_ | refine Eb.upI ?_ (by decide) | refine Eb.upJ ?_ (by decide) | assumption)
theorem fp_fn_Grammar_closeBrace_Gr {v1 : Int32} {s : ms} (h : Eb fpI fpJ c s) : KF fpI fpJ c (fn_Grammar_closeBrace_Gr N v1 s) := by
  unfold fn_Grammar_closeBrace_Gr
  repeat' (first | with_reducible exact KF.none | with_reducible refine KF.ite ?_ ?_ | with_reducible refine KF.bind ?_ (fun _ _ => ?_) | with_reducible refine KF.some ?_ | with_reducible refine fp_fn_Checker_braces_Ch ?_ | with_reducible refine fp_fn_Tokens_shut_Tk ?_ | with_reducible refine fp_fn_Tokens_take_Tk ?_ | refine Eb.upI ?_ (by decide) | refine Eb.upJ ?_ (by decide) | assumption)
theorem fp_fn_Checker_index_Ch {s : ms} (h : Eb fpI fpJ c s) : KF fpI fpJ c (fn_Checker_index_Ch N s) := by
  unfold fn_Checker_index_Ch
  repeat' (first | with_reducible exact KF.none | with_reducible refine KF.ite ?_ ?_ | with_reducible refine KF.bind ?_ (fun _ _ => ?_) | with_reducible refine KF.some ?_ | with_reducible refine fp_fn_Checker_isOff_Ch ?_ | with_reducible refine fp_fn_Checker_pop_Ch ?_ | with_reducible refine fp_fn_Checker_push_Ch ?_ | with_reducible refine fp_fn_Checker_spend_Ch ?_ | with_reducible refine fp_fn_Code_emit_Ks ?_ | refine Eb.upI ?_ (by decide) | refine Eb.upJ ?_ (by decide) | assumption)
theorem fp_bk_Checker_repeat_Ch_31 {x2 : Int32} {s : ms} (h : Eb fpI fpJ c s) : KF fpI fpJ c (bk_Checker_repeat_Ch_31 N x2 s) := by
  unfold bk_Checker_repeat_Ch_31
  repeat' (first | with_reducible exact KF.none | with_reducible refine KF.ite ?_ ?_ | with_reducible refine KF.bind ?_ (fun _ _ => ?_) | with_reducible refine KF.some ?_ | with_reducible refine fp_fn_Checker_refuse_Ch ?_ | refine Eb.upI ?_ (by decide) | refine Eb.upJ ?_ (by decide) | assumption)
theorem fp_fn_Checker_repeat_Ch {v1 : Int32} {v2 : Int32} {s : ms} (h : Eb fpI fpJ c s) : KF fpI fpJ c (fn_Checker_repeat_Ch N v1 v2 s) := by
  unfold fn_Checker_repeat_Ch
  repeat' (first | with_reducible exact KF.none | with_reducible refine KF.ite ?_ ?_ | with_reducible refine KF.bind ?_ (fun _ _ => ?_) | with_reducible refine KF.some ?_ | with_reducible refine fp_bk_Checker_repeat_Ch_31 ?_ | with_reducible refine fp_fn_Checker_isOff_Ch ?_ | with_reducible refine fp_fn_Checker_pop_Ch ?_ | with_reducible refine fp_fn_Checker_push_Ch ?_ | with_reducible refine fp_fn_Code_emit_Ks ?_ | refine Eb.upI ?_ (by decide) | refine Eb.upJ ?_ (by decide) | assumption)
theorem fp_fn_Grammar_close_Gr {v1 : Int32} {s : ms} (h : Eb fpI fpJ c s) : KF fpI fpJ c (fn_Grammar_close_Gr N v1 s) := by
  unfold fn_Grammar_close_Gr
  repeat' (first | with_reducible exact KF.none | with_reducible refine KF.ite ?_ ?_ | with_reducible refine KF.bind ?_ (fun _ _ => ?_) | with_reducible refine KF.some ?_ | with_reducible refine fp_fn_Checker_index_Ch ?_ | with_reducible refine fp_fn_Checker_join_Ch ?_ | with_reducible refine fp_fn_Checker_repeat_Ch ?_ | with_reducible refine fp_fn_Grammar_closeBrace_Gr ?_ | with_reducible refine fp_fn_Tokens_need_Tk ?_ | with_reducible refine fp_fn_Tokens_shut_Tk ?_ | refine Eb.upI ?_ (by decide) | refine Eb.upJ ?_ (by decide) | assumption)
theorem fp_bk_Grammar_behindOperand_Gr_159 {s : ms} (h : Eb fpI fpJ c s) : KF fpI fpJ c (bk_Grammar_behindOperand_Gr_159 N s) := by
  unfold bk_Grammar_behindOperand_Gr_159
  repeat' (first | with_reducible exact KF.none | with_reducible refine KF.ite ?_ ?_ | with_reducible refine KF.bind ?_ (fun _ _ => ?_) | with_reducible refine KF.some ?_ | with_reducible refine fp_fn_Grammar_close_Gr ?_ | refine Eb.upI ?_ (by decide) | refine Eb.upJ ?_ (by decide) | assumption)
theorem fp_bd_Grammar_behindOperand_Gr_100 {k_100 : ms → Option (Unit × ms)} (hk_100 : ∀ s, Eb fpI fpJ c s → KF fpI fpJ c (k_100 s)) {s : ms} (h : Eb fpI fpJ c s) : KF fpI fpJ c (bd_Grammar_behindOperand_Gr_100 N k_100 s) := by
  unfold bd_Grammar_behindOperand_Gr_100
  repeat' (first | with_reducible exact KF.none | with_reducible refine KF.ite ?_ ?_ | with_reducible refine KF.bind ?_ (fun _ _ => ?_) | with_reducible refine KF.some ?_ | with_reducible refine fp_bk_Grammar_behindOperand_Gr_159 ?_ | with_reducible refine fp_fn_Checker_choose_Ch ?_ | with_reducible refine fp_fn_Tokens_shutQuietly_Tk ?_ | with_reducible refine hk_100 _ ?_ | refine Eb.upI ?_ (by decide) | refine Eb.upJ ?_ (by decide) | assumption)
theorem fp_hd_Grammar_behindOperand_Gr_100 : ∀ (n : Nat) (s : ms), Eb fpI fpJ c s → KF fpI fpJ c (hd_Grammar_behindOperand_Gr_100 N n s)
  | 0, _, _ => KF.none
  | n + 1, s, h => fp_bd_Grammar_behindOperand_Gr_100 (fun  s h => fp_hd_Grammar_behindOperand_Gr_100 n s h) h
theorem fp_fn_Grammar_behindOperand_Gr {s : ms} (h : Eb fpI fpJ c s) : KF fpI fpJ c (fn_Grammar_behindOperand_Gr N s) := by
  unfold fn_Grammar_behindOperand_Gr
  repeat' (first | with_reducible exact KF.none | with_reducible refine KF.ite ?_ ?_ | with_reducible refine KF.bind ?_ (fun _ _ => ?_) | with_reducible refine KF.some ?_ | with_reducible refine fp_fn_Grammar_apply_Gr ?_ | with_reducible refine fp_fn_Grammar_hold_Gr ?_ | with_reducible refine fp_fn_Grammar_rankOf ?_ | with_reducible refine fp_fn_Tokens_open_Tk ?_ | with_reducible refine fp_fn_Tokens_take_Tk ?_ | with_reducible refine fp_hd_Grammar_behindOperand_Gr_100 _ _ ?_ | refine Eb.upI ?_ (by decide) | refine Eb.upJ ?_ (by decide) | assumption)
theorem fp_fn_Checker_expWidth_Ch {s : ms} (h : Eb fpI fpJ c s) : KF fpI fpJ c (fn_Checker_expWidth_Ch N s) := by
  unfold fn_Checker_expWidth_Ch
  repeat' (first | with_reducible exact KF.none | with_reducible refine KF.ite ?_ ?_ | with_reducible refine KF.bind ?_ (fun _ _ => ?_) | with_reducible refine KF.some ?_ | with_reducible refine fp_fn_Checker_pop_Ch ?_ | refine Eb.upI ?_ (by decide) | refine Eb.upJ ?_ (by decide) | assumption)
theorem fp_bk_Meaning_stored_Me_35 {s : ms} (h : Eb fpI fpJ c s) : KF fpI fpJ c (bk_Meaning_stored_Me_35 N s) := by
  unfold bk_Meaning_stored_Me_35
  repeat' (first | with_reducible exact KF.none | with_reducible refine KF.ite ?_ ?_ | with_reducible refine KF.bind ?_ (fun _ _ => ?_) | with_reducible refine KF.some ?_ | with_reducible refine fp_fn_Checker_localOf_Ch ?_ | with_reducible refine fp_fn_Checker_spend_Ch ?_ | with_reducible refine fp_fn_Code_emit_Ks ?_ | refine Eb.upI ?_ (by decide) | refine Eb.upJ ?_ (by decide) | assumption)
theorem fp_fn_Meaning_stored_Me {v1 : Int32} {s : ms} (h : Eb fpI fpJ c s) : KF fpI fpJ c (fn_Meaning_stored_Me N v1 s) := by
  unfold fn_Meaning_stored_Me
  repeat' (first | with_reducible exact KF.none | with_reducible refine KF.ite ?_ ?_ | with_reducible refine KF.bind ?_ (fun _ _ => ?_) | with_reducible refine KF.some ?_ | with_reducible refine fp_bk_Meaning_stored_Me_35 ?_ | with_reducible refine fp_fn_Checker_expWidth_Ch ?_ | with_reducible refine fp_fn_Checker_isOff_Ch ?_ | with_reducible refine fp_fn_Checker_refuse_Ch ?_ | refine Eb.upI ?_ (by decide) | refine Eb.upJ ?_ (by decide) | assumption)
theorem fp_bk_Meaning_assigned_Me_58 {s : ms} (h : Eb fpI fpJ c s) : KF fpI fpJ c (bk_Meaning_assigned_Me_58 N s) := by
  unfold bk_Meaning_assigned_Me_58
  repeat' (first | with_reducible exact KF.none | with_reducible refine KF.ite ?_ ?_ | with_reducible refine KF.bind ?_ (fun _ _ => ?_) | with_reducible refine KF.some ?_ | refine Eb.upI ?_ (by decide) | refine Eb.upJ ?_ (by decide) | assumption)
theorem fp_fn_Meaning_assigned_Me {v1 : Int32} {s : ms} (h : Eb fpI fpJ c s) : KF fpI fpJ c (fn_Meaning_assigned_Me N v1 s) := by
  unfold fn_Meaning_assigned_Me
  repeat' (first | with_reducible exact KF.none | with_reducible refine KF.ite ?_ ?_ | with_reducible refine KF.bind ?_ (fun _ _ => ?_) | with_reducible refine KF.some ?_ | with_reducible refine fp_bk_Meaning_assigned_Me_58 ?_ | with_reducible refine fp_fn_Checker_expWidth_Ch ?_ | with_reducible refine fp_fn_Checker_isOff_Ch ?_ | with_reducible refine fp_fn_Checker_refuse_Ch ?_ | with_reducible refine fp_fn_Checker_sortOf_Ch ?_ | refine Eb.upI ?_ (by decide) | refine Eb.upJ ?_ (by decide) | assumption)
theorem fp_fn_Meaning_condition_Me {s : ms} (h : Eb fpI fpJ c s) : KF fpI fpJ c (fn_Meaning_condition_Me N s) := by
  unfold fn_Meaning_condition_Me
  repeat' (first | with_reducible exact KF.none | with_reducible refine KF.ite ?_ ?_ | with_reducible refine KF.bind ?_ (fun _ _ => ?_) | with_reducible refine KF.some ?_ | with_reducible refine fp_fn_Checker_expWidth_Ch ?_ | with_reducible refine fp_fn_Checker_isOff_Ch ?_ | with_reducible refine fp_fn_Checker_spend_Ch ?_ | with_reducible refine fp_fn_Code_emit_Ks ?_ | refine Eb.upI ?_ (by decide) | refine Eb.upJ ?_ (by decide) | assumption)
theorem fp_fn_Meaning_choice_Me {s : ms} (h : Eb fpI fpJ c s) : KF fpI fpJ c (fn_Meaning_choice_Me N s) := by
  unfold fn_Meaning_choice_Me
  repeat' (first | with_reducible exact KF.none | with_reducible refine KF.ite ?_ ?_ | with_reducible refine KF.bind ?_ (fun _ _ => ?_) | with_reducible refine KF.some ?_ | with_reducible refine fp_fn_Checker_expWidth_Ch ?_ | with_reducible refine fp_fn_Checker_isOff_Ch ?_ | refine Eb.upI ?_ (by decide) | refine Eb.upJ ?_ (by decide) | assumption)
theorem fp_fn_Meaning_asserted_Me {s : ms} (h : Eb fpI fpJ c s) : KF fpI fpJ c (fn_Meaning_asserted_Me N s) := by
  unfold fn_Meaning_asserted_Me
  repeat' (first | with_reducible exact KF.none | with_reducible refine KF.ite ?_ ?_ | with_reducible refine KF.bind ?_ (fun _ _ => ?_) | with_reducible refine KF.some ?_ | with_reducible refine fp_fn_Checker_expWidth_Ch ?_ | with_reducible refine fp_fn_Checker_isOff_Ch ?_ | with_reducible refine fp_fn_Checker_spend_Ch ?_ | with_reducible refine fp_fn_Design_addPiece_Ds ?_ | refine Eb.upI ?_ (by decide) | refine Eb.upJ ?_ (by decide) | assumption)
theorem fp_bk_Meaning_linked_Me_109 {x1 : Int32} {x2 : Int32} {x4 : Int32} {x5 : Int32} {x7 : Int32} {x8 : Int32} {s : ms} (h : Eb fpI fpJ c s) : KF fpI fpJ c (bk_Meaning_linked_Me_109 N x1 x2 x4 x5 x7 x8 s) := by
  unfold bk_Meaning_linked_Me_109
  repeat' (first | with_reducible exact KF.none | with_reducible refine KF.ite ?_ ?_ | with_reducible refine KF.bind ?_ (fun _ _ => ?_) | with_reducible refine KF.some ?_ | with_reducible refine fp_fn_Checker_localOf_Ch ?_ | with_reducible refine fp_fn_Checker_refuse_Ch ?_ | refine Eb.upI ?_ (by decide) | refine Eb.upJ ?_ (by decide) | assumption)
theorem fp_bk_Meaning_linked_Me_66 {x1 : Int32} {x2 : Int32} {x3 : Int32} {x4 : Int32} {x5 : Int32} {t0 : Int32} {s : ms} (h : Eb fpI fpJ c s) : KF fpI fpJ c (bk_Meaning_linked_Me_66 N x1 x2 x3 x4 x5 t0 s) := by
  unfold bk_Meaning_linked_Me_66
  repeat' (first | with_reducible exact KF.none | with_reducible refine KF.ite ?_ ?_ | with_reducible refine KF.bind ?_ (fun _ _ => ?_) | with_reducible refine KF.some ?_ | with_reducible refine fp_bk_Meaning_linked_Me_109 ?_ | with_reducible refine fp_fn_Checker_meantBy_Ch ?_ | with_reducible refine fp_fn_Checker_refuse_Ch ?_ | with_reducible refine fp_fn_Checker_sortOf_Ch ?_ | refine Eb.upI ?_ (by decide) | refine Eb.upJ ?_ (by decide) | assumption)
theorem fp_fn_Meaning_linked_Me {v1 : Int32} {v2 : Int32} {v3 : Int32} {s : ms} (h : Eb fpI fpJ c s) : KF fpI fpJ c (fn_Meaning_linked_Me N v1 v2 v3 s) := by
  unfold fn_Meaning_linked_Me
  repeat' (first | with_reducible exact KF.none | with_reducible refine KF.ite ?_ ?_ | with_reducible refine KF.bind ?_ (fun _ _ => ?_) | with_reducible refine KF.some ?_ | with_reducible refine fp_bk_Meaning_linked_Me_66 ?_ | with_reducible refine fp_fn_Checker_expWidth_Ch ?_ | with_reducible refine fp_fn_Checker_isOff_Ch ?_ | with_reducible refine fp_fn_Checker_sortOf_Ch ?_ | refine Eb.upI ?_ (by decide) | refine Eb.upJ ?_ (by decide) | assumption)
theorem fp_bk_Grammar_linkEnd_Gr_77 {t0 : Int32} {t1 : Int32} {t2 : Int32} {s : ms} (h : Eb fpI fpJ c s) : KF fpI fpJ c (bk_Grammar_linkEnd_Gr_77 N t0 t1 t2 s) := by
  unfold bk_Grammar_linkEnd_Gr_77
  repeat' (first | with_reducible exact KF.none | with_reducible refine KF.ite ?_ ?_ | with_reducible refine KF.bind ?_ (fun _ _ => ?_) | with_reducible refine KF.some ?_ | with_reducible refine fp_fn_Grammar_instanceEnd_Gr ?_ | with_reducible refine fp_fn_Meaning_linked_Me ?_ | with_reducible refine fp_fn_Tokens_take_Tk ?_ | refine Eb.upI ?_ (by decide) | refine Eb.upJ ?_ (by decide) | assumption)
theorem fp_bk_Grammar_linkEnd_Gr_36 {t0 : Int32} {s : ms} (h : Eb fpI fpJ c s) : KF fpI fpJ c (bk_Grammar_linkEnd_Gr_36 N t0 s) := by
  unfold bk_Grammar_linkEnd_Gr_36
  repeat' (first | with_reducible exact KF.none | with_reducible refine KF.ite ?_ ?_ | with_reducible refine KF.bind ?_ (fun _ _ => ?_) | with_reducible refine KF.some ?_ | with_reducible refine fp_bk_Grammar_linkEnd_Gr_77 ?_ | with_reducible refine fp_fn_Tokens_extraAt_Tk ?_ | with_reducible refine fp_fn_Tokens_shut_Tk ?_ | refine Eb.upI ?_ (by decide) | refine Eb.upJ ?_ (by decide) | assumption)
theorem fp_bk_Grammar_linkEnd_Gr_35 {s : ms} (h : Eb fpI fpJ c s) : KF fpI fpJ c (bk_Grammar_linkEnd_Gr_35 N s) := by
  unfold bk_Grammar_linkEnd_Gr_35
  repeat' (first | with_reducible exact KF.none | with_reducible refine KF.ite ?_ ?_ | with_reducible refine KF.bind ?_ (fun _ _ => ?_) | with_reducible refine KF.some ?_ | with_reducible refine fp_bk_Grammar_linkEnd_Gr_36 ?_ | refine Eb.upI ?_ (by decide) | refine Eb.upJ ?_ (by decide) | assumption)
theorem fp_fn_Grammar_linkEnd_Gr {s : ms} (h : Eb fpI fpJ c s) : KF fpI fpJ c (fn_Grammar_linkEnd_Gr N s) := by
  unfold fn_Grammar_linkEnd_Gr
  repeat' (first | with_reducible exact KF.none | with_reducible refine KF.ite ?_ ?_ | with_reducible refine KF.bind ?_ (fun _ _ => ?_) | with_reducible refine KF.some ?_ | with_reducible refine fp_bk_Grammar_linkEnd_Gr_35 ?_ | with_reducible refine fp_bk_Grammar_linkEnd_Gr_36 ?_ | with_reducible refine fp_fn_Tokens_kindAt_Tk ?_ | refine Eb.upI ?_ (by decide) | refine Eb.upJ ?_ (by decide) | assumption)
theorem fp_fn_Grammar_behindExp_Gr {s : ms} (h : Eb fpI fpJ c s) : KF fpI fpJ c (fn_Grammar_behindExp_Gr N s) := by
  unfold fn_Grammar_behindExp_Gr
  repeat' (first | with_reducible exact KF.none | with_reducible refine KF.ite ?_ ?_ | with_reducible refine KF.bind ?_ (fun _ _ => ?_) | with_reducible refine KF.some ?_ | with_reducible refine fp_fn_Grammar_enter_Gr ?_ | with_reducible refine fp_fn_Grammar_linkEnd_Gr ?_ | with_reducible refine fp_fn_Meaning_asserted_Me ?_ | with_reducible refine fp_fn_Meaning_assigned_Me ?_ | with_reducible refine fp_fn_Meaning_choice_Me ?_ | with_reducible refine fp_fn_Meaning_condition_Me ?_ | with_reducible refine fp_fn_Meaning_stored_Me ?_ | with_reducible refine fp_fn_Tokens_need_Tk ?_ | with_reducible refine fp_fn_Tokens_shut_Tk ?_ | refine Eb.upI ?_ (by decide) | refine Eb.upJ ?_ (by decide) | assumption)
theorem fp_bk_Checker_start_Ch_Ds_50 {s : ms} (h : Eb fpI fpJ c s) : KF fpI fpJ c (bk_Checker_start_Ch_Ds_50 N s) := by
  unfold bk_Checker_start_Ch_Ds_50
  repeat' (first | with_reducible exact KF.none | with_reducible refine KF.ite ?_ ?_ | with_reducible refine KF.bind ?_ (fun _ _ => ?_) | with_reducible refine KF.some ?_ | refine Eb.upI ?_ (by decide) | refine Eb.upJ ?_ (by decide) | assumption)
theorem fp_bd_Checker_start_Ch_Ds_18 {k_18 : Int32 → Int32 → ms → Option (Unit × ms)} (hk_18 : ∀ y0 y1 s, Eb fpI fpJ c s → KF fpI fpJ c (k_18 y0 y1 s)) {x2 : Int32} {x3 : Int32} {s : ms} (h : Eb fpI fpJ c s) : KF fpI fpJ c (bd_Checker_start_Ch_Ds_18 N k_18 x2 x3 s) := by
  unfold bd_Checker_start_Ch_Ds_18
  repeat' (first | with_reducible exact KF.none | with_reducible refine KF.ite ?_ ?_ | with_reducible refine KF.bind ?_ (fun _ _ => ?_) | with_reducible refine KF.some ?_ | with_reducible refine fp_bk_Checker_start_Ch_Ds_50 ?_ | with_reducible refine hk_18 _ _ _ ?_ | refine Eb.upI ?_ (by decide) | refine Eb.upJ ?_ (by decide) | assumption)
theorem fp_hd_Checker_start_Ch_Ds_18 : ∀ (n : Nat) (x2 : Int32) (x3 : Int32) (s : ms), Eb fpI fpJ c s → KF fpI fpJ c (hd_Checker_start_Ch_Ds_18 N n x2 x3 s)
  | 0, _, _, _, _ => KF.none
  | n + 1, x2, x3, s, h => fp_bd_Checker_start_Ch_Ds_18 (fun x2 x3 s h => fp_hd_Checker_start_Ch_Ds_18 n x2 x3 s h) h
theorem fp_fn_Checker_start_Ch_Ds {v2 : Int32} {s : ms} (h : Eb fpI fpJ c s) : KF fpI fpJ c (fn_Checker_start_Ch_Ds N v2 s) := by
  unfold fn_Checker_start_Ch_Ds
  repeat' (first | with_reducible exact KF.none | with_reducible refine KF.ite ?_ ?_ | with_reducible refine KF.bind ?_ (fun _ _ => ?_) | with_reducible refine KF.some ?_ | with_reducible refine fp_hd_Checker_start_Ch_Ds_18 _ _ _ _ ?_ | refine Eb.upI ?_ (by decide) | refine Eb.upJ ?_ (by decide) | assumption)
theorem fp_fn_Meaning_start_Me_Ds {s : ms} (h : Eb fpI fpJ c s) : KF fpI fpJ c (fn_Meaning_start_Me_Ds N s) := by
  unfold fn_Meaning_start_Me_Ds
  repeat' (first | with_reducible exact KF.none | with_reducible refine KF.ite ?_ ?_ | with_reducible refine KF.bind ?_ (fun _ _ => ?_) | with_reducible refine KF.some ?_ | refine Eb.upI ?_ (by decide) | refine Eb.upJ ?_ (by decide) | assumption)
theorem fp_bk_Grammar_parse_Gr_Ds_156 {k_56 : Int32 → Int32 → ms → Option (Unit × ms)} (hk_56 : ∀ y0 y1 s, Eb fpI fpJ c s → KF fpI fpJ c (k_56 y0 y1 s)) {x3 : Int32} {x4 : Int32} {t0 : Int32} {s : ms} (h : Eb fpI fpJ c s) : KF fpI fpJ c (bk_Grammar_parse_Gr_Ds_156 N k_56 x3 x4 t0 s) := by
  unfold bk_Grammar_parse_Gr_Ds_156
  repeat' (first | with_reducible exact KF.none | with_reducible refine KF.ite ?_ ?_ | with_reducible refine KF.bind ?_ (fun _ _ => ?_) | with_reducible refine KF.some ?_ | with_reducible refine hk_56 _ _ _ ?_ | refine Eb.upI ?_ (by decide) | refine Eb.upJ ?_ (by decide) | assumption)
theorem fp_bd_Grammar_parse_Gr_Ds_56 {k_56 : Int32 → Int32 → ms → Option (Unit × ms)} (hk_56 : ∀ y0 y1 s, Eb fpI fpJ c s → KF fpI fpJ c (k_56 y0 y1 s)) {x3 : Int32} {x4 : Int32} {s : ms} (h : Eb fpI fpJ c s) : KF fpI fpJ c (bd_Grammar_parse_Gr_Ds_56 N k_56 x3 x4 s) := by
  unfold bd_Grammar_parse_Gr_Ds_56
  repeat' (first | with_reducible exact KF.none | with_reducible refine KF.ite ?_ ?_ | with_reducible refine KF.bind ?_ (fun _ _ => ?_) | with_reducible refine KF.some ?_ | with_reducible refine fp_bk_Grammar_parse_Gr_Ds_156 hk_56 ?_ | with_reducible refine fp_fn_Grammar_behindExp_Gr ?_ | with_reducible refine fp_fn_Grammar_behindOperand_Gr ?_ | with_reducible refine fp_fn_Grammar_behindStatement_Gr ?_ | with_reducible refine fp_fn_Grammar_item_Gr ?_ | with_reducible refine fp_fn_Grammar_link_Gr ?_ | with_reducible refine fp_fn_Grammar_moduleHead_Gr ?_ | with_reducible refine fp_fn_Grammar_operand_Gr ?_ | with_reducible refine fp_fn_Grammar_statement_Gr ?_ | with_reducible refine hk_56 _ _ _ ?_ | refine Eb.upI ?_ (by decide) | refine Eb.upJ ?_ (by decide) | assumption)
theorem fp_hd_Grammar_parse_Gr_Ds_56 : ∀ (n : Nat) (x3 : Int32) (x4 : Int32) (s : ms), Eb fpI fpJ c s → KF fpI fpJ c (hd_Grammar_parse_Gr_Ds_56 N n x3 x4 s)
  | 0, _, _, _, _ => KF.none
  | n + 1, x3, x4, s, h => fp_bd_Grammar_parse_Gr_Ds_56 (fun x3 x4 s h => fp_hd_Grammar_parse_Gr_Ds_56 n x3 x4 s h) h
theorem fp_fn_Grammar_parse_Gr_Ds {v2 : Int32} {s : ms} (h : Eb fpI fpJ c s) : KF fpI fpJ c (fn_Grammar_parse_Gr_Ds N v2 s) := by
  unfold fn_Grammar_parse_Gr_Ds
  repeat' (first | with_reducible exact KF.none | with_reducible refine KF.ite ?_ ?_ | with_reducible refine KF.bind ?_ (fun _ _ => ?_) | with_reducible refine KF.some ?_ | with_reducible refine fp_fn_Checker_start_Ch_Ds ?_ | with_reducible refine fp_fn_Meaning_start_Me_Ds ?_ | with_reducible refine fp_fn_Tokens_start_Tk ?_ | with_reducible refine fp_hd_Grammar_parse_Gr_Ds_56 _ _ _ _ ?_ | refine Eb.upI ?_ (by decide) | refine Eb.upJ ?_ (by decide) | assumption)
end FR_fp
