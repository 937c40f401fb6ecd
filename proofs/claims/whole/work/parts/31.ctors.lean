/-! ===== constructors ===== -/
theorem oi_in : Cond.instanceMethod objectInit ∈ gT := gT_at sub_1 28 rfl rfl
theorem oi_code : Cond.code objectInit ⟨#[0xb1]⟩ 1 none ∈ gT := gT_at sub_1 29 rfl rfl
theorem ac_int : Cond.arrayClass .int ∈ gT := gT_at sub_1 169 rfl rfl
theorem ac_byte : Cond.arrayClass .byte ∈ gT := gT_at sub_1 52 rfl rfl
theorem ac_boolean : Cond.arrayClass .boolean ∈ gT := gT_at sub_1 182 rfl rfl
theorem ac_long : Cond.arrayClass .long ∈ gT := gT_at sub_1 81 rfl rfl
theorem ao_Shape : Cond.arrayOver (.object "QuarterBoards$Shape") ∈ nestL := over_at sub_1 171 rfl rfl
theorem ao_Form : Cond.arrayOver (.object "QuarterBoards$Form") ∈ nestL := over_at sub_1 228 rfl rfl
theorem ao_II : Cond.arrayOver (.array .int) ∈ nestL := over_at sub_1 232 rfl rfl
theorem cl_Law_7 : Cond.classLink "QuarterBoardsLaw" 7 "QuarterBoards" ∈ gT := gT_at sub_1 22 rfl rfl
theorem cl_Q_20 : Cond.classLink "QuarterBoards" 20 "QuarterBoards$Syntax" ∈ gT := gT_at sub_1 30 rfl rfl
theorem cl_Q_27 : Cond.classLink "QuarterBoards" 27 "QuarterBoards$Meaning" ∈ gT := gT_at sub_1 53 rfl rfl
theorem cl_Q_34 : Cond.classLink "QuarterBoards" 34 "QuarterBoards$Builder" ∈ gT := gT_at sub_1 82 rfl rfl
theorem cl_Builder_9 : Cond.classLink "QuarterBoards$Builder" 9 "QuarterBoards$Tokens" ∈ gT := gT_at sub_1 88 rfl rfl
theorem cl_Builder_18 : Cond.classLink "QuarterBoards$Builder" 18 "QuarterBoards$Shape" ∈ gT := gT_at sub_1 170 rfl rfl
theorem cl_Q_46 : Cond.classLink "QuarterBoards" 46 "QuarterBoards$Filler" ∈ gT := gT_at sub_1 221 rfl rfl
theorem cl_Filler_11 : Cond.classLink "QuarterBoards$Filler" 11 "QuarterBoards$Form" ∈ gT := gT_at sub_1 227 rfl rfl
theorem cl_Filler_21 : Cond.classLink "QuarterBoards$Filler" 21 "QuarterBoards$Shape" ∈ gT := gT_at sub_1 229 rfl rfl
theorem cl_Filler_54 : Cond.classLink "QuarterBoards$Filler" 54 "[[I" ∈ gT := gT_at sub_1 231 rfl rfl
theorem cl_Form_9 : Cond.classLink "QuarterBoards$Form" 9 "QuarterBoards$Shape" ∈ gT := gT_at sub_1 238 rfl rfl
theorem cl_Q_58 : Cond.classLink "QuarterBoards" 58 "QuarterBoards$Form" ∈ gT := gT_at sub_2 75 rfl rfl
theorem cl_Q_69 : Cond.classLink "QuarterBoards" 69 "QuarterBoards$Measure" ∈ gT := gT_at sub_2 76 rfl rfl
theorem cl_Measure_9 : Cond.classLink "QuarterBoards$Measure" 9 "QuarterBoards$Shape" ∈ gT := gT_at sub_2 82 rfl rfl
theorem cl_Q_76 : Cond.classLink "QuarterBoards" 76 "QuarterBoards$Cutter" ∈ gT := gT_at sub_2 94 rfl rfl
theorem cl_Cutter_24 : Cond.classLink "QuarterBoards$Cutter" 24 "QuarterBoards$Shape" ∈ gT := gT_at sub_2 100 rfl rfl
theorem cl_Cutter_43 : Cond.classLink "QuarterBoards$Cutter" 43 "QuarterBoards$Form" ∈ gT := gT_at sub_2 102 rfl rfl
theorem cl_Q_83 : Cond.classLink "QuarterBoards" 83 "QuarterBoards$Table" ∈ gT := gT_at sub_2 135 rfl rfl
theorem cl_Table_9 : Cond.classLink "QuarterBoards$Table" 9 "QuarterBoards$Shape" ∈ gT := gT_at sub_2 141 rfl rfl
theorem cl_Q_90 : Cond.classLink "QuarterBoards" 90 "QuarterBoards$Book" ∈ gT := gT_at sub_2 159 rfl rfl
theorem cl_Book_28 : Cond.classLink "QuarterBoards$Book" 28 "[[I" ∈ gT := gT_at sub_2 165 rfl rfl
theorem cl_Q_97 : Cond.classLink "QuarterBoards" 97 "QuarterBoards$Shape" ∈ gT := gT_at sub_2 190 rfl rfl
theorem cl_Law_10 : Cond.classLink "QuarterBoardsLaw" 10 "QuarterBoardsModel" ∈ gT := gT_at sub_6 83 rfl rfl
theorem in_Book : Cond.instantiable "QuarterBoards$Book" 7 ∈ gT := gT_at sub_2 160 rfl rfl
theorem ini_Book : Cond.initialized "QuarterBoards$Book" ∈ gT := gT_at sub_1 16 rfl rfl
theorem in_Builder : Cond.instantiable "QuarterBoards$Builder" 11 ∈ gT := gT_at sub_1 83 rfl rfl
theorem ini_Builder : Cond.initialized "QuarterBoards$Builder" ∈ gT := gT_at sub_1 4 rfl rfl
theorem in_Cutter : Cond.instantiable "QuarterBoards$Cutter" 10 ∈ gT := gT_at sub_2 95 rfl rfl
theorem ini_Cutter : Cond.initialized "QuarterBoards$Cutter" ∈ gT := gT_at sub_1 14 rfl rfl
theorem in_Filler : Cond.instantiable "QuarterBoards$Filler" 12 ∈ gT := gT_at sub_1 222 rfl rfl
theorem ini_Filler : Cond.initialized "QuarterBoards$Filler" ∈ gT := gT_at sub_1 11 rfl rfl
theorem in_Form : Cond.instantiable "QuarterBoards$Form" 7 ∈ gT := gT_at sub_1 233 rfl rfl
theorem ini_Form : Cond.initialized "QuarterBoards$Form" ∈ gT := gT_at sub_1 12 rfl rfl
theorem in_Meaning : Cond.instantiable "QuarterBoards$Meaning" 7 ∈ gT := gT_at sub_1 54 rfl rfl
theorem ini_Meaning : Cond.initialized "QuarterBoards$Meaning" ∈ gT := gT_at sub_1 3 rfl rfl
theorem in_Measure : Cond.instantiable "QuarterBoards$Measure" 3 ∈ gT := gT_at sub_2 77 rfl rfl
theorem ini_Measure : Cond.initialized "QuarterBoards$Measure" ∈ gT := gT_at sub_1 13 rfl rfl
theorem in_Shape : Cond.instantiable "QuarterBoards$Shape" 1 ∈ gT := gT_at sub_1 172 rfl rfl
theorem ini_Shape : Cond.initialized "QuarterBoards$Shape" ∈ gT := gT_at sub_1 10 rfl rfl
theorem in_Syntax : Cond.instantiable "QuarterBoards$Syntax" 5 ∈ gT := gT_at sub_1 31 rfl rfl
theorem ini_Syntax : Cond.initialized "QuarterBoards$Syntax" ∈ gT := gT_at sub_1 2 rfl rfl
theorem in_Table : Cond.instantiable "QuarterBoards$Table" 5 ∈ gT := gT_at sub_2 136 rfl rfl
theorem ini_Table : Cond.initialized "QuarterBoards$Table" ∈ gT := gT_at sub_1 15 rfl rfl
theorem in_Tokens : Cond.instantiable "QuarterBoards$Tokens" 8 ∈ gT := gT_at sub_1 89 rfl rfl
theorem ini_Tokens : Cond.initialized "QuarterBoards$Tokens" ∈ gT := gT_at sub_1 5 rfl rfl
theorem in_Q : Cond.instantiable "QuarterBoards" 17 ∈ gT := gT_at sub_1 23 rfl rfl
theorem ini_Q : Cond.initialized "QuarterBoards" ∈ gT := gT_at sub_1 1 rfl rfl
theorem in_Mo : Cond.instantiable "QuarterBoardsModel" 80 ∈ gT := gT_at sub_6 84 rfl rfl
theorem ini_Mo : Cond.initialized "QuarterBoardsModel" ∈ gT := gT_at sub_1 17 rfl rfl
theorem mx_Q_22 : Cond.methodLinkNest "QuarterBoards" 22 ⟨"QuarterBoards$Syntax", "<init>", "()V"⟩ "QuarterBoards" ∈ nestL := nest_at sub_1 32 rfl
theorem mx_Q_29 : Cond.methodLinkNest "QuarterBoards" 29 ⟨"QuarterBoards$Meaning", "<init>", "()V"⟩ "QuarterBoards" ∈ nestL := nest_at sub_1 55 rfl
theorem mx_Builder_42 : Cond.methodLinkNest "QuarterBoards$Builder" 42 ⟨"QuarterBoards$Shape", "<init>", "()V"⟩ "QuarterBoards" ∈ nestL := nest_at sub_1 173 rfl
theorem mx_Filler_23 : Cond.methodLinkNest "QuarterBoards$Filler" 23 ⟨"QuarterBoards$Shape", "<init>", "()V"⟩ "QuarterBoards" ∈ nestL := nest_at sub_1 230 rfl
theorem mx_Form_11 : Cond.methodLinkNest "QuarterBoards$Form" 11 ⟨"QuarterBoards$Shape", "<init>", "()V"⟩ "QuarterBoards" ∈ nestL := nest_at sub_1 239 rfl
theorem mx_Q_71 : Cond.methodLinkNest "QuarterBoards" 71 ⟨"QuarterBoards$Measure", "<init>", "()V"⟩ "QuarterBoards" ∈ nestL := nest_at sub_2 78 rfl
theorem mx_Measure_11 : Cond.methodLinkNest "QuarterBoards$Measure" 11 ⟨"QuarterBoards$Shape", "<init>", "()V"⟩ "QuarterBoards" ∈ nestL := nest_at sub_2 83 rfl
theorem mx_Q_78 : Cond.methodLinkNest "QuarterBoards" 78 ⟨"QuarterBoards$Cutter", "<init>", "()V"⟩ "QuarterBoards" ∈ nestL := nest_at sub_2 96 rfl
theorem mx_Cutter_26 : Cond.methodLinkNest "QuarterBoards$Cutter" 26 ⟨"QuarterBoards$Shape", "<init>", "()V"⟩ "QuarterBoards" ∈ nestL := nest_at sub_2 101 rfl
theorem mx_Table_21 : Cond.methodLinkNest "QuarterBoards$Table" 21 ⟨"QuarterBoards$Shape", "<init>", "()V"⟩ "QuarterBoards" ∈ nestL := nest_at sub_2 142 rfl
theorem mx_Q_92 : Cond.methodLinkNest "QuarterBoards" 92 ⟨"QuarterBoards$Book", "<init>", "()V"⟩ "QuarterBoards" ∈ nestL := nest_at sub_2 161 rfl
theorem mx_Q_99 : Cond.methodLinkNest "QuarterBoards" 99 ⟨"QuarterBoards$Shape", "<init>", "()V"⟩ "QuarterBoards" ∈ nestL := nest_at sub_2 191 rfl
theorem d_Shape_init_0 : DC m_Shape_init 0 (.aload_n 0) 1 1 := ⟨by decide +kernel, rfl⟩
theorem d_Shape_init_1 : DC m_Shape_init 1 (.invokespecial 3) 3 4 := ⟨by decide +kernel, rfl⟩
theorem d_Shape_init_4 : DC m_Shape_init 4 (.aload_n 0) 1 5 := ⟨by decide +kernel, rfl⟩
theorem d_Shape_init_5 : DC m_Shape_init 5 (.bipush 8) 2 7 := ⟨by decide +kernel, rfl⟩
theorem d_Shape_init_7 : DC m_Shape_init 7 (.newarray .int) 2 9 := ⟨by decide +kernel, rfl⟩
theorem d_Shape_init_9 : DC m_Shape_init 9 (.putfield 9) 3 12 := ⟨by decide +kernel, rfl⟩
theorem d_Shape_init_12 : DC m_Shape_init 12 .return_ 1 13 := ⟨by decide +kernel, rfl⟩
set_option maxRecDepth 20000 in
def f_Shape_init (n : Nat) (x0 : Nat) (M : MM) : Option MM :=
  nm (rho M.1.1) fun a1 =>
  nm (nwC 100 8 M) fun M2 =>
  (pR 7 0 x0 a1 M2).bind fun M3 =>
  some M3
set_option maxRecDepth 20000 in
theorem t_Shape_init (n : Nat) (x0 : Nat) (M : MM) (z : MM) (h : f_Shape_init n x0 M = some z) : CT m_Shape_init (rm 2 1 8) [.ref x0] M none z := by
  unfold f_Shape_init at h
  refine CT.of (ls := [some (.ref x0)]) rfl (okp rfl) rfl ?_
  refine e_aload_n d_Shape_init_0 rfl ?_
  refine e_objInit d_Shape_init_1 ml_Shape_3 oi_in oi_code (okp rfl) (okp rfl) (okp rfl) ?_
  refine e_aload_n d_Shape_init_4 rfl ?_
  refine e_bipush (v := 8) d_Shape_init_5 (by decide) ?_
  refine e_newaN (kd := 100) (len := 8) (ty := .int) (k2 := 1) (n2 := 8) d_Shape_init_7 rfl ac_int (by decide) (by decide) (by decide) (okp rfl) (okp rfl) (okp rfl) rfl rfl ?_
  obtain ⟨a1, ea1, h⟩ := nm_s h
  obtain ⟨M2, eM2, h⟩ := nm_s h
  rw [← ea1, ← eM2]
  obtain ⟨M3, hM3, h⟩ := bnd h
  refine e_putR d_Shape_init_9 fl_Shape_9 (Or.inr ⟨rfl, _, rfl, rfl⟩) (fun _ _ _ => rfl) (fun _ => ⟨rfl, rfl⟩) hM3 ?_
  cases h
  exact e_vret d_Shape_init_12 rfl (okp rfl) (okp rfl)
theorem d_Form_init_0 : DC m_Form_init 0 (.aload_n 0) 1 1 := ⟨by decide +kernel, rfl⟩
theorem d_Form_init_1 : DC m_Form_init 1 (.invokespecial 3) 3 4 := ⟨by decide +kernel, rfl⟩
theorem d_Form_init_4 : DC m_Form_init 4 (.aload_n 0) 1 5 := ⟨by decide +kernel, rfl⟩
theorem d_Form_init_5 : DC m_Form_init 5 (.new 9) 3 8 := ⟨by decide +kernel, rfl⟩
theorem d_Form_init_8 : DC m_Form_init 8 .dup 1 9 := ⟨by decide +kernel, rfl⟩
theorem d_Form_init_9 : DC m_Form_init 9 (.invokespecial 11) 3 12 := ⟨by decide +kernel, rfl⟩
theorem d_Form_init_12 : DC m_Form_init 12 (.putfield 12) 3 15 := ⟨by decide +kernel, rfl⟩
theorem d_Form_init_15 : DC m_Form_init 15 (.aload_n 0) 1 16 := ⟨by decide +kernel, rfl⟩
theorem d_Form_init_16 : DC m_Form_init 16 (.bipush 8) 2 18 := ⟨by decide +kernel, rfl⟩
theorem d_Form_init_18 : DC m_Form_init 18 (.anewarray 9) 3 21 := ⟨by decide +kernel, rfl⟩
theorem d_Form_init_21 : DC m_Form_init 21 (.putfield 18) 3 24 := ⟨by decide +kernel, rfl⟩
theorem d_Form_init_24 : DC m_Form_init 24 (.aload_n 0) 1 25 := ⟨by decide +kernel, rfl⟩
theorem d_Form_init_25 : DC m_Form_init 25 (.bipush 8) 2 27 := ⟨by decide +kernel, rfl⟩
theorem d_Form_init_27 : DC m_Form_init 27 (.newarray .int) 2 29 := ⟨by decide +kernel, rfl⟩
theorem d_Form_init_29 : DC m_Form_init 29 (.putfield 22) 3 32 := ⟨by decide +kernel, rfl⟩
theorem d_Form_init_32 : DC m_Form_init 32 (.aload_n 0) 1 33 := ⟨by decide +kernel, rfl⟩
theorem d_Form_init_33 : DC m_Form_init 33 (.bipush 8) 2 35 := ⟨by decide +kernel, rfl⟩
theorem d_Form_init_35 : DC m_Form_init 35 (.newarray .int) 2 37 := ⟨by decide +kernel, rfl⟩
theorem d_Form_init_37 : DC m_Form_init 37 (.putfield 26) 3 40 := ⟨by decide +kernel, rfl⟩
theorem d_Form_init_40 : DC m_Form_init 40 (.aload_n 0) 1 41 := ⟨by decide +kernel, rfl⟩
theorem d_Form_init_41 : DC m_Form_init 41 (.bipush 8) 2 43 := ⟨by decide +kernel, rfl⟩
theorem d_Form_init_43 : DC m_Form_init 43 (.newarray .int) 2 45 := ⟨by decide +kernel, rfl⟩
theorem d_Form_init_45 : DC m_Form_init 45 (.putfield 29) 3 48 := ⟨by decide +kernel, rfl⟩
theorem d_Form_init_48 : DC m_Form_init 48 (.aload_n 0) 1 49 := ⟨by decide +kernel, rfl⟩
theorem d_Form_init_49 : DC m_Form_init 49 (.bipush 8) 2 51 := ⟨by decide +kernel, rfl⟩
theorem d_Form_init_51 : DC m_Form_init 51 (.newarray .int) 2 53 := ⟨by decide +kernel, rfl⟩
theorem d_Form_init_53 : DC m_Form_init 53 (.putfield 32) 3 56 := ⟨by decide +kernel, rfl⟩
theorem d_Form_init_56 : DC m_Form_init 56 (.aload_n 0) 1 57 := ⟨by decide +kernel, rfl⟩
theorem d_Form_init_57 : DC m_Form_init 57 (.iconst 0) 1 58 := ⟨by decide +kernel, rfl⟩
theorem d_Form_init_58 : DC m_Form_init 58 (.putfield 35) 3 61 := ⟨by decide +kernel, rfl⟩
theorem d_Form_init_61 : DC m_Form_init 61 (.iconst 0) 1 62 := ⟨by decide +kernel, rfl⟩
theorem d_Form_init_62 : DC m_Form_init 62 (.istore_n 1) 1 63 := ⟨by decide +kernel, rfl⟩
theorem d_Form_init_63 : DC m_Form_init 63 (.iload_n 1) 1 64 := ⟨by decide +kernel, rfl⟩
theorem d_Form_init_64 : DC m_Form_init 64 (.bipush 8) 2 66 := ⟨by decide +kernel, rfl⟩
theorem d_Form_init_66 : DC m_Form_init 66 (.if_icmp .ge 22) 3 69 := ⟨by decide +kernel, rfl⟩
theorem d_Form_init_69 : DC m_Form_init 69 (.aload_n 0) 1 70 := ⟨by decide +kernel, rfl⟩
theorem d_Form_init_70 : DC m_Form_init 70 (.getfield 18) 3 73 := ⟨by decide +kernel, rfl⟩
theorem d_Form_init_73 : DC m_Form_init 73 (.iload_n 1) 1 74 := ⟨by decide +kernel, rfl⟩
theorem d_Form_init_74 : DC m_Form_init 74 (.new 9) 3 77 := ⟨by decide +kernel, rfl⟩
theorem d_Form_init_77 : DC m_Form_init 77 .dup 1 78 := ⟨by decide +kernel, rfl⟩
theorem d_Form_init_78 : DC m_Form_init 78 (.invokespecial 11) 3 81 := ⟨by decide +kernel, rfl⟩
theorem d_Form_init_81 : DC m_Form_init 81 .aastore 1 82 := ⟨by decide +kernel, rfl⟩
theorem d_Form_init_82 : DC m_Form_init 82 (.iinc 1 1) 3 85 := ⟨by decide +kernel, rfl⟩
theorem d_Form_init_85 : DC m_Form_init 85 (.goto (-22)) 3 88 := ⟨by decide +kernel, rfl⟩
theorem d_Form_init_88 : DC m_Form_init 88 .return_ 1 89 := ⟨by decide +kernel, rfl⟩
set_option maxRecDepth 20000 in
def f_Form_init (n : Nat) (x0 : Nat) (M : MM) : Option MM :=
  nm (rho M.1.1) fun a1 =>
  nm (nwC 7 0 M) fun M2 =>
  (f_Shape_init n a1 M2).bind fun M3 =>
  (pR 4 0 x0 a1 M3).bind fun M4 =>
  nm (rho M4.1.1) fun a5 =>
  nm (nwC 104 8 M4) fun M6 =>
  (pR 4 1 x0 a5 M6).bind fun M7 =>
  nm (rho M7.1.1) fun a8 =>
  nm (nwC 100 8 M7) fun M9 =>
  (pR 4 2 x0 a8 M9).bind fun M10 =>
  nm (rho M10.1.1) fun a11 =>
  nm (nwC 100 8 M10) fun M12 =>
  (pR 4 3 x0 a11 M12).bind fun M13 =>
  nm (rho M13.1.1) fun a14 =>
  nm (nwC 100 8 M13) fun M15 =>
  (pR 4 4 x0 a14 M15).bind fun M16 =>
  nm (rho M16.1.1) fun a17 =>
  nm (nwC 100 8 M16) fun M18 =>
  (pR 4 5 x0 a17 M18).bind fun M19 =>
  (pI 4 6 x0 0 M19).bind fun M20 =>
  (gR 4 1 x0 M20).bind fun v21 =>
  nm (rho M20.1.1) fun a22 =>
  nm (nwC 7 0 M20) fun M23 =>
  (f_Shape_init n a22 M23).bind fun M24 =>
  (sR 104 7 v21 0 a22 M24).bind fun M25 =>
  (gR 4 1 x0 M25).bind fun v26 =>
  nm (rho M25.1.1) fun a27 =>
  nm (nwC 7 0 M25) fun M28 =>
  (f_Shape_init n a27 M28).bind fun M29 =>
  (sR 104 7 v26 1 a27 M29).bind fun M30 =>
  (gR 4 1 x0 M30).bind fun v31 =>
  nm (rho M30.1.1) fun a32 =>
  nm (nwC 7 0 M30) fun M33 =>
  (f_Shape_init n a32 M33).bind fun M34 =>
  (sR 104 7 v31 2 a32 M34).bind fun M35 =>
  (gR 4 1 x0 M35).bind fun v36 =>
  nm (rho M35.1.1) fun a37 =>
  nm (nwC 7 0 M35) fun M38 =>
  (f_Shape_init n a37 M38).bind fun M39 =>
  (sR 104 7 v36 3 a37 M39).bind fun M40 =>
  (gR 4 1 x0 M40).bind fun v41 =>
  nm (rho M40.1.1) fun a42 =>
  nm (nwC 7 0 M40) fun M43 =>
  (f_Shape_init n a42 M43).bind fun M44 =>
  (sR 104 7 v41 4 a42 M44).bind fun M45 =>
  (gR 4 1 x0 M45).bind fun v46 =>
  nm (rho M45.1.1) fun a47 =>
  nm (nwC 7 0 M45) fun M48 =>
  (f_Shape_init n a47 M48).bind fun M49 =>
  (sR 104 7 v46 5 a47 M49).bind fun M50 =>
  (gR 4 1 x0 M50).bind fun v51 =>
  nm (rho M50.1.1) fun a52 =>
  nm (nwC 7 0 M50) fun M53 =>
  (f_Shape_init n a52 M53).bind fun M54 =>
  (sR 104 7 v51 6 a52 M54).bind fun M55 =>
  (gR 4 1 x0 M55).bind fun v56 =>
  nm (rho M55.1.1) fun a57 =>
  nm (nwC 7 0 M55) fun M58 =>
  (f_Shape_init n a57 M58).bind fun M59 =>
  (sR 104 7 v56 7 a57 M59).bind fun M60 =>
  some M60
set_option maxRecDepth 20000 in
theorem t_Form_init (n : Nat) (x0 : Nat) (M : MM) (z : MM) (h : f_Form_init n x0 M = some z) : CT m_Form_init (rm 3 23 121) [.ref x0] M none z := by
  unfold f_Form_init at h
  refine CT.of (ls := [some (.ref x0), none]) rfl (okp rfl) rfl ?_
  refine e_aload_n d_Form_init_0 rfl ?_
  refine e_objInit d_Form_init_1 ml_Form_3 oi_in oi_code (okp rfl) (okp rfl) (okp rfl) ?_
  refine e_aload_n d_Form_init_4 rfl ?_
  refine e_newN (k2 := 1) (n2 := 1) d_Form_init_5 ck_Shape cl_Form_9 in_Shape ini_Shape (by decide) (okp rfl) (okp rfl) rfl rfl ?_
  obtain ⟨a1, ea1, h⟩ := nm_s h
  obtain ⟨M2, eM2, h⟩ := nm_s h
  rw [← ea1, ← eM2]
  refine e_dup d_Form_init_8 rfl ?_
  obtain ⟨M3, hM3, h⟩ := bnd h
  refine e_cIN (mt1 := m_Shape_init) (As := []) (st := [.ref a1, .ref x0]) (k2 := 2) (n2 := 9) d_Form_init_9 mx_Form_11 mn_Shape_init (t_Shape_init n a1 M2 M3 hM3) rfl rfl (okp rfl) (okp rfl) (okp rfl) (okp rfl) (okp rfl) rfl rfl ?_
  obtain ⟨M4, hM4, h⟩ := bnd h
  refine e_putR d_Form_init_12 fl_Form_12 (Or.inr ⟨rfl, _, rfl, rfl⟩) (fun _ _ _ => rfl) (fun _ => ⟨rfl, rfl⟩) hM4 ?_
  refine e_aload_n d_Form_init_15 rfl ?_
  refine e_bipush (v := 8) d_Form_init_16 (by decide) ?_
  refine e_newqN (kd := 104) (len := 8) (k2 := 3) (n2 := 17) d_Form_init_18 cl_Form_9 ao_Shape (by decide) (by decide) (by decide) (okp rfl) (okp rfl) (okp rfl) rfl rfl ?_
  obtain ⟨a5, ea5, h⟩ := nm_s h
  obtain ⟨M6, eM6, h⟩ := nm_s h
  rw [← ea5, ← eM6]
  obtain ⟨M7, hM7, h⟩ := bnd h
  refine e_putR d_Form_init_21 fl_Form_18 (Or.inr ⟨rfl, _, rfl, rfl⟩) (fun _ _ _ => rfl) (fun _ => ⟨rfl, rfl⟩) hM7 ?_
  refine e_aload_n d_Form_init_24 rfl ?_
  refine e_bipush (v := 8) d_Form_init_25 (by decide) ?_
  refine e_newaN (kd := 100) (len := 8) (ty := .int) (k2 := 4) (n2 := 25) d_Form_init_27 rfl ac_int (by decide) (by decide) (by decide) (okp rfl) (okp rfl) (okp rfl) rfl rfl ?_
  obtain ⟨a8, ea8, h⟩ := nm_s h
  obtain ⟨M9, eM9, h⟩ := nm_s h
  rw [← ea8, ← eM9]
  obtain ⟨M10, hM10, h⟩ := bnd h
  refine e_putR d_Form_init_29 fl_Form_22 (Or.inr ⟨rfl, _, rfl, rfl⟩) (fun _ _ _ => rfl) (fun _ => ⟨rfl, rfl⟩) hM10 ?_
  refine e_aload_n d_Form_init_32 rfl ?_
  refine e_bipush (v := 8) d_Form_init_33 (by decide) ?_
  refine e_newaN (kd := 100) (len := 8) (ty := .int) (k2 := 5) (n2 := 33) d_Form_init_35 rfl ac_int (by decide) (by decide) (by decide) (okp rfl) (okp rfl) (okp rfl) rfl rfl ?_
  obtain ⟨a11, ea11, h⟩ := nm_s h
  obtain ⟨M12, eM12, h⟩ := nm_s h
  rw [← ea11, ← eM12]
  obtain ⟨M13, hM13, h⟩ := bnd h
  refine e_putR d_Form_init_37 fl_Form_26 (Or.inr ⟨rfl, _, rfl, rfl⟩) (fun _ _ _ => rfl) (fun _ => ⟨rfl, rfl⟩) hM13 ?_
  refine e_aload_n d_Form_init_40 rfl ?_
  refine e_bipush (v := 8) d_Form_init_41 (by decide) ?_
  refine e_newaN (kd := 100) (len := 8) (ty := .int) (k2 := 6) (n2 := 41) d_Form_init_43 rfl ac_int (by decide) (by decide) (by decide) (okp rfl) (okp rfl) (okp rfl) rfl rfl ?_
  obtain ⟨a14, ea14, h⟩ := nm_s h
  obtain ⟨M15, eM15, h⟩ := nm_s h
  rw [← ea14, ← eM15]
  obtain ⟨M16, hM16, h⟩ := bnd h
  refine e_putR d_Form_init_45 fl_Form_29 (Or.inr ⟨rfl, _, rfl, rfl⟩) (fun _ _ _ => rfl) (fun _ => ⟨rfl, rfl⟩) hM16 ?_
  refine e_aload_n d_Form_init_48 rfl ?_
  refine e_bipush (v := 8) d_Form_init_49 (by decide) ?_
  refine e_newaN (kd := 100) (len := 8) (ty := .int) (k2 := 7) (n2 := 49) d_Form_init_51 rfl ac_int (by decide) (by decide) (by decide) (okp rfl) (okp rfl) (okp rfl) rfl rfl ?_
  obtain ⟨a17, ea17, h⟩ := nm_s h
  obtain ⟨M18, eM18, h⟩ := nm_s h
  rw [← ea17, ← eM18]
  obtain ⟨M19, hM19, h⟩ := bnd h
  refine e_putR d_Form_init_53 fl_Form_32 (Or.inr ⟨rfl, _, rfl, rfl⟩) (fun _ _ _ => rfl) (fun _ => ⟨rfl, rfl⟩) hM19 ?_
  refine e_aload_n d_Form_init_56 rfl ?_
  refine e_iconst (v := 0) d_Form_init_57 (by decide) ?_
  obtain ⟨M20, hM20, h⟩ := bnd h
  refine e_putI d_Form_init_58 fl_Form_35 (Or.inl rfl) (fun _ _ _ => rfl) rfl hM20 ?_
  refine e_iconst (v := 0) d_Form_init_61 (by decide) ?_
  refine e_istore_n (l2 := [some (.ref x0), some (.int 0)]) d_Form_init_62 rfl (okl rfl) rfl ?_
  refine e_iload_n d_Form_init_63 rfl ?_
  refine e_bipush (v := 8) d_Form_init_64 (by decide) ?_
  refine e_ic_ge 88 d_Form_init_66 (by decide) (fun c9 => absurd c9 (by decide)) (fun _ => ?_)
  refine e_aload_n d_Form_init_69 rfl ?_
  obtain ⟨v21, hv21, h⟩ := bnd h
  refine e_getR d_Form_init_70 fl_Form_18 (fun _ _ _ => rfl) hv21 ?_
  refine e_iload_n d_Form_init_73 rfl ?_
  refine e_newN (k2 := 8) (n2 := 50) d_Form_init_74 ck_Shape cl_Form_9 in_Shape ini_Shape (by decide) (okp rfl) (okp rfl) rfl rfl ?_
  obtain ⟨a22, ea22, h⟩ := nm_s h
  obtain ⟨M23, eM23, h⟩ := nm_s h
  rw [← ea22, ← eM23]
  refine e_dup d_Form_init_77 rfl ?_
  obtain ⟨M24, hM24, h⟩ := bnd h
  refine e_cIN (mt1 := m_Shape_init) (As := []) (st := [.ref a22, .int 0, .ref v21]) (k2 := 9) (n2 := 58) d_Form_init_78 mx_Form_11 mn_Shape_init (t_Shape_init n a22 M23 M24 hM24) rfl rfl (okp rfl) (okp rfl) (okp rfl) (okp rfl) (okp rfl) rfl rfl ?_
  obtain ⟨M25, hM25, h⟩ := bnd h
  refine e_aast (kd := 104) (ci := 7) d_Form_init_81 (by decide) hM25 ?_
  refine e_iinc (v := 1) (l2 := [some (.ref x0), some (.int 1)]) d_Form_init_82 rfl (by decide) rfl (okl rfl) rfl ?_
  refine e_goto 63 d_Form_init_85 (by decide) ?_
  refine e_iload_n d_Form_init_63 rfl ?_
  refine e_bipush (v := 8) d_Form_init_64 (by decide) ?_
  refine e_ic_ge 88 d_Form_init_66 (by decide) (fun c9 => absurd c9 (by decide)) (fun _ => ?_)
  refine e_aload_n d_Form_init_69 rfl ?_
  obtain ⟨v26, hv26, h⟩ := bnd h
  refine e_getR d_Form_init_70 fl_Form_18 (fun _ _ _ => rfl) hv26 ?_
  refine e_iload_n d_Form_init_73 rfl ?_
  refine e_newN (k2 := 10) (n2 := 59) d_Form_init_74 ck_Shape cl_Form_9 in_Shape ini_Shape (by decide) (okp rfl) (okp rfl) rfl rfl ?_
  obtain ⟨a27, ea27, h⟩ := nm_s h
  obtain ⟨M28, eM28, h⟩ := nm_s h
  rw [← ea27, ← eM28]
  refine e_dup d_Form_init_77 rfl ?_
  obtain ⟨M29, hM29, h⟩ := bnd h
  refine e_cIN (mt1 := m_Shape_init) (As := []) (st := [.ref a27, .int 1, .ref v26]) (k2 := 11) (n2 := 67) d_Form_init_78 mx_Form_11 mn_Shape_init (t_Shape_init n a27 M28 M29 hM29) rfl rfl (okp rfl) (okp rfl) (okp rfl) (okp rfl) (okp rfl) rfl rfl ?_
  obtain ⟨M30, hM30, h⟩ := bnd h
  refine e_aast (kd := 104) (ci := 7) d_Form_init_81 (by decide) hM30 ?_
  refine e_iinc (v := 2) (l2 := [some (.ref x0), some (.int 2)]) d_Form_init_82 rfl (by decide) rfl (okl rfl) rfl ?_
  refine e_goto 63 d_Form_init_85 (by decide) ?_
  refine e_iload_n d_Form_init_63 rfl ?_
  refine e_bipush (v := 8) d_Form_init_64 (by decide) ?_
  refine e_ic_ge 88 d_Form_init_66 (by decide) (fun c9 => absurd c9 (by decide)) (fun _ => ?_)
  refine e_aload_n d_Form_init_69 rfl ?_
  obtain ⟨v31, hv31, h⟩ := bnd h
  refine e_getR d_Form_init_70 fl_Form_18 (fun _ _ _ => rfl) hv31 ?_
  refine e_iload_n d_Form_init_73 rfl ?_
  refine e_newN (k2 := 12) (n2 := 68) d_Form_init_74 ck_Shape cl_Form_9 in_Shape ini_Shape (by decide) (okp rfl) (okp rfl) rfl rfl ?_
  obtain ⟨a32, ea32, h⟩ := nm_s h
  obtain ⟨M33, eM33, h⟩ := nm_s h
  rw [← ea32, ← eM33]
  refine e_dup d_Form_init_77 rfl ?_
  obtain ⟨M34, hM34, h⟩ := bnd h
  refine e_cIN (mt1 := m_Shape_init) (As := []) (st := [.ref a32, .int 2, .ref v31]) (k2 := 13) (n2 := 76) d_Form_init_78 mx_Form_11 mn_Shape_init (t_Shape_init n a32 M33 M34 hM34) rfl rfl (okp rfl) (okp rfl) (okp rfl) (okp rfl) (okp rfl) rfl rfl ?_
  obtain ⟨M35, hM35, h⟩ := bnd h
  refine e_aast (kd := 104) (ci := 7) d_Form_init_81 (by decide) hM35 ?_
  refine e_iinc (v := 3) (l2 := [some (.ref x0), some (.int 3)]) d_Form_init_82 rfl (by decide) rfl (okl rfl) rfl ?_
  refine e_goto 63 d_Form_init_85 (by decide) ?_
  refine e_iload_n d_Form_init_63 rfl ?_
  refine e_bipush (v := 8) d_Form_init_64 (by decide) ?_
  refine e_ic_ge 88 d_Form_init_66 (by decide) (fun c9 => absurd c9 (by decide)) (fun _ => ?_)
  refine e_aload_n d_Form_init_69 rfl ?_
  obtain ⟨v36, hv36, h⟩ := bnd h
  refine e_getR d_Form_init_70 fl_Form_18 (fun _ _ _ => rfl) hv36 ?_
  refine e_iload_n d_Form_init_73 rfl ?_
  refine e_newN (k2 := 14) (n2 := 77) d_Form_init_74 ck_Shape cl_Form_9 in_Shape ini_Shape (by decide) (okp rfl) (okp rfl) rfl rfl ?_
  obtain ⟨a37, ea37, h⟩ := nm_s h
  obtain ⟨M38, eM38, h⟩ := nm_s h
  rw [← ea37, ← eM38]
  refine e_dup d_Form_init_77 rfl ?_
  obtain ⟨M39, hM39, h⟩ := bnd h
  refine e_cIN (mt1 := m_Shape_init) (As := []) (st := [.ref a37, .int 3, .ref v36]) (k2 := 15) (n2 := 85) d_Form_init_78 mx_Form_11 mn_Shape_init (t_Shape_init n a37 M38 M39 hM39) rfl rfl (okp rfl) (okp rfl) (okp rfl) (okp rfl) (okp rfl) rfl rfl ?_
  obtain ⟨M40, hM40, h⟩ := bnd h
  refine e_aast (kd := 104) (ci := 7) d_Form_init_81 (by decide) hM40 ?_
  refine e_iinc (v := 4) (l2 := [some (.ref x0), some (.int 4)]) d_Form_init_82 rfl (by decide) rfl (okl rfl) rfl ?_
  refine e_goto 63 d_Form_init_85 (by decide) ?_
  refine e_iload_n d_Form_init_63 rfl ?_
  refine e_bipush (v := 8) d_Form_init_64 (by decide) ?_
  refine e_ic_ge 88 d_Form_init_66 (by decide) (fun c9 => absurd c9 (by decide)) (fun _ => ?_)
  refine e_aload_n d_Form_init_69 rfl ?_
  obtain ⟨v41, hv41, h⟩ := bnd h
  refine e_getR d_Form_init_70 fl_Form_18 (fun _ _ _ => rfl) hv41 ?_
  refine e_iload_n d_Form_init_73 rfl ?_
  refine e_newN (k2 := 16) (n2 := 86) d_Form_init_74 ck_Shape cl_Form_9 in_Shape ini_Shape (by decide) (okp rfl) (okp rfl) rfl rfl ?_
  obtain ⟨a42, ea42, h⟩ := nm_s h
  obtain ⟨M43, eM43, h⟩ := nm_s h
  rw [← ea42, ← eM43]
  refine e_dup d_Form_init_77 rfl ?_
  obtain ⟨M44, hM44, h⟩ := bnd h
  refine e_cIN (mt1 := m_Shape_init) (As := []) (st := [.ref a42, .int 4, .ref v41]) (k2 := 17) (n2 := 94) d_Form_init_78 mx_Form_11 mn_Shape_init (t_Shape_init n a42 M43 M44 hM44) rfl rfl (okp rfl) (okp rfl) (okp rfl) (okp rfl) (okp rfl) rfl rfl ?_
  obtain ⟨M45, hM45, h⟩ := bnd h
  refine e_aast (kd := 104) (ci := 7) d_Form_init_81 (by decide) hM45 ?_
  refine e_iinc (v := 5) (l2 := [some (.ref x0), some (.int 5)]) d_Form_init_82 rfl (by decide) rfl (okl rfl) rfl ?_
  refine e_goto 63 d_Form_init_85 (by decide) ?_
  refine e_iload_n d_Form_init_63 rfl ?_
  refine e_bipush (v := 8) d_Form_init_64 (by decide) ?_
  refine e_ic_ge 88 d_Form_init_66 (by decide) (fun c9 => absurd c9 (by decide)) (fun _ => ?_)
  refine e_aload_n d_Form_init_69 rfl ?_
  obtain ⟨v46, hv46, h⟩ := bnd h
  refine e_getR d_Form_init_70 fl_Form_18 (fun _ _ _ => rfl) hv46 ?_
  refine e_iload_n d_Form_init_73 rfl ?_
  refine e_newN (k2 := 18) (n2 := 95) d_Form_init_74 ck_Shape cl_Form_9 in_Shape ini_Shape (by decide) (okp rfl) (okp rfl) rfl rfl ?_
  obtain ⟨a47, ea47, h⟩ := nm_s h
  obtain ⟨M48, eM48, h⟩ := nm_s h
  rw [← ea47, ← eM48]
  refine e_dup d_Form_init_77 rfl ?_
  obtain ⟨M49, hM49, h⟩ := bnd h
  refine e_cIN (mt1 := m_Shape_init) (As := []) (st := [.ref a47, .int 5, .ref v46]) (k2 := 19) (n2 := 103) d_Form_init_78 mx_Form_11 mn_Shape_init (t_Shape_init n a47 M48 M49 hM49) rfl rfl (okp rfl) (okp rfl) (okp rfl) (okp rfl) (okp rfl) rfl rfl ?_
  obtain ⟨M50, hM50, h⟩ := bnd h
  refine e_aast (kd := 104) (ci := 7) d_Form_init_81 (by decide) hM50 ?_
  refine e_iinc (v := 6) (l2 := [some (.ref x0), some (.int 6)]) d_Form_init_82 rfl (by decide) rfl (okl rfl) rfl ?_
  refine e_goto 63 d_Form_init_85 (by decide) ?_
  refine e_iload_n d_Form_init_63 rfl ?_
  refine e_bipush (v := 8) d_Form_init_64 (by decide) ?_
  refine e_ic_ge 88 d_Form_init_66 (by decide) (fun c9 => absurd c9 (by decide)) (fun _ => ?_)
  refine e_aload_n d_Form_init_69 rfl ?_
  obtain ⟨v51, hv51, h⟩ := bnd h
  refine e_getR d_Form_init_70 fl_Form_18 (fun _ _ _ => rfl) hv51 ?_
  refine e_iload_n d_Form_init_73 rfl ?_
  refine e_newN (k2 := 20) (n2 := 104) d_Form_init_74 ck_Shape cl_Form_9 in_Shape ini_Shape (by decide) (okp rfl) (okp rfl) rfl rfl ?_
  obtain ⟨a52, ea52, h⟩ := nm_s h
  obtain ⟨M53, eM53, h⟩ := nm_s h
  rw [← ea52, ← eM53]
  refine e_dup d_Form_init_77 rfl ?_
  obtain ⟨M54, hM54, h⟩ := bnd h
  refine e_cIN (mt1 := m_Shape_init) (As := []) (st := [.ref a52, .int 6, .ref v51]) (k2 := 21) (n2 := 112) d_Form_init_78 mx_Form_11 mn_Shape_init (t_Shape_init n a52 M53 M54 hM54) rfl rfl (okp rfl) (okp rfl) (okp rfl) (okp rfl) (okp rfl) rfl rfl ?_
  obtain ⟨M55, hM55, h⟩ := bnd h
  refine e_aast (kd := 104) (ci := 7) d_Form_init_81 (by decide) hM55 ?_
  refine e_iinc (v := 7) (l2 := [some (.ref x0), some (.int 7)]) d_Form_init_82 rfl (by decide) rfl (okl rfl) rfl ?_
  refine e_goto 63 d_Form_init_85 (by decide) ?_
  refine e_iload_n d_Form_init_63 rfl ?_
  refine e_bipush (v := 8) d_Form_init_64 (by decide) ?_
  refine e_ic_ge 88 d_Form_init_66 (by decide) (fun c9 => absurd c9 (by decide)) (fun _ => ?_)
  refine e_aload_n d_Form_init_69 rfl ?_
  obtain ⟨v56, hv56, h⟩ := bnd h
  refine e_getR d_Form_init_70 fl_Form_18 (fun _ _ _ => rfl) hv56 ?_
  refine e_iload_n d_Form_init_73 rfl ?_
  refine e_newN (k2 := 22) (n2 := 113) d_Form_init_74 ck_Shape cl_Form_9 in_Shape ini_Shape (by decide) (okp rfl) (okp rfl) rfl rfl ?_
  obtain ⟨a57, ea57, h⟩ := nm_s h
  obtain ⟨M58, eM58, h⟩ := nm_s h
  rw [← ea57, ← eM58]
  refine e_dup d_Form_init_77 rfl ?_
  obtain ⟨M59, hM59, h⟩ := bnd h
  refine e_cIN (mt1 := m_Shape_init) (As := []) (st := [.ref a57, .int 7, .ref v56]) (k2 := 23) (n2 := 121) d_Form_init_78 mx_Form_11 mn_Shape_init (t_Shape_init n a57 M58 M59 hM59) rfl rfl (okp rfl) (okp rfl) (okp rfl) (okp rfl) (okp rfl) rfl rfl ?_
  obtain ⟨M60, hM60, h⟩ := bnd h
  refine e_aast (kd := 104) (ci := 7) d_Form_init_81 (by decide) hM60 ?_
  refine e_iinc (v := 8) (l2 := [some (.ref x0), some (.int 8)]) d_Form_init_82 rfl (by decide) rfl (okl rfl) rfl ?_
  refine e_goto 63 d_Form_init_85 (by decide) ?_
  refine e_iload_n d_Form_init_63 rfl ?_
  refine e_bipush (v := 8) d_Form_init_64 (by decide) ?_
  refine e_ic_ge 88 d_Form_init_66 (by decide) (fun _ => ?_) (fun c9 => absurd c9 (by decide))
  cases h
  exact e_vret d_Form_init_88 rfl (okp rfl) (okp rfl)
theorem d_Tokens_init_0 : DC m_Tokens_init 0 (.aload_n 0) 1 1 := ⟨by decide +kernel, rfl⟩
theorem d_Tokens_init_1 : DC m_Tokens_init 1 (.invokespecial 3) 3 4 := ⟨by decide +kernel, rfl⟩
theorem d_Tokens_init_4 : DC m_Tokens_init 4 (.aload_n 0) 1 5 := ⟨by decide +kernel, rfl⟩
theorem d_Tokens_init_5 : DC m_Tokens_init 5 (.sipush 401) 3 8 := ⟨by decide +kernel, rfl⟩
theorem d_Tokens_init_8 : DC m_Tokens_init 8 (.newarray .int) 2 10 := ⟨by decide +kernel, rfl⟩
theorem d_Tokens_init_10 : DC m_Tokens_init 10 (.putfield 11) 3 13 := ⟨by decide +kernel, rfl⟩
theorem d_Tokens_init_13 : DC m_Tokens_init 13 (.aload_n 0) 1 14 := ⟨by decide +kernel, rfl⟩
theorem d_Tokens_init_14 : DC m_Tokens_init 14 (.sipush 401) 3 17 := ⟨by decide +kernel, rfl⟩
theorem d_Tokens_init_17 : DC m_Tokens_init 17 (.newarray .int) 2 19 := ⟨by decide +kernel, rfl⟩
theorem d_Tokens_init_19 : DC m_Tokens_init 19 (.putfield 15) 3 22 := ⟨by decide +kernel, rfl⟩
theorem d_Tokens_init_22 : DC m_Tokens_init 22 (.aload_n 0) 1 23 := ⟨by decide +kernel, rfl⟩
theorem d_Tokens_init_23 : DC m_Tokens_init 23 (.sipush 401) 3 26 := ⟨by decide +kernel, rfl⟩
theorem d_Tokens_init_26 : DC m_Tokens_init 26 (.newarray .long) 2 28 := ⟨by decide +kernel, rfl⟩
theorem d_Tokens_init_28 : DC m_Tokens_init 28 (.putfield 18) 3 31 := ⟨by decide +kernel, rfl⟩
theorem d_Tokens_init_31 : DC m_Tokens_init 31 (.aload_n 0) 1 32 := ⟨by decide +kernel, rfl⟩
theorem d_Tokens_init_32 : DC m_Tokens_init 32 (.iconst 0) 1 33 := ⟨by decide +kernel, rfl⟩
theorem d_Tokens_init_33 : DC m_Tokens_init 33 (.putfield 22) 3 36 := ⟨by decide +kernel, rfl⟩
theorem d_Tokens_init_36 : DC m_Tokens_init 36 (.aload_n 0) 1 37 := ⟨by decide +kernel, rfl⟩
theorem d_Tokens_init_37 : DC m_Tokens_init 37 (.iconst 0) 1 38 := ⟨by decide +kernel, rfl⟩
theorem d_Tokens_init_38 : DC m_Tokens_init 38 (.putfield 26) 3 41 := ⟨by decide +kernel, rfl⟩
theorem d_Tokens_init_41 : DC m_Tokens_init 41 (.aload_n 0) 1 42 := ⟨by decide +kernel, rfl⟩
theorem d_Tokens_init_42 : DC m_Tokens_init 42 (.iconst 0) 1 43 := ⟨by decide +kernel, rfl⟩
theorem d_Tokens_init_43 : DC m_Tokens_init 43 (.putfield 29) 3 46 := ⟨by decide +kernel, rfl⟩
theorem d_Tokens_init_46 : DC m_Tokens_init 46 (.aload_n 0) 1 47 := ⟨by decide +kernel, rfl⟩
theorem d_Tokens_init_47 : DC m_Tokens_init 47 (.iconst (-1)) 1 48 := ⟨by decide +kernel, rfl⟩
theorem d_Tokens_init_48 : DC m_Tokens_init 48 (.putfield 32) 3 51 := ⟨by decide +kernel, rfl⟩
theorem d_Tokens_init_51 : DC m_Tokens_init 51 (.aload_n 0) 1 52 := ⟨by decide +kernel, rfl⟩
theorem d_Tokens_init_52 : DC m_Tokens_init 52 (.bipush 10) 2 54 := ⟨by decide +kernel, rfl⟩
theorem d_Tokens_init_54 : DC m_Tokens_init 54 (.newarray .long) 2 56 := ⟨by decide +kernel, rfl⟩
theorem d_Tokens_init_56 : DC m_Tokens_init 56 (.putfield 35) 3 59 := ⟨by decide +kernel, rfl⟩
theorem d_Tokens_init_59 : DC m_Tokens_init 59 (.iconst 0) 1 60 := ⟨by decide +kernel, rfl⟩
theorem d_Tokens_init_60 : DC m_Tokens_init 60 (.istore_n 1) 1 61 := ⟨by decide +kernel, rfl⟩
theorem d_Tokens_init_61 : DC m_Tokens_init 61 (.iload_n 1) 1 62 := ⟨by decide +kernel, rfl⟩
theorem d_Tokens_init_62 : DC m_Tokens_init 62 (.bipush 10) 2 64 := ⟨by decide +kernel, rfl⟩
theorem d_Tokens_init_64 : DC m_Tokens_init 64 (.if_icmp .ge 66) 3 67 := ⟨by decide +kernel, rfl⟩
theorem d_Tokens_init_67 : DC m_Tokens_init 67 (.lconst 0) 1 68 := ⟨by decide +kernel, rfl⟩
theorem d_Tokens_init_68 : DC m_Tokens_init 68 (.lstore_n 2) 1 69 := ⟨by decide +kernel, rfl⟩
theorem d_Tokens_init_69 : DC m_Tokens_init 69 (.iconst 0) 1 70 := ⟨by decide +kernel, rfl⟩
theorem d_Tokens_init_70 : DC m_Tokens_init 70 (.istore 4) 2 72 := ⟨by decide +kernel, rfl⟩
theorem d_Tokens_init_72 : DC m_Tokens_init 72 (.iload 4) 2 74 := ⟨by decide +kernel, rfl⟩
theorem d_Tokens_init_74 : DC m_Tokens_init 74 (.bipush 8) 2 76 := ⟨by decide +kernel, rfl⟩
theorem d_Tokens_init_76 : DC m_Tokens_init 76 (.if_icmp .ge 41) 3 79 := ⟨by decide +kernel, rfl⟩
theorem d_Tokens_init_79 : DC m_Tokens_init 79 (.ldc 38) 2 81 := ⟨by decide +kernel, rfl⟩
theorem d_Tokens_init_81 : DC m_Tokens_init 81 (.bipush 8) 2 83 := ⟨by decide +kernel, rfl⟩
theorem d_Tokens_init_83 : DC m_Tokens_init 83 (.iload_n 1) 1 84 := ⟨by decide +kernel, rfl⟩
theorem d_Tokens_init_84 : DC m_Tokens_init 84 .imul 1 85 := ⟨by decide +kernel, rfl⟩
theorem d_Tokens_init_85 : DC m_Tokens_init 85 (.iload 4) 2 87 := ⟨by decide +kernel, rfl⟩
theorem d_Tokens_init_87 : DC m_Tokens_init 87 .iadd 1 88 := ⟨by decide +kernel, rfl⟩
theorem d_Tokens_init_88 : DC m_Tokens_init 88 (.invokevirtual 40) 3 91 := ⟨by decide +kernel, rfl⟩
theorem d_Tokens_init_91 : DC m_Tokens_init 91 (.istore 5) 2 93 := ⟨by decide +kernel, rfl⟩
theorem d_Tokens_init_93 : DC m_Tokens_init 93 (.iload 5) 2 95 := ⟨by decide +kernel, rfl⟩
theorem d_Tokens_init_95 : DC m_Tokens_init 95 (.bipush 32) 2 97 := ⟨by decide +kernel, rfl⟩
theorem d_Tokens_init_97 : DC m_Tokens_init 97 (.if_icmp .ne 7) 3 100 := ⟨by decide +kernel, rfl⟩
theorem d_Tokens_init_100 : DC m_Tokens_init 100 (.lload_n 2) 1 101 := ⟨by decide +kernel, rfl⟩
theorem d_Tokens_init_101 : DC m_Tokens_init 101 (.goto 9) 3 104 := ⟨by decide +kernel, rfl⟩
theorem d_Tokens_init_104 : DC m_Tokens_init 104 (.lload_n 2) 1 105 := ⟨by decide +kernel, rfl⟩
theorem d_Tokens_init_105 : DC m_Tokens_init 105 (.iload 5) 2 107 := ⟨by decide +kernel, rfl⟩
theorem d_Tokens_init_107 : DC m_Tokens_init 107 (.invokestatic 46) 3 110 := ⟨by decide +kernel, rfl⟩
theorem d_Tokens_init_110 : DC m_Tokens_init 110 (.lstore_n 2) 1 111 := ⟨by decide +kernel, rfl⟩
theorem d_Tokens_init_111 : DC m_Tokens_init 111 (.iinc 4 1) 3 114 := ⟨by decide +kernel, rfl⟩
theorem d_Tokens_init_114 : DC m_Tokens_init 114 (.goto (-42)) 3 117 := ⟨by decide +kernel, rfl⟩
theorem d_Tokens_init_117 : DC m_Tokens_init 117 (.aload_n 0) 1 118 := ⟨by decide +kernel, rfl⟩
theorem d_Tokens_init_118 : DC m_Tokens_init 118 (.getfield 35) 3 121 := ⟨by decide +kernel, rfl⟩
theorem d_Tokens_init_121 : DC m_Tokens_init 121 (.iload_n 1) 1 122 := ⟨by decide +kernel, rfl⟩
theorem d_Tokens_init_122 : DC m_Tokens_init 122 (.lload_n 2) 1 123 := ⟨by decide +kernel, rfl⟩
theorem d_Tokens_init_123 : DC m_Tokens_init 123 .lastore 1 124 := ⟨by decide +kernel, rfl⟩
theorem d_Tokens_init_124 : DC m_Tokens_init 124 (.iinc 1 1) 3 127 := ⟨by decide +kernel, rfl⟩
theorem d_Tokens_init_127 : DC m_Tokens_init 127 (.goto (-66)) 3 130 := ⟨by decide +kernel, rfl⟩
theorem d_Tokens_init_130 : DC m_Tokens_init 130 .return_ 1 131 := ⟨by decide +kernel, rfl⟩
set_option maxRecDepth 20000 in
def f_Tokens_init (n : Nat) (x0 : Nat) (M : MM) : Option MM :=
  nm (rho M.1.1) fun a1 =>
  nm (nwC 100 401 M) fun M2 =>
  (pR 10 0 x0 a1 M2).bind fun M3 =>
  nm (rho M3.1.1) fun a4 =>
  nm (nwC 100 401 M3) fun M5 =>
  (pR 10 1 x0 a4 M5).bind fun M6 =>
  nm (rho M6.1.1) fun a7 =>
  nm (nwC 103 401 M6) fun M8 =>
  (pR 10 2 x0 a7 M8).bind fun M9 =>
  (pI 10 3 x0 0 M9).bind fun M10 =>
  (pI 10 4 x0 0 M10).bind fun M11 =>
  (pI 10 5 x0 0 M11).bind fun M12 =>
  (pI 10 6 x0 (-1) M12).bind fun M13 =>
  nm (rho M13.1.1) fun a14 =>
  nm (nwC 103 10 M13) fun M15 =>
  (pR 10 7 x0 a14 M15).bind fun M16 =>
  (f_Tokens_withLetter n 0 98 M16).bind fun p17 =>
  (f_Tokens_withLetter n p17.1 111 p17.2).bind fun p18 =>
  (f_Tokens_withLetter n p18.1 97 p18.2).bind fun p19 =>
  (f_Tokens_withLetter n p19.1 114 p19.2).bind fun p20 =>
  (f_Tokens_withLetter n p20.1 100 p20.2).bind fun p21 =>
  (gR 10 7 x0 p21.2).bind fun v22 =>
  (sL v22 0 p21.1 p21.2).bind fun M23 =>
  (f_Tokens_withLetter n 0 111 M23).bind fun p24 =>
  (f_Tokens_withLetter n p24.1 117 p24.2).bind fun p25 =>
  (f_Tokens_withLetter n p25.1 116 p25.2).bind fun p26 =>
  (f_Tokens_withLetter n p26.1 108 p26.2).bind fun p27 =>
  (f_Tokens_withLetter n p27.1 105 p27.2).bind fun p28 =>
  (f_Tokens_withLetter n p28.1 110 p28.2).bind fun p29 =>
  (f_Tokens_withLetter n p29.1 101 p29.2).bind fun p30 =>
  (gR 10 7 x0 p30.2).bind fun v31 =>
  (sL v31 1 p30.1 p30.2).bind fun M32 =>
  (f_Tokens_withLetter n 0 116 M32).bind fun p33 =>
  (f_Tokens_withLetter n p33.1 117 p33.2).bind fun p34 =>
  (f_Tokens_withLetter n p34.1 114 p34.2).bind fun p35 =>
  (f_Tokens_withLetter n p35.1 110 p35.2).bind fun p36 =>
  (gR 10 7 x0 p36.2).bind fun v37 =>
  (sL v37 2 p36.1 p36.2).bind fun M38 =>
  (f_Tokens_withLetter n 0 102 M38).bind fun p39 =>
  (f_Tokens_withLetter n p39.1 108 p39.2).bind fun p40 =>
  (f_Tokens_withLetter n p40.1 105 p40.2).bind fun p41 =>
  (f_Tokens_withLetter n p41.1 112 p41.2).bind fun p42 =>
  (gR 10 7 x0 p42.2).bind fun v43 =>
  (sL v43 3 p42.1 p42.2).bind fun M44 =>
  (f_Tokens_withLetter n 0 98 M44).bind fun p45 =>
  (f_Tokens_withLetter n p45.1 97 p45.2).bind fun p46 =>
  (f_Tokens_withLetter n p46.1 115 p46.2).bind fun p47 =>
  (f_Tokens_withLetter n p47.1 101 p47.2).bind fun p48 =>
  (gR 10 7 x0 p48.2).bind fun v49 =>
  (sL v49 4 p48.1 p48.2).bind fun M50 =>
  (f_Tokens_withLetter n 0 115 M50).bind fun p51 =>
  (f_Tokens_withLetter n p51.1 104 p51.2).bind fun p52 =>
  (f_Tokens_withLetter n p52.1 105 p52.2).bind fun p53 =>
  (f_Tokens_withLetter n p53.1 102 p53.2).bind fun p54 =>
  (f_Tokens_withLetter n p54.1 116 p54.2).bind fun p55 =>
  (gR 10 7 x0 p55.2).bind fun v56 =>
  (sL v56 5 p55.1 p55.2).bind fun M57 =>
  (f_Tokens_withLetter n 0 99 M57).bind fun p58 =>
  (f_Tokens_withLetter n p58.1 101 p58.2).bind fun p59 =>
  (f_Tokens_withLetter n p59.1 108 p59.2).bind fun p60 =>
  (f_Tokens_withLetter n p60.1 108 p60.2).bind fun p61 =>
  (gR 10 7 x0 p61.2).bind fun v62 =>
  (sL v62 6 p61.1 p61.2).bind fun M63 =>
  (f_Tokens_withLetter n 0 98 M63).bind fun p64 =>
  (f_Tokens_withLetter n p64.1 111 p64.2).bind fun p65 =>
  (f_Tokens_withLetter n p65.1 120 p65.2).bind fun p66 =>
  (gR 10 7 x0 p66.2).bind fun v67 =>
  (sL v67 7 p66.1 p66.2).bind fun M68 =>
  (f_Tokens_withLetter n 0 104 M68).bind fun p69 =>
  (f_Tokens_withLetter n p69.1 97 p69.2).bind fun p70 =>
  (f_Tokens_withLetter n p70.1 108 p70.2).bind fun p71 =>
  (f_Tokens_withLetter n p71.1 102 p71.2).bind fun p72 =>
  (gR 10 7 x0 p72.2).bind fun v73 =>
  (sL v73 8 p72.1 p72.2).bind fun M74 =>
  (f_Tokens_withLetter n 0 113 M74).bind fun p75 =>
  (f_Tokens_withLetter n p75.1 117 p75.2).bind fun p76 =>
  (f_Tokens_withLetter n p76.1 97 p76.2).bind fun p77 =>
  (f_Tokens_withLetter n p77.1 114 p77.2).bind fun p78 =>
  (f_Tokens_withLetter n p78.1 116 p78.2).bind fun p79 =>
  (f_Tokens_withLetter n p79.1 101 p79.2).bind fun p80 =>
  (f_Tokens_withLetter n p80.1 114 p80.2).bind fun p81 =>
  (gR 10 7 x0 p81.2).bind fun v82 =>
  (sL v82 9 p81.1 p81.2).bind fun M83 =>
  some M83
set_option maxRecDepth 20000 in
theorem t_Tokens_init (n : Nat) (x0 : Nat) (M : MM) (z : MM) (h : f_Tokens_init n x0 M = some z) : CT m_Tokens_init (rm 5 4 1213) [.ref x0] M none z := by
  unfold f_Tokens_init at h
  refine CT.of (ls := [some (.ref x0), none, none, none, none, none]) rfl (okp rfl) rfl ?_
  refine e_aload_n d_Tokens_init_0 rfl ?_
  refine e_objInit d_Tokens_init_1 ml_Tokens_3 oi_in oi_code (okp rfl) (okp rfl) (okp rfl) ?_
  refine e_aload_n d_Tokens_init_4 rfl ?_
  refine e_sipush (v := 401) d_Tokens_init_5 (by decide) ?_
  refine e_newaN (kd := 100) (len := 401) (ty := .int) (k2 := 1) (n2 := 401) d_Tokens_init_8 rfl ac_int (by decide) (by decide) (by decide) (okp rfl) (okp rfl) (okp rfl) rfl rfl ?_
  obtain ⟨a1, ea1, h⟩ := nm_s h
  obtain ⟨M2, eM2, h⟩ := nm_s h
  rw [← ea1, ← eM2]
  obtain ⟨M3, hM3, h⟩ := bnd h
  refine e_putR d_Tokens_init_10 fl_Tokens_11 (Or.inr ⟨rfl, _, rfl, rfl⟩) (fun _ _ _ => rfl) (fun _ => ⟨rfl, rfl⟩) hM3 ?_
  refine e_aload_n d_Tokens_init_13 rfl ?_
  refine e_sipush (v := 401) d_Tokens_init_14 (by decide) ?_
  refine e_newaN (kd := 100) (len := 401) (ty := .int) (k2 := 2) (n2 := 802) d_Tokens_init_17 rfl ac_int (by decide) (by decide) (by decide) (okp rfl) (okp rfl) (okp rfl) rfl rfl ?_
  obtain ⟨a4, ea4, h⟩ := nm_s h
  obtain ⟨M5, eM5, h⟩ := nm_s h
  rw [← ea4, ← eM5]
  obtain ⟨M6, hM6, h⟩ := bnd h
  refine e_putR d_Tokens_init_19 fl_Tokens_15 (Or.inr ⟨rfl, _, rfl, rfl⟩) (fun _ _ _ => rfl) (fun _ => ⟨rfl, rfl⟩) hM6 ?_
  refine e_aload_n d_Tokens_init_22 rfl ?_
  refine e_sipush (v := 401) d_Tokens_init_23 (by decide) ?_
  refine e_newaN (kd := 103) (len := 401) (ty := .long) (k2 := 3) (n2 := 1203) d_Tokens_init_26 rfl ac_long (by decide) (by decide) (by decide) (okp rfl) (okp rfl) (okp rfl) rfl rfl ?_
  obtain ⟨a7, ea7, h⟩ := nm_s h
  obtain ⟨M8, eM8, h⟩ := nm_s h
  rw [← ea7, ← eM8]
  obtain ⟨M9, hM9, h⟩ := bnd h
  refine e_putR d_Tokens_init_28 fl_Tokens_18 (Or.inr ⟨rfl, _, rfl, rfl⟩) (fun _ _ _ => rfl) (fun _ => ⟨rfl, rfl⟩) hM9 ?_
  refine e_aload_n d_Tokens_init_31 rfl ?_
  refine e_iconst (v := 0) d_Tokens_init_32 (by decide) ?_
  obtain ⟨M10, hM10, h⟩ := bnd h
  refine e_putI d_Tokens_init_33 fl_Tokens_22 (Or.inl rfl) (fun _ _ _ => rfl) rfl hM10 ?_
  refine e_aload_n d_Tokens_init_36 rfl ?_
  refine e_iconst (v := 0) d_Tokens_init_37 (by decide) ?_
  obtain ⟨M11, hM11, h⟩ := bnd h
  refine e_putI d_Tokens_init_38 fl_Tokens_26 (Or.inl rfl) (fun _ _ _ => rfl) rfl hM11 ?_
  refine e_aload_n d_Tokens_init_41 rfl ?_
  refine e_iconst (v := 0) d_Tokens_init_42 (by decide) ?_
  obtain ⟨M12, hM12, h⟩ := bnd h
  refine e_putI d_Tokens_init_43 fl_Tokens_29 (Or.inl rfl) (fun _ _ _ => rfl) rfl hM12 ?_
  refine e_aload_n d_Tokens_init_46 rfl ?_
  refine e_iconst (v := (-1)) d_Tokens_init_47 (by decide) ?_
  obtain ⟨M13, hM13, h⟩ := bnd h
  refine e_putI d_Tokens_init_48 fl_Tokens_32 (Or.inl rfl) (fun _ _ _ => rfl) rfl hM13 ?_
  refine e_aload_n d_Tokens_init_51 rfl ?_
  refine e_bipush (v := 10) d_Tokens_init_52 (by decide) ?_
  refine e_newaN (kd := 103) (len := 10) (ty := .long) (k2 := 4) (n2 := 1213) d_Tokens_init_54 rfl ac_long (by decide) (by decide) (by decide) (okp rfl) (okp rfl) (okp rfl) rfl rfl ?_
  obtain ⟨a14, ea14, h⟩ := nm_s h
  obtain ⟨M15, eM15, h⟩ := nm_s h
  rw [← ea14, ← eM15]
  obtain ⟨M16, hM16, h⟩ := bnd h
  refine e_putR d_Tokens_init_56 fl_Tokens_35 (Or.inr ⟨rfl, _, rfl, rfl⟩) (fun _ _ _ => rfl) (fun _ => ⟨rfl, rfl⟩) hM16 ?_
  refine e_iconst (v := 0) d_Tokens_init_59 (by decide) ?_
  refine e_istore_n (l2 := [some (.ref x0), some (.int 0), none, none, none, none]) d_Tokens_init_60 rfl (okl rfl) rfl ?_
  refine e_iload_n d_Tokens_init_61 rfl ?_
  refine e_bipush (v := 10) d_Tokens_init_62 (by decide) ?_
  refine e_ic_ge 130 d_Tokens_init_64 (by decide) (fun c9 => absurd c9 (by decide)) (fun _ => ?_)
  refine e_lconst (v := 0) d_Tokens_init_67 (by decide) ?_
  refine e_lstore_n (l2 := [some (.ref x0), some (.int 0), some (.long 0), none, none, none]) d_Tokens_init_68 rfl (okl rfl) rfl ?_
  refine e_iconst (v := 0) d_Tokens_init_69 (by decide) ?_
  refine e_istore (l2 := [some (.ref x0), some (.int 0), some (.long 0), none, some (.int 0), none]) d_Tokens_init_70 rfl (okl rfl) rfl ?_
  refine e_iload d_Tokens_init_72 rfl ?_
  refine e_bipush (v := 8) d_Tokens_init_74 (by decide) ?_
  refine e_ic_ge 117 d_Tokens_init_76 (by decide) (fun c9 => absurd c9 (by decide)) (fun _ => ?_)
  refine e_ldcW d_Tokens_init_79 rfl ?_
  refine e_bipush (v := 8) d_Tokens_init_81 (by decide) ?_
  refine e_iload_n d_Tokens_init_83 rfl ?_
  refine e_imul d_Tokens_init_84 ?_
  refine e_nameI (y := 0) (by decide) ?_
  refine e_iload d_Tokens_init_85 rfl ?_
  refine e_iadd d_Tokens_init_87 ?_
  refine e_nameI (y := 0) (by decide) ?_
  refine e_cVXi (mt1 := m_Str_charAt) (v := 98) (M1 := M16) (As := [.int 0]) (st := []) d_Tokens_init_88 ml_Tokens_40 mv_Str_charAt (t_Str_charAt n 0 0 M16 (98, M16) rfl) (okl rfl) rfl rfl rfl (okp rfl) (okp rfl) (okp rfl) (okp rfl) (okp rfl) ?_
  refine e_istore (l2 := [some (.ref x0), some (.int 0), some (.long 0), none, some (.int 0), some (.int 98)]) d_Tokens_init_91 rfl (okl rfl) rfl ?_
  refine e_iload d_Tokens_init_93 rfl ?_
  refine e_bipush (v := 32) d_Tokens_init_95 (by decide) ?_
  refine e_ic_ne 104 d_Tokens_init_97 (by decide) (fun _ => ?_) (fun c9 => absurd c9 (by decide))
  refine e_lload_n d_Tokens_init_104 rfl ?_
  refine e_iload d_Tokens_init_105 rfl ?_
  obtain ⟨p17, hp17, h⟩ := bnd h
  refine e_cSl (mt1 := m_Tokens_withLetter) (As := [.long 0, .int 98]) (st := []) d_Tokens_init_107 ml_Tokens_46 ms_Tokens_withLetter (t_Tokens_withLetter n 0 98 M16 p17 hp17) rfl rfl (okp rfl) (okp rfl) (okp rfl) (okp rfl) (okp rfl) ?_
  refine e_lstore_n (l2 := [some (.ref x0), some (.int 0), some (.long p17.1), none, some (.int 0), some (.int 98)]) d_Tokens_init_110 rfl (okl rfl) rfl ?_
  refine e_iinc (v := 1) (l2 := [some (.ref x0), some (.int 0), some (.long p17.1), none, some (.int 1), some (.int 98)]) d_Tokens_init_111 rfl (by decide) rfl (okl rfl) rfl ?_
  refine e_goto 72 d_Tokens_init_114 (by decide) ?_
  refine e_iload d_Tokens_init_72 rfl ?_
  refine e_bipush (v := 8) d_Tokens_init_74 (by decide) ?_
  refine e_ic_ge 117 d_Tokens_init_76 (by decide) (fun c9 => absurd c9 (by decide)) (fun _ => ?_)
  refine e_ldcW d_Tokens_init_79 rfl ?_
  refine e_bipush (v := 8) d_Tokens_init_81 (by decide) ?_
  refine e_iload_n d_Tokens_init_83 rfl ?_
  refine e_imul d_Tokens_init_84 ?_
  refine e_nameI (y := 0) (by decide) ?_
  refine e_iload d_Tokens_init_85 rfl ?_
  refine e_iadd d_Tokens_init_87 ?_
  refine e_nameI (y := 1) (by decide) ?_
  refine e_cVXi (mt1 := m_Str_charAt) (v := 111) (M1 := p17.2) (As := [.int 1]) (st := []) d_Tokens_init_88 ml_Tokens_40 mv_Str_charAt (t_Str_charAt n 0 1 p17.2 (111, p17.2) rfl) (okl rfl) rfl rfl rfl (okp rfl) (okp rfl) (okp rfl) (okp rfl) (okp rfl) ?_
  refine e_istore (l2 := [some (.ref x0), some (.int 0), some (.long p17.1), none, some (.int 1), some (.int 111)]) d_Tokens_init_91 rfl (okl rfl) rfl ?_
  refine e_iload d_Tokens_init_93 rfl ?_
  refine e_bipush (v := 32) d_Tokens_init_95 (by decide) ?_
  refine e_ic_ne 104 d_Tokens_init_97 (by decide) (fun _ => ?_) (fun c9 => absurd c9 (by decide))
  refine e_lload_n d_Tokens_init_104 rfl ?_
  refine e_iload d_Tokens_init_105 rfl ?_
  obtain ⟨p18, hp18, h⟩ := bnd h
  refine e_cSl (mt1 := m_Tokens_withLetter) (As := [.long p17.1, .int 111]) (st := []) d_Tokens_init_107 ml_Tokens_46 ms_Tokens_withLetter (t_Tokens_withLetter n p17.1 111 p17.2 p18 hp18) rfl rfl (okp rfl) (okp rfl) (okp rfl) (okp rfl) (okp rfl) ?_
  refine e_lstore_n (l2 := [some (.ref x0), some (.int 0), some (.long p18.1), none, some (.int 1), some (.int 111)]) d_Tokens_init_110 rfl (okl rfl) rfl ?_
  refine e_iinc (v := 2) (l2 := [some (.ref x0), some (.int 0), some (.long p18.1), none, some (.int 2), some (.int 111)]) d_Tokens_init_111 rfl (by decide) rfl (okl rfl) rfl ?_
  refine e_goto 72 d_Tokens_init_114 (by decide) ?_
  refine e_iload d_Tokens_init_72 rfl ?_
  refine e_bipush (v := 8) d_Tokens_init_74 (by decide) ?_
  refine e_ic_ge 117 d_Tokens_init_76 (by decide) (fun c9 => absurd c9 (by decide)) (fun _ => ?_)
  refine e_ldcW d_Tokens_init_79 rfl ?_
  refine e_bipush (v := 8) d_Tokens_init_81 (by decide) ?_
  refine e_iload_n d_Tokens_init_83 rfl ?_
  refine e_imul d_Tokens_init_84 ?_
  refine e_nameI (y := 0) (by decide) ?_
  refine e_iload d_Tokens_init_85 rfl ?_
  refine e_iadd d_Tokens_init_87 ?_
  refine e_nameI (y := 2) (by decide) ?_
  refine e_cVXi (mt1 := m_Str_charAt) (v := 97) (M1 := p18.2) (As := [.int 2]) (st := []) d_Tokens_init_88 ml_Tokens_40 mv_Str_charAt (t_Str_charAt n 0 2 p18.2 (97, p18.2) rfl) (okl rfl) rfl rfl rfl (okp rfl) (okp rfl) (okp rfl) (okp rfl) (okp rfl) ?_
  refine e_istore (l2 := [some (.ref x0), some (.int 0), some (.long p18.1), none, some (.int 2), some (.int 97)]) d_Tokens_init_91 rfl (okl rfl) rfl ?_
  refine e_iload d_Tokens_init_93 rfl ?_
  refine e_bipush (v := 32) d_Tokens_init_95 (by decide) ?_
  refine e_ic_ne 104 d_Tokens_init_97 (by decide) (fun _ => ?_) (fun c9 => absurd c9 (by decide))
  refine e_lload_n d_Tokens_init_104 rfl ?_
  refine e_iload d_Tokens_init_105 rfl ?_
  obtain ⟨p19, hp19, h⟩ := bnd h
  refine e_cSl (mt1 := m_Tokens_withLetter) (As := [.long p18.1, .int 97]) (st := []) d_Tokens_init_107 ml_Tokens_46 ms_Tokens_withLetter (t_Tokens_withLetter n p18.1 97 p18.2 p19 hp19) rfl rfl (okp rfl) (okp rfl) (okp rfl) (okp rfl) (okp rfl) ?_
  refine e_lstore_n (l2 := [some (.ref x0), some (.int 0), some (.long p19.1), none, some (.int 2), some (.int 97)]) d_Tokens_init_110 rfl (okl rfl) rfl ?_
  refine e_iinc (v := 3) (l2 := [some (.ref x0), some (.int 0), some (.long p19.1), none, some (.int 3), some (.int 97)]) d_Tokens_init_111 rfl (by decide) rfl (okl rfl) rfl ?_
  refine e_goto 72 d_Tokens_init_114 (by decide) ?_
  refine e_iload d_Tokens_init_72 rfl ?_
  refine e_bipush (v := 8) d_Tokens_init_74 (by decide) ?_
  refine e_ic_ge 117 d_Tokens_init_76 (by decide) (fun c9 => absurd c9 (by decide)) (fun _ => ?_)
  refine e_ldcW d_Tokens_init_79 rfl ?_
  refine e_bipush (v := 8) d_Tokens_init_81 (by decide) ?_
  refine e_iload_n d_Tokens_init_83 rfl ?_
  refine e_imul d_Tokens_init_84 ?_
  refine e_nameI (y := 0) (by decide) ?_
  refine e_iload d_Tokens_init_85 rfl ?_
  refine e_iadd d_Tokens_init_87 ?_
  refine e_nameI (y := 3) (by decide) ?_
  refine e_cVXi (mt1 := m_Str_charAt) (v := 114) (M1 := p19.2) (As := [.int 3]) (st := []) d_Tokens_init_88 ml_Tokens_40 mv_Str_charAt (t_Str_charAt n 0 3 p19.2 (114, p19.2) rfl) (okl rfl) rfl rfl rfl (okp rfl) (okp rfl) (okp rfl) (okp rfl) (okp rfl) ?_
  refine e_istore (l2 := [some (.ref x0), some (.int 0), some (.long p19.1), none, some (.int 3), some (.int 114)]) d_Tokens_init_91 rfl (okl rfl) rfl ?_
  refine e_iload d_Tokens_init_93 rfl ?_
  refine e_bipush (v := 32) d_Tokens_init_95 (by decide) ?_
  refine e_ic_ne 104 d_Tokens_init_97 (by decide) (fun _ => ?_) (fun c9 => absurd c9 (by decide))
  refine e_lload_n d_Tokens_init_104 rfl ?_
  refine e_iload d_Tokens_init_105 rfl ?_
  obtain ⟨p20, hp20, h⟩ := bnd h
  refine e_cSl (mt1 := m_Tokens_withLetter) (As := [.long p19.1, .int 114]) (st := []) d_Tokens_init_107 ml_Tokens_46 ms_Tokens_withLetter (t_Tokens_withLetter n p19.1 114 p19.2 p20 hp20) rfl rfl (okp rfl) (okp rfl) (okp rfl) (okp rfl) (okp rfl) ?_
  refine e_lstore_n (l2 := [some (.ref x0), some (.int 0), some (.long p20.1), none, some (.int 3), some (.int 114)]) d_Tokens_init_110 rfl (okl rfl) rfl ?_
  refine e_iinc (v := 4) (l2 := [some (.ref x0), some (.int 0), some (.long p20.1), none, some (.int 4), some (.int 114)]) d_Tokens_init_111 rfl (by decide) rfl (okl rfl) rfl ?_
  refine e_goto 72 d_Tokens_init_114 (by decide) ?_
  refine e_iload d_Tokens_init_72 rfl ?_
  refine e_bipush (v := 8) d_Tokens_init_74 (by decide) ?_
  refine e_ic_ge 117 d_Tokens_init_76 (by decide) (fun c9 => absurd c9 (by decide)) (fun _ => ?_)
  refine e_ldcW d_Tokens_init_79 rfl ?_
  refine e_bipush (v := 8) d_Tokens_init_81 (by decide) ?_
  refine e_iload_n d_Tokens_init_83 rfl ?_
  refine e_imul d_Tokens_init_84 ?_
  refine e_nameI (y := 0) (by decide) ?_
  refine e_iload d_Tokens_init_85 rfl ?_
  refine e_iadd d_Tokens_init_87 ?_
  refine e_nameI (y := 4) (by decide) ?_
  refine e_cVXi (mt1 := m_Str_charAt) (v := 100) (M1 := p20.2) (As := [.int 4]) (st := []) d_Tokens_init_88 ml_Tokens_40 mv_Str_charAt (t_Str_charAt n 0 4 p20.2 (100, p20.2) rfl) (okl rfl) rfl rfl rfl (okp rfl) (okp rfl) (okp rfl) (okp rfl) (okp rfl) ?_
  refine e_istore (l2 := [some (.ref x0), some (.int 0), some (.long p20.1), none, some (.int 4), some (.int 100)]) d_Tokens_init_91 rfl (okl rfl) rfl ?_
  refine e_iload d_Tokens_init_93 rfl ?_
  refine e_bipush (v := 32) d_Tokens_init_95 (by decide) ?_
  refine e_ic_ne 104 d_Tokens_init_97 (by decide) (fun _ => ?_) (fun c9 => absurd c9 (by decide))
  refine e_lload_n d_Tokens_init_104 rfl ?_
  refine e_iload d_Tokens_init_105 rfl ?_
  obtain ⟨p21, hp21, h⟩ := bnd h
  refine e_cSl (mt1 := m_Tokens_withLetter) (As := [.long p20.1, .int 100]) (st := []) d_Tokens_init_107 ml_Tokens_46 ms_Tokens_withLetter (t_Tokens_withLetter n p20.1 100 p20.2 p21 hp21) rfl rfl (okp rfl) (okp rfl) (okp rfl) (okp rfl) (okp rfl) ?_
  refine e_lstore_n (l2 := [some (.ref x0), some (.int 0), some (.long p21.1), none, some (.int 4), some (.int 100)]) d_Tokens_init_110 rfl (okl rfl) rfl ?_
  refine e_iinc (v := 5) (l2 := [some (.ref x0), some (.int 0), some (.long p21.1), none, some (.int 5), some (.int 100)]) d_Tokens_init_111 rfl (by decide) rfl (okl rfl) rfl ?_
  refine e_goto 72 d_Tokens_init_114 (by decide) ?_
  refine e_iload d_Tokens_init_72 rfl ?_
  refine e_bipush (v := 8) d_Tokens_init_74 (by decide) ?_
  refine e_ic_ge 117 d_Tokens_init_76 (by decide) (fun c9 => absurd c9 (by decide)) (fun _ => ?_)
  refine e_ldcW d_Tokens_init_79 rfl ?_
  refine e_bipush (v := 8) d_Tokens_init_81 (by decide) ?_
  refine e_iload_n d_Tokens_init_83 rfl ?_
  refine e_imul d_Tokens_init_84 ?_
  refine e_nameI (y := 0) (by decide) ?_
  refine e_iload d_Tokens_init_85 rfl ?_
  refine e_iadd d_Tokens_init_87 ?_
  refine e_nameI (y := 5) (by decide) ?_
  refine e_cVXi (mt1 := m_Str_charAt) (v := 32) (M1 := p21.2) (As := [.int 5]) (st := []) d_Tokens_init_88 ml_Tokens_40 mv_Str_charAt (t_Str_charAt n 0 5 p21.2 (32, p21.2) rfl) (okl rfl) rfl rfl rfl (okp rfl) (okp rfl) (okp rfl) (okp rfl) (okp rfl) ?_
  refine e_istore (l2 := [some (.ref x0), some (.int 0), some (.long p21.1), none, some (.int 5), some (.int 32)]) d_Tokens_init_91 rfl (okl rfl) rfl ?_
  refine e_iload d_Tokens_init_93 rfl ?_
  refine e_bipush (v := 32) d_Tokens_init_95 (by decide) ?_
  refine e_ic_ne 104 d_Tokens_init_97 (by decide) (fun c9 => absurd c9 (by decide)) (fun _ => ?_)
  refine e_lload_n d_Tokens_init_100 rfl ?_
  refine e_goto 110 d_Tokens_init_101 (by decide) ?_
  refine e_lstore_n (l2 := [some (.ref x0), some (.int 0), some (.long p21.1), none, some (.int 5), some (.int 32)]) d_Tokens_init_110 rfl (okl rfl) rfl ?_
  refine e_iinc (v := 6) (l2 := [some (.ref x0), some (.int 0), some (.long p21.1), none, some (.int 6), some (.int 32)]) d_Tokens_init_111 rfl (by decide) rfl (okl rfl) rfl ?_
  refine e_goto 72 d_Tokens_init_114 (by decide) ?_
  refine e_iload d_Tokens_init_72 rfl ?_
  refine e_bipush (v := 8) d_Tokens_init_74 (by decide) ?_
  refine e_ic_ge 117 d_Tokens_init_76 (by decide) (fun c9 => absurd c9 (by decide)) (fun _ => ?_)
  refine e_ldcW d_Tokens_init_79 rfl ?_
  refine e_bipush (v := 8) d_Tokens_init_81 (by decide) ?_
  refine e_iload_n d_Tokens_init_83 rfl ?_
  refine e_imul d_Tokens_init_84 ?_
  refine e_nameI (y := 0) (by decide) ?_
  refine e_iload d_Tokens_init_85 rfl ?_
  refine e_iadd d_Tokens_init_87 ?_
  refine e_nameI (y := 6) (by decide) ?_
  refine e_cVXi (mt1 := m_Str_charAt) (v := 32) (M1 := p21.2) (As := [.int 6]) (st := []) d_Tokens_init_88 ml_Tokens_40 mv_Str_charAt (t_Str_charAt n 0 6 p21.2 (32, p21.2) rfl) (okl rfl) rfl rfl rfl (okp rfl) (okp rfl) (okp rfl) (okp rfl) (okp rfl) ?_
  refine e_istore (l2 := [some (.ref x0), some (.int 0), some (.long p21.1), none, some (.int 6), some (.int 32)]) d_Tokens_init_91 rfl (okl rfl) rfl ?_
  refine e_iload d_Tokens_init_93 rfl ?_
  refine e_bipush (v := 32) d_Tokens_init_95 (by decide) ?_
  refine e_ic_ne 104 d_Tokens_init_97 (by decide) (fun c9 => absurd c9 (by decide)) (fun _ => ?_)
  refine e_lload_n d_Tokens_init_100 rfl ?_
  refine e_goto 110 d_Tokens_init_101 (by decide) ?_
  refine e_lstore_n (l2 := [some (.ref x0), some (.int 0), some (.long p21.1), none, some (.int 6), some (.int 32)]) d_Tokens_init_110 rfl (okl rfl) rfl ?_
  refine e_iinc (v := 7) (l2 := [some (.ref x0), some (.int 0), some (.long p21.1), none, some (.int 7), some (.int 32)]) d_Tokens_init_111 rfl (by decide) rfl (okl rfl) rfl ?_
  refine e_goto 72 d_Tokens_init_114 (by decide) ?_
  refine e_iload d_Tokens_init_72 rfl ?_
  refine e_bipush (v := 8) d_Tokens_init_74 (by decide) ?_
  refine e_ic_ge 117 d_Tokens_init_76 (by decide) (fun c9 => absurd c9 (by decide)) (fun _ => ?_)
  refine e_ldcW d_Tokens_init_79 rfl ?_
  refine e_bipush (v := 8) d_Tokens_init_81 (by decide) ?_
  refine e_iload_n d_Tokens_init_83 rfl ?_
  refine e_imul d_Tokens_init_84 ?_
  refine e_nameI (y := 0) (by decide) ?_
  refine e_iload d_Tokens_init_85 rfl ?_
  refine e_iadd d_Tokens_init_87 ?_
  refine e_nameI (y := 7) (by decide) ?_
  refine e_cVXi (mt1 := m_Str_charAt) (v := 32) (M1 := p21.2) (As := [.int 7]) (st := []) d_Tokens_init_88 ml_Tokens_40 mv_Str_charAt (t_Str_charAt n 0 7 p21.2 (32, p21.2) rfl) (okl rfl) rfl rfl rfl (okp rfl) (okp rfl) (okp rfl) (okp rfl) (okp rfl) ?_
  refine e_istore (l2 := [some (.ref x0), some (.int 0), some (.long p21.1), none, some (.int 7), some (.int 32)]) d_Tokens_init_91 rfl (okl rfl) rfl ?_
  refine e_iload d_Tokens_init_93 rfl ?_
  refine e_bipush (v := 32) d_Tokens_init_95 (by decide) ?_
  refine e_ic_ne 104 d_Tokens_init_97 (by decide) (fun c9 => absurd c9 (by decide)) (fun _ => ?_)
  refine e_lload_n d_Tokens_init_100 rfl ?_
  refine e_goto 110 d_Tokens_init_101 (by decide) ?_
  refine e_lstore_n (l2 := [some (.ref x0), some (.int 0), some (.long p21.1), none, some (.int 7), some (.int 32)]) d_Tokens_init_110 rfl (okl rfl) rfl ?_
  refine e_iinc (v := 8) (l2 := [some (.ref x0), some (.int 0), some (.long p21.1), none, some (.int 8), some (.int 32)]) d_Tokens_init_111 rfl (by decide) rfl (okl rfl) rfl ?_
  refine e_goto 72 d_Tokens_init_114 (by decide) ?_
  refine e_iload d_Tokens_init_72 rfl ?_
  refine e_bipush (v := 8) d_Tokens_init_74 (by decide) ?_
  refine e_ic_ge 117 d_Tokens_init_76 (by decide) (fun _ => ?_) (fun c9 => absurd c9 (by decide))
  refine e_aload_n d_Tokens_init_117 rfl ?_
  obtain ⟨v22, hv22, h⟩ := bnd h
  refine e_getR d_Tokens_init_118 fl_Tokens_35 (fun _ _ _ => rfl) hv22 ?_
  refine e_iload_n d_Tokens_init_121 rfl ?_
  refine e_lload_n d_Tokens_init_122 rfl ?_
  obtain ⟨M23, hM23, h⟩ := bnd h
  refine e_last d_Tokens_init_123 hM23 ?_
  refine e_iinc (v := 1) (l2 := [some (.ref x0), some (.int 1), some (.long p21.1), none, some (.int 8), some (.int 32)]) d_Tokens_init_124 rfl (by decide) rfl (okl rfl) rfl ?_
  refine e_goto 61 d_Tokens_init_127 (by decide) ?_
  refine e_iload_n d_Tokens_init_61 rfl ?_
  refine e_bipush (v := 10) d_Tokens_init_62 (by decide) ?_
  refine e_ic_ge 130 d_Tokens_init_64 (by decide) (fun c9 => absurd c9 (by decide)) (fun _ => ?_)
  refine e_lconst (v := 0) d_Tokens_init_67 (by decide) ?_
  refine e_lstore_n (l2 := [some (.ref x0), some (.int 1), some (.long 0), none, some (.int 8), some (.int 32)]) d_Tokens_init_68 rfl (okl rfl) rfl ?_
  refine e_iconst (v := 0) d_Tokens_init_69 (by decide) ?_
  refine e_istore (l2 := [some (.ref x0), some (.int 1), some (.long 0), none, some (.int 0), some (.int 32)]) d_Tokens_init_70 rfl (okl rfl) rfl ?_
  refine e_iload d_Tokens_init_72 rfl ?_
  refine e_bipush (v := 8) d_Tokens_init_74 (by decide) ?_
  refine e_ic_ge 117 d_Tokens_init_76 (by decide) (fun c9 => absurd c9 (by decide)) (fun _ => ?_)
  refine e_ldcW d_Tokens_init_79 rfl ?_
  refine e_bipush (v := 8) d_Tokens_init_81 (by decide) ?_
  refine e_iload_n d_Tokens_init_83 rfl ?_
  refine e_imul d_Tokens_init_84 ?_
  refine e_nameI (y := 8) (by decide) ?_
  refine e_iload d_Tokens_init_85 rfl ?_
  refine e_iadd d_Tokens_init_87 ?_
  refine e_nameI (y := 8) (by decide) ?_
  refine e_cVXi (mt1 := m_Str_charAt) (v := 111) (M1 := M23) (As := [.int 8]) (st := []) d_Tokens_init_88 ml_Tokens_40 mv_Str_charAt (t_Str_charAt n 0 8 M23 (111, M23) rfl) (okl rfl) rfl rfl rfl (okp rfl) (okp rfl) (okp rfl) (okp rfl) (okp rfl) ?_
  refine e_istore (l2 := [some (.ref x0), some (.int 1), some (.long 0), none, some (.int 0), some (.int 111)]) d_Tokens_init_91 rfl (okl rfl) rfl ?_
  refine e_iload d_Tokens_init_93 rfl ?_
  refine e_bipush (v := 32) d_Tokens_init_95 (by decide) ?_
  refine e_ic_ne 104 d_Tokens_init_97 (by decide) (fun _ => ?_) (fun c9 => absurd c9 (by decide))
  refine e_lload_n d_Tokens_init_104 rfl ?_
  refine e_iload d_Tokens_init_105 rfl ?_
  obtain ⟨p24, hp24, h⟩ := bnd h
  refine e_cSl (mt1 := m_Tokens_withLetter) (As := [.long 0, .int 111]) (st := []) d_Tokens_init_107 ml_Tokens_46 ms_Tokens_withLetter (t_Tokens_withLetter n 0 111 M23 p24 hp24) rfl rfl (okp rfl) (okp rfl) (okp rfl) (okp rfl) (okp rfl) ?_
  refine e_lstore_n (l2 := [some (.ref x0), some (.int 1), some (.long p24.1), none, some (.int 0), some (.int 111)]) d_Tokens_init_110 rfl (okl rfl) rfl ?_
  refine e_iinc (v := 1) (l2 := [some (.ref x0), some (.int 1), some (.long p24.1), none, some (.int 1), some (.int 111)]) d_Tokens_init_111 rfl (by decide) rfl (okl rfl) rfl ?_
  refine e_goto 72 d_Tokens_init_114 (by decide) ?_
  refine e_iload d_Tokens_init_72 rfl ?_
  refine e_bipush (v := 8) d_Tokens_init_74 (by decide) ?_
  refine e_ic_ge 117 d_Tokens_init_76 (by decide) (fun c9 => absurd c9 (by decide)) (fun _ => ?_)
  refine e_ldcW d_Tokens_init_79 rfl ?_
  refine e_bipush (v := 8) d_Tokens_init_81 (by decide) ?_
  refine e_iload_n d_Tokens_init_83 rfl ?_
  refine e_imul d_Tokens_init_84 ?_
  refine e_nameI (y := 8) (by decide) ?_
  refine e_iload d_Tokens_init_85 rfl ?_
  refine e_iadd d_Tokens_init_87 ?_
  refine e_nameI (y := 9) (by decide) ?_
  refine e_cVXi (mt1 := m_Str_charAt) (v := 117) (M1 := p24.2) (As := [.int 9]) (st := []) d_Tokens_init_88 ml_Tokens_40 mv_Str_charAt (t_Str_charAt n 0 9 p24.2 (117, p24.2) rfl) (okl rfl) rfl rfl rfl (okp rfl) (okp rfl) (okp rfl) (okp rfl) (okp rfl) ?_
  refine e_istore (l2 := [some (.ref x0), some (.int 1), some (.long p24.1), none, some (.int 1), some (.int 117)]) d_Tokens_init_91 rfl (okl rfl) rfl ?_
  refine e_iload d_Tokens_init_93 rfl ?_
  refine e_bipush (v := 32) d_Tokens_init_95 (by decide) ?_
  refine e_ic_ne 104 d_Tokens_init_97 (by decide) (fun _ => ?_) (fun c9 => absurd c9 (by decide))
  refine e_lload_n d_Tokens_init_104 rfl ?_
  refine e_iload d_Tokens_init_105 rfl ?_
  obtain ⟨p25, hp25, h⟩ := bnd h
  refine e_cSl (mt1 := m_Tokens_withLetter) (As := [.long p24.1, .int 117]) (st := []) d_Tokens_init_107 ml_Tokens_46 ms_Tokens_withLetter (t_Tokens_withLetter n p24.1 117 p24.2 p25 hp25) rfl rfl (okp rfl) (okp rfl) (okp rfl) (okp rfl) (okp rfl) ?_
  refine e_lstore_n (l2 := [some (.ref x0), some (.int 1), some (.long p25.1), none, some (.int 1), some (.int 117)]) d_Tokens_init_110 rfl (okl rfl) rfl ?_
  refine e_iinc (v := 2) (l2 := [some (.ref x0), some (.int 1), some (.long p25.1), none, some (.int 2), some (.int 117)]) d_Tokens_init_111 rfl (by decide) rfl (okl rfl) rfl ?_
  refine e_goto 72 d_Tokens_init_114 (by decide) ?_
  refine e_iload d_Tokens_init_72 rfl ?_
  refine e_bipush (v := 8) d_Tokens_init_74 (by decide) ?_
  refine e_ic_ge 117 d_Tokens_init_76 (by decide) (fun c9 => absurd c9 (by decide)) (fun _ => ?_)
  refine e_ldcW d_Tokens_init_79 rfl ?_
  refine e_bipush (v := 8) d_Tokens_init_81 (by decide) ?_
  refine e_iload_n d_Tokens_init_83 rfl ?_
  refine e_imul d_Tokens_init_84 ?_
  refine e_nameI (y := 8) (by decide) ?_
  refine e_iload d_Tokens_init_85 rfl ?_
  refine e_iadd d_Tokens_init_87 ?_
  refine e_nameI (y := 10) (by decide) ?_
  refine e_cVXi (mt1 := m_Str_charAt) (v := 116) (M1 := p25.2) (As := [.int 10]) (st := []) d_Tokens_init_88 ml_Tokens_40 mv_Str_charAt (t_Str_charAt n 0 10 p25.2 (116, p25.2) rfl) (okl rfl) rfl rfl rfl (okp rfl) (okp rfl) (okp rfl) (okp rfl) (okp rfl) ?_
  refine e_istore (l2 := [some (.ref x0), some (.int 1), some (.long p25.1), none, some (.int 2), some (.int 116)]) d_Tokens_init_91 rfl (okl rfl) rfl ?_
  refine e_iload d_Tokens_init_93 rfl ?_
  refine e_bipush (v := 32) d_Tokens_init_95 (by decide) ?_
  refine e_ic_ne 104 d_Tokens_init_97 (by decide) (fun _ => ?_) (fun c9 => absurd c9 (by decide))
  refine e_lload_n d_Tokens_init_104 rfl ?_
  refine e_iload d_Tokens_init_105 rfl ?_
  obtain ⟨p26, hp26, h⟩ := bnd h
  refine e_cSl (mt1 := m_Tokens_withLetter) (As := [.long p25.1, .int 116]) (st := []) d_Tokens_init_107 ml_Tokens_46 ms_Tokens_withLetter (t_Tokens_withLetter n p25.1 116 p25.2 p26 hp26) rfl rfl (okp rfl) (okp rfl) (okp rfl) (okp rfl) (okp rfl) ?_
  refine e_lstore_n (l2 := [some (.ref x0), some (.int 1), some (.long p26.1), none, some (.int 2), some (.int 116)]) d_Tokens_init_110 rfl (okl rfl) rfl ?_
  refine e_iinc (v := 3) (l2 := [some (.ref x0), some (.int 1), some (.long p26.1), none, some (.int 3), some (.int 116)]) d_Tokens_init_111 rfl (by decide) rfl (okl rfl) rfl ?_
  refine e_goto 72 d_Tokens_init_114 (by decide) ?_
  refine e_iload d_Tokens_init_72 rfl ?_
  refine e_bipush (v := 8) d_Tokens_init_74 (by decide) ?_
  refine e_ic_ge 117 d_Tokens_init_76 (by decide) (fun c9 => absurd c9 (by decide)) (fun _ => ?_)
  refine e_ldcW d_Tokens_init_79 rfl ?_
  refine e_bipush (v := 8) d_Tokens_init_81 (by decide) ?_
  refine e_iload_n d_Tokens_init_83 rfl ?_
  refine e_imul d_Tokens_init_84 ?_
  refine e_nameI (y := 8) (by decide) ?_
  refine e_iload d_Tokens_init_85 rfl ?_
  refine e_iadd d_Tokens_init_87 ?_
  refine e_nameI (y := 11) (by decide) ?_
  refine e_cVXi (mt1 := m_Str_charAt) (v := 108) (M1 := p26.2) (As := [.int 11]) (st := []) d_Tokens_init_88 ml_Tokens_40 mv_Str_charAt (t_Str_charAt n 0 11 p26.2 (108, p26.2) rfl) (okl rfl) rfl rfl rfl (okp rfl) (okp rfl) (okp rfl) (okp rfl) (okp rfl) ?_
  refine e_istore (l2 := [some (.ref x0), some (.int 1), some (.long p26.1), none, some (.int 3), some (.int 108)]) d_Tokens_init_91 rfl (okl rfl) rfl ?_
  refine e_iload d_Tokens_init_93 rfl ?_
  refine e_bipush (v := 32) d_Tokens_init_95 (by decide) ?_
  refine e_ic_ne 104 d_Tokens_init_97 (by decide) (fun _ => ?_) (fun c9 => absurd c9 (by decide))
  refine e_lload_n d_Tokens_init_104 rfl ?_
  refine e_iload d_Tokens_init_105 rfl ?_
  obtain ⟨p27, hp27, h⟩ := bnd h
  refine e_cSl (mt1 := m_Tokens_withLetter) (As := [.long p26.1, .int 108]) (st := []) d_Tokens_init_107 ml_Tokens_46 ms_Tokens_withLetter (t_Tokens_withLetter n p26.1 108 p26.2 p27 hp27) rfl rfl (okp rfl) (okp rfl) (okp rfl) (okp rfl) (okp rfl) ?_
  refine e_lstore_n (l2 := [some (.ref x0), some (.int 1), some (.long p27.1), none, some (.int 3), some (.int 108)]) d_Tokens_init_110 rfl (okl rfl) rfl ?_
  refine e_iinc (v := 4) (l2 := [some (.ref x0), some (.int 1), some (.long p27.1), none, some (.int 4), some (.int 108)]) d_Tokens_init_111 rfl (by decide) rfl (okl rfl) rfl ?_
  refine e_goto 72 d_Tokens_init_114 (by decide) ?_
  refine e_iload d_Tokens_init_72 rfl ?_
  refine e_bipush (v := 8) d_Tokens_init_74 (by decide) ?_
  refine e_ic_ge 117 d_Tokens_init_76 (by decide) (fun c9 => absurd c9 (by decide)) (fun _ => ?_)
  refine e_ldcW d_Tokens_init_79 rfl ?_
  refine e_bipush (v := 8) d_Tokens_init_81 (by decide) ?_
  refine e_iload_n d_Tokens_init_83 rfl ?_
  refine e_imul d_Tokens_init_84 ?_
  refine e_nameI (y := 8) (by decide) ?_
  refine e_iload d_Tokens_init_85 rfl ?_
  refine e_iadd d_Tokens_init_87 ?_
  refine e_nameI (y := 12) (by decide) ?_
  refine e_cVXi (mt1 := m_Str_charAt) (v := 105) (M1 := p27.2) (As := [.int 12]) (st := []) d_Tokens_init_88 ml_Tokens_40 mv_Str_charAt (t_Str_charAt n 0 12 p27.2 (105, p27.2) rfl) (okl rfl) rfl rfl rfl (okp rfl) (okp rfl) (okp rfl) (okp rfl) (okp rfl) ?_
  refine e_istore (l2 := [some (.ref x0), some (.int 1), some (.long p27.1), none, some (.int 4), some (.int 105)]) d_Tokens_init_91 rfl (okl rfl) rfl ?_
  refine e_iload d_Tokens_init_93 rfl ?_
  refine e_bipush (v := 32) d_Tokens_init_95 (by decide) ?_
  refine e_ic_ne 104 d_Tokens_init_97 (by decide) (fun _ => ?_) (fun c9 => absurd c9 (by decide))
  refine e_lload_n d_Tokens_init_104 rfl ?_
  refine e_iload d_Tokens_init_105 rfl ?_
  obtain ⟨p28, hp28, h⟩ := bnd h
  refine e_cSl (mt1 := m_Tokens_withLetter) (As := [.long p27.1, .int 105]) (st := []) d_Tokens_init_107 ml_Tokens_46 ms_Tokens_withLetter (t_Tokens_withLetter n p27.1 105 p27.2 p28 hp28) rfl rfl (okp rfl) (okp rfl) (okp rfl) (okp rfl) (okp rfl) ?_
  refine e_lstore_n (l2 := [some (.ref x0), some (.int 1), some (.long p28.1), none, some (.int 4), some (.int 105)]) d_Tokens_init_110 rfl (okl rfl) rfl ?_
  refine e_iinc (v := 5) (l2 := [some (.ref x0), some (.int 1), some (.long p28.1), none, some (.int 5), some (.int 105)]) d_Tokens_init_111 rfl (by decide) rfl (okl rfl) rfl ?_
  refine e_goto 72 d_Tokens_init_114 (by decide) ?_
  refine e_iload d_Tokens_init_72 rfl ?_
  refine e_bipush (v := 8) d_Tokens_init_74 (by decide) ?_
  refine e_ic_ge 117 d_Tokens_init_76 (by decide) (fun c9 => absurd c9 (by decide)) (fun _ => ?_)
  refine e_ldcW d_Tokens_init_79 rfl ?_
  refine e_bipush (v := 8) d_Tokens_init_81 (by decide) ?_
  refine e_iload_n d_Tokens_init_83 rfl ?_
  refine e_imul d_Tokens_init_84 ?_
  refine e_nameI (y := 8) (by decide) ?_
  refine e_iload d_Tokens_init_85 rfl ?_
  refine e_iadd d_Tokens_init_87 ?_
  refine e_nameI (y := 13) (by decide) ?_
  refine e_cVXi (mt1 := m_Str_charAt) (v := 110) (M1 := p28.2) (As := [.int 13]) (st := []) d_Tokens_init_88 ml_Tokens_40 mv_Str_charAt (t_Str_charAt n 0 13 p28.2 (110, p28.2) rfl) (okl rfl) rfl rfl rfl (okp rfl) (okp rfl) (okp rfl) (okp rfl) (okp rfl) ?_
  refine e_istore (l2 := [some (.ref x0), some (.int 1), some (.long p28.1), none, some (.int 5), some (.int 110)]) d_Tokens_init_91 rfl (okl rfl) rfl ?_
  refine e_iload d_Tokens_init_93 rfl ?_
  refine e_bipush (v := 32) d_Tokens_init_95 (by decide) ?_
  refine e_ic_ne 104 d_Tokens_init_97 (by decide) (fun _ => ?_) (fun c9 => absurd c9 (by decide))
  refine e_lload_n d_Tokens_init_104 rfl ?_
  refine e_iload d_Tokens_init_105 rfl ?_
  obtain ⟨p29, hp29, h⟩ := bnd h
  refine e_cSl (mt1 := m_Tokens_withLetter) (As := [.long p28.1, .int 110]) (st := []) d_Tokens_init_107 ml_Tokens_46 ms_Tokens_withLetter (t_Tokens_withLetter n p28.1 110 p28.2 p29 hp29) rfl rfl (okp rfl) (okp rfl) (okp rfl) (okp rfl) (okp rfl) ?_
  refine e_lstore_n (l2 := [some (.ref x0), some (.int 1), some (.long p29.1), none, some (.int 5), some (.int 110)]) d_Tokens_init_110 rfl (okl rfl) rfl ?_
  refine e_iinc (v := 6) (l2 := [some (.ref x0), some (.int 1), some (.long p29.1), none, some (.int 6), some (.int 110)]) d_Tokens_init_111 rfl (by decide) rfl (okl rfl) rfl ?_
  refine e_goto 72 d_Tokens_init_114 (by decide) ?_
  refine e_iload d_Tokens_init_72 rfl ?_
  refine e_bipush (v := 8) d_Tokens_init_74 (by decide) ?_
  refine e_ic_ge 117 d_Tokens_init_76 (by decide) (fun c9 => absurd c9 (by decide)) (fun _ => ?_)
  refine e_ldcW d_Tokens_init_79 rfl ?_
  refine e_bipush (v := 8) d_Tokens_init_81 (by decide) ?_
  refine e_iload_n d_Tokens_init_83 rfl ?_
  refine e_imul d_Tokens_init_84 ?_
  refine e_nameI (y := 8) (by decide) ?_
  refine e_iload d_Tokens_init_85 rfl ?_
  refine e_iadd d_Tokens_init_87 ?_
  refine e_nameI (y := 14) (by decide) ?_
  refine e_cVXi (mt1 := m_Str_charAt) (v := 101) (M1 := p29.2) (As := [.int 14]) (st := []) d_Tokens_init_88 ml_Tokens_40 mv_Str_charAt (t_Str_charAt n 0 14 p29.2 (101, p29.2) rfl) (okl rfl) rfl rfl rfl (okp rfl) (okp rfl) (okp rfl) (okp rfl) (okp rfl) ?_
  refine e_istore (l2 := [some (.ref x0), some (.int 1), some (.long p29.1), none, some (.int 6), some (.int 101)]) d_Tokens_init_91 rfl (okl rfl) rfl ?_
  refine e_iload d_Tokens_init_93 rfl ?_
  refine e_bipush (v := 32) d_Tokens_init_95 (by decide) ?_
  refine e_ic_ne 104 d_Tokens_init_97 (by decide) (fun _ => ?_) (fun c9 => absurd c9 (by decide))
  refine e_lload_n d_Tokens_init_104 rfl ?_
  refine e_iload d_Tokens_init_105 rfl ?_
  obtain ⟨p30, hp30, h⟩ := bnd h
  refine e_cSl (mt1 := m_Tokens_withLetter) (As := [.long p29.1, .int 101]) (st := []) d_Tokens_init_107 ml_Tokens_46 ms_Tokens_withLetter (t_Tokens_withLetter n p29.1 101 p29.2 p30 hp30) rfl rfl (okp rfl) (okp rfl) (okp rfl) (okp rfl) (okp rfl) ?_
  refine e_lstore_n (l2 := [some (.ref x0), some (.int 1), some (.long p30.1), none, some (.int 6), some (.int 101)]) d_Tokens_init_110 rfl (okl rfl) rfl ?_
  refine e_iinc (v := 7) (l2 := [some (.ref x0), some (.int 1), some (.long p30.1), none, some (.int 7), some (.int 101)]) d_Tokens_init_111 rfl (by decide) rfl (okl rfl) rfl ?_
  refine e_goto 72 d_Tokens_init_114 (by decide) ?_
  refine e_iload d_Tokens_init_72 rfl ?_
  refine e_bipush (v := 8) d_Tokens_init_74 (by decide) ?_
  refine e_ic_ge 117 d_Tokens_init_76 (by decide) (fun c9 => absurd c9 (by decide)) (fun _ => ?_)
  refine e_ldcW d_Tokens_init_79 rfl ?_
  refine e_bipush (v := 8) d_Tokens_init_81 (by decide) ?_
  refine e_iload_n d_Tokens_init_83 rfl ?_
  refine e_imul d_Tokens_init_84 ?_
  refine e_nameI (y := 8) (by decide) ?_
  refine e_iload d_Tokens_init_85 rfl ?_
  refine e_iadd d_Tokens_init_87 ?_
  refine e_nameI (y := 15) (by decide) ?_
  refine e_cVXi (mt1 := m_Str_charAt) (v := 32) (M1 := p30.2) (As := [.int 15]) (st := []) d_Tokens_init_88 ml_Tokens_40 mv_Str_charAt (t_Str_charAt n 0 15 p30.2 (32, p30.2) rfl) (okl rfl) rfl rfl rfl (okp rfl) (okp rfl) (okp rfl) (okp rfl) (okp rfl) ?_
  refine e_istore (l2 := [some (.ref x0), some (.int 1), some (.long p30.1), none, some (.int 7), some (.int 32)]) d_Tokens_init_91 rfl (okl rfl) rfl ?_
  refine e_iload d_Tokens_init_93 rfl ?_
  refine e_bipush (v := 32) d_Tokens_init_95 (by decide) ?_
  refine e_ic_ne 104 d_Tokens_init_97 (by decide) (fun c9 => absurd c9 (by decide)) (fun _ => ?_)
  refine e_lload_n d_Tokens_init_100 rfl ?_
  refine e_goto 110 d_Tokens_init_101 (by decide) ?_
  refine e_lstore_n (l2 := [some (.ref x0), some (.int 1), some (.long p30.1), none, some (.int 7), some (.int 32)]) d_Tokens_init_110 rfl (okl rfl) rfl ?_
  refine e_iinc (v := 8) (l2 := [some (.ref x0), some (.int 1), some (.long p30.1), none, some (.int 8), some (.int 32)]) d_Tokens_init_111 rfl (by decide) rfl (okl rfl) rfl ?_
  refine e_goto 72 d_Tokens_init_114 (by decide) ?_
  refine e_iload d_Tokens_init_72 rfl ?_
  refine e_bipush (v := 8) d_Tokens_init_74 (by decide) ?_
  refine e_ic_ge 117 d_Tokens_init_76 (by decide) (fun _ => ?_) (fun c9 => absurd c9 (by decide))
  refine e_aload_n d_Tokens_init_117 rfl ?_
  obtain ⟨v31, hv31, h⟩ := bnd h
  refine e_getR d_Tokens_init_118 fl_Tokens_35 (fun _ _ _ => rfl) hv31 ?_
  refine e_iload_n d_Tokens_init_121 rfl ?_
  refine e_lload_n d_Tokens_init_122 rfl ?_
  obtain ⟨M32, hM32, h⟩ := bnd h
  refine e_last d_Tokens_init_123 hM32 ?_
  refine e_iinc (v := 2) (l2 := [some (.ref x0), some (.int 2), some (.long p30.1), none, some (.int 8), some (.int 32)]) d_Tokens_init_124 rfl (by decide) rfl (okl rfl) rfl ?_
  refine e_goto 61 d_Tokens_init_127 (by decide) ?_
  refine e_iload_n d_Tokens_init_61 rfl ?_
  refine e_bipush (v := 10) d_Tokens_init_62 (by decide) ?_
  refine e_ic_ge 130 d_Tokens_init_64 (by decide) (fun c9 => absurd c9 (by decide)) (fun _ => ?_)
  refine e_lconst (v := 0) d_Tokens_init_67 (by decide) ?_
  refine e_lstore_n (l2 := [some (.ref x0), some (.int 2), some (.long 0), none, some (.int 8), some (.int 32)]) d_Tokens_init_68 rfl (okl rfl) rfl ?_
  refine e_iconst (v := 0) d_Tokens_init_69 (by decide) ?_
  refine e_istore (l2 := [some (.ref x0), some (.int 2), some (.long 0), none, some (.int 0), some (.int 32)]) d_Tokens_init_70 rfl (okl rfl) rfl ?_
  refine e_iload d_Tokens_init_72 rfl ?_
  refine e_bipush (v := 8) d_Tokens_init_74 (by decide) ?_
  refine e_ic_ge 117 d_Tokens_init_76 (by decide) (fun c9 => absurd c9 (by decide)) (fun _ => ?_)
  refine e_ldcW d_Tokens_init_79 rfl ?_
  refine e_bipush (v := 8) d_Tokens_init_81 (by decide) ?_
  refine e_iload_n d_Tokens_init_83 rfl ?_
  refine e_imul d_Tokens_init_84 ?_
  refine e_nameI (y := 16) (by decide) ?_
  refine e_iload d_Tokens_init_85 rfl ?_
  refine e_iadd d_Tokens_init_87 ?_
  refine e_nameI (y := 16) (by decide) ?_
  refine e_cVXi (mt1 := m_Str_charAt) (v := 116) (M1 := M32) (As := [.int 16]) (st := []) d_Tokens_init_88 ml_Tokens_40 mv_Str_charAt (t_Str_charAt n 0 16 M32 (116, M32) rfl) (okl rfl) rfl rfl rfl (okp rfl) (okp rfl) (okp rfl) (okp rfl) (okp rfl) ?_
  refine e_istore (l2 := [some (.ref x0), some (.int 2), some (.long 0), none, some (.int 0), some (.int 116)]) d_Tokens_init_91 rfl (okl rfl) rfl ?_
  refine e_iload d_Tokens_init_93 rfl ?_
  refine e_bipush (v := 32) d_Tokens_init_95 (by decide) ?_
  refine e_ic_ne 104 d_Tokens_init_97 (by decide) (fun _ => ?_) (fun c9 => absurd c9 (by decide))
  refine e_lload_n d_Tokens_init_104 rfl ?_
  refine e_iload d_Tokens_init_105 rfl ?_
  obtain ⟨p33, hp33, h⟩ := bnd h
  refine e_cSl (mt1 := m_Tokens_withLetter) (As := [.long 0, .int 116]) (st := []) d_Tokens_init_107 ml_Tokens_46 ms_Tokens_withLetter (t_Tokens_withLetter n 0 116 M32 p33 hp33) rfl rfl (okp rfl) (okp rfl) (okp rfl) (okp rfl) (okp rfl) ?_
  refine e_lstore_n (l2 := [some (.ref x0), some (.int 2), some (.long p33.1), none, some (.int 0), some (.int 116)]) d_Tokens_init_110 rfl (okl rfl) rfl ?_
  refine e_iinc (v := 1) (l2 := [some (.ref x0), some (.int 2), some (.long p33.1), none, some (.int 1), some (.int 116)]) d_Tokens_init_111 rfl (by decide) rfl (okl rfl) rfl ?_
  refine e_goto 72 d_Tokens_init_114 (by decide) ?_
  refine e_iload d_Tokens_init_72 rfl ?_
  refine e_bipush (v := 8) d_Tokens_init_74 (by decide) ?_
  refine e_ic_ge 117 d_Tokens_init_76 (by decide) (fun c9 => absurd c9 (by decide)) (fun _ => ?_)
  refine e_ldcW d_Tokens_init_79 rfl ?_
  refine e_bipush (v := 8) d_Tokens_init_81 (by decide) ?_
  refine e_iload_n d_Tokens_init_83 rfl ?_
  refine e_imul d_Tokens_init_84 ?_
  refine e_nameI (y := 16) (by decide) ?_
  refine e_iload d_Tokens_init_85 rfl ?_
  refine e_iadd d_Tokens_init_87 ?_
  refine e_nameI (y := 17) (by decide) ?_
  refine e_cVXi (mt1 := m_Str_charAt) (v := 117) (M1 := p33.2) (As := [.int 17]) (st := []) d_Tokens_init_88 ml_Tokens_40 mv_Str_charAt (t_Str_charAt n 0 17 p33.2 (117, p33.2) rfl) (okl rfl) rfl rfl rfl (okp rfl) (okp rfl) (okp rfl) (okp rfl) (okp rfl) ?_
  refine e_istore (l2 := [some (.ref x0), some (.int 2), some (.long p33.1), none, some (.int 1), some (.int 117)]) d_Tokens_init_91 rfl (okl rfl) rfl ?_
  refine e_iload d_Tokens_init_93 rfl ?_
  refine e_bipush (v := 32) d_Tokens_init_95 (by decide) ?_
  refine e_ic_ne 104 d_Tokens_init_97 (by decide) (fun _ => ?_) (fun c9 => absurd c9 (by decide))
  refine e_lload_n d_Tokens_init_104 rfl ?_
  refine e_iload d_Tokens_init_105 rfl ?_
  obtain ⟨p34, hp34, h⟩ := bnd h
  refine e_cSl (mt1 := m_Tokens_withLetter) (As := [.long p33.1, .int 117]) (st := []) d_Tokens_init_107 ml_Tokens_46 ms_Tokens_withLetter (t_Tokens_withLetter n p33.1 117 p33.2 p34 hp34) rfl rfl (okp rfl) (okp rfl) (okp rfl) (okp rfl) (okp rfl) ?_
  refine e_lstore_n (l2 := [some (.ref x0), some (.int 2), some (.long p34.1), none, some (.int 1), some (.int 117)]) d_Tokens_init_110 rfl (okl rfl) rfl ?_
  refine e_iinc (v := 2) (l2 := [some (.ref x0), some (.int 2), some (.long p34.1), none, some (.int 2), some (.int 117)]) d_Tokens_init_111 rfl (by decide) rfl (okl rfl) rfl ?_
  refine e_goto 72 d_Tokens_init_114 (by decide) ?_
  refine e_iload d_Tokens_init_72 rfl ?_
  refine e_bipush (v := 8) d_Tokens_init_74 (by decide) ?_
  refine e_ic_ge 117 d_Tokens_init_76 (by decide) (fun c9 => absurd c9 (by decide)) (fun _ => ?_)
  refine e_ldcW d_Tokens_init_79 rfl ?_
  refine e_bipush (v := 8) d_Tokens_init_81 (by decide) ?_
  refine e_iload_n d_Tokens_init_83 rfl ?_
  refine e_imul d_Tokens_init_84 ?_
  refine e_nameI (y := 16) (by decide) ?_
  refine e_iload d_Tokens_init_85 rfl ?_
  refine e_iadd d_Tokens_init_87 ?_
  refine e_nameI (y := 18) (by decide) ?_
  refine e_cVXi (mt1 := m_Str_charAt) (v := 114) (M1 := p34.2) (As := [.int 18]) (st := []) d_Tokens_init_88 ml_Tokens_40 mv_Str_charAt (t_Str_charAt n 0 18 p34.2 (114, p34.2) rfl) (okl rfl) rfl rfl rfl (okp rfl) (okp rfl) (okp rfl) (okp rfl) (okp rfl) ?_
  refine e_istore (l2 := [some (.ref x0), some (.int 2), some (.long p34.1), none, some (.int 2), some (.int 114)]) d_Tokens_init_91 rfl (okl rfl) rfl ?_
  refine e_iload d_Tokens_init_93 rfl ?_
  refine e_bipush (v := 32) d_Tokens_init_95 (by decide) ?_
  refine e_ic_ne 104 d_Tokens_init_97 (by decide) (fun _ => ?_) (fun c9 => absurd c9 (by decide))
  refine e_lload_n d_Tokens_init_104 rfl ?_
  refine e_iload d_Tokens_init_105 rfl ?_
  obtain ⟨p35, hp35, h⟩ := bnd h
  refine e_cSl (mt1 := m_Tokens_withLetter) (As := [.long p34.1, .int 114]) (st := []) d_Tokens_init_107 ml_Tokens_46 ms_Tokens_withLetter (t_Tokens_withLetter n p34.1 114 p34.2 p35 hp35) rfl rfl (okp rfl) (okp rfl) (okp rfl) (okp rfl) (okp rfl) ?_
  refine e_lstore_n (l2 := [some (.ref x0), some (.int 2), some (.long p35.1), none, some (.int 2), some (.int 114)]) d_Tokens_init_110 rfl (okl rfl) rfl ?_
  refine e_iinc (v := 3) (l2 := [some (.ref x0), some (.int 2), some (.long p35.1), none, some (.int 3), some (.int 114)]) d_Tokens_init_111 rfl (by decide) rfl (okl rfl) rfl ?_
  refine e_goto 72 d_Tokens_init_114 (by decide) ?_
  refine e_iload d_Tokens_init_72 rfl ?_
  refine e_bipush (v := 8) d_Tokens_init_74 (by decide) ?_
  refine e_ic_ge 117 d_Tokens_init_76 (by decide) (fun c9 => absurd c9 (by decide)) (fun _ => ?_)
  refine e_ldcW d_Tokens_init_79 rfl ?_
  refine e_bipush (v := 8) d_Tokens_init_81 (by decide) ?_
  refine e_iload_n d_Tokens_init_83 rfl ?_
  refine e_imul d_Tokens_init_84 ?_
  refine e_nameI (y := 16) (by decide) ?_
  refine e_iload d_Tokens_init_85 rfl ?_
  refine e_iadd d_Tokens_init_87 ?_
  refine e_nameI (y := 19) (by decide) ?_
  refine e_cVXi (mt1 := m_Str_charAt) (v := 110) (M1 := p35.2) (As := [.int 19]) (st := []) d_Tokens_init_88 ml_Tokens_40 mv_Str_charAt (t_Str_charAt n 0 19 p35.2 (110, p35.2) rfl) (okl rfl) rfl rfl rfl (okp rfl) (okp rfl) (okp rfl) (okp rfl) (okp rfl) ?_
  refine e_istore (l2 := [some (.ref x0), some (.int 2), some (.long p35.1), none, some (.int 3), some (.int 110)]) d_Tokens_init_91 rfl (okl rfl) rfl ?_
  refine e_iload d_Tokens_init_93 rfl ?_
  refine e_bipush (v := 32) d_Tokens_init_95 (by decide) ?_
  refine e_ic_ne 104 d_Tokens_init_97 (by decide) (fun _ => ?_) (fun c9 => absurd c9 (by decide))
  refine e_lload_n d_Tokens_init_104 rfl ?_
  refine e_iload d_Tokens_init_105 rfl ?_
  obtain ⟨p36, hp36, h⟩ := bnd h
  refine e_cSl (mt1 := m_Tokens_withLetter) (As := [.long p35.1, .int 110]) (st := []) d_Tokens_init_107 ml_Tokens_46 ms_Tokens_withLetter (t_Tokens_withLetter n p35.1 110 p35.2 p36 hp36) rfl rfl (okp rfl) (okp rfl) (okp rfl) (okp rfl) (okp rfl) ?_
  refine e_lstore_n (l2 := [some (.ref x0), some (.int 2), some (.long p36.1), none, some (.int 3), some (.int 110)]) d_Tokens_init_110 rfl (okl rfl) rfl ?_
  refine e_iinc (v := 4) (l2 := [some (.ref x0), some (.int 2), some (.long p36.1), none, some (.int 4), some (.int 110)]) d_Tokens_init_111 rfl (by decide) rfl (okl rfl) rfl ?_
  refine e_goto 72 d_Tokens_init_114 (by decide) ?_
  refine e_iload d_Tokens_init_72 rfl ?_
  refine e_bipush (v := 8) d_Tokens_init_74 (by decide) ?_
  refine e_ic_ge 117 d_Tokens_init_76 (by decide) (fun c9 => absurd c9 (by decide)) (fun _ => ?_)
  refine e_ldcW d_Tokens_init_79 rfl ?_
  refine e_bipush (v := 8) d_Tokens_init_81 (by decide) ?_
  refine e_iload_n d_Tokens_init_83 rfl ?_
  refine e_imul d_Tokens_init_84 ?_
  refine e_nameI (y := 16) (by decide) ?_
  refine e_iload d_Tokens_init_85 rfl ?_
  refine e_iadd d_Tokens_init_87 ?_
  refine e_nameI (y := 20) (by decide) ?_
  refine e_cVXi (mt1 := m_Str_charAt) (v := 32) (M1 := p36.2) (As := [.int 20]) (st := []) d_Tokens_init_88 ml_Tokens_40 mv_Str_charAt (t_Str_charAt n 0 20 p36.2 (32, p36.2) rfl) (okl rfl) rfl rfl rfl (okp rfl) (okp rfl) (okp rfl) (okp rfl) (okp rfl) ?_
  refine e_istore (l2 := [some (.ref x0), some (.int 2), some (.long p36.1), none, some (.int 4), some (.int 32)]) d_Tokens_init_91 rfl (okl rfl) rfl ?_
  refine e_iload d_Tokens_init_93 rfl ?_
  refine e_bipush (v := 32) d_Tokens_init_95 (by decide) ?_
  refine e_ic_ne 104 d_Tokens_init_97 (by decide) (fun c9 => absurd c9 (by decide)) (fun _ => ?_)
  refine e_lload_n d_Tokens_init_100 rfl ?_
  refine e_goto 110 d_Tokens_init_101 (by decide) ?_
  refine e_lstore_n (l2 := [some (.ref x0), some (.int 2), some (.long p36.1), none, some (.int 4), some (.int 32)]) d_Tokens_init_110 rfl (okl rfl) rfl ?_
  refine e_iinc (v := 5) (l2 := [some (.ref x0), some (.int 2), some (.long p36.1), none, some (.int 5), some (.int 32)]) d_Tokens_init_111 rfl (by decide) rfl (okl rfl) rfl ?_
  refine e_goto 72 d_Tokens_init_114 (by decide) ?_
  refine e_iload d_Tokens_init_72 rfl ?_
  refine e_bipush (v := 8) d_Tokens_init_74 (by decide) ?_
  refine e_ic_ge 117 d_Tokens_init_76 (by decide) (fun c9 => absurd c9 (by decide)) (fun _ => ?_)
  refine e_ldcW d_Tokens_init_79 rfl ?_
  refine e_bipush (v := 8) d_Tokens_init_81 (by decide) ?_
  refine e_iload_n d_Tokens_init_83 rfl ?_
  refine e_imul d_Tokens_init_84 ?_
  refine e_nameI (y := 16) (by decide) ?_
  refine e_iload d_Tokens_init_85 rfl ?_
  refine e_iadd d_Tokens_init_87 ?_
  refine e_nameI (y := 21) (by decide) ?_
  refine e_cVXi (mt1 := m_Str_charAt) (v := 32) (M1 := p36.2) (As := [.int 21]) (st := []) d_Tokens_init_88 ml_Tokens_40 mv_Str_charAt (t_Str_charAt n 0 21 p36.2 (32, p36.2) rfl) (okl rfl) rfl rfl rfl (okp rfl) (okp rfl) (okp rfl) (okp rfl) (okp rfl) ?_
  refine e_istore (l2 := [some (.ref x0), some (.int 2), some (.long p36.1), none, some (.int 5), some (.int 32)]) d_Tokens_init_91 rfl (okl rfl) rfl ?_
  refine e_iload d_Tokens_init_93 rfl ?_
  refine e_bipush (v := 32) d_Tokens_init_95 (by decide) ?_
  refine e_ic_ne 104 d_Tokens_init_97 (by decide) (fun c9 => absurd c9 (by decide)) (fun _ => ?_)
  refine e_lload_n d_Tokens_init_100 rfl ?_
  refine e_goto 110 d_Tokens_init_101 (by decide) ?_
  refine e_lstore_n (l2 := [some (.ref x0), some (.int 2), some (.long p36.1), none, some (.int 5), some (.int 32)]) d_Tokens_init_110 rfl (okl rfl) rfl ?_
  refine e_iinc (v := 6) (l2 := [some (.ref x0), some (.int 2), some (.long p36.1), none, some (.int 6), some (.int 32)]) d_Tokens_init_111 rfl (by decide) rfl (okl rfl) rfl ?_
  refine e_goto 72 d_Tokens_init_114 (by decide) ?_
  refine e_iload d_Tokens_init_72 rfl ?_
  refine e_bipush (v := 8) d_Tokens_init_74 (by decide) ?_
  refine e_ic_ge 117 d_Tokens_init_76 (by decide) (fun c9 => absurd c9 (by decide)) (fun _ => ?_)
  refine e_ldcW d_Tokens_init_79 rfl ?_
  refine e_bipush (v := 8) d_Tokens_init_81 (by decide) ?_
  refine e_iload_n d_Tokens_init_83 rfl ?_
  refine e_imul d_Tokens_init_84 ?_
  refine e_nameI (y := 16) (by decide) ?_
  refine e_iload d_Tokens_init_85 rfl ?_
  refine e_iadd d_Tokens_init_87 ?_
  refine e_nameI (y := 22) (by decide) ?_
  refine e_cVXi (mt1 := m_Str_charAt) (v := 32) (M1 := p36.2) (As := [.int 22]) (st := []) d_Tokens_init_88 ml_Tokens_40 mv_Str_charAt (t_Str_charAt n 0 22 p36.2 (32, p36.2) rfl) (okl rfl) rfl rfl rfl (okp rfl) (okp rfl) (okp rfl) (okp rfl) (okp rfl) ?_
  refine e_istore (l2 := [some (.ref x0), some (.int 2), some (.long p36.1), none, some (.int 6), some (.int 32)]) d_Tokens_init_91 rfl (okl rfl) rfl ?_
  refine e_iload d_Tokens_init_93 rfl ?_
  refine e_bipush (v := 32) d_Tokens_init_95 (by decide) ?_
  refine e_ic_ne 104 d_Tokens_init_97 (by decide) (fun c9 => absurd c9 (by decide)) (fun _ => ?_)
  refine e_lload_n d_Tokens_init_100 rfl ?_
  refine e_goto 110 d_Tokens_init_101 (by decide) ?_
  refine e_lstore_n (l2 := [some (.ref x0), some (.int 2), some (.long p36.1), none, some (.int 6), some (.int 32)]) d_Tokens_init_110 rfl (okl rfl) rfl ?_
  refine e_iinc (v := 7) (l2 := [some (.ref x0), some (.int 2), some (.long p36.1), none, some (.int 7), some (.int 32)]) d_Tokens_init_111 rfl (by decide) rfl (okl rfl) rfl ?_
  refine e_goto 72 d_Tokens_init_114 (by decide) ?_
  refine e_iload d_Tokens_init_72 rfl ?_
  refine e_bipush (v := 8) d_Tokens_init_74 (by decide) ?_
  refine e_ic_ge 117 d_Tokens_init_76 (by decide) (fun c9 => absurd c9 (by decide)) (fun _ => ?_)
  refine e_ldcW d_Tokens_init_79 rfl ?_
  refine e_bipush (v := 8) d_Tokens_init_81 (by decide) ?_
  refine e_iload_n d_Tokens_init_83 rfl ?_
  refine e_imul d_Tokens_init_84 ?_
  refine e_nameI (y := 16) (by decide) ?_
  refine e_iload d_Tokens_init_85 rfl ?_
  refine e_iadd d_Tokens_init_87 ?_
  refine e_nameI (y := 23) (by decide) ?_
  refine e_cVXi (mt1 := m_Str_charAt) (v := 32) (M1 := p36.2) (As := [.int 23]) (st := []) d_Tokens_init_88 ml_Tokens_40 mv_Str_charAt (t_Str_charAt n 0 23 p36.2 (32, p36.2) rfl) (okl rfl) rfl rfl rfl (okp rfl) (okp rfl) (okp rfl) (okp rfl) (okp rfl) ?_
  refine e_istore (l2 := [some (.ref x0), some (.int 2), some (.long p36.1), none, some (.int 7), some (.int 32)]) d_Tokens_init_91 rfl (okl rfl) rfl ?_
  refine e_iload d_Tokens_init_93 rfl ?_
  refine e_bipush (v := 32) d_Tokens_init_95 (by decide) ?_
  refine e_ic_ne 104 d_Tokens_init_97 (by decide) (fun c9 => absurd c9 (by decide)) (fun _ => ?_)
  refine e_lload_n d_Tokens_init_100 rfl ?_
  refine e_goto 110 d_Tokens_init_101 (by decide) ?_
  refine e_lstore_n (l2 := [some (.ref x0), some (.int 2), some (.long p36.1), none, some (.int 7), some (.int 32)]) d_Tokens_init_110 rfl (okl rfl) rfl ?_
  refine e_iinc (v := 8) (l2 := [some (.ref x0), some (.int 2), some (.long p36.1), none, some (.int 8), some (.int 32)]) d_Tokens_init_111 rfl (by decide) rfl (okl rfl) rfl ?_
  refine e_goto 72 d_Tokens_init_114 (by decide) ?_
  refine e_iload d_Tokens_init_72 rfl ?_
  refine e_bipush (v := 8) d_Tokens_init_74 (by decide) ?_
  refine e_ic_ge 117 d_Tokens_init_76 (by decide) (fun _ => ?_) (fun c9 => absurd c9 (by decide))
  refine e_aload_n d_Tokens_init_117 rfl ?_
  obtain ⟨v37, hv37, h⟩ := bnd h
  refine e_getR d_Tokens_init_118 fl_Tokens_35 (fun _ _ _ => rfl) hv37 ?_
  refine e_iload_n d_Tokens_init_121 rfl ?_
  refine e_lload_n d_Tokens_init_122 rfl ?_
  obtain ⟨M38, hM38, h⟩ := bnd h
  refine e_last d_Tokens_init_123 hM38 ?_
  refine e_iinc (v := 3) (l2 := [some (.ref x0), some (.int 3), some (.long p36.1), none, some (.int 8), some (.int 32)]) d_Tokens_init_124 rfl (by decide) rfl (okl rfl) rfl ?_
  refine e_goto 61 d_Tokens_init_127 (by decide) ?_
  refine e_iload_n d_Tokens_init_61 rfl ?_
  refine e_bipush (v := 10) d_Tokens_init_62 (by decide) ?_
  refine e_ic_ge 130 d_Tokens_init_64 (by decide) (fun c9 => absurd c9 (by decide)) (fun _ => ?_)
  refine e_lconst (v := 0) d_Tokens_init_67 (by decide) ?_
  refine e_lstore_n (l2 := [some (.ref x0), some (.int 3), some (.long 0), none, some (.int 8), some (.int 32)]) d_Tokens_init_68 rfl (okl rfl) rfl ?_
  refine e_iconst (v := 0) d_Tokens_init_69 (by decide) ?_
  refine e_istore (l2 := [some (.ref x0), some (.int 3), some (.long 0), none, some (.int 0), some (.int 32)]) d_Tokens_init_70 rfl (okl rfl) rfl ?_
  refine e_iload d_Tokens_init_72 rfl ?_
  refine e_bipush (v := 8) d_Tokens_init_74 (by decide) ?_
  refine e_ic_ge 117 d_Tokens_init_76 (by decide) (fun c9 => absurd c9 (by decide)) (fun _ => ?_)
  refine e_ldcW d_Tokens_init_79 rfl ?_
  refine e_bipush (v := 8) d_Tokens_init_81 (by decide) ?_
  refine e_iload_n d_Tokens_init_83 rfl ?_
  refine e_imul d_Tokens_init_84 ?_
  refine e_nameI (y := 24) (by decide) ?_
  refine e_iload d_Tokens_init_85 rfl ?_
  refine e_iadd d_Tokens_init_87 ?_
  refine e_nameI (y := 24) (by decide) ?_
  refine e_cVXi (mt1 := m_Str_charAt) (v := 102) (M1 := M38) (As := [.int 24]) (st := []) d_Tokens_init_88 ml_Tokens_40 mv_Str_charAt (t_Str_charAt n 0 24 M38 (102, M38) rfl) (okl rfl) rfl rfl rfl (okp rfl) (okp rfl) (okp rfl) (okp rfl) (okp rfl) ?_
  refine e_istore (l2 := [some (.ref x0), some (.int 3), some (.long 0), none, some (.int 0), some (.int 102)]) d_Tokens_init_91 rfl (okl rfl) rfl ?_
  refine e_iload d_Tokens_init_93 rfl ?_
  refine e_bipush (v := 32) d_Tokens_init_95 (by decide) ?_
  refine e_ic_ne 104 d_Tokens_init_97 (by decide) (fun _ => ?_) (fun c9 => absurd c9 (by decide))
  refine e_lload_n d_Tokens_init_104 rfl ?_
  refine e_iload d_Tokens_init_105 rfl ?_
  obtain ⟨p39, hp39, h⟩ := bnd h
  refine e_cSl (mt1 := m_Tokens_withLetter) (As := [.long 0, .int 102]) (st := []) d_Tokens_init_107 ml_Tokens_46 ms_Tokens_withLetter (t_Tokens_withLetter n 0 102 M38 p39 hp39) rfl rfl (okp rfl) (okp rfl) (okp rfl) (okp rfl) (okp rfl) ?_
  refine e_lstore_n (l2 := [some (.ref x0), some (.int 3), some (.long p39.1), none, some (.int 0), some (.int 102)]) d_Tokens_init_110 rfl (okl rfl) rfl ?_
  refine e_iinc (v := 1) (l2 := [some (.ref x0), some (.int 3), some (.long p39.1), none, some (.int 1), some (.int 102)]) d_Tokens_init_111 rfl (by decide) rfl (okl rfl) rfl ?_
  refine e_goto 72 d_Tokens_init_114 (by decide) ?_
  refine e_iload d_Tokens_init_72 rfl ?_
  refine e_bipush (v := 8) d_Tokens_init_74 (by decide) ?_
  refine e_ic_ge 117 d_Tokens_init_76 (by decide) (fun c9 => absurd c9 (by decide)) (fun _ => ?_)
  refine e_ldcW d_Tokens_init_79 rfl ?_
  refine e_bipush (v := 8) d_Tokens_init_81 (by decide) ?_
  refine e_iload_n d_Tokens_init_83 rfl ?_
  refine e_imul d_Tokens_init_84 ?_
  refine e_nameI (y := 24) (by decide) ?_
  refine e_iload d_Tokens_init_85 rfl ?_
  refine e_iadd d_Tokens_init_87 ?_
  refine e_nameI (y := 25) (by decide) ?_
  refine e_cVXi (mt1 := m_Str_charAt) (v := 108) (M1 := p39.2) (As := [.int 25]) (st := []) d_Tokens_init_88 ml_Tokens_40 mv_Str_charAt (t_Str_charAt n 0 25 p39.2 (108, p39.2) rfl) (okl rfl) rfl rfl rfl (okp rfl) (okp rfl) (okp rfl) (okp rfl) (okp rfl) ?_
  refine e_istore (l2 := [some (.ref x0), some (.int 3), some (.long p39.1), none, some (.int 1), some (.int 108)]) d_Tokens_init_91 rfl (okl rfl) rfl ?_
  refine e_iload d_Tokens_init_93 rfl ?_
  refine e_bipush (v := 32) d_Tokens_init_95 (by decide) ?_
  refine e_ic_ne 104 d_Tokens_init_97 (by decide) (fun _ => ?_) (fun c9 => absurd c9 (by decide))
  refine e_lload_n d_Tokens_init_104 rfl ?_
  refine e_iload d_Tokens_init_105 rfl ?_
  obtain ⟨p40, hp40, h⟩ := bnd h
  refine e_cSl (mt1 := m_Tokens_withLetter) (As := [.long p39.1, .int 108]) (st := []) d_Tokens_init_107 ml_Tokens_46 ms_Tokens_withLetter (t_Tokens_withLetter n p39.1 108 p39.2 p40 hp40) rfl rfl (okp rfl) (okp rfl) (okp rfl) (okp rfl) (okp rfl) ?_
  refine e_lstore_n (l2 := [some (.ref x0), some (.int 3), some (.long p40.1), none, some (.int 1), some (.int 108)]) d_Tokens_init_110 rfl (okl rfl) rfl ?_
  refine e_iinc (v := 2) (l2 := [some (.ref x0), some (.int 3), some (.long p40.1), none, some (.int 2), some (.int 108)]) d_Tokens_init_111 rfl (by decide) rfl (okl rfl) rfl ?_
  refine e_goto 72 d_Tokens_init_114 (by decide) ?_
  refine e_iload d_Tokens_init_72 rfl ?_
  refine e_bipush (v := 8) d_Tokens_init_74 (by decide) ?_
  refine e_ic_ge 117 d_Tokens_init_76 (by decide) (fun c9 => absurd c9 (by decide)) (fun _ => ?_)
  refine e_ldcW d_Tokens_init_79 rfl ?_
  refine e_bipush (v := 8) d_Tokens_init_81 (by decide) ?_
  refine e_iload_n d_Tokens_init_83 rfl ?_
  refine e_imul d_Tokens_init_84 ?_
  refine e_nameI (y := 24) (by decide) ?_
  refine e_iload d_Tokens_init_85 rfl ?_
  refine e_iadd d_Tokens_init_87 ?_
  refine e_nameI (y := 26) (by decide) ?_
  refine e_cVXi (mt1 := m_Str_charAt) (v := 105) (M1 := p40.2) (As := [.int 26]) (st := []) d_Tokens_init_88 ml_Tokens_40 mv_Str_charAt (t_Str_charAt n 0 26 p40.2 (105, p40.2) rfl) (okl rfl) rfl rfl rfl (okp rfl) (okp rfl) (okp rfl) (okp rfl) (okp rfl) ?_
  refine e_istore (l2 := [some (.ref x0), some (.int 3), some (.long p40.1), none, some (.int 2), some (.int 105)]) d_Tokens_init_91 rfl (okl rfl) rfl ?_
  refine e_iload d_Tokens_init_93 rfl ?_
  refine e_bipush (v := 32) d_Tokens_init_95 (by decide) ?_
  refine e_ic_ne 104 d_Tokens_init_97 (by decide) (fun _ => ?_) (fun c9 => absurd c9 (by decide))
  refine e_lload_n d_Tokens_init_104 rfl ?_
  refine e_iload d_Tokens_init_105 rfl ?_
  obtain ⟨p41, hp41, h⟩ := bnd h
  refine e_cSl (mt1 := m_Tokens_withLetter) (As := [.long p40.1, .int 105]) (st := []) d_Tokens_init_107 ml_Tokens_46 ms_Tokens_withLetter (t_Tokens_withLetter n p40.1 105 p40.2 p41 hp41) rfl rfl (okp rfl) (okp rfl) (okp rfl) (okp rfl) (okp rfl) ?_
  refine e_lstore_n (l2 := [some (.ref x0), some (.int 3), some (.long p41.1), none, some (.int 2), some (.int 105)]) d_Tokens_init_110 rfl (okl rfl) rfl ?_
  refine e_iinc (v := 3) (l2 := [some (.ref x0), some (.int 3), some (.long p41.1), none, some (.int 3), some (.int 105)]) d_Tokens_init_111 rfl (by decide) rfl (okl rfl) rfl ?_
  refine e_goto 72 d_Tokens_init_114 (by decide) ?_
  refine e_iload d_Tokens_init_72 rfl ?_
  refine e_bipush (v := 8) d_Tokens_init_74 (by decide) ?_
  refine e_ic_ge 117 d_Tokens_init_76 (by decide) (fun c9 => absurd c9 (by decide)) (fun _ => ?_)
  refine e_ldcW d_Tokens_init_79 rfl ?_
  refine e_bipush (v := 8) d_Tokens_init_81 (by decide) ?_
  refine e_iload_n d_Tokens_init_83 rfl ?_
  refine e_imul d_Tokens_init_84 ?_
  refine e_nameI (y := 24) (by decide) ?_
  refine e_iload d_Tokens_init_85 rfl ?_
  refine e_iadd d_Tokens_init_87 ?_
  refine e_nameI (y := 27) (by decide) ?_
  refine e_cVXi (mt1 := m_Str_charAt) (v := 112) (M1 := p41.2) (As := [.int 27]) (st := []) d_Tokens_init_88 ml_Tokens_40 mv_Str_charAt (t_Str_charAt n 0 27 p41.2 (112, p41.2) rfl) (okl rfl) rfl rfl rfl (okp rfl) (okp rfl) (okp rfl) (okp rfl) (okp rfl) ?_
  refine e_istore (l2 := [some (.ref x0), some (.int 3), some (.long p41.1), none, some (.int 3), some (.int 112)]) d_Tokens_init_91 rfl (okl rfl) rfl ?_
  refine e_iload d_Tokens_init_93 rfl ?_
  refine e_bipush (v := 32) d_Tokens_init_95 (by decide) ?_
  refine e_ic_ne 104 d_Tokens_init_97 (by decide) (fun _ => ?_) (fun c9 => absurd c9 (by decide))
  refine e_lload_n d_Tokens_init_104 rfl ?_
  refine e_iload d_Tokens_init_105 rfl ?_
  obtain ⟨p42, hp42, h⟩ := bnd h
  refine e_cSl (mt1 := m_Tokens_withLetter) (As := [.long p41.1, .int 112]) (st := []) d_Tokens_init_107 ml_Tokens_46 ms_Tokens_withLetter (t_Tokens_withLetter n p41.1 112 p41.2 p42 hp42) rfl rfl (okp rfl) (okp rfl) (okp rfl) (okp rfl) (okp rfl) ?_
  refine e_lstore_n (l2 := [some (.ref x0), some (.int 3), some (.long p42.1), none, some (.int 3), some (.int 112)]) d_Tokens_init_110 rfl (okl rfl) rfl ?_
  refine e_iinc (v := 4) (l2 := [some (.ref x0), some (.int 3), some (.long p42.1), none, some (.int 4), some (.int 112)]) d_Tokens_init_111 rfl (by decide) rfl (okl rfl) rfl ?_
  refine e_goto 72 d_Tokens_init_114 (by decide) ?_
  refine e_iload d_Tokens_init_72 rfl ?_
  refine e_bipush (v := 8) d_Tokens_init_74 (by decide) ?_
  refine e_ic_ge 117 d_Tokens_init_76 (by decide) (fun c9 => absurd c9 (by decide)) (fun _ => ?_)
  refine e_ldcW d_Tokens_init_79 rfl ?_
  refine e_bipush (v := 8) d_Tokens_init_81 (by decide) ?_
  refine e_iload_n d_Tokens_init_83 rfl ?_
  refine e_imul d_Tokens_init_84 ?_
  refine e_nameI (y := 24) (by decide) ?_
  refine e_iload d_Tokens_init_85 rfl ?_
  refine e_iadd d_Tokens_init_87 ?_
  refine e_nameI (y := 28) (by decide) ?_
  refine e_cVXi (mt1 := m_Str_charAt) (v := 32) (M1 := p42.2) (As := [.int 28]) (st := []) d_Tokens_init_88 ml_Tokens_40 mv_Str_charAt (t_Str_charAt n 0 28 p42.2 (32, p42.2) rfl) (okl rfl) rfl rfl rfl (okp rfl) (okp rfl) (okp rfl) (okp rfl) (okp rfl) ?_
  refine e_istore (l2 := [some (.ref x0), some (.int 3), some (.long p42.1), none, some (.int 4), some (.int 32)]) d_Tokens_init_91 rfl (okl rfl) rfl ?_
  refine e_iload d_Tokens_init_93 rfl ?_
  refine e_bipush (v := 32) d_Tokens_init_95 (by decide) ?_
  refine e_ic_ne 104 d_Tokens_init_97 (by decide) (fun c9 => absurd c9 (by decide)) (fun _ => ?_)
  refine e_lload_n d_Tokens_init_100 rfl ?_
  refine e_goto 110 d_Tokens_init_101 (by decide) ?_
  refine e_lstore_n (l2 := [some (.ref x0), some (.int 3), some (.long p42.1), none, some (.int 4), some (.int 32)]) d_Tokens_init_110 rfl (okl rfl) rfl ?_
  refine e_iinc (v := 5) (l2 := [some (.ref x0), some (.int 3), some (.long p42.1), none, some (.int 5), some (.int 32)]) d_Tokens_init_111 rfl (by decide) rfl (okl rfl) rfl ?_
  refine e_goto 72 d_Tokens_init_114 (by decide) ?_
  refine e_iload d_Tokens_init_72 rfl ?_
  refine e_bipush (v := 8) d_Tokens_init_74 (by decide) ?_
  refine e_ic_ge 117 d_Tokens_init_76 (by decide) (fun c9 => absurd c9 (by decide)) (fun _ => ?_)
  refine e_ldcW d_Tokens_init_79 rfl ?_
  refine e_bipush (v := 8) d_Tokens_init_81 (by decide) ?_
  refine e_iload_n d_Tokens_init_83 rfl ?_
  refine e_imul d_Tokens_init_84 ?_
  refine e_nameI (y := 24) (by decide) ?_
  refine e_iload d_Tokens_init_85 rfl ?_
  refine e_iadd d_Tokens_init_87 ?_
  refine e_nameI (y := 29) (by decide) ?_
  refine e_cVXi (mt1 := m_Str_charAt) (v := 32) (M1 := p42.2) (As := [.int 29]) (st := []) d_Tokens_init_88 ml_Tokens_40 mv_Str_charAt (t_Str_charAt n 0 29 p42.2 (32, p42.2) rfl) (okl rfl) rfl rfl rfl (okp rfl) (okp rfl) (okp rfl) (okp rfl) (okp rfl) ?_
  refine e_istore (l2 := [some (.ref x0), some (.int 3), some (.long p42.1), none, some (.int 5), some (.int 32)]) d_Tokens_init_91 rfl (okl rfl) rfl ?_
  refine e_iload d_Tokens_init_93 rfl ?_
  refine e_bipush (v := 32) d_Tokens_init_95 (by decide) ?_
  refine e_ic_ne 104 d_Tokens_init_97 (by decide) (fun c9 => absurd c9 (by decide)) (fun _ => ?_)
  refine e_lload_n d_Tokens_init_100 rfl ?_
  refine e_goto 110 d_Tokens_init_101 (by decide) ?_
  refine e_lstore_n (l2 := [some (.ref x0), some (.int 3), some (.long p42.1), none, some (.int 5), some (.int 32)]) d_Tokens_init_110 rfl (okl rfl) rfl ?_
  refine e_iinc (v := 6) (l2 := [some (.ref x0), some (.int 3), some (.long p42.1), none, some (.int 6), some (.int 32)]) d_Tokens_init_111 rfl (by decide) rfl (okl rfl) rfl ?_
  refine e_goto 72 d_Tokens_init_114 (by decide) ?_
  refine e_iload d_Tokens_init_72 rfl ?_
  refine e_bipush (v := 8) d_Tokens_init_74 (by decide) ?_
  refine e_ic_ge 117 d_Tokens_init_76 (by decide) (fun c9 => absurd c9 (by decide)) (fun _ => ?_)
  refine e_ldcW d_Tokens_init_79 rfl ?_
  refine e_bipush (v := 8) d_Tokens_init_81 (by decide) ?_
  refine e_iload_n d_Tokens_init_83 rfl ?_
  refine e_imul d_Tokens_init_84 ?_
  refine e_nameI (y := 24) (by decide) ?_
  refine e_iload d_Tokens_init_85 rfl ?_
  refine e_iadd d_Tokens_init_87 ?_
  refine e_nameI (y := 30) (by decide) ?_
  refine e_cVXi (mt1 := m_Str_charAt) (v := 32) (M1 := p42.2) (As := [.int 30]) (st := []) d_Tokens_init_88 ml_Tokens_40 mv_Str_charAt (t_Str_charAt n 0 30 p42.2 (32, p42.2) rfl) (okl rfl) rfl rfl rfl (okp rfl) (okp rfl) (okp rfl) (okp rfl) (okp rfl) ?_
  refine e_istore (l2 := [some (.ref x0), some (.int 3), some (.long p42.1), none, some (.int 6), some (.int 32)]) d_Tokens_init_91 rfl (okl rfl) rfl ?_
  refine e_iload d_Tokens_init_93 rfl ?_
  refine e_bipush (v := 32) d_Tokens_init_95 (by decide) ?_
  refine e_ic_ne 104 d_Tokens_init_97 (by decide) (fun c9 => absurd c9 (by decide)) (fun _ => ?_)
  refine e_lload_n d_Tokens_init_100 rfl ?_
  refine e_goto 110 d_Tokens_init_101 (by decide) ?_
  refine e_lstore_n (l2 := [some (.ref x0), some (.int 3), some (.long p42.1), none, some (.int 6), some (.int 32)]) d_Tokens_init_110 rfl (okl rfl) rfl ?_
  refine e_iinc (v := 7) (l2 := [some (.ref x0), some (.int 3), some (.long p42.1), none, some (.int 7), some (.int 32)]) d_Tokens_init_111 rfl (by decide) rfl (okl rfl) rfl ?_
  refine e_goto 72 d_Tokens_init_114 (by decide) ?_
  refine e_iload d_Tokens_init_72 rfl ?_
  refine e_bipush (v := 8) d_Tokens_init_74 (by decide) ?_
  refine e_ic_ge 117 d_Tokens_init_76 (by decide) (fun c9 => absurd c9 (by decide)) (fun _ => ?_)
  refine e_ldcW d_Tokens_init_79 rfl ?_
  refine e_bipush (v := 8) d_Tokens_init_81 (by decide) ?_
  refine e_iload_n d_Tokens_init_83 rfl ?_
  refine e_imul d_Tokens_init_84 ?_
  refine e_nameI (y := 24) (by decide) ?_
  refine e_iload d_Tokens_init_85 rfl ?_
  refine e_iadd d_Tokens_init_87 ?_
  refine e_nameI (y := 31) (by decide) ?_
  refine e_cVXi (mt1 := m_Str_charAt) (v := 32) (M1 := p42.2) (As := [.int 31]) (st := []) d_Tokens_init_88 ml_Tokens_40 mv_Str_charAt (t_Str_charAt n 0 31 p42.2 (32, p42.2) rfl) (okl rfl) rfl rfl rfl (okp rfl) (okp rfl) (okp rfl) (okp rfl) (okp rfl) ?_
  refine e_istore (l2 := [some (.ref x0), some (.int 3), some (.long p42.1), none, some (.int 7), some (.int 32)]) d_Tokens_init_91 rfl (okl rfl) rfl ?_
  refine e_iload d_Tokens_init_93 rfl ?_
  refine e_bipush (v := 32) d_Tokens_init_95 (by decide) ?_
  refine e_ic_ne 104 d_Tokens_init_97 (by decide) (fun c9 => absurd c9 (by decide)) (fun _ => ?_)
  refine e_lload_n d_Tokens_init_100 rfl ?_
  refine e_goto 110 d_Tokens_init_101 (by decide) ?_
  refine e_lstore_n (l2 := [some (.ref x0), some (.int 3), some (.long p42.1), none, some (.int 7), some (.int 32)]) d_Tokens_init_110 rfl (okl rfl) rfl ?_
  refine e_iinc (v := 8) (l2 := [some (.ref x0), some (.int 3), some (.long p42.1), none, some (.int 8), some (.int 32)]) d_Tokens_init_111 rfl (by decide) rfl (okl rfl) rfl ?_
  refine e_goto 72 d_Tokens_init_114 (by decide) ?_
  refine e_iload d_Tokens_init_72 rfl ?_
  refine e_bipush (v := 8) d_Tokens_init_74 (by decide) ?_
  refine e_ic_ge 117 d_Tokens_init_76 (by decide) (fun _ => ?_) (fun c9 => absurd c9 (by decide))
  refine e_aload_n d_Tokens_init_117 rfl ?_
  obtain ⟨v43, hv43, h⟩ := bnd h
  refine e_getR d_Tokens_init_118 fl_Tokens_35 (fun _ _ _ => rfl) hv43 ?_
  refine e_iload_n d_Tokens_init_121 rfl ?_
  refine e_lload_n d_Tokens_init_122 rfl ?_
  obtain ⟨M44, hM44, h⟩ := bnd h
  refine e_last d_Tokens_init_123 hM44 ?_
  refine e_iinc (v := 4) (l2 := [some (.ref x0), some (.int 4), some (.long p42.1), none, some (.int 8), some (.int 32)]) d_Tokens_init_124 rfl (by decide) rfl (okl rfl) rfl ?_
  refine e_goto 61 d_Tokens_init_127 (by decide) ?_
  refine e_iload_n d_Tokens_init_61 rfl ?_
  refine e_bipush (v := 10) d_Tokens_init_62 (by decide) ?_
  refine e_ic_ge 130 d_Tokens_init_64 (by decide) (fun c9 => absurd c9 (by decide)) (fun _ => ?_)
  refine e_lconst (v := 0) d_Tokens_init_67 (by decide) ?_
  refine e_lstore_n (l2 := [some (.ref x0), some (.int 4), some (.long 0), none, some (.int 8), some (.int 32)]) d_Tokens_init_68 rfl (okl rfl) rfl ?_
  refine e_iconst (v := 0) d_Tokens_init_69 (by decide) ?_
  refine e_istore (l2 := [some (.ref x0), some (.int 4), some (.long 0), none, some (.int 0), some (.int 32)]) d_Tokens_init_70 rfl (okl rfl) rfl ?_
  refine e_iload d_Tokens_init_72 rfl ?_
  refine e_bipush (v := 8) d_Tokens_init_74 (by decide) ?_
  refine e_ic_ge 117 d_Tokens_init_76 (by decide) (fun c9 => absurd c9 (by decide)) (fun _ => ?_)
  refine e_ldcW d_Tokens_init_79 rfl ?_
  refine e_bipush (v := 8) d_Tokens_init_81 (by decide) ?_
  refine e_iload_n d_Tokens_init_83 rfl ?_
  refine e_imul d_Tokens_init_84 ?_
  refine e_nameI (y := 32) (by decide) ?_
  refine e_iload d_Tokens_init_85 rfl ?_
  refine e_iadd d_Tokens_init_87 ?_
  refine e_nameI (y := 32) (by decide) ?_
  refine e_cVXi (mt1 := m_Str_charAt) (v := 98) (M1 := M44) (As := [.int 32]) (st := []) d_Tokens_init_88 ml_Tokens_40 mv_Str_charAt (t_Str_charAt n 0 32 M44 (98, M44) rfl) (okl rfl) rfl rfl rfl (okp rfl) (okp rfl) (okp rfl) (okp rfl) (okp rfl) ?_
  refine e_istore (l2 := [some (.ref x0), some (.int 4), some (.long 0), none, some (.int 0), some (.int 98)]) d_Tokens_init_91 rfl (okl rfl) rfl ?_
  refine e_iload d_Tokens_init_93 rfl ?_
  refine e_bipush (v := 32) d_Tokens_init_95 (by decide) ?_
  refine e_ic_ne 104 d_Tokens_init_97 (by decide) (fun _ => ?_) (fun c9 => absurd c9 (by decide))
  refine e_lload_n d_Tokens_init_104 rfl ?_
  refine e_iload d_Tokens_init_105 rfl ?_
  obtain ⟨p45, hp45, h⟩ := bnd h
  refine e_cSl (mt1 := m_Tokens_withLetter) (As := [.long 0, .int 98]) (st := []) d_Tokens_init_107 ml_Tokens_46 ms_Tokens_withLetter (t_Tokens_withLetter n 0 98 M44 p45 hp45) rfl rfl (okp rfl) (okp rfl) (okp rfl) (okp rfl) (okp rfl) ?_
  refine e_lstore_n (l2 := [some (.ref x0), some (.int 4), some (.long p45.1), none, some (.int 0), some (.int 98)]) d_Tokens_init_110 rfl (okl rfl) rfl ?_
  refine e_iinc (v := 1) (l2 := [some (.ref x0), some (.int 4), some (.long p45.1), none, some (.int 1), some (.int 98)]) d_Tokens_init_111 rfl (by decide) rfl (okl rfl) rfl ?_
  refine e_goto 72 d_Tokens_init_114 (by decide) ?_
  refine e_iload d_Tokens_init_72 rfl ?_
  refine e_bipush (v := 8) d_Tokens_init_74 (by decide) ?_
  refine e_ic_ge 117 d_Tokens_init_76 (by decide) (fun c9 => absurd c9 (by decide)) (fun _ => ?_)
  refine e_ldcW d_Tokens_init_79 rfl ?_
  refine e_bipush (v := 8) d_Tokens_init_81 (by decide) ?_
  refine e_iload_n d_Tokens_init_83 rfl ?_
  refine e_imul d_Tokens_init_84 ?_
  refine e_nameI (y := 32) (by decide) ?_
  refine e_iload d_Tokens_init_85 rfl ?_
  refine e_iadd d_Tokens_init_87 ?_
  refine e_nameI (y := 33) (by decide) ?_
  refine e_cVXi (mt1 := m_Str_charAt) (v := 97) (M1 := p45.2) (As := [.int 33]) (st := []) d_Tokens_init_88 ml_Tokens_40 mv_Str_charAt (t_Str_charAt n 0 33 p45.2 (97, p45.2) rfl) (okl rfl) rfl rfl rfl (okp rfl) (okp rfl) (okp rfl) (okp rfl) (okp rfl) ?_
  refine e_istore (l2 := [some (.ref x0), some (.int 4), some (.long p45.1), none, some (.int 1), some (.int 97)]) d_Tokens_init_91 rfl (okl rfl) rfl ?_
  refine e_iload d_Tokens_init_93 rfl ?_
  refine e_bipush (v := 32) d_Tokens_init_95 (by decide) ?_
  refine e_ic_ne 104 d_Tokens_init_97 (by decide) (fun _ => ?_) (fun c9 => absurd c9 (by decide))
  refine e_lload_n d_Tokens_init_104 rfl ?_
  refine e_iload d_Tokens_init_105 rfl ?_
  obtain ⟨p46, hp46, h⟩ := bnd h
  refine e_cSl (mt1 := m_Tokens_withLetter) (As := [.long p45.1, .int 97]) (st := []) d_Tokens_init_107 ml_Tokens_46 ms_Tokens_withLetter (t_Tokens_withLetter n p45.1 97 p45.2 p46 hp46) rfl rfl (okp rfl) (okp rfl) (okp rfl) (okp rfl) (okp rfl) ?_
  refine e_lstore_n (l2 := [some (.ref x0), some (.int 4), some (.long p46.1), none, some (.int 1), some (.int 97)]) d_Tokens_init_110 rfl (okl rfl) rfl ?_
  refine e_iinc (v := 2) (l2 := [some (.ref x0), some (.int 4), some (.long p46.1), none, some (.int 2), some (.int 97)]) d_Tokens_init_111 rfl (by decide) rfl (okl rfl) rfl ?_
  refine e_goto 72 d_Tokens_init_114 (by decide) ?_
  refine e_iload d_Tokens_init_72 rfl ?_
  refine e_bipush (v := 8) d_Tokens_init_74 (by decide) ?_
  refine e_ic_ge 117 d_Tokens_init_76 (by decide) (fun c9 => absurd c9 (by decide)) (fun _ => ?_)
  refine e_ldcW d_Tokens_init_79 rfl ?_
  refine e_bipush (v := 8) d_Tokens_init_81 (by decide) ?_
  refine e_iload_n d_Tokens_init_83 rfl ?_
  refine e_imul d_Tokens_init_84 ?_
  refine e_nameI (y := 32) (by decide) ?_
  refine e_iload d_Tokens_init_85 rfl ?_
  refine e_iadd d_Tokens_init_87 ?_
  refine e_nameI (y := 34) (by decide) ?_
  refine e_cVXi (mt1 := m_Str_charAt) (v := 115) (M1 := p46.2) (As := [.int 34]) (st := []) d_Tokens_init_88 ml_Tokens_40 mv_Str_charAt (t_Str_charAt n 0 34 p46.2 (115, p46.2) rfl) (okl rfl) rfl rfl rfl (okp rfl) (okp rfl) (okp rfl) (okp rfl) (okp rfl) ?_
  refine e_istore (l2 := [some (.ref x0), some (.int 4), some (.long p46.1), none, some (.int 2), some (.int 115)]) d_Tokens_init_91 rfl (okl rfl) rfl ?_
  refine e_iload d_Tokens_init_93 rfl ?_
  refine e_bipush (v := 32) d_Tokens_init_95 (by decide) ?_
  refine e_ic_ne 104 d_Tokens_init_97 (by decide) (fun _ => ?_) (fun c9 => absurd c9 (by decide))
  refine e_lload_n d_Tokens_init_104 rfl ?_
  refine e_iload d_Tokens_init_105 rfl ?_
  obtain ⟨p47, hp47, h⟩ := bnd h
  refine e_cSl (mt1 := m_Tokens_withLetter) (As := [.long p46.1, .int 115]) (st := []) d_Tokens_init_107 ml_Tokens_46 ms_Tokens_withLetter (t_Tokens_withLetter n p46.1 115 p46.2 p47 hp47) rfl rfl (okp rfl) (okp rfl) (okp rfl) (okp rfl) (okp rfl) ?_
  refine e_lstore_n (l2 := [some (.ref x0), some (.int 4), some (.long p47.1), none, some (.int 2), some (.int 115)]) d_Tokens_init_110 rfl (okl rfl) rfl ?_
  refine e_iinc (v := 3) (l2 := [some (.ref x0), some (.int 4), some (.long p47.1), none, some (.int 3), some (.int 115)]) d_Tokens_init_111 rfl (by decide) rfl (okl rfl) rfl ?_
  refine e_goto 72 d_Tokens_init_114 (by decide) ?_
  refine e_iload d_Tokens_init_72 rfl ?_
  refine e_bipush (v := 8) d_Tokens_init_74 (by decide) ?_
  refine e_ic_ge 117 d_Tokens_init_76 (by decide) (fun c9 => absurd c9 (by decide)) (fun _ => ?_)
  refine e_ldcW d_Tokens_init_79 rfl ?_
  refine e_bipush (v := 8) d_Tokens_init_81 (by decide) ?_
  refine e_iload_n d_Tokens_init_83 rfl ?_
  refine e_imul d_Tokens_init_84 ?_
  refine e_nameI (y := 32) (by decide) ?_
  refine e_iload d_Tokens_init_85 rfl ?_
  refine e_iadd d_Tokens_init_87 ?_
  refine e_nameI (y := 35) (by decide) ?_
  refine e_cVXi (mt1 := m_Str_charAt) (v := 101) (M1 := p47.2) (As := [.int 35]) (st := []) d_Tokens_init_88 ml_Tokens_40 mv_Str_charAt (t_Str_charAt n 0 35 p47.2 (101, p47.2) rfl) (okl rfl) rfl rfl rfl (okp rfl) (okp rfl) (okp rfl) (okp rfl) (okp rfl) ?_
  refine e_istore (l2 := [some (.ref x0), some (.int 4), some (.long p47.1), none, some (.int 3), some (.int 101)]) d_Tokens_init_91 rfl (okl rfl) rfl ?_
  refine e_iload d_Tokens_init_93 rfl ?_
  refine e_bipush (v := 32) d_Tokens_init_95 (by decide) ?_
  refine e_ic_ne 104 d_Tokens_init_97 (by decide) (fun _ => ?_) (fun c9 => absurd c9 (by decide))
  refine e_lload_n d_Tokens_init_104 rfl ?_
  refine e_iload d_Tokens_init_105 rfl ?_
  obtain ⟨p48, hp48, h⟩ := bnd h
  refine e_cSl (mt1 := m_Tokens_withLetter) (As := [.long p47.1, .int 101]) (st := []) d_Tokens_init_107 ml_Tokens_46 ms_Tokens_withLetter (t_Tokens_withLetter n p47.1 101 p47.2 p48 hp48) rfl rfl (okp rfl) (okp rfl) (okp rfl) (okp rfl) (okp rfl) ?_
  refine e_lstore_n (l2 := [some (.ref x0), some (.int 4), some (.long p48.1), none, some (.int 3), some (.int 101)]) d_Tokens_init_110 rfl (okl rfl) rfl ?_
  refine e_iinc (v := 4) (l2 := [some (.ref x0), some (.int 4), some (.long p48.1), none, some (.int 4), some (.int 101)]) d_Tokens_init_111 rfl (by decide) rfl (okl rfl) rfl ?_
  refine e_goto 72 d_Tokens_init_114 (by decide) ?_
  refine e_iload d_Tokens_init_72 rfl ?_
  refine e_bipush (v := 8) d_Tokens_init_74 (by decide) ?_
  refine e_ic_ge 117 d_Tokens_init_76 (by decide) (fun c9 => absurd c9 (by decide)) (fun _ => ?_)
  refine e_ldcW d_Tokens_init_79 rfl ?_
  refine e_bipush (v := 8) d_Tokens_init_81 (by decide) ?_
  refine e_iload_n d_Tokens_init_83 rfl ?_
  refine e_imul d_Tokens_init_84 ?_
  refine e_nameI (y := 32) (by decide) ?_
  refine e_iload d_Tokens_init_85 rfl ?_
  refine e_iadd d_Tokens_init_87 ?_
  refine e_nameI (y := 36) (by decide) ?_
  refine e_cVXi (mt1 := m_Str_charAt) (v := 32) (M1 := p48.2) (As := [.int 36]) (st := []) d_Tokens_init_88 ml_Tokens_40 mv_Str_charAt (t_Str_charAt n 0 36 p48.2 (32, p48.2) rfl) (okl rfl) rfl rfl rfl (okp rfl) (okp rfl) (okp rfl) (okp rfl) (okp rfl) ?_
  refine e_istore (l2 := [some (.ref x0), some (.int 4), some (.long p48.1), none, some (.int 4), some (.int 32)]) d_Tokens_init_91 rfl (okl rfl) rfl ?_
  refine e_iload d_Tokens_init_93 rfl ?_
  refine e_bipush (v := 32) d_Tokens_init_95 (by decide) ?_
  refine e_ic_ne 104 d_Tokens_init_97 (by decide) (fun c9 => absurd c9 (by decide)) (fun _ => ?_)
  refine e_lload_n d_Tokens_init_100 rfl ?_
  refine e_goto 110 d_Tokens_init_101 (by decide) ?_
  refine e_lstore_n (l2 := [some (.ref x0), some (.int 4), some (.long p48.1), none, some (.int 4), some (.int 32)]) d_Tokens_init_110 rfl (okl rfl) rfl ?_
  refine e_iinc (v := 5) (l2 := [some (.ref x0), some (.int 4), some (.long p48.1), none, some (.int 5), some (.int 32)]) d_Tokens_init_111 rfl (by decide) rfl (okl rfl) rfl ?_
  refine e_goto 72 d_Tokens_init_114 (by decide) ?_
  refine e_iload d_Tokens_init_72 rfl ?_
  refine e_bipush (v := 8) d_Tokens_init_74 (by decide) ?_
  refine e_ic_ge 117 d_Tokens_init_76 (by decide) (fun c9 => absurd c9 (by decide)) (fun _ => ?_)
  refine e_ldcW d_Tokens_init_79 rfl ?_
  refine e_bipush (v := 8) d_Tokens_init_81 (by decide) ?_
  refine e_iload_n d_Tokens_init_83 rfl ?_
  refine e_imul d_Tokens_init_84 ?_
  refine e_nameI (y := 32) (by decide) ?_
  refine e_iload d_Tokens_init_85 rfl ?_
  refine e_iadd d_Tokens_init_87 ?_
  refine e_nameI (y := 37) (by decide) ?_
  refine e_cVXi (mt1 := m_Str_charAt) (v := 32) (M1 := p48.2) (As := [.int 37]) (st := []) d_Tokens_init_88 ml_Tokens_40 mv_Str_charAt (t_Str_charAt n 0 37 p48.2 (32, p48.2) rfl) (okl rfl) rfl rfl rfl (okp rfl) (okp rfl) (okp rfl) (okp rfl) (okp rfl) ?_
  refine e_istore (l2 := [some (.ref x0), some (.int 4), some (.long p48.1), none, some (.int 5), some (.int 32)]) d_Tokens_init_91 rfl (okl rfl) rfl ?_
  refine e_iload d_Tokens_init_93 rfl ?_
  refine e_bipush (v := 32) d_Tokens_init_95 (by decide) ?_
  refine e_ic_ne 104 d_Tokens_init_97 (by decide) (fun c9 => absurd c9 (by decide)) (fun _ => ?_)
  refine e_lload_n d_Tokens_init_100 rfl ?_
  refine e_goto 110 d_Tokens_init_101 (by decide) ?_
  refine e_lstore_n (l2 := [some (.ref x0), some (.int 4), some (.long p48.1), none, some (.int 5), some (.int 32)]) d_Tokens_init_110 rfl (okl rfl) rfl ?_
  refine e_iinc (v := 6) (l2 := [some (.ref x0), some (.int 4), some (.long p48.1), none, some (.int 6), some (.int 32)]) d_Tokens_init_111 rfl (by decide) rfl (okl rfl) rfl ?_
  refine e_goto 72 d_Tokens_init_114 (by decide) ?_
  refine e_iload d_Tokens_init_72 rfl ?_
  refine e_bipush (v := 8) d_Tokens_init_74 (by decide) ?_
  refine e_ic_ge 117 d_Tokens_init_76 (by decide) (fun c9 => absurd c9 (by decide)) (fun _ => ?_)
  refine e_ldcW d_Tokens_init_79 rfl ?_
  refine e_bipush (v := 8) d_Tokens_init_81 (by decide) ?_
  refine e_iload_n d_Tokens_init_83 rfl ?_
  refine e_imul d_Tokens_init_84 ?_
  refine e_nameI (y := 32) (by decide) ?_
  refine e_iload d_Tokens_init_85 rfl ?_
  refine e_iadd d_Tokens_init_87 ?_
  refine e_nameI (y := 38) (by decide) ?_
  refine e_cVXi (mt1 := m_Str_charAt) (v := 32) (M1 := p48.2) (As := [.int 38]) (st := []) d_Tokens_init_88 ml_Tokens_40 mv_Str_charAt (t_Str_charAt n 0 38 p48.2 (32, p48.2) rfl) (okl rfl) rfl rfl rfl (okp rfl) (okp rfl) (okp rfl) (okp rfl) (okp rfl) ?_
  refine e_istore (l2 := [some (.ref x0), some (.int 4), some (.long p48.1), none, some (.int 6), some (.int 32)]) d_Tokens_init_91 rfl (okl rfl) rfl ?_
  refine e_iload d_Tokens_init_93 rfl ?_
  refine e_bipush (v := 32) d_Tokens_init_95 (by decide) ?_
  refine e_ic_ne 104 d_Tokens_init_97 (by decide) (fun c9 => absurd c9 (by decide)) (fun _ => ?_)
  refine e_lload_n d_Tokens_init_100 rfl ?_
  refine e_goto 110 d_Tokens_init_101 (by decide) ?_
  refine e_lstore_n (l2 := [some (.ref x0), some (.int 4), some (.long p48.1), none, some (.int 6), some (.int 32)]) d_Tokens_init_110 rfl (okl rfl) rfl ?_
  refine e_iinc (v := 7) (l2 := [some (.ref x0), some (.int 4), some (.long p48.1), none, some (.int 7), some (.int 32)]) d_Tokens_init_111 rfl (by decide) rfl (okl rfl) rfl ?_
  refine e_goto 72 d_Tokens_init_114 (by decide) ?_
  refine e_iload d_Tokens_init_72 rfl ?_
  refine e_bipush (v := 8) d_Tokens_init_74 (by decide) ?_
  refine e_ic_ge 117 d_Tokens_init_76 (by decide) (fun c9 => absurd c9 (by decide)) (fun _ => ?_)
  refine e_ldcW d_Tokens_init_79 rfl ?_
  refine e_bipush (v := 8) d_Tokens_init_81 (by decide) ?_
  refine e_iload_n d_Tokens_init_83 rfl ?_
  refine e_imul d_Tokens_init_84 ?_
  refine e_nameI (y := 32) (by decide) ?_
  refine e_iload d_Tokens_init_85 rfl ?_
  refine e_iadd d_Tokens_init_87 ?_
  refine e_nameI (y := 39) (by decide) ?_
  refine e_cVXi (mt1 := m_Str_charAt) (v := 32) (M1 := p48.2) (As := [.int 39]) (st := []) d_Tokens_init_88 ml_Tokens_40 mv_Str_charAt (t_Str_charAt n 0 39 p48.2 (32, p48.2) rfl) (okl rfl) rfl rfl rfl (okp rfl) (okp rfl) (okp rfl) (okp rfl) (okp rfl) ?_
  refine e_istore (l2 := [some (.ref x0), some (.int 4), some (.long p48.1), none, some (.int 7), some (.int 32)]) d_Tokens_init_91 rfl (okl rfl) rfl ?_
  refine e_iload d_Tokens_init_93 rfl ?_
  refine e_bipush (v := 32) d_Tokens_init_95 (by decide) ?_
  refine e_ic_ne 104 d_Tokens_init_97 (by decide) (fun c9 => absurd c9 (by decide)) (fun _ => ?_)
  refine e_lload_n d_Tokens_init_100 rfl ?_
  refine e_goto 110 d_Tokens_init_101 (by decide) ?_
  refine e_lstore_n (l2 := [some (.ref x0), some (.int 4), some (.long p48.1), none, some (.int 7), some (.int 32)]) d_Tokens_init_110 rfl (okl rfl) rfl ?_
  refine e_iinc (v := 8) (l2 := [some (.ref x0), some (.int 4), some (.long p48.1), none, some (.int 8), some (.int 32)]) d_Tokens_init_111 rfl (by decide) rfl (okl rfl) rfl ?_
  refine e_goto 72 d_Tokens_init_114 (by decide) ?_
  refine e_iload d_Tokens_init_72 rfl ?_
  refine e_bipush (v := 8) d_Tokens_init_74 (by decide) ?_
  refine e_ic_ge 117 d_Tokens_init_76 (by decide) (fun _ => ?_) (fun c9 => absurd c9 (by decide))
  refine e_aload_n d_Tokens_init_117 rfl ?_
  obtain ⟨v49, hv49, h⟩ := bnd h
  refine e_getR d_Tokens_init_118 fl_Tokens_35 (fun _ _ _ => rfl) hv49 ?_
  refine e_iload_n d_Tokens_init_121 rfl ?_
  refine e_lload_n d_Tokens_init_122 rfl ?_
  obtain ⟨M50, hM50, h⟩ := bnd h
  refine e_last d_Tokens_init_123 hM50 ?_
  refine e_iinc (v := 5) (l2 := [some (.ref x0), some (.int 5), some (.long p48.1), none, some (.int 8), some (.int 32)]) d_Tokens_init_124 rfl (by decide) rfl (okl rfl) rfl ?_
  refine e_goto 61 d_Tokens_init_127 (by decide) ?_
  refine e_iload_n d_Tokens_init_61 rfl ?_
  refine e_bipush (v := 10) d_Tokens_init_62 (by decide) ?_
  refine e_ic_ge 130 d_Tokens_init_64 (by decide) (fun c9 => absurd c9 (by decide)) (fun _ => ?_)
  refine e_lconst (v := 0) d_Tokens_init_67 (by decide) ?_
  refine e_lstore_n (l2 := [some (.ref x0), some (.int 5), some (.long 0), none, some (.int 8), some (.int 32)]) d_Tokens_init_68 rfl (okl rfl) rfl ?_
  refine e_iconst (v := 0) d_Tokens_init_69 (by decide) ?_
  refine e_istore (l2 := [some (.ref x0), some (.int 5), some (.long 0), none, some (.int 0), some (.int 32)]) d_Tokens_init_70 rfl (okl rfl) rfl ?_
  refine e_iload d_Tokens_init_72 rfl ?_
  refine e_bipush (v := 8) d_Tokens_init_74 (by decide) ?_
  refine e_ic_ge 117 d_Tokens_init_76 (by decide) (fun c9 => absurd c9 (by decide)) (fun _ => ?_)
  refine e_ldcW d_Tokens_init_79 rfl ?_
  refine e_bipush (v := 8) d_Tokens_init_81 (by decide) ?_
  refine e_iload_n d_Tokens_init_83 rfl ?_
  refine e_imul d_Tokens_init_84 ?_
  refine e_nameI (y := 40) (by decide) ?_
  refine e_iload d_Tokens_init_85 rfl ?_
  refine e_iadd d_Tokens_init_87 ?_
  refine e_nameI (y := 40) (by decide) ?_
  refine e_cVXi (mt1 := m_Str_charAt) (v := 115) (M1 := M50) (As := [.int 40]) (st := []) d_Tokens_init_88 ml_Tokens_40 mv_Str_charAt (t_Str_charAt n 0 40 M50 (115, M50) rfl) (okl rfl) rfl rfl rfl (okp rfl) (okp rfl) (okp rfl) (okp rfl) (okp rfl) ?_
  refine e_istore (l2 := [some (.ref x0), some (.int 5), some (.long 0), none, some (.int 0), some (.int 115)]) d_Tokens_init_91 rfl (okl rfl) rfl ?_
  refine e_iload d_Tokens_init_93 rfl ?_
  refine e_bipush (v := 32) d_Tokens_init_95 (by decide) ?_
  refine e_ic_ne 104 d_Tokens_init_97 (by decide) (fun _ => ?_) (fun c9 => absurd c9 (by decide))
  refine e_lload_n d_Tokens_init_104 rfl ?_
  refine e_iload d_Tokens_init_105 rfl ?_
  obtain ⟨p51, hp51, h⟩ := bnd h
  refine e_cSl (mt1 := m_Tokens_withLetter) (As := [.long 0, .int 115]) (st := []) d_Tokens_init_107 ml_Tokens_46 ms_Tokens_withLetter (t_Tokens_withLetter n 0 115 M50 p51 hp51) rfl rfl (okp rfl) (okp rfl) (okp rfl) (okp rfl) (okp rfl) ?_
  refine e_lstore_n (l2 := [some (.ref x0), some (.int 5), some (.long p51.1), none, some (.int 0), some (.int 115)]) d_Tokens_init_110 rfl (okl rfl) rfl ?_
  refine e_iinc (v := 1) (l2 := [some (.ref x0), some (.int 5), some (.long p51.1), none, some (.int 1), some (.int 115)]) d_Tokens_init_111 rfl (by decide) rfl (okl rfl) rfl ?_
  refine e_goto 72 d_Tokens_init_114 (by decide) ?_
  refine e_iload d_Tokens_init_72 rfl ?_
  refine e_bipush (v := 8) d_Tokens_init_74 (by decide) ?_
  refine e_ic_ge 117 d_Tokens_init_76 (by decide) (fun c9 => absurd c9 (by decide)) (fun _ => ?_)
  refine e_ldcW d_Tokens_init_79 rfl ?_
  refine e_bipush (v := 8) d_Tokens_init_81 (by decide) ?_
  refine e_iload_n d_Tokens_init_83 rfl ?_
  refine e_imul d_Tokens_init_84 ?_
  refine e_nameI (y := 40) (by decide) ?_
  refine e_iload d_Tokens_init_85 rfl ?_
  refine e_iadd d_Tokens_init_87 ?_
  refine e_nameI (y := 41) (by decide) ?_
  refine e_cVXi (mt1 := m_Str_charAt) (v := 104) (M1 := p51.2) (As := [.int 41]) (st := []) d_Tokens_init_88 ml_Tokens_40 mv_Str_charAt (t_Str_charAt n 0 41 p51.2 (104, p51.2) rfl) (okl rfl) rfl rfl rfl (okp rfl) (okp rfl) (okp rfl) (okp rfl) (okp rfl) ?_
  refine e_istore (l2 := [some (.ref x0), some (.int 5), some (.long p51.1), none, some (.int 1), some (.int 104)]) d_Tokens_init_91 rfl (okl rfl) rfl ?_
  refine e_iload d_Tokens_init_93 rfl ?_
  refine e_bipush (v := 32) d_Tokens_init_95 (by decide) ?_
  refine e_ic_ne 104 d_Tokens_init_97 (by decide) (fun _ => ?_) (fun c9 => absurd c9 (by decide))
  refine e_lload_n d_Tokens_init_104 rfl ?_
  refine e_iload d_Tokens_init_105 rfl ?_
  obtain ⟨p52, hp52, h⟩ := bnd h
  refine e_cSl (mt1 := m_Tokens_withLetter) (As := [.long p51.1, .int 104]) (st := []) d_Tokens_init_107 ml_Tokens_46 ms_Tokens_withLetter (t_Tokens_withLetter n p51.1 104 p51.2 p52 hp52) rfl rfl (okp rfl) (okp rfl) (okp rfl) (okp rfl) (okp rfl) ?_
  refine e_lstore_n (l2 := [some (.ref x0), some (.int 5), some (.long p52.1), none, some (.int 1), some (.int 104)]) d_Tokens_init_110 rfl (okl rfl) rfl ?_
  refine e_iinc (v := 2) (l2 := [some (.ref x0), some (.int 5), some (.long p52.1), none, some (.int 2), some (.int 104)]) d_Tokens_init_111 rfl (by decide) rfl (okl rfl) rfl ?_
  refine e_goto 72 d_Tokens_init_114 (by decide) ?_
  refine e_iload d_Tokens_init_72 rfl ?_
  refine e_bipush (v := 8) d_Tokens_init_74 (by decide) ?_
  refine e_ic_ge 117 d_Tokens_init_76 (by decide) (fun c9 => absurd c9 (by decide)) (fun _ => ?_)
  refine e_ldcW d_Tokens_init_79 rfl ?_
  refine e_bipush (v := 8) d_Tokens_init_81 (by decide) ?_
  refine e_iload_n d_Tokens_init_83 rfl ?_
  refine e_imul d_Tokens_init_84 ?_
  refine e_nameI (y := 40) (by decide) ?_
  refine e_iload d_Tokens_init_85 rfl ?_
  refine e_iadd d_Tokens_init_87 ?_
  refine e_nameI (y := 42) (by decide) ?_
  refine e_cVXi (mt1 := m_Str_charAt) (v := 105) (M1 := p52.2) (As := [.int 42]) (st := []) d_Tokens_init_88 ml_Tokens_40 mv_Str_charAt (t_Str_charAt n 0 42 p52.2 (105, p52.2) rfl) (okl rfl) rfl rfl rfl (okp rfl) (okp rfl) (okp rfl) (okp rfl) (okp rfl) ?_
  refine e_istore (l2 := [some (.ref x0), some (.int 5), some (.long p52.1), none, some (.int 2), some (.int 105)]) d_Tokens_init_91 rfl (okl rfl) rfl ?_
  refine e_iload d_Tokens_init_93 rfl ?_
  refine e_bipush (v := 32) d_Tokens_init_95 (by decide) ?_
  refine e_ic_ne 104 d_Tokens_init_97 (by decide) (fun _ => ?_) (fun c9 => absurd c9 (by decide))
  refine e_lload_n d_Tokens_init_104 rfl ?_
  refine e_iload d_Tokens_init_105 rfl ?_
  obtain ⟨p53, hp53, h⟩ := bnd h
  refine e_cSl (mt1 := m_Tokens_withLetter) (As := [.long p52.1, .int 105]) (st := []) d_Tokens_init_107 ml_Tokens_46 ms_Tokens_withLetter (t_Tokens_withLetter n p52.1 105 p52.2 p53 hp53) rfl rfl (okp rfl) (okp rfl) (okp rfl) (okp rfl) (okp rfl) ?_
  refine e_lstore_n (l2 := [some (.ref x0), some (.int 5), some (.long p53.1), none, some (.int 2), some (.int 105)]) d_Tokens_init_110 rfl (okl rfl) rfl ?_
  refine e_iinc (v := 3) (l2 := [some (.ref x0), some (.int 5), some (.long p53.1), none, some (.int 3), some (.int 105)]) d_Tokens_init_111 rfl (by decide) rfl (okl rfl) rfl ?_
  refine e_goto 72 d_Tokens_init_114 (by decide) ?_
  refine e_iload d_Tokens_init_72 rfl ?_
  refine e_bipush (v := 8) d_Tokens_init_74 (by decide) ?_
  refine e_ic_ge 117 d_Tokens_init_76 (by decide) (fun c9 => absurd c9 (by decide)) (fun _ => ?_)
  refine e_ldcW d_Tokens_init_79 rfl ?_
  refine e_bipush (v := 8) d_Tokens_init_81 (by decide) ?_
  refine e_iload_n d_Tokens_init_83 rfl ?_
  refine e_imul d_Tokens_init_84 ?_
  refine e_nameI (y := 40) (by decide) ?_
  refine e_iload d_Tokens_init_85 rfl ?_
  refine e_iadd d_Tokens_init_87 ?_
  refine e_nameI (y := 43) (by decide) ?_
  refine e_cVXi (mt1 := m_Str_charAt) (v := 102) (M1 := p53.2) (As := [.int 43]) (st := []) d_Tokens_init_88 ml_Tokens_40 mv_Str_charAt (t_Str_charAt n 0 43 p53.2 (102, p53.2) rfl) (okl rfl) rfl rfl rfl (okp rfl) (okp rfl) (okp rfl) (okp rfl) (okp rfl) ?_
  refine e_istore (l2 := [some (.ref x0), some (.int 5), some (.long p53.1), none, some (.int 3), some (.int 102)]) d_Tokens_init_91 rfl (okl rfl) rfl ?_
  refine e_iload d_Tokens_init_93 rfl ?_
  refine e_bipush (v := 32) d_Tokens_init_95 (by decide) ?_
  refine e_ic_ne 104 d_Tokens_init_97 (by decide) (fun _ => ?_) (fun c9 => absurd c9 (by decide))
  refine e_lload_n d_Tokens_init_104 rfl ?_
  refine e_iload d_Tokens_init_105 rfl ?_
  obtain ⟨p54, hp54, h⟩ := bnd h
  refine e_cSl (mt1 := m_Tokens_withLetter) (As := [.long p53.1, .int 102]) (st := []) d_Tokens_init_107 ml_Tokens_46 ms_Tokens_withLetter (t_Tokens_withLetter n p53.1 102 p53.2 p54 hp54) rfl rfl (okp rfl) (okp rfl) (okp rfl) (okp rfl) (okp rfl) ?_
  refine e_lstore_n (l2 := [some (.ref x0), some (.int 5), some (.long p54.1), none, some (.int 3), some (.int 102)]) d_Tokens_init_110 rfl (okl rfl) rfl ?_
  refine e_iinc (v := 4) (l2 := [some (.ref x0), some (.int 5), some (.long p54.1), none, some (.int 4), some (.int 102)]) d_Tokens_init_111 rfl (by decide) rfl (okl rfl) rfl ?_
  refine e_goto 72 d_Tokens_init_114 (by decide) ?_
  refine e_iload d_Tokens_init_72 rfl ?_
  refine e_bipush (v := 8) d_Tokens_init_74 (by decide) ?_
  refine e_ic_ge 117 d_Tokens_init_76 (by decide) (fun c9 => absurd c9 (by decide)) (fun _ => ?_)
  refine e_ldcW d_Tokens_init_79 rfl ?_
  refine e_bipush (v := 8) d_Tokens_init_81 (by decide) ?_
  refine e_iload_n d_Tokens_init_83 rfl ?_
  refine e_imul d_Tokens_init_84 ?_
  refine e_nameI (y := 40) (by decide) ?_
  refine e_iload d_Tokens_init_85 rfl ?_
  refine e_iadd d_Tokens_init_87 ?_
  refine e_nameI (y := 44) (by decide) ?_
  refine e_cVXi (mt1 := m_Str_charAt) (v := 116) (M1 := p54.2) (As := [.int 44]) (st := []) d_Tokens_init_88 ml_Tokens_40 mv_Str_charAt (t_Str_charAt n 0 44 p54.2 (116, p54.2) rfl) (okl rfl) rfl rfl rfl (okp rfl) (okp rfl) (okp rfl) (okp rfl) (okp rfl) ?_
  refine e_istore (l2 := [some (.ref x0), some (.int 5), some (.long p54.1), none, some (.int 4), some (.int 116)]) d_Tokens_init_91 rfl (okl rfl) rfl ?_
  refine e_iload d_Tokens_init_93 rfl ?_
  refine e_bipush (v := 32) d_Tokens_init_95 (by decide) ?_
  refine e_ic_ne 104 d_Tokens_init_97 (by decide) (fun _ => ?_) (fun c9 => absurd c9 (by decide))
  refine e_lload_n d_Tokens_init_104 rfl ?_
  refine e_iload d_Tokens_init_105 rfl ?_
  obtain ⟨p55, hp55, h⟩ := bnd h
  refine e_cSl (mt1 := m_Tokens_withLetter) (As := [.long p54.1, .int 116]) (st := []) d_Tokens_init_107 ml_Tokens_46 ms_Tokens_withLetter (t_Tokens_withLetter n p54.1 116 p54.2 p55 hp55) rfl rfl (okp rfl) (okp rfl) (okp rfl) (okp rfl) (okp rfl) ?_
  refine e_lstore_n (l2 := [some (.ref x0), some (.int 5), some (.long p55.1), none, some (.int 4), some (.int 116)]) d_Tokens_init_110 rfl (okl rfl) rfl ?_
  refine e_iinc (v := 5) (l2 := [some (.ref x0), some (.int 5), some (.long p55.1), none, some (.int 5), some (.int 116)]) d_Tokens_init_111 rfl (by decide) rfl (okl rfl) rfl ?_
  refine e_goto 72 d_Tokens_init_114 (by decide) ?_
  refine e_iload d_Tokens_init_72 rfl ?_
  refine e_bipush (v := 8) d_Tokens_init_74 (by decide) ?_
  refine e_ic_ge 117 d_Tokens_init_76 (by decide) (fun c9 => absurd c9 (by decide)) (fun _ => ?_)
  refine e_ldcW d_Tokens_init_79 rfl ?_
  refine e_bipush (v := 8) d_Tokens_init_81 (by decide) ?_
  refine e_iload_n d_Tokens_init_83 rfl ?_
  refine e_imul d_Tokens_init_84 ?_
  refine e_nameI (y := 40) (by decide) ?_
  refine e_iload d_Tokens_init_85 rfl ?_
  refine e_iadd d_Tokens_init_87 ?_
  refine e_nameI (y := 45) (by decide) ?_
  refine e_cVXi (mt1 := m_Str_charAt) (v := 32) (M1 := p55.2) (As := [.int 45]) (st := []) d_Tokens_init_88 ml_Tokens_40 mv_Str_charAt (t_Str_charAt n 0 45 p55.2 (32, p55.2) rfl) (okl rfl) rfl rfl rfl (okp rfl) (okp rfl) (okp rfl) (okp rfl) (okp rfl) ?_
  refine e_istore (l2 := [some (.ref x0), some (.int 5), some (.long p55.1), none, some (.int 5), some (.int 32)]) d_Tokens_init_91 rfl (okl rfl) rfl ?_
  refine e_iload d_Tokens_init_93 rfl ?_
  refine e_bipush (v := 32) d_Tokens_init_95 (by decide) ?_
  refine e_ic_ne 104 d_Tokens_init_97 (by decide) (fun c9 => absurd c9 (by decide)) (fun _ => ?_)
  refine e_lload_n d_Tokens_init_100 rfl ?_
  refine e_goto 110 d_Tokens_init_101 (by decide) ?_
  refine e_lstore_n (l2 := [some (.ref x0), some (.int 5), some (.long p55.1), none, some (.int 5), some (.int 32)]) d_Tokens_init_110 rfl (okl rfl) rfl ?_
  refine e_iinc (v := 6) (l2 := [some (.ref x0), some (.int 5), some (.long p55.1), none, some (.int 6), some (.int 32)]) d_Tokens_init_111 rfl (by decide) rfl (okl rfl) rfl ?_
  refine e_goto 72 d_Tokens_init_114 (by decide) ?_
  refine e_iload d_Tokens_init_72 rfl ?_
  refine e_bipush (v := 8) d_Tokens_init_74 (by decide) ?_
  refine e_ic_ge 117 d_Tokens_init_76 (by decide) (fun c9 => absurd c9 (by decide)) (fun _ => ?_)
  refine e_ldcW d_Tokens_init_79 rfl ?_
  refine e_bipush (v := 8) d_Tokens_init_81 (by decide) ?_
  refine e_iload_n d_Tokens_init_83 rfl ?_
  refine e_imul d_Tokens_init_84 ?_
  refine e_nameI (y := 40) (by decide) ?_
  refine e_iload d_Tokens_init_85 rfl ?_
  refine e_iadd d_Tokens_init_87 ?_
  refine e_nameI (y := 46) (by decide) ?_
  refine e_cVXi (mt1 := m_Str_charAt) (v := 32) (M1 := p55.2) (As := [.int 46]) (st := []) d_Tokens_init_88 ml_Tokens_40 mv_Str_charAt (t_Str_charAt n 0 46 p55.2 (32, p55.2) rfl) (okl rfl) rfl rfl rfl (okp rfl) (okp rfl) (okp rfl) (okp rfl) (okp rfl) ?_
  refine e_istore (l2 := [some (.ref x0), some (.int 5), some (.long p55.1), none, some (.int 6), some (.int 32)]) d_Tokens_init_91 rfl (okl rfl) rfl ?_
  refine e_iload d_Tokens_init_93 rfl ?_
  refine e_bipush (v := 32) d_Tokens_init_95 (by decide) ?_
  refine e_ic_ne 104 d_Tokens_init_97 (by decide) (fun c9 => absurd c9 (by decide)) (fun _ => ?_)
  refine e_lload_n d_Tokens_init_100 rfl ?_
  refine e_goto 110 d_Tokens_init_101 (by decide) ?_
  refine e_lstore_n (l2 := [some (.ref x0), some (.int 5), some (.long p55.1), none, some (.int 6), some (.int 32)]) d_Tokens_init_110 rfl (okl rfl) rfl ?_
  refine e_iinc (v := 7) (l2 := [some (.ref x0), some (.int 5), some (.long p55.1), none, some (.int 7), some (.int 32)]) d_Tokens_init_111 rfl (by decide) rfl (okl rfl) rfl ?_
  refine e_goto 72 d_Tokens_init_114 (by decide) ?_
  refine e_iload d_Tokens_init_72 rfl ?_
  refine e_bipush (v := 8) d_Tokens_init_74 (by decide) ?_
  refine e_ic_ge 117 d_Tokens_init_76 (by decide) (fun c9 => absurd c9 (by decide)) (fun _ => ?_)
  refine e_ldcW d_Tokens_init_79 rfl ?_
  refine e_bipush (v := 8) d_Tokens_init_81 (by decide) ?_
  refine e_iload_n d_Tokens_init_83 rfl ?_
  refine e_imul d_Tokens_init_84 ?_
  refine e_nameI (y := 40) (by decide) ?_
  refine e_iload d_Tokens_init_85 rfl ?_
  refine e_iadd d_Tokens_init_87 ?_
  refine e_nameI (y := 47) (by decide) ?_
  refine e_cVXi (mt1 := m_Str_charAt) (v := 32) (M1 := p55.2) (As := [.int 47]) (st := []) d_Tokens_init_88 ml_Tokens_40 mv_Str_charAt (t_Str_charAt n 0 47 p55.2 (32, p55.2) rfl) (okl rfl) rfl rfl rfl (okp rfl) (okp rfl) (okp rfl) (okp rfl) (okp rfl) ?_
  refine e_istore (l2 := [some (.ref x0), some (.int 5), some (.long p55.1), none, some (.int 7), some (.int 32)]) d_Tokens_init_91 rfl (okl rfl) rfl ?_
  refine e_iload d_Tokens_init_93 rfl ?_
  refine e_bipush (v := 32) d_Tokens_init_95 (by decide) ?_
  refine e_ic_ne 104 d_Tokens_init_97 (by decide) (fun c9 => absurd c9 (by decide)) (fun _ => ?_)
  refine e_lload_n d_Tokens_init_100 rfl ?_
  refine e_goto 110 d_Tokens_init_101 (by decide) ?_
  refine e_lstore_n (l2 := [some (.ref x0), some (.int 5), some (.long p55.1), none, some (.int 7), some (.int 32)]) d_Tokens_init_110 rfl (okl rfl) rfl ?_
  refine e_iinc (v := 8) (l2 := [some (.ref x0), some (.int 5), some (.long p55.1), none, some (.int 8), some (.int 32)]) d_Tokens_init_111 rfl (by decide) rfl (okl rfl) rfl ?_
  refine e_goto 72 d_Tokens_init_114 (by decide) ?_
  refine e_iload d_Tokens_init_72 rfl ?_
  refine e_bipush (v := 8) d_Tokens_init_74 (by decide) ?_
  refine e_ic_ge 117 d_Tokens_init_76 (by decide) (fun _ => ?_) (fun c9 => absurd c9 (by decide))
  refine e_aload_n d_Tokens_init_117 rfl ?_
  obtain ⟨v56, hv56, h⟩ := bnd h
  refine e_getR d_Tokens_init_118 fl_Tokens_35 (fun _ _ _ => rfl) hv56 ?_
  refine e_iload_n d_Tokens_init_121 rfl ?_
  refine e_lload_n d_Tokens_init_122 rfl ?_
  obtain ⟨M57, hM57, h⟩ := bnd h
  refine e_last d_Tokens_init_123 hM57 ?_
  refine e_iinc (v := 6) (l2 := [some (.ref x0), some (.int 6), some (.long p55.1), none, some (.int 8), some (.int 32)]) d_Tokens_init_124 rfl (by decide) rfl (okl rfl) rfl ?_
  refine e_goto 61 d_Tokens_init_127 (by decide) ?_
  refine e_iload_n d_Tokens_init_61 rfl ?_
  refine e_bipush (v := 10) d_Tokens_init_62 (by decide) ?_
  refine e_ic_ge 130 d_Tokens_init_64 (by decide) (fun c9 => absurd c9 (by decide)) (fun _ => ?_)
  refine e_lconst (v := 0) d_Tokens_init_67 (by decide) ?_
  refine e_lstore_n (l2 := [some (.ref x0), some (.int 6), some (.long 0), none, some (.int 8), some (.int 32)]) d_Tokens_init_68 rfl (okl rfl) rfl ?_
  refine e_iconst (v := 0) d_Tokens_init_69 (by decide) ?_
  refine e_istore (l2 := [some (.ref x0), some (.int 6), some (.long 0), none, some (.int 0), some (.int 32)]) d_Tokens_init_70 rfl (okl rfl) rfl ?_
  refine e_iload d_Tokens_init_72 rfl ?_
  refine e_bipush (v := 8) d_Tokens_init_74 (by decide) ?_
  refine e_ic_ge 117 d_Tokens_init_76 (by decide) (fun c9 => absurd c9 (by decide)) (fun _ => ?_)
  refine e_ldcW d_Tokens_init_79 rfl ?_
  refine e_bipush (v := 8) d_Tokens_init_81 (by decide) ?_
  refine e_iload_n d_Tokens_init_83 rfl ?_
  refine e_imul d_Tokens_init_84 ?_
  refine e_nameI (y := 48) (by decide) ?_
  refine e_iload d_Tokens_init_85 rfl ?_
  refine e_iadd d_Tokens_init_87 ?_
  refine e_nameI (y := 48) (by decide) ?_
  refine e_cVXi (mt1 := m_Str_charAt) (v := 99) (M1 := M57) (As := [.int 48]) (st := []) d_Tokens_init_88 ml_Tokens_40 mv_Str_charAt (t_Str_charAt n 0 48 M57 (99, M57) rfl) (okl rfl) rfl rfl rfl (okp rfl) (okp rfl) (okp rfl) (okp rfl) (okp rfl) ?_
  refine e_istore (l2 := [some (.ref x0), some (.int 6), some (.long 0), none, some (.int 0), some (.int 99)]) d_Tokens_init_91 rfl (okl rfl) rfl ?_
  refine e_iload d_Tokens_init_93 rfl ?_
  refine e_bipush (v := 32) d_Tokens_init_95 (by decide) ?_
  refine e_ic_ne 104 d_Tokens_init_97 (by decide) (fun _ => ?_) (fun c9 => absurd c9 (by decide))
  refine e_lload_n d_Tokens_init_104 rfl ?_
  refine e_iload d_Tokens_init_105 rfl ?_
  obtain ⟨p58, hp58, h⟩ := bnd h
  refine e_cSl (mt1 := m_Tokens_withLetter) (As := [.long 0, .int 99]) (st := []) d_Tokens_init_107 ml_Tokens_46 ms_Tokens_withLetter (t_Tokens_withLetter n 0 99 M57 p58 hp58) rfl rfl (okp rfl) (okp rfl) (okp rfl) (okp rfl) (okp rfl) ?_
  refine e_lstore_n (l2 := [some (.ref x0), some (.int 6), some (.long p58.1), none, some (.int 0), some (.int 99)]) d_Tokens_init_110 rfl (okl rfl) rfl ?_
  refine e_iinc (v := 1) (l2 := [some (.ref x0), some (.int 6), some (.long p58.1), none, some (.int 1), some (.int 99)]) d_Tokens_init_111 rfl (by decide) rfl (okl rfl) rfl ?_
  refine e_goto 72 d_Tokens_init_114 (by decide) ?_
  refine e_iload d_Tokens_init_72 rfl ?_
  refine e_bipush (v := 8) d_Tokens_init_74 (by decide) ?_
  refine e_ic_ge 117 d_Tokens_init_76 (by decide) (fun c9 => absurd c9 (by decide)) (fun _ => ?_)
  refine e_ldcW d_Tokens_init_79 rfl ?_
  refine e_bipush (v := 8) d_Tokens_init_81 (by decide) ?_
  refine e_iload_n d_Tokens_init_83 rfl ?_
  refine e_imul d_Tokens_init_84 ?_
  refine e_nameI (y := 48) (by decide) ?_
  refine e_iload d_Tokens_init_85 rfl ?_
  refine e_iadd d_Tokens_init_87 ?_
  refine e_nameI (y := 49) (by decide) ?_
  refine e_cVXi (mt1 := m_Str_charAt) (v := 101) (M1 := p58.2) (As := [.int 49]) (st := []) d_Tokens_init_88 ml_Tokens_40 mv_Str_charAt (t_Str_charAt n 0 49 p58.2 (101, p58.2) rfl) (okl rfl) rfl rfl rfl (okp rfl) (okp rfl) (okp rfl) (okp rfl) (okp rfl) ?_
  refine e_istore (l2 := [some (.ref x0), some (.int 6), some (.long p58.1), none, some (.int 1), some (.int 101)]) d_Tokens_init_91 rfl (okl rfl) rfl ?_
  refine e_iload d_Tokens_init_93 rfl ?_
  refine e_bipush (v := 32) d_Tokens_init_95 (by decide) ?_
  refine e_ic_ne 104 d_Tokens_init_97 (by decide) (fun _ => ?_) (fun c9 => absurd c9 (by decide))
  refine e_lload_n d_Tokens_init_104 rfl ?_
  refine e_iload d_Tokens_init_105 rfl ?_
  obtain ⟨p59, hp59, h⟩ := bnd h
  refine e_cSl (mt1 := m_Tokens_withLetter) (As := [.long p58.1, .int 101]) (st := []) d_Tokens_init_107 ml_Tokens_46 ms_Tokens_withLetter (t_Tokens_withLetter n p58.1 101 p58.2 p59 hp59) rfl rfl (okp rfl) (okp rfl) (okp rfl) (okp rfl) (okp rfl) ?_
  refine e_lstore_n (l2 := [some (.ref x0), some (.int 6), some (.long p59.1), none, some (.int 1), some (.int 101)]) d_Tokens_init_110 rfl (okl rfl) rfl ?_
  refine e_iinc (v := 2) (l2 := [some (.ref x0), some (.int 6), some (.long p59.1), none, some (.int 2), some (.int 101)]) d_Tokens_init_111 rfl (by decide) rfl (okl rfl) rfl ?_
  refine e_goto 72 d_Tokens_init_114 (by decide) ?_
  refine e_iload d_Tokens_init_72 rfl ?_
  refine e_bipush (v := 8) d_Tokens_init_74 (by decide) ?_
  refine e_ic_ge 117 d_Tokens_init_76 (by decide) (fun c9 => absurd c9 (by decide)) (fun _ => ?_)
  refine e_ldcW d_Tokens_init_79 rfl ?_
  refine e_bipush (v := 8) d_Tokens_init_81 (by decide) ?_
  refine e_iload_n d_Tokens_init_83 rfl ?_
  refine e_imul d_Tokens_init_84 ?_
  refine e_nameI (y := 48) (by decide) ?_
  refine e_iload d_Tokens_init_85 rfl ?_
  refine e_iadd d_Tokens_init_87 ?_
  refine e_nameI (y := 50) (by decide) ?_
  refine e_cVXi (mt1 := m_Str_charAt) (v := 108) (M1 := p59.2) (As := [.int 50]) (st := []) d_Tokens_init_88 ml_Tokens_40 mv_Str_charAt (t_Str_charAt n 0 50 p59.2 (108, p59.2) rfl) (okl rfl) rfl rfl rfl (okp rfl) (okp rfl) (okp rfl) (okp rfl) (okp rfl) ?_
  refine e_istore (l2 := [some (.ref x0), some (.int 6), some (.long p59.1), none, some (.int 2), some (.int 108)]) d_Tokens_init_91 rfl (okl rfl) rfl ?_
  refine e_iload d_Tokens_init_93 rfl ?_
  refine e_bipush (v := 32) d_Tokens_init_95 (by decide) ?_
  refine e_ic_ne 104 d_Tokens_init_97 (by decide) (fun _ => ?_) (fun c9 => absurd c9 (by decide))
  refine e_lload_n d_Tokens_init_104 rfl ?_
  refine e_iload d_Tokens_init_105 rfl ?_
  obtain ⟨p60, hp60, h⟩ := bnd h
  refine e_cSl (mt1 := m_Tokens_withLetter) (As := [.long p59.1, .int 108]) (st := []) d_Tokens_init_107 ml_Tokens_46 ms_Tokens_withLetter (t_Tokens_withLetter n p59.1 108 p59.2 p60 hp60) rfl rfl (okp rfl) (okp rfl) (okp rfl) (okp rfl) (okp rfl) ?_
  refine e_lstore_n (l2 := [some (.ref x0), some (.int 6), some (.long p60.1), none, some (.int 2), some (.int 108)]) d_Tokens_init_110 rfl (okl rfl) rfl ?_
  refine e_iinc (v := 3) (l2 := [some (.ref x0), some (.int 6), some (.long p60.1), none, some (.int 3), some (.int 108)]) d_Tokens_init_111 rfl (by decide) rfl (okl rfl) rfl ?_
  refine e_goto 72 d_Tokens_init_114 (by decide) ?_
  refine e_iload d_Tokens_init_72 rfl ?_
  refine e_bipush (v := 8) d_Tokens_init_74 (by decide) ?_
  refine e_ic_ge 117 d_Tokens_init_76 (by decide) (fun c9 => absurd c9 (by decide)) (fun _ => ?_)
  refine e_ldcW d_Tokens_init_79 rfl ?_
  refine e_bipush (v := 8) d_Tokens_init_81 (by decide) ?_
  refine e_iload_n d_Tokens_init_83 rfl ?_
  refine e_imul d_Tokens_init_84 ?_
  refine e_nameI (y := 48) (by decide) ?_
  refine e_iload d_Tokens_init_85 rfl ?_
  refine e_iadd d_Tokens_init_87 ?_
  refine e_nameI (y := 51) (by decide) ?_
  refine e_cVXi (mt1 := m_Str_charAt) (v := 108) (M1 := p60.2) (As := [.int 51]) (st := []) d_Tokens_init_88 ml_Tokens_40 mv_Str_charAt (t_Str_charAt n 0 51 p60.2 (108, p60.2) rfl) (okl rfl) rfl rfl rfl (okp rfl) (okp rfl) (okp rfl) (okp rfl) (okp rfl) ?_
  refine e_istore (l2 := [some (.ref x0), some (.int 6), some (.long p60.1), none, some (.int 3), some (.int 108)]) d_Tokens_init_91 rfl (okl rfl) rfl ?_
  refine e_iload d_Tokens_init_93 rfl ?_
  refine e_bipush (v := 32) d_Tokens_init_95 (by decide) ?_
  refine e_ic_ne 104 d_Tokens_init_97 (by decide) (fun _ => ?_) (fun c9 => absurd c9 (by decide))
  refine e_lload_n d_Tokens_init_104 rfl ?_
  refine e_iload d_Tokens_init_105 rfl ?_
  obtain ⟨p61, hp61, h⟩ := bnd h
  refine e_cSl (mt1 := m_Tokens_withLetter) (As := [.long p60.1, .int 108]) (st := []) d_Tokens_init_107 ml_Tokens_46 ms_Tokens_withLetter (t_Tokens_withLetter n p60.1 108 p60.2 p61 hp61) rfl rfl (okp rfl) (okp rfl) (okp rfl) (okp rfl) (okp rfl) ?_
  refine e_lstore_n (l2 := [some (.ref x0), some (.int 6), some (.long p61.1), none, some (.int 3), some (.int 108)]) d_Tokens_init_110 rfl (okl rfl) rfl ?_
  refine e_iinc (v := 4) (l2 := [some (.ref x0), some (.int 6), some (.long p61.1), none, some (.int 4), some (.int 108)]) d_Tokens_init_111 rfl (by decide) rfl (okl rfl) rfl ?_
  refine e_goto 72 d_Tokens_init_114 (by decide) ?_
  refine e_iload d_Tokens_init_72 rfl ?_
  refine e_bipush (v := 8) d_Tokens_init_74 (by decide) ?_
  refine e_ic_ge 117 d_Tokens_init_76 (by decide) (fun c9 => absurd c9 (by decide)) (fun _ => ?_)
  refine e_ldcW d_Tokens_init_79 rfl ?_
  refine e_bipush (v := 8) d_Tokens_init_81 (by decide) ?_
  refine e_iload_n d_Tokens_init_83 rfl ?_
  refine e_imul d_Tokens_init_84 ?_
  refine e_nameI (y := 48) (by decide) ?_
  refine e_iload d_Tokens_init_85 rfl ?_
  refine e_iadd d_Tokens_init_87 ?_
  refine e_nameI (y := 52) (by decide) ?_
  refine e_cVXi (mt1 := m_Str_charAt) (v := 32) (M1 := p61.2) (As := [.int 52]) (st := []) d_Tokens_init_88 ml_Tokens_40 mv_Str_charAt (t_Str_charAt n 0 52 p61.2 (32, p61.2) rfl) (okl rfl) rfl rfl rfl (okp rfl) (okp rfl) (okp rfl) (okp rfl) (okp rfl) ?_
  refine e_istore (l2 := [some (.ref x0), some (.int 6), some (.long p61.1), none, some (.int 4), some (.int 32)]) d_Tokens_init_91 rfl (okl rfl) rfl ?_
  refine e_iload d_Tokens_init_93 rfl ?_
  refine e_bipush (v := 32) d_Tokens_init_95 (by decide) ?_
  refine e_ic_ne 104 d_Tokens_init_97 (by decide) (fun c9 => absurd c9 (by decide)) (fun _ => ?_)
  refine e_lload_n d_Tokens_init_100 rfl ?_
  refine e_goto 110 d_Tokens_init_101 (by decide) ?_
  refine e_lstore_n (l2 := [some (.ref x0), some (.int 6), some (.long p61.1), none, some (.int 4), some (.int 32)]) d_Tokens_init_110 rfl (okl rfl) rfl ?_
  refine e_iinc (v := 5) (l2 := [some (.ref x0), some (.int 6), some (.long p61.1), none, some (.int 5), some (.int 32)]) d_Tokens_init_111 rfl (by decide) rfl (okl rfl) rfl ?_
  refine e_goto 72 d_Tokens_init_114 (by decide) ?_
  refine e_iload d_Tokens_init_72 rfl ?_
  refine e_bipush (v := 8) d_Tokens_init_74 (by decide) ?_
  refine e_ic_ge 117 d_Tokens_init_76 (by decide) (fun c9 => absurd c9 (by decide)) (fun _ => ?_)
  refine e_ldcW d_Tokens_init_79 rfl ?_
  refine e_bipush (v := 8) d_Tokens_init_81 (by decide) ?_
  refine e_iload_n d_Tokens_init_83 rfl ?_
  refine e_imul d_Tokens_init_84 ?_
  refine e_nameI (y := 48) (by decide) ?_
  refine e_iload d_Tokens_init_85 rfl ?_
  refine e_iadd d_Tokens_init_87 ?_
  refine e_nameI (y := 53) (by decide) ?_
  refine e_cVXi (mt1 := m_Str_charAt) (v := 32) (M1 := p61.2) (As := [.int 53]) (st := []) d_Tokens_init_88 ml_Tokens_40 mv_Str_charAt (t_Str_charAt n 0 53 p61.2 (32, p61.2) rfl) (okl rfl) rfl rfl rfl (okp rfl) (okp rfl) (okp rfl) (okp rfl) (okp rfl) ?_
  refine e_istore (l2 := [some (.ref x0), some (.int 6), some (.long p61.1), none, some (.int 5), some (.int 32)]) d_Tokens_init_91 rfl (okl rfl) rfl ?_
  refine e_iload d_Tokens_init_93 rfl ?_
  refine e_bipush (v := 32) d_Tokens_init_95 (by decide) ?_
  refine e_ic_ne 104 d_Tokens_init_97 (by decide) (fun c9 => absurd c9 (by decide)) (fun _ => ?_)
  refine e_lload_n d_Tokens_init_100 rfl ?_
  refine e_goto 110 d_Tokens_init_101 (by decide) ?_
  refine e_lstore_n (l2 := [some (.ref x0), some (.int 6), some (.long p61.1), none, some (.int 5), some (.int 32)]) d_Tokens_init_110 rfl (okl rfl) rfl ?_
  refine e_iinc (v := 6) (l2 := [some (.ref x0), some (.int 6), some (.long p61.1), none, some (.int 6), some (.int 32)]) d_Tokens_init_111 rfl (by decide) rfl (okl rfl) rfl ?_
  refine e_goto 72 d_Tokens_init_114 (by decide) ?_
  refine e_iload d_Tokens_init_72 rfl ?_
  refine e_bipush (v := 8) d_Tokens_init_74 (by decide) ?_
  refine e_ic_ge 117 d_Tokens_init_76 (by decide) (fun c9 => absurd c9 (by decide)) (fun _ => ?_)
  refine e_ldcW d_Tokens_init_79 rfl ?_
  refine e_bipush (v := 8) d_Tokens_init_81 (by decide) ?_
  refine e_iload_n d_Tokens_init_83 rfl ?_
  refine e_imul d_Tokens_init_84 ?_
  refine e_nameI (y := 48) (by decide) ?_
  refine e_iload d_Tokens_init_85 rfl ?_
  refine e_iadd d_Tokens_init_87 ?_
  refine e_nameI (y := 54) (by decide) ?_
  refine e_cVXi (mt1 := m_Str_charAt) (v := 32) (M1 := p61.2) (As := [.int 54]) (st := []) d_Tokens_init_88 ml_Tokens_40 mv_Str_charAt (t_Str_charAt n 0 54 p61.2 (32, p61.2) rfl) (okl rfl) rfl rfl rfl (okp rfl) (okp rfl) (okp rfl) (okp rfl) (okp rfl) ?_
  refine e_istore (l2 := [some (.ref x0), some (.int 6), some (.long p61.1), none, some (.int 6), some (.int 32)]) d_Tokens_init_91 rfl (okl rfl) rfl ?_
  refine e_iload d_Tokens_init_93 rfl ?_
  refine e_bipush (v := 32) d_Tokens_init_95 (by decide) ?_
  refine e_ic_ne 104 d_Tokens_init_97 (by decide) (fun c9 => absurd c9 (by decide)) (fun _ => ?_)
  refine e_lload_n d_Tokens_init_100 rfl ?_
  refine e_goto 110 d_Tokens_init_101 (by decide) ?_
  refine e_lstore_n (l2 := [some (.ref x0), some (.int 6), some (.long p61.1), none, some (.int 6), some (.int 32)]) d_Tokens_init_110 rfl (okl rfl) rfl ?_
  refine e_iinc (v := 7) (l2 := [some (.ref x0), some (.int 6), some (.long p61.1), none, some (.int 7), some (.int 32)]) d_Tokens_init_111 rfl (by decide) rfl (okl rfl) rfl ?_
  refine e_goto 72 d_Tokens_init_114 (by decide) ?_
  refine e_iload d_Tokens_init_72 rfl ?_
  refine e_bipush (v := 8) d_Tokens_init_74 (by decide) ?_
  refine e_ic_ge 117 d_Tokens_init_76 (by decide) (fun c9 => absurd c9 (by decide)) (fun _ => ?_)
  refine e_ldcW d_Tokens_init_79 rfl ?_
  refine e_bipush (v := 8) d_Tokens_init_81 (by decide) ?_
  refine e_iload_n d_Tokens_init_83 rfl ?_
  refine e_imul d_Tokens_init_84 ?_
  refine e_nameI (y := 48) (by decide) ?_
  refine e_iload d_Tokens_init_85 rfl ?_
  refine e_iadd d_Tokens_init_87 ?_
  refine e_nameI (y := 55) (by decide) ?_
  refine e_cVXi (mt1 := m_Str_charAt) (v := 32) (M1 := p61.2) (As := [.int 55]) (st := []) d_Tokens_init_88 ml_Tokens_40 mv_Str_charAt (t_Str_charAt n 0 55 p61.2 (32, p61.2) rfl) (okl rfl) rfl rfl rfl (okp rfl) (okp rfl) (okp rfl) (okp rfl) (okp rfl) ?_
  refine e_istore (l2 := [some (.ref x0), some (.int 6), some (.long p61.1), none, some (.int 7), some (.int 32)]) d_Tokens_init_91 rfl (okl rfl) rfl ?_
  refine e_iload d_Tokens_init_93 rfl ?_
  refine e_bipush (v := 32) d_Tokens_init_95 (by decide) ?_
  refine e_ic_ne 104 d_Tokens_init_97 (by decide) (fun c9 => absurd c9 (by decide)) (fun _ => ?_)
  refine e_lload_n d_Tokens_init_100 rfl ?_
  refine e_goto 110 d_Tokens_init_101 (by decide) ?_
  refine e_lstore_n (l2 := [some (.ref x0), some (.int 6), some (.long p61.1), none, some (.int 7), some (.int 32)]) d_Tokens_init_110 rfl (okl rfl) rfl ?_
  refine e_iinc (v := 8) (l2 := [some (.ref x0), some (.int 6), some (.long p61.1), none, some (.int 8), some (.int 32)]) d_Tokens_init_111 rfl (by decide) rfl (okl rfl) rfl ?_
  refine e_goto 72 d_Tokens_init_114 (by decide) ?_
  refine e_iload d_Tokens_init_72 rfl ?_
  refine e_bipush (v := 8) d_Tokens_init_74 (by decide) ?_
  refine e_ic_ge 117 d_Tokens_init_76 (by decide) (fun _ => ?_) (fun c9 => absurd c9 (by decide))
  refine e_aload_n d_Tokens_init_117 rfl ?_
  obtain ⟨v62, hv62, h⟩ := bnd h
  refine e_getR d_Tokens_init_118 fl_Tokens_35 (fun _ _ _ => rfl) hv62 ?_
  refine e_iload_n d_Tokens_init_121 rfl ?_
  refine e_lload_n d_Tokens_init_122 rfl ?_
  obtain ⟨M63, hM63, h⟩ := bnd h
  refine e_last d_Tokens_init_123 hM63 ?_
  refine e_iinc (v := 7) (l2 := [some (.ref x0), some (.int 7), some (.long p61.1), none, some (.int 8), some (.int 32)]) d_Tokens_init_124 rfl (by decide) rfl (okl rfl) rfl ?_
  refine e_goto 61 d_Tokens_init_127 (by decide) ?_
  refine e_iload_n d_Tokens_init_61 rfl ?_
  refine e_bipush (v := 10) d_Tokens_init_62 (by decide) ?_
  refine e_ic_ge 130 d_Tokens_init_64 (by decide) (fun c9 => absurd c9 (by decide)) (fun _ => ?_)
  refine e_lconst (v := 0) d_Tokens_init_67 (by decide) ?_
  refine e_lstore_n (l2 := [some (.ref x0), some (.int 7), some (.long 0), none, some (.int 8), some (.int 32)]) d_Tokens_init_68 rfl (okl rfl) rfl ?_
  refine e_iconst (v := 0) d_Tokens_init_69 (by decide) ?_
  refine e_istore (l2 := [some (.ref x0), some (.int 7), some (.long 0), none, some (.int 0), some (.int 32)]) d_Tokens_init_70 rfl (okl rfl) rfl ?_
  refine e_iload d_Tokens_init_72 rfl ?_
  refine e_bipush (v := 8) d_Tokens_init_74 (by decide) ?_
  refine e_ic_ge 117 d_Tokens_init_76 (by decide) (fun c9 => absurd c9 (by decide)) (fun _ => ?_)
  refine e_ldcW d_Tokens_init_79 rfl ?_
  refine e_bipush (v := 8) d_Tokens_init_81 (by decide) ?_
  refine e_iload_n d_Tokens_init_83 rfl ?_
  refine e_imul d_Tokens_init_84 ?_
  refine e_nameI (y := 56) (by decide) ?_
  refine e_iload d_Tokens_init_85 rfl ?_
  refine e_iadd d_Tokens_init_87 ?_
  refine e_nameI (y := 56) (by decide) ?_
  refine e_cVXi (mt1 := m_Str_charAt) (v := 98) (M1 := M63) (As := [.int 56]) (st := []) d_Tokens_init_88 ml_Tokens_40 mv_Str_charAt (t_Str_charAt n 0 56 M63 (98, M63) rfl) (okl rfl) rfl rfl rfl (okp rfl) (okp rfl) (okp rfl) (okp rfl) (okp rfl) ?_
  refine e_istore (l2 := [some (.ref x0), some (.int 7), some (.long 0), none, some (.int 0), some (.int 98)]) d_Tokens_init_91 rfl (okl rfl) rfl ?_
  refine e_iload d_Tokens_init_93 rfl ?_
  refine e_bipush (v := 32) d_Tokens_init_95 (by decide) ?_
  refine e_ic_ne 104 d_Tokens_init_97 (by decide) (fun _ => ?_) (fun c9 => absurd c9 (by decide))
  refine e_lload_n d_Tokens_init_104 rfl ?_
  refine e_iload d_Tokens_init_105 rfl ?_
  obtain ⟨p64, hp64, h⟩ := bnd h
  refine e_cSl (mt1 := m_Tokens_withLetter) (As := [.long 0, .int 98]) (st := []) d_Tokens_init_107 ml_Tokens_46 ms_Tokens_withLetter (t_Tokens_withLetter n 0 98 M63 p64 hp64) rfl rfl (okp rfl) (okp rfl) (okp rfl) (okp rfl) (okp rfl) ?_
  refine e_lstore_n (l2 := [some (.ref x0), some (.int 7), some (.long p64.1), none, some (.int 0), some (.int 98)]) d_Tokens_init_110 rfl (okl rfl) rfl ?_
  refine e_iinc (v := 1) (l2 := [some (.ref x0), some (.int 7), some (.long p64.1), none, some (.int 1), some (.int 98)]) d_Tokens_init_111 rfl (by decide) rfl (okl rfl) rfl ?_
  refine e_goto 72 d_Tokens_init_114 (by decide) ?_
  refine e_iload d_Tokens_init_72 rfl ?_
  refine e_bipush (v := 8) d_Tokens_init_74 (by decide) ?_
  refine e_ic_ge 117 d_Tokens_init_76 (by decide) (fun c9 => absurd c9 (by decide)) (fun _ => ?_)
  refine e_ldcW d_Tokens_init_79 rfl ?_
  refine e_bipush (v := 8) d_Tokens_init_81 (by decide) ?_
  refine e_iload_n d_Tokens_init_83 rfl ?_
  refine e_imul d_Tokens_init_84 ?_
  refine e_nameI (y := 56) (by decide) ?_
  refine e_iload d_Tokens_init_85 rfl ?_
  refine e_iadd d_Tokens_init_87 ?_
  refine e_nameI (y := 57) (by decide) ?_
  refine e_cVXi (mt1 := m_Str_charAt) (v := 111) (M1 := p64.2) (As := [.int 57]) (st := []) d_Tokens_init_88 ml_Tokens_40 mv_Str_charAt (t_Str_charAt n 0 57 p64.2 (111, p64.2) rfl) (okl rfl) rfl rfl rfl (okp rfl) (okp rfl) (okp rfl) (okp rfl) (okp rfl) ?_
  refine e_istore (l2 := [some (.ref x0), some (.int 7), some (.long p64.1), none, some (.int 1), some (.int 111)]) d_Tokens_init_91 rfl (okl rfl) rfl ?_
  refine e_iload d_Tokens_init_93 rfl ?_
  refine e_bipush (v := 32) d_Tokens_init_95 (by decide) ?_
  refine e_ic_ne 104 d_Tokens_init_97 (by decide) (fun _ => ?_) (fun c9 => absurd c9 (by decide))
  refine e_lload_n d_Tokens_init_104 rfl ?_
  refine e_iload d_Tokens_init_105 rfl ?_
  obtain ⟨p65, hp65, h⟩ := bnd h
  refine e_cSl (mt1 := m_Tokens_withLetter) (As := [.long p64.1, .int 111]) (st := []) d_Tokens_init_107 ml_Tokens_46 ms_Tokens_withLetter (t_Tokens_withLetter n p64.1 111 p64.2 p65 hp65) rfl rfl (okp rfl) (okp rfl) (okp rfl) (okp rfl) (okp rfl) ?_
  refine e_lstore_n (l2 := [some (.ref x0), some (.int 7), some (.long p65.1), none, some (.int 1), some (.int 111)]) d_Tokens_init_110 rfl (okl rfl) rfl ?_
  refine e_iinc (v := 2) (l2 := [some (.ref x0), some (.int 7), some (.long p65.1), none, some (.int 2), some (.int 111)]) d_Tokens_init_111 rfl (by decide) rfl (okl rfl) rfl ?_
  refine e_goto 72 d_Tokens_init_114 (by decide) ?_
  refine e_iload d_Tokens_init_72 rfl ?_
  refine e_bipush (v := 8) d_Tokens_init_74 (by decide) ?_
  refine e_ic_ge 117 d_Tokens_init_76 (by decide) (fun c9 => absurd c9 (by decide)) (fun _ => ?_)
  refine e_ldcW d_Tokens_init_79 rfl ?_
  refine e_bipush (v := 8) d_Tokens_init_81 (by decide) ?_
  refine e_iload_n d_Tokens_init_83 rfl ?_
  refine e_imul d_Tokens_init_84 ?_
  refine e_nameI (y := 56) (by decide) ?_
  refine e_iload d_Tokens_init_85 rfl ?_
  refine e_iadd d_Tokens_init_87 ?_
  refine e_nameI (y := 58) (by decide) ?_
  refine e_cVXi (mt1 := m_Str_charAt) (v := 120) (M1 := p65.2) (As := [.int 58]) (st := []) d_Tokens_init_88 ml_Tokens_40 mv_Str_charAt (t_Str_charAt n 0 58 p65.2 (120, p65.2) rfl) (okl rfl) rfl rfl rfl (okp rfl) (okp rfl) (okp rfl) (okp rfl) (okp rfl) ?_
  refine e_istore (l2 := [some (.ref x0), some (.int 7), some (.long p65.1), none, some (.int 2), some (.int 120)]) d_Tokens_init_91 rfl (okl rfl) rfl ?_
  refine e_iload d_Tokens_init_93 rfl ?_
  refine e_bipush (v := 32) d_Tokens_init_95 (by decide) ?_
  refine e_ic_ne 104 d_Tokens_init_97 (by decide) (fun _ => ?_) (fun c9 => absurd c9 (by decide))
  refine e_lload_n d_Tokens_init_104 rfl ?_
  refine e_iload d_Tokens_init_105 rfl ?_
  obtain ⟨p66, hp66, h⟩ := bnd h
  refine e_cSl (mt1 := m_Tokens_withLetter) (As := [.long p65.1, .int 120]) (st := []) d_Tokens_init_107 ml_Tokens_46 ms_Tokens_withLetter (t_Tokens_withLetter n p65.1 120 p65.2 p66 hp66) rfl rfl (okp rfl) (okp rfl) (okp rfl) (okp rfl) (okp rfl) ?_
  refine e_lstore_n (l2 := [some (.ref x0), some (.int 7), some (.long p66.1), none, some (.int 2), some (.int 120)]) d_Tokens_init_110 rfl (okl rfl) rfl ?_
  refine e_iinc (v := 3) (l2 := [some (.ref x0), some (.int 7), some (.long p66.1), none, some (.int 3), some (.int 120)]) d_Tokens_init_111 rfl (by decide) rfl (okl rfl) rfl ?_
  refine e_goto 72 d_Tokens_init_114 (by decide) ?_
  refine e_iload d_Tokens_init_72 rfl ?_
  refine e_bipush (v := 8) d_Tokens_init_74 (by decide) ?_
  refine e_ic_ge 117 d_Tokens_init_76 (by decide) (fun c9 => absurd c9 (by decide)) (fun _ => ?_)
  refine e_ldcW d_Tokens_init_79 rfl ?_
  refine e_bipush (v := 8) d_Tokens_init_81 (by decide) ?_
  refine e_iload_n d_Tokens_init_83 rfl ?_
  refine e_imul d_Tokens_init_84 ?_
  refine e_nameI (y := 56) (by decide) ?_
  refine e_iload d_Tokens_init_85 rfl ?_
  refine e_iadd d_Tokens_init_87 ?_
  refine e_nameI (y := 59) (by decide) ?_
  refine e_cVXi (mt1 := m_Str_charAt) (v := 32) (M1 := p66.2) (As := [.int 59]) (st := []) d_Tokens_init_88 ml_Tokens_40 mv_Str_charAt (t_Str_charAt n 0 59 p66.2 (32, p66.2) rfl) (okl rfl) rfl rfl rfl (okp rfl) (okp rfl) (okp rfl) (okp rfl) (okp rfl) ?_
  refine e_istore (l2 := [some (.ref x0), some (.int 7), some (.long p66.1), none, some (.int 3), some (.int 32)]) d_Tokens_init_91 rfl (okl rfl) rfl ?_
  refine e_iload d_Tokens_init_93 rfl ?_
  refine e_bipush (v := 32) d_Tokens_init_95 (by decide) ?_
  refine e_ic_ne 104 d_Tokens_init_97 (by decide) (fun c9 => absurd c9 (by decide)) (fun _ => ?_)
  refine e_lload_n d_Tokens_init_100 rfl ?_
  refine e_goto 110 d_Tokens_init_101 (by decide) ?_
  refine e_lstore_n (l2 := [some (.ref x0), some (.int 7), some (.long p66.1), none, some (.int 3), some (.int 32)]) d_Tokens_init_110 rfl (okl rfl) rfl ?_
  refine e_iinc (v := 4) (l2 := [some (.ref x0), some (.int 7), some (.long p66.1), none, some (.int 4), some (.int 32)]) d_Tokens_init_111 rfl (by decide) rfl (okl rfl) rfl ?_
  refine e_goto 72 d_Tokens_init_114 (by decide) ?_
  refine e_iload d_Tokens_init_72 rfl ?_
  refine e_bipush (v := 8) d_Tokens_init_74 (by decide) ?_
  refine e_ic_ge 117 d_Tokens_init_76 (by decide) (fun c9 => absurd c9 (by decide)) (fun _ => ?_)
  refine e_ldcW d_Tokens_init_79 rfl ?_
  refine e_bipush (v := 8) d_Tokens_init_81 (by decide) ?_
  refine e_iload_n d_Tokens_init_83 rfl ?_
  refine e_imul d_Tokens_init_84 ?_
  refine e_nameI (y := 56) (by decide) ?_
  refine e_iload d_Tokens_init_85 rfl ?_
  refine e_iadd d_Tokens_init_87 ?_
  refine e_nameI (y := 60) (by decide) ?_
  refine e_cVXi (mt1 := m_Str_charAt) (v := 32) (M1 := p66.2) (As := [.int 60]) (st := []) d_Tokens_init_88 ml_Tokens_40 mv_Str_charAt (t_Str_charAt n 0 60 p66.2 (32, p66.2) rfl) (okl rfl) rfl rfl rfl (okp rfl) (okp rfl) (okp rfl) (okp rfl) (okp rfl) ?_
  refine e_istore (l2 := [some (.ref x0), some (.int 7), some (.long p66.1), none, some (.int 4), some (.int 32)]) d_Tokens_init_91 rfl (okl rfl) rfl ?_
  refine e_iload d_Tokens_init_93 rfl ?_
  refine e_bipush (v := 32) d_Tokens_init_95 (by decide) ?_
  refine e_ic_ne 104 d_Tokens_init_97 (by decide) (fun c9 => absurd c9 (by decide)) (fun _ => ?_)
  refine e_lload_n d_Tokens_init_100 rfl ?_
  refine e_goto 110 d_Tokens_init_101 (by decide) ?_
  refine e_lstore_n (l2 := [some (.ref x0), some (.int 7), some (.long p66.1), none, some (.int 4), some (.int 32)]) d_Tokens_init_110 rfl (okl rfl) rfl ?_
  refine e_iinc (v := 5) (l2 := [some (.ref x0), some (.int 7), some (.long p66.1), none, some (.int 5), some (.int 32)]) d_Tokens_init_111 rfl (by decide) rfl (okl rfl) rfl ?_
  refine e_goto 72 d_Tokens_init_114 (by decide) ?_
  refine e_iload d_Tokens_init_72 rfl ?_
  refine e_bipush (v := 8) d_Tokens_init_74 (by decide) ?_
  refine e_ic_ge 117 d_Tokens_init_76 (by decide) (fun c9 => absurd c9 (by decide)) (fun _ => ?_)
  refine e_ldcW d_Tokens_init_79 rfl ?_
  refine e_bipush (v := 8) d_Tokens_init_81 (by decide) ?_
  refine e_iload_n d_Tokens_init_83 rfl ?_
  refine e_imul d_Tokens_init_84 ?_
  refine e_nameI (y := 56) (by decide) ?_
  refine e_iload d_Tokens_init_85 rfl ?_
  refine e_iadd d_Tokens_init_87 ?_
  refine e_nameI (y := 61) (by decide) ?_
  refine e_cVXi (mt1 := m_Str_charAt) (v := 32) (M1 := p66.2) (As := [.int 61]) (st := []) d_Tokens_init_88 ml_Tokens_40 mv_Str_charAt (t_Str_charAt n 0 61 p66.2 (32, p66.2) rfl) (okl rfl) rfl rfl rfl (okp rfl) (okp rfl) (okp rfl) (okp rfl) (okp rfl) ?_
  refine e_istore (l2 := [some (.ref x0), some (.int 7), some (.long p66.1), none, some (.int 5), some (.int 32)]) d_Tokens_init_91 rfl (okl rfl) rfl ?_
  refine e_iload d_Tokens_init_93 rfl ?_
  refine e_bipush (v := 32) d_Tokens_init_95 (by decide) ?_
  refine e_ic_ne 104 d_Tokens_init_97 (by decide) (fun c9 => absurd c9 (by decide)) (fun _ => ?_)
  refine e_lload_n d_Tokens_init_100 rfl ?_
  refine e_goto 110 d_Tokens_init_101 (by decide) ?_
  refine e_lstore_n (l2 := [some (.ref x0), some (.int 7), some (.long p66.1), none, some (.int 5), some (.int 32)]) d_Tokens_init_110 rfl (okl rfl) rfl ?_
  refine e_iinc (v := 6) (l2 := [some (.ref x0), some (.int 7), some (.long p66.1), none, some (.int 6), some (.int 32)]) d_Tokens_init_111 rfl (by decide) rfl (okl rfl) rfl ?_
  refine e_goto 72 d_Tokens_init_114 (by decide) ?_
  refine e_iload d_Tokens_init_72 rfl ?_
  refine e_bipush (v := 8) d_Tokens_init_74 (by decide) ?_
  refine e_ic_ge 117 d_Tokens_init_76 (by decide) (fun c9 => absurd c9 (by decide)) (fun _ => ?_)
  refine e_ldcW d_Tokens_init_79 rfl ?_
  refine e_bipush (v := 8) d_Tokens_init_81 (by decide) ?_
  refine e_iload_n d_Tokens_init_83 rfl ?_
  refine e_imul d_Tokens_init_84 ?_
  refine e_nameI (y := 56) (by decide) ?_
  refine e_iload d_Tokens_init_85 rfl ?_
  refine e_iadd d_Tokens_init_87 ?_
  refine e_nameI (y := 62) (by decide) ?_
  refine e_cVXi (mt1 := m_Str_charAt) (v := 32) (M1 := p66.2) (As := [.int 62]) (st := []) d_Tokens_init_88 ml_Tokens_40 mv_Str_charAt (t_Str_charAt n 0 62 p66.2 (32, p66.2) rfl) (okl rfl) rfl rfl rfl (okp rfl) (okp rfl) (okp rfl) (okp rfl) (okp rfl) ?_
  refine e_istore (l2 := [some (.ref x0), some (.int 7), some (.long p66.1), none, some (.int 6), some (.int 32)]) d_Tokens_init_91 rfl (okl rfl) rfl ?_
  refine e_iload d_Tokens_init_93 rfl ?_
  refine e_bipush (v := 32) d_Tokens_init_95 (by decide) ?_
  refine e_ic_ne 104 d_Tokens_init_97 (by decide) (fun c9 => absurd c9 (by decide)) (fun _ => ?_)
  refine e_lload_n d_Tokens_init_100 rfl ?_
  refine e_goto 110 d_Tokens_init_101 (by decide) ?_
  refine e_lstore_n (l2 := [some (.ref x0), some (.int 7), some (.long p66.1), none, some (.int 6), some (.int 32)]) d_Tokens_init_110 rfl (okl rfl) rfl ?_
  refine e_iinc (v := 7) (l2 := [some (.ref x0), some (.int 7), some (.long p66.1), none, some (.int 7), some (.int 32)]) d_Tokens_init_111 rfl (by decide) rfl (okl rfl) rfl ?_
  refine e_goto 72 d_Tokens_init_114 (by decide) ?_
  refine e_iload d_Tokens_init_72 rfl ?_
  refine e_bipush (v := 8) d_Tokens_init_74 (by decide) ?_
  refine e_ic_ge 117 d_Tokens_init_76 (by decide) (fun c9 => absurd c9 (by decide)) (fun _ => ?_)
  refine e_ldcW d_Tokens_init_79 rfl ?_
  refine e_bipush (v := 8) d_Tokens_init_81 (by decide) ?_
  refine e_iload_n d_Tokens_init_83 rfl ?_
  refine e_imul d_Tokens_init_84 ?_
  refine e_nameI (y := 56) (by decide) ?_
  refine e_iload d_Tokens_init_85 rfl ?_
  refine e_iadd d_Tokens_init_87 ?_
  refine e_nameI (y := 63) (by decide) ?_
  refine e_cVXi (mt1 := m_Str_charAt) (v := 32) (M1 := p66.2) (As := [.int 63]) (st := []) d_Tokens_init_88 ml_Tokens_40 mv_Str_charAt (t_Str_charAt n 0 63 p66.2 (32, p66.2) rfl) (okl rfl) rfl rfl rfl (okp rfl) (okp rfl) (okp rfl) (okp rfl) (okp rfl) ?_
  refine e_istore (l2 := [some (.ref x0), some (.int 7), some (.long p66.1), none, some (.int 7), some (.int 32)]) d_Tokens_init_91 rfl (okl rfl) rfl ?_
  refine e_iload d_Tokens_init_93 rfl ?_
  refine e_bipush (v := 32) d_Tokens_init_95 (by decide) ?_
  refine e_ic_ne 104 d_Tokens_init_97 (by decide) (fun c9 => absurd c9 (by decide)) (fun _ => ?_)
  refine e_lload_n d_Tokens_init_100 rfl ?_
  refine e_goto 110 d_Tokens_init_101 (by decide) ?_
  refine e_lstore_n (l2 := [some (.ref x0), some (.int 7), some (.long p66.1), none, some (.int 7), some (.int 32)]) d_Tokens_init_110 rfl (okl rfl) rfl ?_
  refine e_iinc (v := 8) (l2 := [some (.ref x0), some (.int 7), some (.long p66.1), none, some (.int 8), some (.int 32)]) d_Tokens_init_111 rfl (by decide) rfl (okl rfl) rfl ?_
  refine e_goto 72 d_Tokens_init_114 (by decide) ?_
  refine e_iload d_Tokens_init_72 rfl ?_
  refine e_bipush (v := 8) d_Tokens_init_74 (by decide) ?_
  refine e_ic_ge 117 d_Tokens_init_76 (by decide) (fun _ => ?_) (fun c9 => absurd c9 (by decide))
  refine e_aload_n d_Tokens_init_117 rfl ?_
  obtain ⟨v67, hv67, h⟩ := bnd h
  refine e_getR d_Tokens_init_118 fl_Tokens_35 (fun _ _ _ => rfl) hv67 ?_
  refine e_iload_n d_Tokens_init_121 rfl ?_
  refine e_lload_n d_Tokens_init_122 rfl ?_
  obtain ⟨M68, hM68, h⟩ := bnd h
  refine e_last d_Tokens_init_123 hM68 ?_
  refine e_iinc (v := 8) (l2 := [some (.ref x0), some (.int 8), some (.long p66.1), none, some (.int 8), some (.int 32)]) d_Tokens_init_124 rfl (by decide) rfl (okl rfl) rfl ?_
  refine e_goto 61 d_Tokens_init_127 (by decide) ?_
  refine e_iload_n d_Tokens_init_61 rfl ?_
  refine e_bipush (v := 10) d_Tokens_init_62 (by decide) ?_
  refine e_ic_ge 130 d_Tokens_init_64 (by decide) (fun c9 => absurd c9 (by decide)) (fun _ => ?_)
  refine e_lconst (v := 0) d_Tokens_init_67 (by decide) ?_
  refine e_lstore_n (l2 := [some (.ref x0), some (.int 8), some (.long 0), none, some (.int 8), some (.int 32)]) d_Tokens_init_68 rfl (okl rfl) rfl ?_
  refine e_iconst (v := 0) d_Tokens_init_69 (by decide) ?_
  refine e_istore (l2 := [some (.ref x0), some (.int 8), some (.long 0), none, some (.int 0), some (.int 32)]) d_Tokens_init_70 rfl (okl rfl) rfl ?_
  refine e_iload d_Tokens_init_72 rfl ?_
  refine e_bipush (v := 8) d_Tokens_init_74 (by decide) ?_
  refine e_ic_ge 117 d_Tokens_init_76 (by decide) (fun c9 => absurd c9 (by decide)) (fun _ => ?_)
  refine e_ldcW d_Tokens_init_79 rfl ?_
  refine e_bipush (v := 8) d_Tokens_init_81 (by decide) ?_
  refine e_iload_n d_Tokens_init_83 rfl ?_
  refine e_imul d_Tokens_init_84 ?_
  refine e_nameI (y := 64) (by decide) ?_
  refine e_iload d_Tokens_init_85 rfl ?_
  refine e_iadd d_Tokens_init_87 ?_
  refine e_nameI (y := 64) (by decide) ?_
  refine e_cVXi (mt1 := m_Str_charAt) (v := 104) (M1 := M68) (As := [.int 64]) (st := []) d_Tokens_init_88 ml_Tokens_40 mv_Str_charAt (t_Str_charAt n 0 64 M68 (104, M68) rfl) (okl rfl) rfl rfl rfl (okp rfl) (okp rfl) (okp rfl) (okp rfl) (okp rfl) ?_
  refine e_istore (l2 := [some (.ref x0), some (.int 8), some (.long 0), none, some (.int 0), some (.int 104)]) d_Tokens_init_91 rfl (okl rfl) rfl ?_
  refine e_iload d_Tokens_init_93 rfl ?_
  refine e_bipush (v := 32) d_Tokens_init_95 (by decide) ?_
  refine e_ic_ne 104 d_Tokens_init_97 (by decide) (fun _ => ?_) (fun c9 => absurd c9 (by decide))
  refine e_lload_n d_Tokens_init_104 rfl ?_
  refine e_iload d_Tokens_init_105 rfl ?_
  obtain ⟨p69, hp69, h⟩ := bnd h
  refine e_cSl (mt1 := m_Tokens_withLetter) (As := [.long 0, .int 104]) (st := []) d_Tokens_init_107 ml_Tokens_46 ms_Tokens_withLetter (t_Tokens_withLetter n 0 104 M68 p69 hp69) rfl rfl (okp rfl) (okp rfl) (okp rfl) (okp rfl) (okp rfl) ?_
  refine e_lstore_n (l2 := [some (.ref x0), some (.int 8), some (.long p69.1), none, some (.int 0), some (.int 104)]) d_Tokens_init_110 rfl (okl rfl) rfl ?_
  refine e_iinc (v := 1) (l2 := [some (.ref x0), some (.int 8), some (.long p69.1), none, some (.int 1), some (.int 104)]) d_Tokens_init_111 rfl (by decide) rfl (okl rfl) rfl ?_
  refine e_goto 72 d_Tokens_init_114 (by decide) ?_
  refine e_iload d_Tokens_init_72 rfl ?_
  refine e_bipush (v := 8) d_Tokens_init_74 (by decide) ?_
  refine e_ic_ge 117 d_Tokens_init_76 (by decide) (fun c9 => absurd c9 (by decide)) (fun _ => ?_)
  refine e_ldcW d_Tokens_init_79 rfl ?_
  refine e_bipush (v := 8) d_Tokens_init_81 (by decide) ?_
  refine e_iload_n d_Tokens_init_83 rfl ?_
  refine e_imul d_Tokens_init_84 ?_
  refine e_nameI (y := 64) (by decide) ?_
  refine e_iload d_Tokens_init_85 rfl ?_
  refine e_iadd d_Tokens_init_87 ?_
  refine e_nameI (y := 65) (by decide) ?_
  refine e_cVXi (mt1 := m_Str_charAt) (v := 97) (M1 := p69.2) (As := [.int 65]) (st := []) d_Tokens_init_88 ml_Tokens_40 mv_Str_charAt (t_Str_charAt n 0 65 p69.2 (97, p69.2) rfl) (okl rfl) rfl rfl rfl (okp rfl) (okp rfl) (okp rfl) (okp rfl) (okp rfl) ?_
  refine e_istore (l2 := [some (.ref x0), some (.int 8), some (.long p69.1), none, some (.int 1), some (.int 97)]) d_Tokens_init_91 rfl (okl rfl) rfl ?_
  refine e_iload d_Tokens_init_93 rfl ?_
  refine e_bipush (v := 32) d_Tokens_init_95 (by decide) ?_
  refine e_ic_ne 104 d_Tokens_init_97 (by decide) (fun _ => ?_) (fun c9 => absurd c9 (by decide))
  refine e_lload_n d_Tokens_init_104 rfl ?_
  refine e_iload d_Tokens_init_105 rfl ?_
  obtain ⟨p70, hp70, h⟩ := bnd h
  refine e_cSl (mt1 := m_Tokens_withLetter) (As := [.long p69.1, .int 97]) (st := []) d_Tokens_init_107 ml_Tokens_46 ms_Tokens_withLetter (t_Tokens_withLetter n p69.1 97 p69.2 p70 hp70) rfl rfl (okp rfl) (okp rfl) (okp rfl) (okp rfl) (okp rfl) ?_
  refine e_lstore_n (l2 := [some (.ref x0), some (.int 8), some (.long p70.1), none, some (.int 1), some (.int 97)]) d_Tokens_init_110 rfl (okl rfl) rfl ?_
  refine e_iinc (v := 2) (l2 := [some (.ref x0), some (.int 8), some (.long p70.1), none, some (.int 2), some (.int 97)]) d_Tokens_init_111 rfl (by decide) rfl (okl rfl) rfl ?_
  refine e_goto 72 d_Tokens_init_114 (by decide) ?_
  refine e_iload d_Tokens_init_72 rfl ?_
  refine e_bipush (v := 8) d_Tokens_init_74 (by decide) ?_
  refine e_ic_ge 117 d_Tokens_init_76 (by decide) (fun c9 => absurd c9 (by decide)) (fun _ => ?_)
  refine e_ldcW d_Tokens_init_79 rfl ?_
  refine e_bipush (v := 8) d_Tokens_init_81 (by decide) ?_
  refine e_iload_n d_Tokens_init_83 rfl ?_
  refine e_imul d_Tokens_init_84 ?_
  refine e_nameI (y := 64) (by decide) ?_
  refine e_iload d_Tokens_init_85 rfl ?_
  refine e_iadd d_Tokens_init_87 ?_
  refine e_nameI (y := 66) (by decide) ?_
  refine e_cVXi (mt1 := m_Str_charAt) (v := 108) (M1 := p70.2) (As := [.int 66]) (st := []) d_Tokens_init_88 ml_Tokens_40 mv_Str_charAt (t_Str_charAt n 0 66 p70.2 (108, p70.2) rfl) (okl rfl) rfl rfl rfl (okp rfl) (okp rfl) (okp rfl) (okp rfl) (okp rfl) ?_
  refine e_istore (l2 := [some (.ref x0), some (.int 8), some (.long p70.1), none, some (.int 2), some (.int 108)]) d_Tokens_init_91 rfl (okl rfl) rfl ?_
  refine e_iload d_Tokens_init_93 rfl ?_
  refine e_bipush (v := 32) d_Tokens_init_95 (by decide) ?_
  refine e_ic_ne 104 d_Tokens_init_97 (by decide) (fun _ => ?_) (fun c9 => absurd c9 (by decide))
  refine e_lload_n d_Tokens_init_104 rfl ?_
  refine e_iload d_Tokens_init_105 rfl ?_
  obtain ⟨p71, hp71, h⟩ := bnd h
  refine e_cSl (mt1 := m_Tokens_withLetter) (As := [.long p70.1, .int 108]) (st := []) d_Tokens_init_107 ml_Tokens_46 ms_Tokens_withLetter (t_Tokens_withLetter n p70.1 108 p70.2 p71 hp71) rfl rfl (okp rfl) (okp rfl) (okp rfl) (okp rfl) (okp rfl) ?_
  refine e_lstore_n (l2 := [some (.ref x0), some (.int 8), some (.long p71.1), none, some (.int 2), some (.int 108)]) d_Tokens_init_110 rfl (okl rfl) rfl ?_
  refine e_iinc (v := 3) (l2 := [some (.ref x0), some (.int 8), some (.long p71.1), none, some (.int 3), some (.int 108)]) d_Tokens_init_111 rfl (by decide) rfl (okl rfl) rfl ?_
  refine e_goto 72 d_Tokens_init_114 (by decide) ?_
  refine e_iload d_Tokens_init_72 rfl ?_
  refine e_bipush (v := 8) d_Tokens_init_74 (by decide) ?_
  refine e_ic_ge 117 d_Tokens_init_76 (by decide) (fun c9 => absurd c9 (by decide)) (fun _ => ?_)
  refine e_ldcW d_Tokens_init_79 rfl ?_
  refine e_bipush (v := 8) d_Tokens_init_81 (by decide) ?_
  refine e_iload_n d_Tokens_init_83 rfl ?_
  refine e_imul d_Tokens_init_84 ?_
  refine e_nameI (y := 64) (by decide) ?_
  refine e_iload d_Tokens_init_85 rfl ?_
  refine e_iadd d_Tokens_init_87 ?_
  refine e_nameI (y := 67) (by decide) ?_
  refine e_cVXi (mt1 := m_Str_charAt) (v := 102) (M1 := p71.2) (As := [.int 67]) (st := []) d_Tokens_init_88 ml_Tokens_40 mv_Str_charAt (t_Str_charAt n 0 67 p71.2 (102, p71.2) rfl) (okl rfl) rfl rfl rfl (okp rfl) (okp rfl) (okp rfl) (okp rfl) (okp rfl) ?_
  refine e_istore (l2 := [some (.ref x0), some (.int 8), some (.long p71.1), none, some (.int 3), some (.int 102)]) d_Tokens_init_91 rfl (okl rfl) rfl ?_
  refine e_iload d_Tokens_init_93 rfl ?_
  refine e_bipush (v := 32) d_Tokens_init_95 (by decide) ?_
  refine e_ic_ne 104 d_Tokens_init_97 (by decide) (fun _ => ?_) (fun c9 => absurd c9 (by decide))
  refine e_lload_n d_Tokens_init_104 rfl ?_
  refine e_iload d_Tokens_init_105 rfl ?_
  obtain ⟨p72, hp72, h⟩ := bnd h
  refine e_cSl (mt1 := m_Tokens_withLetter) (As := [.long p71.1, .int 102]) (st := []) d_Tokens_init_107 ml_Tokens_46 ms_Tokens_withLetter (t_Tokens_withLetter n p71.1 102 p71.2 p72 hp72) rfl rfl (okp rfl) (okp rfl) (okp rfl) (okp rfl) (okp rfl) ?_
  refine e_lstore_n (l2 := [some (.ref x0), some (.int 8), some (.long p72.1), none, some (.int 3), some (.int 102)]) d_Tokens_init_110 rfl (okl rfl) rfl ?_
  refine e_iinc (v := 4) (l2 := [some (.ref x0), some (.int 8), some (.long p72.1), none, some (.int 4), some (.int 102)]) d_Tokens_init_111 rfl (by decide) rfl (okl rfl) rfl ?_
  refine e_goto 72 d_Tokens_init_114 (by decide) ?_
  refine e_iload d_Tokens_init_72 rfl ?_
  refine e_bipush (v := 8) d_Tokens_init_74 (by decide) ?_
  refine e_ic_ge 117 d_Tokens_init_76 (by decide) (fun c9 => absurd c9 (by decide)) (fun _ => ?_)
  refine e_ldcW d_Tokens_init_79 rfl ?_
  refine e_bipush (v := 8) d_Tokens_init_81 (by decide) ?_
  refine e_iload_n d_Tokens_init_83 rfl ?_
  refine e_imul d_Tokens_init_84 ?_
  refine e_nameI (y := 64) (by decide) ?_
  refine e_iload d_Tokens_init_85 rfl ?_
  refine e_iadd d_Tokens_init_87 ?_
  refine e_nameI (y := 68) (by decide) ?_
  refine e_cVXi (mt1 := m_Str_charAt) (v := 32) (M1 := p72.2) (As := [.int 68]) (st := []) d_Tokens_init_88 ml_Tokens_40 mv_Str_charAt (t_Str_charAt n 0 68 p72.2 (32, p72.2) rfl) (okl rfl) rfl rfl rfl (okp rfl) (okp rfl) (okp rfl) (okp rfl) (okp rfl) ?_
  refine e_istore (l2 := [some (.ref x0), some (.int 8), some (.long p72.1), none, some (.int 4), some (.int 32)]) d_Tokens_init_91 rfl (okl rfl) rfl ?_
  refine e_iload d_Tokens_init_93 rfl ?_
  refine e_bipush (v := 32) d_Tokens_init_95 (by decide) ?_
  refine e_ic_ne 104 d_Tokens_init_97 (by decide) (fun c9 => absurd c9 (by decide)) (fun _ => ?_)
  refine e_lload_n d_Tokens_init_100 rfl ?_
  refine e_goto 110 d_Tokens_init_101 (by decide) ?_
  refine e_lstore_n (l2 := [some (.ref x0), some (.int 8), some (.long p72.1), none, some (.int 4), some (.int 32)]) d_Tokens_init_110 rfl (okl rfl) rfl ?_
  refine e_iinc (v := 5) (l2 := [some (.ref x0), some (.int 8), some (.long p72.1), none, some (.int 5), some (.int 32)]) d_Tokens_init_111 rfl (by decide) rfl (okl rfl) rfl ?_
  refine e_goto 72 d_Tokens_init_114 (by decide) ?_
  refine e_iload d_Tokens_init_72 rfl ?_
  refine e_bipush (v := 8) d_Tokens_init_74 (by decide) ?_
  refine e_ic_ge 117 d_Tokens_init_76 (by decide) (fun c9 => absurd c9 (by decide)) (fun _ => ?_)
  refine e_ldcW d_Tokens_init_79 rfl ?_
  refine e_bipush (v := 8) d_Tokens_init_81 (by decide) ?_
  refine e_iload_n d_Tokens_init_83 rfl ?_
  refine e_imul d_Tokens_init_84 ?_
  refine e_nameI (y := 64) (by decide) ?_
  refine e_iload d_Tokens_init_85 rfl ?_
  refine e_iadd d_Tokens_init_87 ?_
  refine e_nameI (y := 69) (by decide) ?_
  refine e_cVXi (mt1 := m_Str_charAt) (v := 32) (M1 := p72.2) (As := [.int 69]) (st := []) d_Tokens_init_88 ml_Tokens_40 mv_Str_charAt (t_Str_charAt n 0 69 p72.2 (32, p72.2) rfl) (okl rfl) rfl rfl rfl (okp rfl) (okp rfl) (okp rfl) (okp rfl) (okp rfl) ?_
  refine e_istore (l2 := [some (.ref x0), some (.int 8), some (.long p72.1), none, some (.int 5), some (.int 32)]) d_Tokens_init_91 rfl (okl rfl) rfl ?_
  refine e_iload d_Tokens_init_93 rfl ?_
  refine e_bipush (v := 32) d_Tokens_init_95 (by decide) ?_
  refine e_ic_ne 104 d_Tokens_init_97 (by decide) (fun c9 => absurd c9 (by decide)) (fun _ => ?_)
  refine e_lload_n d_Tokens_init_100 rfl ?_
  refine e_goto 110 d_Tokens_init_101 (by decide) ?_
  refine e_lstore_n (l2 := [some (.ref x0), some (.int 8), some (.long p72.1), none, some (.int 5), some (.int 32)]) d_Tokens_init_110 rfl (okl rfl) rfl ?_
  refine e_iinc (v := 6) (l2 := [some (.ref x0), some (.int 8), some (.long p72.1), none, some (.int 6), some (.int 32)]) d_Tokens_init_111 rfl (by decide) rfl (okl rfl) rfl ?_
  refine e_goto 72 d_Tokens_init_114 (by decide) ?_
  refine e_iload d_Tokens_init_72 rfl ?_
  refine e_bipush (v := 8) d_Tokens_init_74 (by decide) ?_
  refine e_ic_ge 117 d_Tokens_init_76 (by decide) (fun c9 => absurd c9 (by decide)) (fun _ => ?_)
  refine e_ldcW d_Tokens_init_79 rfl ?_
  refine e_bipush (v := 8) d_Tokens_init_81 (by decide) ?_
  refine e_iload_n d_Tokens_init_83 rfl ?_
  refine e_imul d_Tokens_init_84 ?_
  refine e_nameI (y := 64) (by decide) ?_
  refine e_iload d_Tokens_init_85 rfl ?_
  refine e_iadd d_Tokens_init_87 ?_
  refine e_nameI (y := 70) (by decide) ?_
  refine e_cVXi (mt1 := m_Str_charAt) (v := 32) (M1 := p72.2) (As := [.int 70]) (st := []) d_Tokens_init_88 ml_Tokens_40 mv_Str_charAt (t_Str_charAt n 0 70 p72.2 (32, p72.2) rfl) (okl rfl) rfl rfl rfl (okp rfl) (okp rfl) (okp rfl) (okp rfl) (okp rfl) ?_
  refine e_istore (l2 := [some (.ref x0), some (.int 8), some (.long p72.1), none, some (.int 6), some (.int 32)]) d_Tokens_init_91 rfl (okl rfl) rfl ?_
  refine e_iload d_Tokens_init_93 rfl ?_
  refine e_bipush (v := 32) d_Tokens_init_95 (by decide) ?_
  refine e_ic_ne 104 d_Tokens_init_97 (by decide) (fun c9 => absurd c9 (by decide)) (fun _ => ?_)
  refine e_lload_n d_Tokens_init_100 rfl ?_
  refine e_goto 110 d_Tokens_init_101 (by decide) ?_
  refine e_lstore_n (l2 := [some (.ref x0), some (.int 8), some (.long p72.1), none, some (.int 6), some (.int 32)]) d_Tokens_init_110 rfl (okl rfl) rfl ?_
  refine e_iinc (v := 7) (l2 := [some (.ref x0), some (.int 8), some (.long p72.1), none, some (.int 7), some (.int 32)]) d_Tokens_init_111 rfl (by decide) rfl (okl rfl) rfl ?_
  refine e_goto 72 d_Tokens_init_114 (by decide) ?_
  refine e_iload d_Tokens_init_72 rfl ?_
  refine e_bipush (v := 8) d_Tokens_init_74 (by decide) ?_
  refine e_ic_ge 117 d_Tokens_init_76 (by decide) (fun c9 => absurd c9 (by decide)) (fun _ => ?_)
  refine e_ldcW d_Tokens_init_79 rfl ?_
  refine e_bipush (v := 8) d_Tokens_init_81 (by decide) ?_
  refine e_iload_n d_Tokens_init_83 rfl ?_
  refine e_imul d_Tokens_init_84 ?_
  refine e_nameI (y := 64) (by decide) ?_
  refine e_iload d_Tokens_init_85 rfl ?_
  refine e_iadd d_Tokens_init_87 ?_
  refine e_nameI (y := 71) (by decide) ?_
  refine e_cVXi (mt1 := m_Str_charAt) (v := 32) (M1 := p72.2) (As := [.int 71]) (st := []) d_Tokens_init_88 ml_Tokens_40 mv_Str_charAt (t_Str_charAt n 0 71 p72.2 (32, p72.2) rfl) (okl rfl) rfl rfl rfl (okp rfl) (okp rfl) (okp rfl) (okp rfl) (okp rfl) ?_
  refine e_istore (l2 := [some (.ref x0), some (.int 8), some (.long p72.1), none, some (.int 7), some (.int 32)]) d_Tokens_init_91 rfl (okl rfl) rfl ?_
  refine e_iload d_Tokens_init_93 rfl ?_
  refine e_bipush (v := 32) d_Tokens_init_95 (by decide) ?_
  refine e_ic_ne 104 d_Tokens_init_97 (by decide) (fun c9 => absurd c9 (by decide)) (fun _ => ?_)
  refine e_lload_n d_Tokens_init_100 rfl ?_
  refine e_goto 110 d_Tokens_init_101 (by decide) ?_
  refine e_lstore_n (l2 := [some (.ref x0), some (.int 8), some (.long p72.1), none, some (.int 7), some (.int 32)]) d_Tokens_init_110 rfl (okl rfl) rfl ?_
  refine e_iinc (v := 8) (l2 := [some (.ref x0), some (.int 8), some (.long p72.1), none, some (.int 8), some (.int 32)]) d_Tokens_init_111 rfl (by decide) rfl (okl rfl) rfl ?_
  refine e_goto 72 d_Tokens_init_114 (by decide) ?_
  refine e_iload d_Tokens_init_72 rfl ?_
  refine e_bipush (v := 8) d_Tokens_init_74 (by decide) ?_
  refine e_ic_ge 117 d_Tokens_init_76 (by decide) (fun _ => ?_) (fun c9 => absurd c9 (by decide))
  refine e_aload_n d_Tokens_init_117 rfl ?_
  obtain ⟨v73, hv73, h⟩ := bnd h
  refine e_getR d_Tokens_init_118 fl_Tokens_35 (fun _ _ _ => rfl) hv73 ?_
  refine e_iload_n d_Tokens_init_121 rfl ?_
  refine e_lload_n d_Tokens_init_122 rfl ?_
  obtain ⟨M74, hM74, h⟩ := bnd h
  refine e_last d_Tokens_init_123 hM74 ?_
  refine e_iinc (v := 9) (l2 := [some (.ref x0), some (.int 9), some (.long p72.1), none, some (.int 8), some (.int 32)]) d_Tokens_init_124 rfl (by decide) rfl (okl rfl) rfl ?_
  refine e_goto 61 d_Tokens_init_127 (by decide) ?_
  refine e_iload_n d_Tokens_init_61 rfl ?_
  refine e_bipush (v := 10) d_Tokens_init_62 (by decide) ?_
  refine e_ic_ge 130 d_Tokens_init_64 (by decide) (fun c9 => absurd c9 (by decide)) (fun _ => ?_)
  refine e_lconst (v := 0) d_Tokens_init_67 (by decide) ?_
  refine e_lstore_n (l2 := [some (.ref x0), some (.int 9), some (.long 0), none, some (.int 8), some (.int 32)]) d_Tokens_init_68 rfl (okl rfl) rfl ?_
  refine e_iconst (v := 0) d_Tokens_init_69 (by decide) ?_
  refine e_istore (l2 := [some (.ref x0), some (.int 9), some (.long 0), none, some (.int 0), some (.int 32)]) d_Tokens_init_70 rfl (okl rfl) rfl ?_
  refine e_iload d_Tokens_init_72 rfl ?_
  refine e_bipush (v := 8) d_Tokens_init_74 (by decide) ?_
  refine e_ic_ge 117 d_Tokens_init_76 (by decide) (fun c9 => absurd c9 (by decide)) (fun _ => ?_)
  refine e_ldcW d_Tokens_init_79 rfl ?_
  refine e_bipush (v := 8) d_Tokens_init_81 (by decide) ?_
  refine e_iload_n d_Tokens_init_83 rfl ?_
  refine e_imul d_Tokens_init_84 ?_
  refine e_nameI (y := 72) (by decide) ?_
  refine e_iload d_Tokens_init_85 rfl ?_
  refine e_iadd d_Tokens_init_87 ?_
  refine e_nameI (y := 72) (by decide) ?_
  refine e_cVXi (mt1 := m_Str_charAt) (v := 113) (M1 := M74) (As := [.int 72]) (st := []) d_Tokens_init_88 ml_Tokens_40 mv_Str_charAt (t_Str_charAt n 0 72 M74 (113, M74) rfl) (okl rfl) rfl rfl rfl (okp rfl) (okp rfl) (okp rfl) (okp rfl) (okp rfl) ?_
  refine e_istore (l2 := [some (.ref x0), some (.int 9), some (.long 0), none, some (.int 0), some (.int 113)]) d_Tokens_init_91 rfl (okl rfl) rfl ?_
  refine e_iload d_Tokens_init_93 rfl ?_
  refine e_bipush (v := 32) d_Tokens_init_95 (by decide) ?_
  refine e_ic_ne 104 d_Tokens_init_97 (by decide) (fun _ => ?_) (fun c9 => absurd c9 (by decide))
  refine e_lload_n d_Tokens_init_104 rfl ?_
  refine e_iload d_Tokens_init_105 rfl ?_
  obtain ⟨p75, hp75, h⟩ := bnd h
  refine e_cSl (mt1 := m_Tokens_withLetter) (As := [.long 0, .int 113]) (st := []) d_Tokens_init_107 ml_Tokens_46 ms_Tokens_withLetter (t_Tokens_withLetter n 0 113 M74 p75 hp75) rfl rfl (okp rfl) (okp rfl) (okp rfl) (okp rfl) (okp rfl) ?_
  refine e_lstore_n (l2 := [some (.ref x0), some (.int 9), some (.long p75.1), none, some (.int 0), some (.int 113)]) d_Tokens_init_110 rfl (okl rfl) rfl ?_
  refine e_iinc (v := 1) (l2 := [some (.ref x0), some (.int 9), some (.long p75.1), none, some (.int 1), some (.int 113)]) d_Tokens_init_111 rfl (by decide) rfl (okl rfl) rfl ?_
  refine e_goto 72 d_Tokens_init_114 (by decide) ?_
  refine e_iload d_Tokens_init_72 rfl ?_
  refine e_bipush (v := 8) d_Tokens_init_74 (by decide) ?_
  refine e_ic_ge 117 d_Tokens_init_76 (by decide) (fun c9 => absurd c9 (by decide)) (fun _ => ?_)
  refine e_ldcW d_Tokens_init_79 rfl ?_
  refine e_bipush (v := 8) d_Tokens_init_81 (by decide) ?_
  refine e_iload_n d_Tokens_init_83 rfl ?_
  refine e_imul d_Tokens_init_84 ?_
  refine e_nameI (y := 72) (by decide) ?_
  refine e_iload d_Tokens_init_85 rfl ?_
  refine e_iadd d_Tokens_init_87 ?_
  refine e_nameI (y := 73) (by decide) ?_
  refine e_cVXi (mt1 := m_Str_charAt) (v := 117) (M1 := p75.2) (As := [.int 73]) (st := []) d_Tokens_init_88 ml_Tokens_40 mv_Str_charAt (t_Str_charAt n 0 73 p75.2 (117, p75.2) rfl) (okl rfl) rfl rfl rfl (okp rfl) (okp rfl) (okp rfl) (okp rfl) (okp rfl) ?_
  refine e_istore (l2 := [some (.ref x0), some (.int 9), some (.long p75.1), none, some (.int 1), some (.int 117)]) d_Tokens_init_91 rfl (okl rfl) rfl ?_
  refine e_iload d_Tokens_init_93 rfl ?_
  refine e_bipush (v := 32) d_Tokens_init_95 (by decide) ?_
  refine e_ic_ne 104 d_Tokens_init_97 (by decide) (fun _ => ?_) (fun c9 => absurd c9 (by decide))
  refine e_lload_n d_Tokens_init_104 rfl ?_
  refine e_iload d_Tokens_init_105 rfl ?_
  obtain ⟨p76, hp76, h⟩ := bnd h
  refine e_cSl (mt1 := m_Tokens_withLetter) (As := [.long p75.1, .int 117]) (st := []) d_Tokens_init_107 ml_Tokens_46 ms_Tokens_withLetter (t_Tokens_withLetter n p75.1 117 p75.2 p76 hp76) rfl rfl (okp rfl) (okp rfl) (okp rfl) (okp rfl) (okp rfl) ?_
  refine e_lstore_n (l2 := [some (.ref x0), some (.int 9), some (.long p76.1), none, some (.int 1), some (.int 117)]) d_Tokens_init_110 rfl (okl rfl) rfl ?_
  refine e_iinc (v := 2) (l2 := [some (.ref x0), some (.int 9), some (.long p76.1), none, some (.int 2), some (.int 117)]) d_Tokens_init_111 rfl (by decide) rfl (okl rfl) rfl ?_
  refine e_goto 72 d_Tokens_init_114 (by decide) ?_
  refine e_iload d_Tokens_init_72 rfl ?_
  refine e_bipush (v := 8) d_Tokens_init_74 (by decide) ?_
  refine e_ic_ge 117 d_Tokens_init_76 (by decide) (fun c9 => absurd c9 (by decide)) (fun _ => ?_)
  refine e_ldcW d_Tokens_init_79 rfl ?_
  refine e_bipush (v := 8) d_Tokens_init_81 (by decide) ?_
  refine e_iload_n d_Tokens_init_83 rfl ?_
  refine e_imul d_Tokens_init_84 ?_
  refine e_nameI (y := 72) (by decide) ?_
  refine e_iload d_Tokens_init_85 rfl ?_
  refine e_iadd d_Tokens_init_87 ?_
  refine e_nameI (y := 74) (by decide) ?_
  refine e_cVXi (mt1 := m_Str_charAt) (v := 97) (M1 := p76.2) (As := [.int 74]) (st := []) d_Tokens_init_88 ml_Tokens_40 mv_Str_charAt (t_Str_charAt n 0 74 p76.2 (97, p76.2) rfl) (okl rfl) rfl rfl rfl (okp rfl) (okp rfl) (okp rfl) (okp rfl) (okp rfl) ?_
  refine e_istore (l2 := [some (.ref x0), some (.int 9), some (.long p76.1), none, some (.int 2), some (.int 97)]) d_Tokens_init_91 rfl (okl rfl) rfl ?_
  refine e_iload d_Tokens_init_93 rfl ?_
  refine e_bipush (v := 32) d_Tokens_init_95 (by decide) ?_
  refine e_ic_ne 104 d_Tokens_init_97 (by decide) (fun _ => ?_) (fun c9 => absurd c9 (by decide))
  refine e_lload_n d_Tokens_init_104 rfl ?_
  refine e_iload d_Tokens_init_105 rfl ?_
  obtain ⟨p77, hp77, h⟩ := bnd h
  refine e_cSl (mt1 := m_Tokens_withLetter) (As := [.long p76.1, .int 97]) (st := []) d_Tokens_init_107 ml_Tokens_46 ms_Tokens_withLetter (t_Tokens_withLetter n p76.1 97 p76.2 p77 hp77) rfl rfl (okp rfl) (okp rfl) (okp rfl) (okp rfl) (okp rfl) ?_
  refine e_lstore_n (l2 := [some (.ref x0), some (.int 9), some (.long p77.1), none, some (.int 2), some (.int 97)]) d_Tokens_init_110 rfl (okl rfl) rfl ?_
  refine e_iinc (v := 3) (l2 := [some (.ref x0), some (.int 9), some (.long p77.1), none, some (.int 3), some (.int 97)]) d_Tokens_init_111 rfl (by decide) rfl (okl rfl) rfl ?_
  refine e_goto 72 d_Tokens_init_114 (by decide) ?_
  refine e_iload d_Tokens_init_72 rfl ?_
  refine e_bipush (v := 8) d_Tokens_init_74 (by decide) ?_
  refine e_ic_ge 117 d_Tokens_init_76 (by decide) (fun c9 => absurd c9 (by decide)) (fun _ => ?_)
  refine e_ldcW d_Tokens_init_79 rfl ?_
  refine e_bipush (v := 8) d_Tokens_init_81 (by decide) ?_
  refine e_iload_n d_Tokens_init_83 rfl ?_
  refine e_imul d_Tokens_init_84 ?_
  refine e_nameI (y := 72) (by decide) ?_
  refine e_iload d_Tokens_init_85 rfl ?_
  refine e_iadd d_Tokens_init_87 ?_
  refine e_nameI (y := 75) (by decide) ?_
  refine e_cVXi (mt1 := m_Str_charAt) (v := 114) (M1 := p77.2) (As := [.int 75]) (st := []) d_Tokens_init_88 ml_Tokens_40 mv_Str_charAt (t_Str_charAt n 0 75 p77.2 (114, p77.2) rfl) (okl rfl) rfl rfl rfl (okp rfl) (okp rfl) (okp rfl) (okp rfl) (okp rfl) ?_
  refine e_istore (l2 := [some (.ref x0), some (.int 9), some (.long p77.1), none, some (.int 3), some (.int 114)]) d_Tokens_init_91 rfl (okl rfl) rfl ?_
  refine e_iload d_Tokens_init_93 rfl ?_
  refine e_bipush (v := 32) d_Tokens_init_95 (by decide) ?_
  refine e_ic_ne 104 d_Tokens_init_97 (by decide) (fun _ => ?_) (fun c9 => absurd c9 (by decide))
  refine e_lload_n d_Tokens_init_104 rfl ?_
  refine e_iload d_Tokens_init_105 rfl ?_
  obtain ⟨p78, hp78, h⟩ := bnd h
  refine e_cSl (mt1 := m_Tokens_withLetter) (As := [.long p77.1, .int 114]) (st := []) d_Tokens_init_107 ml_Tokens_46 ms_Tokens_withLetter (t_Tokens_withLetter n p77.1 114 p77.2 p78 hp78) rfl rfl (okp rfl) (okp rfl) (okp rfl) (okp rfl) (okp rfl) ?_
  refine e_lstore_n (l2 := [some (.ref x0), some (.int 9), some (.long p78.1), none, some (.int 3), some (.int 114)]) d_Tokens_init_110 rfl (okl rfl) rfl ?_
  refine e_iinc (v := 4) (l2 := [some (.ref x0), some (.int 9), some (.long p78.1), none, some (.int 4), some (.int 114)]) d_Tokens_init_111 rfl (by decide) rfl (okl rfl) rfl ?_
  refine e_goto 72 d_Tokens_init_114 (by decide) ?_
  refine e_iload d_Tokens_init_72 rfl ?_
  refine e_bipush (v := 8) d_Tokens_init_74 (by decide) ?_
  refine e_ic_ge 117 d_Tokens_init_76 (by decide) (fun c9 => absurd c9 (by decide)) (fun _ => ?_)
  refine e_ldcW d_Tokens_init_79 rfl ?_
  refine e_bipush (v := 8) d_Tokens_init_81 (by decide) ?_
  refine e_iload_n d_Tokens_init_83 rfl ?_
  refine e_imul d_Tokens_init_84 ?_
  refine e_nameI (y := 72) (by decide) ?_
  refine e_iload d_Tokens_init_85 rfl ?_
  refine e_iadd d_Tokens_init_87 ?_
  refine e_nameI (y := 76) (by decide) ?_
  refine e_cVXi (mt1 := m_Str_charAt) (v := 116) (M1 := p78.2) (As := [.int 76]) (st := []) d_Tokens_init_88 ml_Tokens_40 mv_Str_charAt (t_Str_charAt n 0 76 p78.2 (116, p78.2) rfl) (okl rfl) rfl rfl rfl (okp rfl) (okp rfl) (okp rfl) (okp rfl) (okp rfl) ?_
  refine e_istore (l2 := [some (.ref x0), some (.int 9), some (.long p78.1), none, some (.int 4), some (.int 116)]) d_Tokens_init_91 rfl (okl rfl) rfl ?_
  refine e_iload d_Tokens_init_93 rfl ?_
  refine e_bipush (v := 32) d_Tokens_init_95 (by decide) ?_
  refine e_ic_ne 104 d_Tokens_init_97 (by decide) (fun _ => ?_) (fun c9 => absurd c9 (by decide))
  refine e_lload_n d_Tokens_init_104 rfl ?_
  refine e_iload d_Tokens_init_105 rfl ?_
  obtain ⟨p79, hp79, h⟩ := bnd h
  refine e_cSl (mt1 := m_Tokens_withLetter) (As := [.long p78.1, .int 116]) (st := []) d_Tokens_init_107 ml_Tokens_46 ms_Tokens_withLetter (t_Tokens_withLetter n p78.1 116 p78.2 p79 hp79) rfl rfl (okp rfl) (okp rfl) (okp rfl) (okp rfl) (okp rfl) ?_
  refine e_lstore_n (l2 := [some (.ref x0), some (.int 9), some (.long p79.1), none, some (.int 4), some (.int 116)]) d_Tokens_init_110 rfl (okl rfl) rfl ?_
  refine e_iinc (v := 5) (l2 := [some (.ref x0), some (.int 9), some (.long p79.1), none, some (.int 5), some (.int 116)]) d_Tokens_init_111 rfl (by decide) rfl (okl rfl) rfl ?_
  refine e_goto 72 d_Tokens_init_114 (by decide) ?_
  refine e_iload d_Tokens_init_72 rfl ?_
  refine e_bipush (v := 8) d_Tokens_init_74 (by decide) ?_
  refine e_ic_ge 117 d_Tokens_init_76 (by decide) (fun c9 => absurd c9 (by decide)) (fun _ => ?_)
  refine e_ldcW d_Tokens_init_79 rfl ?_
  refine e_bipush (v := 8) d_Tokens_init_81 (by decide) ?_
  refine e_iload_n d_Tokens_init_83 rfl ?_
  refine e_imul d_Tokens_init_84 ?_
  refine e_nameI (y := 72) (by decide) ?_
  refine e_iload d_Tokens_init_85 rfl ?_
  refine e_iadd d_Tokens_init_87 ?_
  refine e_nameI (y := 77) (by decide) ?_
  refine e_cVXi (mt1 := m_Str_charAt) (v := 101) (M1 := p79.2) (As := [.int 77]) (st := []) d_Tokens_init_88 ml_Tokens_40 mv_Str_charAt (t_Str_charAt n 0 77 p79.2 (101, p79.2) rfl) (okl rfl) rfl rfl rfl (okp rfl) (okp rfl) (okp rfl) (okp rfl) (okp rfl) ?_
  refine e_istore (l2 := [some (.ref x0), some (.int 9), some (.long p79.1), none, some (.int 5), some (.int 101)]) d_Tokens_init_91 rfl (okl rfl) rfl ?_
  refine e_iload d_Tokens_init_93 rfl ?_
  refine e_bipush (v := 32) d_Tokens_init_95 (by decide) ?_
  refine e_ic_ne 104 d_Tokens_init_97 (by decide) (fun _ => ?_) (fun c9 => absurd c9 (by decide))
  refine e_lload_n d_Tokens_init_104 rfl ?_
  refine e_iload d_Tokens_init_105 rfl ?_
  obtain ⟨p80, hp80, h⟩ := bnd h
  refine e_cSl (mt1 := m_Tokens_withLetter) (As := [.long p79.1, .int 101]) (st := []) d_Tokens_init_107 ml_Tokens_46 ms_Tokens_withLetter (t_Tokens_withLetter n p79.1 101 p79.2 p80 hp80) rfl rfl (okp rfl) (okp rfl) (okp rfl) (okp rfl) (okp rfl) ?_
  refine e_lstore_n (l2 := [some (.ref x0), some (.int 9), some (.long p80.1), none, some (.int 5), some (.int 101)]) d_Tokens_init_110 rfl (okl rfl) rfl ?_
  refine e_iinc (v := 6) (l2 := [some (.ref x0), some (.int 9), some (.long p80.1), none, some (.int 6), some (.int 101)]) d_Tokens_init_111 rfl (by decide) rfl (okl rfl) rfl ?_
  refine e_goto 72 d_Tokens_init_114 (by decide) ?_
  refine e_iload d_Tokens_init_72 rfl ?_
  refine e_bipush (v := 8) d_Tokens_init_74 (by decide) ?_
  refine e_ic_ge 117 d_Tokens_init_76 (by decide) (fun c9 => absurd c9 (by decide)) (fun _ => ?_)
  refine e_ldcW d_Tokens_init_79 rfl ?_
  refine e_bipush (v := 8) d_Tokens_init_81 (by decide) ?_
  refine e_iload_n d_Tokens_init_83 rfl ?_
  refine e_imul d_Tokens_init_84 ?_
  refine e_nameI (y := 72) (by decide) ?_
  refine e_iload d_Tokens_init_85 rfl ?_
  refine e_iadd d_Tokens_init_87 ?_
  refine e_nameI (y := 78) (by decide) ?_
  refine e_cVXi (mt1 := m_Str_charAt) (v := 114) (M1 := p80.2) (As := [.int 78]) (st := []) d_Tokens_init_88 ml_Tokens_40 mv_Str_charAt (t_Str_charAt n 0 78 p80.2 (114, p80.2) rfl) (okl rfl) rfl rfl rfl (okp rfl) (okp rfl) (okp rfl) (okp rfl) (okp rfl) ?_
  refine e_istore (l2 := [some (.ref x0), some (.int 9), some (.long p80.1), none, some (.int 6), some (.int 114)]) d_Tokens_init_91 rfl (okl rfl) rfl ?_
  refine e_iload d_Tokens_init_93 rfl ?_
  refine e_bipush (v := 32) d_Tokens_init_95 (by decide) ?_
  refine e_ic_ne 104 d_Tokens_init_97 (by decide) (fun _ => ?_) (fun c9 => absurd c9 (by decide))
  refine e_lload_n d_Tokens_init_104 rfl ?_
  refine e_iload d_Tokens_init_105 rfl ?_
  obtain ⟨p81, hp81, h⟩ := bnd h
  refine e_cSl (mt1 := m_Tokens_withLetter) (As := [.long p80.1, .int 114]) (st := []) d_Tokens_init_107 ml_Tokens_46 ms_Tokens_withLetter (t_Tokens_withLetter n p80.1 114 p80.2 p81 hp81) rfl rfl (okp rfl) (okp rfl) (okp rfl) (okp rfl) (okp rfl) ?_
  refine e_lstore_n (l2 := [some (.ref x0), some (.int 9), some (.long p81.1), none, some (.int 6), some (.int 114)]) d_Tokens_init_110 rfl (okl rfl) rfl ?_
  refine e_iinc (v := 7) (l2 := [some (.ref x0), some (.int 9), some (.long p81.1), none, some (.int 7), some (.int 114)]) d_Tokens_init_111 rfl (by decide) rfl (okl rfl) rfl ?_
  refine e_goto 72 d_Tokens_init_114 (by decide) ?_
  refine e_iload d_Tokens_init_72 rfl ?_
  refine e_bipush (v := 8) d_Tokens_init_74 (by decide) ?_
  refine e_ic_ge 117 d_Tokens_init_76 (by decide) (fun c9 => absurd c9 (by decide)) (fun _ => ?_)
  refine e_ldcW d_Tokens_init_79 rfl ?_
  refine e_bipush (v := 8) d_Tokens_init_81 (by decide) ?_
  refine e_iload_n d_Tokens_init_83 rfl ?_
  refine e_imul d_Tokens_init_84 ?_
  refine e_nameI (y := 72) (by decide) ?_
  refine e_iload d_Tokens_init_85 rfl ?_
  refine e_iadd d_Tokens_init_87 ?_
  refine e_nameI (y := 79) (by decide) ?_
  refine e_cVXi (mt1 := m_Str_charAt) (v := 32) (M1 := p81.2) (As := [.int 79]) (st := []) d_Tokens_init_88 ml_Tokens_40 mv_Str_charAt (t_Str_charAt n 0 79 p81.2 (32, p81.2) rfl) (okl rfl) rfl rfl rfl (okp rfl) (okp rfl) (okp rfl) (okp rfl) (okp rfl) ?_
  refine e_istore (l2 := [some (.ref x0), some (.int 9), some (.long p81.1), none, some (.int 7), some (.int 32)]) d_Tokens_init_91 rfl (okl rfl) rfl ?_
  refine e_iload d_Tokens_init_93 rfl ?_
  refine e_bipush (v := 32) d_Tokens_init_95 (by decide) ?_
  refine e_ic_ne 104 d_Tokens_init_97 (by decide) (fun c9 => absurd c9 (by decide)) (fun _ => ?_)
  refine e_lload_n d_Tokens_init_100 rfl ?_
  refine e_goto 110 d_Tokens_init_101 (by decide) ?_
  refine e_lstore_n (l2 := [some (.ref x0), some (.int 9), some (.long p81.1), none, some (.int 7), some (.int 32)]) d_Tokens_init_110 rfl (okl rfl) rfl ?_
  refine e_iinc (v := 8) (l2 := [some (.ref x0), some (.int 9), some (.long p81.1), none, some (.int 8), some (.int 32)]) d_Tokens_init_111 rfl (by decide) rfl (okl rfl) rfl ?_
  refine e_goto 72 d_Tokens_init_114 (by decide) ?_
  refine e_iload d_Tokens_init_72 rfl ?_
  refine e_bipush (v := 8) d_Tokens_init_74 (by decide) ?_
  refine e_ic_ge 117 d_Tokens_init_76 (by decide) (fun _ => ?_) (fun c9 => absurd c9 (by decide))
  refine e_aload_n d_Tokens_init_117 rfl ?_
  obtain ⟨v82, hv82, h⟩ := bnd h
  refine e_getR d_Tokens_init_118 fl_Tokens_35 (fun _ _ _ => rfl) hv82 ?_
  refine e_iload_n d_Tokens_init_121 rfl ?_
  refine e_lload_n d_Tokens_init_122 rfl ?_
  obtain ⟨M83, hM83, h⟩ := bnd h
  refine e_last d_Tokens_init_123 hM83 ?_
  refine e_iinc (v := 10) (l2 := [some (.ref x0), some (.int 10), some (.long p81.1), none, some (.int 8), some (.int 32)]) d_Tokens_init_124 rfl (by decide) rfl (okl rfl) rfl ?_
  refine e_goto 61 d_Tokens_init_127 (by decide) ?_
  refine e_iload_n d_Tokens_init_61 rfl ?_
  refine e_bipush (v := 10) d_Tokens_init_62 (by decide) ?_
  refine e_ic_ge 130 d_Tokens_init_64 (by decide) (fun _ => ?_) (fun c9 => absurd c9 (by decide))
  cases h
  exact e_vret d_Tokens_init_130 rfl (okp rfl) (okp rfl)
theorem d_Syntax_init_0 : DC m_Syntax_init 0 (.aload_n 0) 1 1 := ⟨by decide +kernel, rfl⟩
theorem d_Syntax_init_1 : DC m_Syntax_init 1 (.invokespecial 3) 3 4 := ⟨by decide +kernel, rfl⟩
theorem d_Syntax_init_4 : DC m_Syntax_init 4 (.aload_n 0) 1 5 := ⟨by decide +kernel, rfl⟩
theorem d_Syntax_init_5 : DC m_Syntax_init 5 (.iconst 0) 1 6 := ⟨by decide +kernel, rfl⟩
theorem d_Syntax_init_6 : DC m_Syntax_init 6 (.putfield 11) 3 9 := ⟨by decide +kernel, rfl⟩
theorem d_Syntax_init_9 : DC m_Syntax_init 9 (.aload_n 0) 1 10 := ⟨by decide +kernel, rfl⟩
theorem d_Syntax_init_10 : DC m_Syntax_init 10 (.iconst 0) 1 11 := ⟨by decide +kernel, rfl⟩
theorem d_Syntax_init_11 : DC m_Syntax_init 11 (.putfield 15) 3 14 := ⟨by decide +kernel, rfl⟩
theorem d_Syntax_init_14 : DC m_Syntax_init 14 (.aload_n 0) 1 15 := ⟨by decide +kernel, rfl⟩
theorem d_Syntax_init_15 : DC m_Syntax_init 15 (.iconst 0) 1 16 := ⟨by decide +kernel, rfl⟩
theorem d_Syntax_init_16 : DC m_Syntax_init 16 (.putfield 18) 3 19 := ⟨by decide +kernel, rfl⟩
theorem d_Syntax_init_19 : DC m_Syntax_init 19 (.aload_n 0) 1 20 := ⟨by decide +kernel, rfl⟩
theorem d_Syntax_init_20 : DC m_Syntax_init 20 (.iconst 0) 1 21 := ⟨by decide +kernel, rfl⟩
theorem d_Syntax_init_21 : DC m_Syntax_init 21 (.putfield 21) 3 24 := ⟨by decide +kernel, rfl⟩
theorem d_Syntax_init_24 : DC m_Syntax_init 24 (.aload_n 0) 1 25 := ⟨by decide +kernel, rfl⟩
theorem d_Syntax_init_25 : DC m_Syntax_init 25 (.iconst 0) 1 26 := ⟨by decide +kernel, rfl⟩
theorem d_Syntax_init_26 : DC m_Syntax_init 26 (.putfield 24) 3 29 := ⟨by decide +kernel, rfl⟩
theorem d_Syntax_init_29 : DC m_Syntax_init 29 .return_ 1 30 := ⟨by decide +kernel, rfl⟩
set_option maxRecDepth 20000 in
def f_Syntax_init (n : Nat) (x0 : Nat) (M : MM) : Option MM :=
  (pI 8 0 x0 0 M).bind fun M1 =>
  (pI 8 1 x0 0 M1).bind fun M2 =>
  (pI 8 2 x0 0 M2).bind fun M3 =>
  (pI 8 3 x0 0 M3).bind fun M4 =>
  (pI 8 4 x0 0 M4).bind fun M5 =>
  some M5
set_option maxRecDepth 20000 in
theorem t_Syntax_init (n : Nat) (x0 : Nat) (M : MM) (z : MM) (h : f_Syntax_init n x0 M = some z) : CT m_Syntax_init (rm 2 0 0) [.ref x0] M none z := by
  unfold f_Syntax_init at h
  refine CT.of (ls := [some (.ref x0)]) rfl (okp rfl) rfl ?_
  refine e_aload_n d_Syntax_init_0 rfl ?_
  refine e_objInit d_Syntax_init_1 ml_Syntax_3 oi_in oi_code (okp rfl) (okp rfl) (okp rfl) ?_
  refine e_aload_n d_Syntax_init_4 rfl ?_
  refine e_iconst (v := 0) d_Syntax_init_5 (by decide) ?_
  obtain ⟨M1, hM1, h⟩ := bnd h
  refine e_putI d_Syntax_init_6 fl_Syntax_11 (Or.inl rfl) (fun _ _ _ => rfl) rfl hM1 ?_
  refine e_aload_n d_Syntax_init_9 rfl ?_
  refine e_iconst (v := 0) d_Syntax_init_10 (by decide) ?_
  obtain ⟨M2, hM2, h⟩ := bnd h
  refine e_putI d_Syntax_init_11 fl_Syntax_15 (Or.inl rfl) (fun _ _ _ => rfl) rfl hM2 ?_
  refine e_aload_n d_Syntax_init_14 rfl ?_
  refine e_iconst (v := 0) d_Syntax_init_15 (by decide) ?_
  obtain ⟨M3, hM3, h⟩ := bnd h
  refine e_putI d_Syntax_init_16 fl_Syntax_18 (Or.inl rfl) (fun _ _ _ => rfl) rfl hM3 ?_
  refine e_aload_n d_Syntax_init_19 rfl ?_
  refine e_iconst (v := 0) d_Syntax_init_20 (by decide) ?_
  obtain ⟨M4, hM4, h⟩ := bnd h
  refine e_putI d_Syntax_init_21 fl_Syntax_21 (Or.inl rfl) (fun _ _ _ => rfl) rfl hM4 ?_
  refine e_aload_n d_Syntax_init_24 rfl ?_
  refine e_iconst (v := 0) d_Syntax_init_25 (by decide) ?_
  obtain ⟨M5, hM5, h⟩ := bnd h
  refine e_putI d_Syntax_init_26 fl_Syntax_24 (Or.inl rfl) (fun _ _ _ => rfl) rfl hM5 ?_
  cases h
  exact e_vret d_Syntax_init_29 rfl (okp rfl) (okp rfl)
theorem d_Meaning_init_0 : DC m_Meaning_init 0 (.aload_n 0) 1 1 := ⟨by decide +kernel, rfl⟩
theorem d_Meaning_init_1 : DC m_Meaning_init 1 (.invokespecial 3) 3 4 := ⟨by decide +kernel, rfl⟩
theorem d_Meaning_init_4 : DC m_Meaning_init 4 (.aload_n 0) 1 5 := ⟨by decide +kernel, rfl⟩
theorem d_Meaning_init_5 : DC m_Meaning_init 5 (.bipush 14) 2 7 := ⟨by decide +kernel, rfl⟩
theorem d_Meaning_init_7 : DC m_Meaning_init 7 (.newarray .long) 2 9 := ⟨by decide +kernel, rfl⟩
theorem d_Meaning_init_9 : DC m_Meaning_init 9 (.putfield 9) 3 12 := ⟨by decide +kernel, rfl⟩
theorem d_Meaning_init_12 : DC m_Meaning_init 12 (.aload_n 0) 1 13 := ⟨by decide +kernel, rfl⟩
theorem d_Meaning_init_13 : DC m_Meaning_init 13 (.iconst 0) 1 14 := ⟨by decide +kernel, rfl⟩
theorem d_Meaning_init_14 : DC m_Meaning_init 14 (.putfield 15) 3 17 := ⟨by decide +kernel, rfl⟩
theorem d_Meaning_init_17 : DC m_Meaning_init 17 (.aload_n 0) 1 18 := ⟨by decide +kernel, rfl⟩
theorem d_Meaning_init_18 : DC m_Meaning_init 18 (.lconst 0) 1 19 := ⟨by decide +kernel, rfl⟩
theorem d_Meaning_init_19 : DC m_Meaning_init 19 (.putfield 19) 3 22 := ⟨by decide +kernel, rfl⟩
theorem d_Meaning_init_22 : DC m_Meaning_init 22 (.aload_n 0) 1 23 := ⟨by decide +kernel, rfl⟩
theorem d_Meaning_init_23 : DC m_Meaning_init 23 (.iconst 0) 1 24 := ⟨by decide +kernel, rfl⟩
theorem d_Meaning_init_24 : DC m_Meaning_init 24 (.putfield 23) 3 27 := ⟨by decide +kernel, rfl⟩
theorem d_Meaning_init_27 : DC m_Meaning_init 27 (.aload_n 0) 1 28 := ⟨by decide +kernel, rfl⟩
theorem d_Meaning_init_28 : DC m_Meaning_init 28 (.iconst 0) 1 29 := ⟨by decide +kernel, rfl⟩
theorem d_Meaning_init_29 : DC m_Meaning_init 29 (.putfield 26) 3 32 := ⟨by decide +kernel, rfl⟩
theorem d_Meaning_init_32 : DC m_Meaning_init 32 (.aload_n 0) 1 33 := ⟨by decide +kernel, rfl⟩
theorem d_Meaning_init_33 : DC m_Meaning_init 33 (.iconst 0) 1 34 := ⟨by decide +kernel, rfl⟩
theorem d_Meaning_init_34 : DC m_Meaning_init 34 (.putfield 29) 3 37 := ⟨by decide +kernel, rfl⟩
theorem d_Meaning_init_37 : DC m_Meaning_init 37 (.aload_n 0) 1 38 := ⟨by decide +kernel, rfl⟩
theorem d_Meaning_init_38 : DC m_Meaning_init 38 (.iconst 0) 1 39 := ⟨by decide +kernel, rfl⟩
theorem d_Meaning_init_39 : DC m_Meaning_init 39 (.putfield 32) 3 42 := ⟨by decide +kernel, rfl⟩
theorem d_Meaning_init_42 : DC m_Meaning_init 42 .return_ 1 43 := ⟨by decide +kernel, rfl⟩
set_option maxRecDepth 20000 in
def f_Meaning_init (n : Nat) (x0 : Nat) (M : MM) : Option MM :=
  nm (rho M.1.1) fun a1 =>
  nm (nwC 103 14 M) fun M2 =>
  (pR 5 0 x0 a1 M2).bind fun M3 =>
  (pI 5 1 x0 0 M3).bind fun M4 =>
  (pL 5 2 x0 0 M4).bind fun M5 =>
  (pI 5 3 x0 0 M5).bind fun M6 =>
  (pI 5 4 x0 0 M6).bind fun M7 =>
  (pI 5 5 x0 0 M7).bind fun M8 =>
  (pI 5 6 x0 0 M8).bind fun M9 =>
  some M9
set_option maxRecDepth 20000 in
theorem t_Meaning_init (n : Nat) (x0 : Nat) (M : MM) (z : MM) (h : f_Meaning_init n x0 M = some z) : CT m_Meaning_init (rm 2 1 14) [.ref x0] M none z := by
  unfold f_Meaning_init at h
  refine CT.of (ls := [some (.ref x0)]) rfl (okp rfl) rfl ?_
  refine e_aload_n d_Meaning_init_0 rfl ?_
  refine e_objInit d_Meaning_init_1 ml_Meaning_3 oi_in oi_code (okp rfl) (okp rfl) (okp rfl) ?_
  refine e_aload_n d_Meaning_init_4 rfl ?_
  refine e_bipush (v := 14) d_Meaning_init_5 (by decide) ?_
  refine e_newaN (kd := 103) (len := 14) (ty := .long) (k2 := 1) (n2 := 14) d_Meaning_init_7 rfl ac_long (by decide) (by decide) (by decide) (okp rfl) (okp rfl) (okp rfl) rfl rfl ?_
  obtain ⟨a1, ea1, h⟩ := nm_s h
  obtain ⟨M2, eM2, h⟩ := nm_s h
  rw [← ea1, ← eM2]
  obtain ⟨M3, hM3, h⟩ := bnd h
  refine e_putR d_Meaning_init_9 fl_Meaning_9 (Or.inr ⟨rfl, _, rfl, rfl⟩) (fun _ _ _ => rfl) (fun _ => ⟨rfl, rfl⟩) hM3 ?_
  refine e_aload_n d_Meaning_init_12 rfl ?_
  refine e_iconst (v := 0) d_Meaning_init_13 (by decide) ?_
  obtain ⟨M4, hM4, h⟩ := bnd h
  refine e_putI d_Meaning_init_14 fl_Meaning_15 (Or.inl rfl) (fun _ _ _ => rfl) rfl hM4 ?_
  refine e_aload_n d_Meaning_init_17 rfl ?_
  refine e_lconst (v := 0) d_Meaning_init_18 (by decide) ?_
  obtain ⟨M5, hM5, h⟩ := bnd h
  refine e_putL d_Meaning_init_19 fl_Meaning_19 (Or.inl rfl) (fun _ _ _ => rfl) rfl hM5 ?_
  refine e_aload_n d_Meaning_init_22 rfl ?_
  refine e_iconst (v := 0) d_Meaning_init_23 (by decide) ?_
  obtain ⟨M6, hM6, h⟩ := bnd h
  refine e_putI d_Meaning_init_24 fl_Meaning_23 (Or.inl rfl) (fun _ _ _ => rfl) rfl hM6 ?_
  refine e_aload_n d_Meaning_init_27 rfl ?_
  refine e_iconst (v := 0) d_Meaning_init_28 (by decide) ?_
  obtain ⟨M7, hM7, h⟩ := bnd h
  refine e_putI d_Meaning_init_29 fl_Meaning_26 (Or.inl rfl) (fun _ _ _ => rfl) rfl hM7 ?_
  refine e_aload_n d_Meaning_init_32 rfl ?_
  refine e_iconst (v := 0) d_Meaning_init_33 (by decide) ?_
  obtain ⟨M8, hM8, h⟩ := bnd h
  refine e_putI d_Meaning_init_34 fl_Meaning_29 (Or.inl rfl) (fun _ _ _ => rfl) rfl hM8 ?_
  refine e_aload_n d_Meaning_init_37 rfl ?_
  refine e_iconst (v := 0) d_Meaning_init_38 (by decide) ?_
  obtain ⟨M9, hM9, h⟩ := bnd h
  refine e_putI d_Meaning_init_39 fl_Meaning_32 (Or.inl rfl) (fun _ _ _ => rfl) rfl hM9 ?_
  cases h
  exact e_vret d_Meaning_init_42 rfl (okp rfl) (okp rfl)
theorem d_Builder_init_0 : DC m_Builder_init 0 (.aload_n 0) 1 1 := ⟨by decide +kernel, rfl⟩
theorem d_Builder_init_1 : DC m_Builder_init 1 (.invokespecial 3) 3 4 := ⟨by decide +kernel, rfl⟩
theorem d_Builder_init_4 : DC m_Builder_init 4 (.aload_n 0) 1 5 := ⟨by decide +kernel, rfl⟩
theorem d_Builder_init_5 : DC m_Builder_init 5 (.new 9) 3 8 := ⟨by decide +kernel, rfl⟩
theorem d_Builder_init_8 : DC m_Builder_init 8 .dup 1 9 := ⟨by decide +kernel, rfl⟩
theorem d_Builder_init_9 : DC m_Builder_init 9 (.invokespecial 11) 3 12 := ⟨by decide +kernel, rfl⟩
theorem d_Builder_init_12 : DC m_Builder_init 12 (.putfield 12) 3 15 := ⟨by decide +kernel, rfl⟩
theorem d_Builder_init_15 : DC m_Builder_init 15 (.aload_n 0) 1 16 := ⟨by decide +kernel, rfl⟩
theorem d_Builder_init_16 : DC m_Builder_init 16 (.bipush 14) 2 18 := ⟨by decide +kernel, rfl⟩
theorem d_Builder_init_18 : DC m_Builder_init 18 (.anewarray 18) 3 21 := ⟨by decide +kernel, rfl⟩
theorem d_Builder_init_21 : DC m_Builder_init 21 (.putfield 20) 3 24 := ⟨by decide +kernel, rfl⟩
theorem d_Builder_init_24 : DC m_Builder_init 24 (.aload_n 0) 1 25 := ⟨by decide +kernel, rfl⟩
theorem d_Builder_init_25 : DC m_Builder_init 25 (.bipush 14) 2 27 := ⟨by decide +kernel, rfl⟩
theorem d_Builder_init_27 : DC m_Builder_init 27 (.newarray .boolean) 2 29 := ⟨by decide +kernel, rfl⟩
theorem d_Builder_init_29 : DC m_Builder_init 29 (.putfield 24) 3 32 := ⟨by decide +kernel, rfl⟩
theorem d_Builder_init_32 : DC m_Builder_init 32 (.aload_n 0) 1 33 := ⟨by decide +kernel, rfl⟩
theorem d_Builder_init_33 : DC m_Builder_init 33 (.iconst 0) 1 34 := ⟨by decide +kernel, rfl⟩
theorem d_Builder_init_34 : DC m_Builder_init 34 (.putfield 28) 3 37 := ⟨by decide +kernel, rfl⟩
theorem d_Builder_init_37 : DC m_Builder_init 37 (.aload_n 0) 1 38 := ⟨by decide +kernel, rfl⟩
theorem d_Builder_init_38 : DC m_Builder_init 38 (.bipush 14) 2 40 := ⟨by decide +kernel, rfl⟩
theorem d_Builder_init_40 : DC m_Builder_init 40 (.newarray .long) 2 42 := ⟨by decide +kernel, rfl⟩
theorem d_Builder_init_42 : DC m_Builder_init 42 (.putfield 32) 3 45 := ⟨by decide +kernel, rfl⟩
theorem d_Builder_init_45 : DC m_Builder_init 45 (.aload_n 0) 1 46 := ⟨by decide +kernel, rfl⟩
theorem d_Builder_init_46 : DC m_Builder_init 46 (.bipush 7) 2 48 := ⟨by decide +kernel, rfl⟩
theorem d_Builder_init_48 : DC m_Builder_init 48 (.anewarray 18) 3 51 := ⟨by decide +kernel, rfl⟩
theorem d_Builder_init_51 : DC m_Builder_init 51 (.putfield 36) 3 54 := ⟨by decide +kernel, rfl⟩
theorem d_Builder_init_54 : DC m_Builder_init 54 (.aload_n 0) 1 55 := ⟨by decide +kernel, rfl⟩
theorem d_Builder_init_55 : DC m_Builder_init 55 (.bipush 7) 2 57 := ⟨by decide +kernel, rfl⟩
theorem d_Builder_init_57 : DC m_Builder_init 57 (.anewarray 18) 3 60 := ⟨by decide +kernel, rfl⟩
theorem d_Builder_init_60 : DC m_Builder_init 60 (.putfield 39) 3 63 := ⟨by decide +kernel, rfl⟩
theorem d_Builder_init_63 : DC m_Builder_init 63 (.aload_n 0) 1 64 := ⟨by decide +kernel, rfl⟩
theorem d_Builder_init_64 : DC m_Builder_init 64 (.new 18) 3 67 := ⟨by decide +kernel, rfl⟩
theorem d_Builder_init_67 : DC m_Builder_init 67 .dup 1 68 := ⟨by decide +kernel, rfl⟩
theorem d_Builder_init_68 : DC m_Builder_init 68 (.invokespecial 42) 3 71 := ⟨by decide +kernel, rfl⟩
theorem d_Builder_init_71 : DC m_Builder_init 71 (.putfield 43) 3 74 := ⟨by decide +kernel, rfl⟩
theorem d_Builder_init_74 : DC m_Builder_init 74 (.aload_n 0) 1 75 := ⟨by decide +kernel, rfl⟩
theorem d_Builder_init_75 : DC m_Builder_init 75 (.sipush 400) 3 78 := ⟨by decide +kernel, rfl⟩
theorem d_Builder_init_78 : DC m_Builder_init 78 (.newarray .int) 2 80 := ⟨by decide +kernel, rfl⟩
theorem d_Builder_init_80 : DC m_Builder_init 80 (.putfield 47) 3 83 := ⟨by decide +kernel, rfl⟩
theorem d_Builder_init_83 : DC m_Builder_init 83 (.aload_n 0) 1 84 := ⟨by decide +kernel, rfl⟩
theorem d_Builder_init_84 : DC m_Builder_init 84 (.iconst 0) 1 85 := ⟨by decide +kernel, rfl⟩
theorem d_Builder_init_85 : DC m_Builder_init 85 (.putfield 51) 3 88 := ⟨by decide +kernel, rfl⟩
theorem d_Builder_init_88 : DC m_Builder_init 88 (.aload_n 0) 1 89 := ⟨by decide +kernel, rfl⟩
theorem d_Builder_init_89 : DC m_Builder_init 89 (.iconst 0) 1 90 := ⟨by decide +kernel, rfl⟩
theorem d_Builder_init_90 : DC m_Builder_init 90 (.putfield 54) 3 93 := ⟨by decide +kernel, rfl⟩
theorem d_Builder_init_93 : DC m_Builder_init 93 (.iconst 0) 1 94 := ⟨by decide +kernel, rfl⟩
theorem d_Builder_init_94 : DC m_Builder_init 94 (.istore_n 1) 1 95 := ⟨by decide +kernel, rfl⟩
theorem d_Builder_init_95 : DC m_Builder_init 95 (.iload_n 1) 1 96 := ⟨by decide +kernel, rfl⟩
theorem d_Builder_init_96 : DC m_Builder_init 96 (.bipush 14) 2 98 := ⟨by decide +kernel, rfl⟩
theorem d_Builder_init_98 : DC m_Builder_init 98 (.if_icmp .ge 22) 3 101 := ⟨by decide +kernel, rfl⟩
theorem d_Builder_init_101 : DC m_Builder_init 101 (.aload_n 0) 1 102 := ⟨by decide +kernel, rfl⟩
theorem d_Builder_init_102 : DC m_Builder_init 102 (.getfield 20) 3 105 := ⟨by decide +kernel, rfl⟩
theorem d_Builder_init_105 : DC m_Builder_init 105 (.iload_n 1) 1 106 := ⟨by decide +kernel, rfl⟩
theorem d_Builder_init_106 : DC m_Builder_init 106 (.new 18) 3 109 := ⟨by decide +kernel, rfl⟩
theorem d_Builder_init_109 : DC m_Builder_init 109 .dup 1 110 := ⟨by decide +kernel, rfl⟩
theorem d_Builder_init_110 : DC m_Builder_init 110 (.invokespecial 42) 3 113 := ⟨by decide +kernel, rfl⟩
theorem d_Builder_init_113 : DC m_Builder_init 113 .aastore 1 114 := ⟨by decide +kernel, rfl⟩
theorem d_Builder_init_114 : DC m_Builder_init 114 (.iinc 1 1) 3 117 := ⟨by decide +kernel, rfl⟩
theorem d_Builder_init_117 : DC m_Builder_init 117 (.goto (-22)) 3 120 := ⟨by decide +kernel, rfl⟩
theorem d_Builder_init_120 : DC m_Builder_init 120 (.iconst 0) 1 121 := ⟨by decide +kernel, rfl⟩
theorem d_Builder_init_121 : DC m_Builder_init 121 (.istore_n 1) 1 122 := ⟨by decide +kernel, rfl⟩
theorem d_Builder_init_122 : DC m_Builder_init 122 (.iload_n 1) 1 123 := ⟨by decide +kernel, rfl⟩
theorem d_Builder_init_123 : DC m_Builder_init 123 (.bipush 7) 2 125 := ⟨by decide +kernel, rfl⟩
theorem d_Builder_init_125 : DC m_Builder_init 125 (.if_icmp .ge 35) 3 128 := ⟨by decide +kernel, rfl⟩
theorem d_Builder_init_128 : DC m_Builder_init 128 (.aload_n 0) 1 129 := ⟨by decide +kernel, rfl⟩
theorem d_Builder_init_129 : DC m_Builder_init 129 (.getfield 36) 3 132 := ⟨by decide +kernel, rfl⟩
theorem d_Builder_init_132 : DC m_Builder_init 132 (.iload_n 1) 1 133 := ⟨by decide +kernel, rfl⟩
theorem d_Builder_init_133 : DC m_Builder_init 133 (.new 18) 3 136 := ⟨by decide +kernel, rfl⟩
theorem d_Builder_init_136 : DC m_Builder_init 136 .dup 1 137 := ⟨by decide +kernel, rfl⟩
theorem d_Builder_init_137 : DC m_Builder_init 137 (.invokespecial 42) 3 140 := ⟨by decide +kernel, rfl⟩
theorem d_Builder_init_140 : DC m_Builder_init 140 .aastore 1 141 := ⟨by decide +kernel, rfl⟩
theorem d_Builder_init_141 : DC m_Builder_init 141 (.aload_n 0) 1 142 := ⟨by decide +kernel, rfl⟩
theorem d_Builder_init_142 : DC m_Builder_init 142 (.getfield 39) 3 145 := ⟨by decide +kernel, rfl⟩
theorem d_Builder_init_145 : DC m_Builder_init 145 (.iload_n 1) 1 146 := ⟨by decide +kernel, rfl⟩
theorem d_Builder_init_146 : DC m_Builder_init 146 (.new 18) 3 149 := ⟨by decide +kernel, rfl⟩
theorem d_Builder_init_149 : DC m_Builder_init 149 .dup 1 150 := ⟨by decide +kernel, rfl⟩
theorem d_Builder_init_150 : DC m_Builder_init 150 (.invokespecial 42) 3 153 := ⟨by decide +kernel, rfl⟩
theorem d_Builder_init_153 : DC m_Builder_init 153 .aastore 1 154 := ⟨by decide +kernel, rfl⟩
theorem d_Builder_init_154 : DC m_Builder_init 154 (.iinc 1 1) 3 157 := ⟨by decide +kernel, rfl⟩
theorem d_Builder_init_157 : DC m_Builder_init 157 (.goto (-35)) 3 160 := ⟨by decide +kernel, rfl⟩
theorem d_Builder_init_160 : DC m_Builder_init 160 .return_ 1 161 := ⟨by decide +kernel, rfl⟩
set_option maxRecDepth 20000 in
def f_Builder_init (n : Nat) (x0 : Nat) (M : MM) : Option MM :=
  nm (rho M.1.1) fun a1 =>
  nm (nwC 10 0 M) fun M2 =>
  (f_Tokens_init n a1 M2).bind fun M3 =>
  (pR 1 9 x0 a1 M3).bind fun M4 =>
  nm (rho M4.1.1) fun a5 =>
  nm (nwC 104 14 M4) fun M6 =>
  (pR 1 0 x0 a5 M6).bind fun M7 =>
  nm (rho M7.1.1) fun a8 =>
  nm (nwC 102 14 M7) fun M9 =>
  (pR 1 1 x0 a8 M9).bind fun M10 =>
  (pI 1 2 x0 0 M10).bind fun M11 =>
  nm (rho M11.1.1) fun a12 =>
  nm (nwC 103 14 M11) fun M13 =>
  (pR 1 3 x0 a12 M13).bind fun M14 =>
  nm (rho M14.1.1) fun a15 =>
  nm (nwC 104 7 M14) fun M16 =>
  (pR 1 4 x0 a15 M16).bind fun M17 =>
  nm (rho M17.1.1) fun a18 =>
  nm (nwC 104 7 M17) fun M19 =>
  (pR 1 5 x0 a18 M19).bind fun M20 =>
  nm (rho M20.1.1) fun a21 =>
  nm (nwC 7 0 M20) fun M22 =>
  (f_Shape_init n a21 M22).bind fun M23 =>
  (pR 1 6 x0 a21 M23).bind fun M24 =>
  nm (rho M24.1.1) fun a25 =>
  nm (nwC 100 400 M24) fun M26 =>
  (pR 1 7 x0 a25 M26).bind fun M27 =>
  (pI 1 8 x0 0 M27).bind fun M28 =>
  (pI 1 10 x0 0 M28).bind fun M29 =>
  (gR 1 0 x0 M29).bind fun v30 =>
  nm (rho M29.1.1) fun a31 =>
  nm (nwC 7 0 M29) fun M32 =>
  (f_Shape_init n a31 M32).bind fun M33 =>
  (sR 104 7 v30 0 a31 M33).bind fun M34 =>
  (gR 1 0 x0 M34).bind fun v35 =>
  nm (rho M34.1.1) fun a36 =>
  nm (nwC 7 0 M34) fun M37 =>
  (f_Shape_init n a36 M37).bind fun M38 =>
  (sR 104 7 v35 1 a36 M38).bind fun M39 =>
  (gR 1 0 x0 M39).bind fun v40 =>
  nm (rho M39.1.1) fun a41 =>
  nm (nwC 7 0 M39) fun M42 =>
  (f_Shape_init n a41 M42).bind fun M43 =>
  (sR 104 7 v40 2 a41 M43).bind fun M44 =>
  (gR 1 0 x0 M44).bind fun v45 =>
  nm (rho M44.1.1) fun a46 =>
  nm (nwC 7 0 M44) fun M47 =>
  (f_Shape_init n a46 M47).bind fun M48 =>
  (sR 104 7 v45 3 a46 M48).bind fun M49 =>
  (gR 1 0 x0 M49).bind fun v50 =>
  nm (rho M49.1.1) fun a51 =>
  nm (nwC 7 0 M49) fun M52 =>
  (f_Shape_init n a51 M52).bind fun M53 =>
  (sR 104 7 v50 4 a51 M53).bind fun M54 =>
  (gR 1 0 x0 M54).bind fun v55 =>
  nm (rho M54.1.1) fun a56 =>
  nm (nwC 7 0 M54) fun M57 =>
  (f_Shape_init n a56 M57).bind fun M58 =>
  (sR 104 7 v55 5 a56 M58).bind fun M59 =>
  (gR 1 0 x0 M59).bind fun v60 =>
  nm (rho M59.1.1) fun a61 =>
  nm (nwC 7 0 M59) fun M62 =>
  (f_Shape_init n a61 M62).bind fun M63 =>
  (sR 104 7 v60 6 a61 M63).bind fun M64 =>
  (gR 1 0 x0 M64).bind fun v65 =>
  nm (rho M64.1.1) fun a66 =>
  nm (nwC 7 0 M64) fun M67 =>
  (f_Shape_init n a66 M67).bind fun M68 =>
  (sR 104 7 v65 7 a66 M68).bind fun M69 =>
  (gR 1 0 x0 M69).bind fun v70 =>
  nm (rho M69.1.1) fun a71 =>
  nm (nwC 7 0 M69) fun M72 =>
  (f_Shape_init n a71 M72).bind fun M73 =>
  (sR 104 7 v70 8 a71 M73).bind fun M74 =>
  (gR 1 0 x0 M74).bind fun v75 =>
  nm (rho M74.1.1) fun a76 =>
  nm (nwC 7 0 M74) fun M77 =>
  (f_Shape_init n a76 M77).bind fun M78 =>
  (sR 104 7 v75 9 a76 M78).bind fun M79 =>
  (gR 1 0 x0 M79).bind fun v80 =>
  nm (rho M79.1.1) fun a81 =>
  nm (nwC 7 0 M79) fun M82 =>
  (f_Shape_init n a81 M82).bind fun M83 =>
  (sR 104 7 v80 10 a81 M83).bind fun M84 =>
  (gR 1 0 x0 M84).bind fun v85 =>
  nm (rho M84.1.1) fun a86 =>
  nm (nwC 7 0 M84) fun M87 =>
  (f_Shape_init n a86 M87).bind fun M88 =>
  (sR 104 7 v85 11 a86 M88).bind fun M89 =>
  (gR 1 0 x0 M89).bind fun v90 =>
  nm (rho M89.1.1) fun a91 =>
  nm (nwC 7 0 M89) fun M92 =>
  (f_Shape_init n a91 M92).bind fun M93 =>
  (sR 104 7 v90 12 a91 M93).bind fun M94 =>
  (gR 1 0 x0 M94).bind fun v95 =>
  nm (rho M94.1.1) fun a96 =>
  nm (nwC 7 0 M94) fun M97 =>
  (f_Shape_init n a96 M97).bind fun M98 =>
  (sR 104 7 v95 13 a96 M98).bind fun M99 =>
  (gR 1 4 x0 M99).bind fun v100 =>
  nm (rho M99.1.1) fun a101 =>
  nm (nwC 7 0 M99) fun M102 =>
  (f_Shape_init n a101 M102).bind fun M103 =>
  (sR 104 7 v100 0 a101 M103).bind fun M104 =>
  (gR 1 5 x0 M104).bind fun v105 =>
  nm (rho M104.1.1) fun a106 =>
  nm (nwC 7 0 M104) fun M107 =>
  (f_Shape_init n a106 M107).bind fun M108 =>
  (sR 104 7 v105 0 a106 M108).bind fun M109 =>
  (gR 1 4 x0 M109).bind fun v110 =>
  nm (rho M109.1.1) fun a111 =>
  nm (nwC 7 0 M109) fun M112 =>
  (f_Shape_init n a111 M112).bind fun M113 =>
  (sR 104 7 v110 1 a111 M113).bind fun M114 =>
  (gR 1 5 x0 M114).bind fun v115 =>
  nm (rho M114.1.1) fun a116 =>
  nm (nwC 7 0 M114) fun M117 =>
  (f_Shape_init n a116 M117).bind fun M118 =>
  (sR 104 7 v115 1 a116 M118).bind fun M119 =>
  (gR 1 4 x0 M119).bind fun v120 =>
  nm (rho M119.1.1) fun a121 =>
  nm (nwC 7 0 M119) fun M122 =>
  (f_Shape_init n a121 M122).bind fun M123 =>
  (sR 104 7 v120 2 a121 M123).bind fun M124 =>
  (gR 1 5 x0 M124).bind fun v125 =>
  nm (rho M124.1.1) fun a126 =>
  nm (nwC 7 0 M124) fun M127 =>
  (f_Shape_init n a126 M127).bind fun M128 =>
  (sR 104 7 v125 2 a126 M128).bind fun M129 =>
  (gR 1 4 x0 M129).bind fun v130 =>
  nm (rho M129.1.1) fun a131 =>
  nm (nwC 7 0 M129) fun M132 =>
  (f_Shape_init n a131 M132).bind fun M133 =>
  (sR 104 7 v130 3 a131 M133).bind fun M134 =>
  (gR 1 5 x0 M134).bind fun v135 =>
  nm (rho M134.1.1) fun a136 =>
  nm (nwC 7 0 M134) fun M137 =>
  (f_Shape_init n a136 M137).bind fun M138 =>
  (sR 104 7 v135 3 a136 M138).bind fun M139 =>
  (gR 1 4 x0 M139).bind fun v140 =>
  nm (rho M139.1.1) fun a141 =>
  nm (nwC 7 0 M139) fun M142 =>
  (f_Shape_init n a141 M142).bind fun M143 =>
  (sR 104 7 v140 4 a141 M143).bind fun M144 =>
  (gR 1 5 x0 M144).bind fun v145 =>
  nm (rho M144.1.1) fun a146 =>
  nm (nwC 7 0 M144) fun M147 =>
  (f_Shape_init n a146 M147).bind fun M148 =>
  (sR 104 7 v145 4 a146 M148).bind fun M149 =>
  (gR 1 4 x0 M149).bind fun v150 =>
  nm (rho M149.1.1) fun a151 =>
  nm (nwC 7 0 M149) fun M152 =>
  (f_Shape_init n a151 M152).bind fun M153 =>
  (sR 104 7 v150 5 a151 M153).bind fun M154 =>
  (gR 1 5 x0 M154).bind fun v155 =>
  nm (rho M154.1.1) fun a156 =>
  nm (nwC 7 0 M154) fun M157 =>
  (f_Shape_init n a156 M157).bind fun M158 =>
  (sR 104 7 v155 5 a156 M158).bind fun M159 =>
  (gR 1 4 x0 M159).bind fun v160 =>
  nm (rho M159.1.1) fun a161 =>
  nm (nwC 7 0 M159) fun M162 =>
  (f_Shape_init n a161 M162).bind fun M163 =>
  (sR 104 7 v160 6 a161 M163).bind fun M164 =>
  (gR 1 5 x0 M164).bind fun v165 =>
  nm (rho M164.1.1) fun a166 =>
  nm (nwC 7 0 M164) fun M167 =>
  (f_Shape_init n a166 M167).bind fun M168 =>
  (sR 104 7 v165 6 a166 M168).bind fun M169 =>
  some M169
set_option maxRecDepth 20000 in
theorem t_Builder_init (n : Nat) (x0 : Nat) (M : MM) (z : MM) (h : f_Builder_init n x0 M = some z) : CT m_Builder_init (rm 6 69 1938) [.ref x0] M none z := by
  unfold f_Builder_init at h
  refine CT.of (ls := [some (.ref x0), none]) rfl (okp rfl) rfl ?_
  refine e_aload_n d_Builder_init_0 rfl ?_
  refine e_objInit d_Builder_init_1 ml_Builder_3 oi_in oi_code (okp rfl) (okp rfl) (okp rfl) ?_
  refine e_aload_n d_Builder_init_4 rfl ?_
  refine e_newN (k2 := 1) (n2 := 8) d_Builder_init_5 ck_Tokens cl_Builder_9 in_Tokens ini_Tokens (by decide) (okp rfl) (okp rfl) rfl rfl ?_
  obtain ⟨a1, ea1, h⟩ := nm_s h
  obtain ⟨M2, eM2, h⟩ := nm_s h
  rw [← ea1, ← eM2]
  refine e_dup d_Builder_init_8 rfl ?_
  obtain ⟨M3, hM3, h⟩ := bnd h
  refine e_cI (mt1 := m_Tokens_init) (As := []) (st := [.ref a1, .ref x0]) (k2 := 5) (n2 := 1221) d_Builder_init_9 ml_Builder_11 mn_Tokens_init (t_Tokens_init n a1 M2 M3 hM3) rfl rfl (okp rfl) (okp rfl) (okp rfl) (okp rfl) (okp rfl) rfl rfl ?_
  obtain ⟨M4, hM4, h⟩ := bnd h
  refine e_putR d_Builder_init_12 fl_Builder_12 (Or.inr ⟨rfl, _, rfl, rfl⟩) (fun _ _ _ => rfl) (fun _ => ⟨rfl, rfl⟩) hM4 ?_
  refine e_aload_n d_Builder_init_15 rfl ?_
  refine e_bipush (v := 14) d_Builder_init_16 (by decide) ?_
  refine e_newqN (kd := 104) (len := 14) (k2 := 6) (n2 := 1235) d_Builder_init_18 cl_Builder_18 ao_Shape (by decide) (by decide) (by decide) (okp rfl) (okp rfl) (okp rfl) rfl rfl ?_
  obtain ⟨a5, ea5, h⟩ := nm_s h
  obtain ⟨M6, eM6, h⟩ := nm_s h
  rw [← ea5, ← eM6]
  obtain ⟨M7, hM7, h⟩ := bnd h
  refine e_putR d_Builder_init_21 fl_Builder_20 (Or.inr ⟨rfl, _, rfl, rfl⟩) (fun _ _ _ => rfl) (fun _ => ⟨rfl, rfl⟩) hM7 ?_
  refine e_aload_n d_Builder_init_24 rfl ?_
  refine e_bipush (v := 14) d_Builder_init_25 (by decide) ?_
  refine e_newaN (kd := 102) (len := 14) (ty := .boolean) (k2 := 7) (n2 := 1249) d_Builder_init_27 rfl ac_boolean (by decide) (by decide) (by decide) (okp rfl) (okp rfl) (okp rfl) rfl rfl ?_
  obtain ⟨a8, ea8, h⟩ := nm_s h
  obtain ⟨M9, eM9, h⟩ := nm_s h
  rw [← ea8, ← eM9]
  obtain ⟨M10, hM10, h⟩ := bnd h
  refine e_putR d_Builder_init_29 fl_Builder_24 (Or.inr ⟨rfl, _, rfl, rfl⟩) (fun _ _ _ => rfl) (fun _ => ⟨rfl, rfl⟩) hM10 ?_
  refine e_aload_n d_Builder_init_32 rfl ?_
  refine e_iconst (v := 0) d_Builder_init_33 (by decide) ?_
  obtain ⟨M11, hM11, h⟩ := bnd h
  refine e_putI d_Builder_init_34 fl_Builder_28 (Or.inl rfl) (fun _ _ _ => rfl) rfl hM11 ?_
  refine e_aload_n d_Builder_init_37 rfl ?_
  refine e_bipush (v := 14) d_Builder_init_38 (by decide) ?_
  refine e_newaN (kd := 103) (len := 14) (ty := .long) (k2 := 8) (n2 := 1263) d_Builder_init_40 rfl ac_long (by decide) (by decide) (by decide) (okp rfl) (okp rfl) (okp rfl) rfl rfl ?_
  obtain ⟨a12, ea12, h⟩ := nm_s h
  obtain ⟨M13, eM13, h⟩ := nm_s h
  rw [← ea12, ← eM13]
  obtain ⟨M14, hM14, h⟩ := bnd h
  refine e_putR d_Builder_init_42 fl_Builder_32 (Or.inr ⟨rfl, _, rfl, rfl⟩) (fun _ _ _ => rfl) (fun _ => ⟨rfl, rfl⟩) hM14 ?_
  refine e_aload_n d_Builder_init_45 rfl ?_
  refine e_bipush (v := 7) d_Builder_init_46 (by decide) ?_
  refine e_newqN (kd := 104) (len := 7) (k2 := 9) (n2 := 1270) d_Builder_init_48 cl_Builder_18 ao_Shape (by decide) (by decide) (by decide) (okp rfl) (okp rfl) (okp rfl) rfl rfl ?_
  obtain ⟨a15, ea15, h⟩ := nm_s h
  obtain ⟨M16, eM16, h⟩ := nm_s h
  rw [← ea15, ← eM16]
  obtain ⟨M17, hM17, h⟩ := bnd h
  refine e_putR d_Builder_init_51 fl_Builder_36 (Or.inr ⟨rfl, _, rfl, rfl⟩) (fun _ _ _ => rfl) (fun _ => ⟨rfl, rfl⟩) hM17 ?_
  refine e_aload_n d_Builder_init_54 rfl ?_
  refine e_bipush (v := 7) d_Builder_init_55 (by decide) ?_
  refine e_newqN (kd := 104) (len := 7) (k2 := 10) (n2 := 1277) d_Builder_init_57 cl_Builder_18 ao_Shape (by decide) (by decide) (by decide) (okp rfl) (okp rfl) (okp rfl) rfl rfl ?_
  obtain ⟨a18, ea18, h⟩ := nm_s h
  obtain ⟨M19, eM19, h⟩ := nm_s h
  rw [← ea18, ← eM19]
  obtain ⟨M20, hM20, h⟩ := bnd h
  refine e_putR d_Builder_init_60 fl_Builder_39 (Or.inr ⟨rfl, _, rfl, rfl⟩) (fun _ _ _ => rfl) (fun _ => ⟨rfl, rfl⟩) hM20 ?_
  refine e_aload_n d_Builder_init_63 rfl ?_
  refine e_newN (k2 := 11) (n2 := 1278) d_Builder_init_64 ck_Shape cl_Builder_18 in_Shape ini_Shape (by decide) (okp rfl) (okp rfl) rfl rfl ?_
  obtain ⟨a21, ea21, h⟩ := nm_s h
  obtain ⟨M22, eM22, h⟩ := nm_s h
  rw [← ea21, ← eM22]
  refine e_dup d_Builder_init_67 rfl ?_
  obtain ⟨M23, hM23, h⟩ := bnd h
  refine e_cIN (mt1 := m_Shape_init) (As := []) (st := [.ref a21, .ref x0]) (k2 := 12) (n2 := 1286) d_Builder_init_68 mx_Builder_42 mn_Shape_init (t_Shape_init n a21 M22 M23 hM23) rfl rfl (okp rfl) (okp rfl) (okp rfl) (okp rfl) (okp rfl) rfl rfl ?_
  obtain ⟨M24, hM24, h⟩ := bnd h
  refine e_putR d_Builder_init_71 fl_Builder_43 (Or.inr ⟨rfl, _, rfl, rfl⟩) (fun _ _ _ => rfl) (fun _ => ⟨rfl, rfl⟩) hM24 ?_
  refine e_aload_n d_Builder_init_74 rfl ?_
  refine e_sipush (v := 400) d_Builder_init_75 (by decide) ?_
  refine e_newaN (kd := 100) (len := 400) (ty := .int) (k2 := 13) (n2 := 1686) d_Builder_init_78 rfl ac_int (by decide) (by decide) (by decide) (okp rfl) (okp rfl) (okp rfl) rfl rfl ?_
  obtain ⟨a25, ea25, h⟩ := nm_s h
  obtain ⟨M26, eM26, h⟩ := nm_s h
  rw [← ea25, ← eM26]
  obtain ⟨M27, hM27, h⟩ := bnd h
  refine e_putR d_Builder_init_80 fl_Builder_47 (Or.inr ⟨rfl, _, rfl, rfl⟩) (fun _ _ _ => rfl) (fun _ => ⟨rfl, rfl⟩) hM27 ?_
  refine e_aload_n d_Builder_init_83 rfl ?_
  refine e_iconst (v := 0) d_Builder_init_84 (by decide) ?_
  obtain ⟨M28, hM28, h⟩ := bnd h
  refine e_putI d_Builder_init_85 fl_Builder_51 (Or.inl rfl) (fun _ _ _ => rfl) rfl hM28 ?_
  refine e_aload_n d_Builder_init_88 rfl ?_
  refine e_iconst (v := 0) d_Builder_init_89 (by decide) ?_
  obtain ⟨M29, hM29, h⟩ := bnd h
  refine e_putI d_Builder_init_90 fl_Builder_54 (Or.inl rfl) (fun _ _ _ => rfl) rfl hM29 ?_
  refine e_iconst (v := 0) d_Builder_init_93 (by decide) ?_
  refine e_istore_n (l2 := [some (.ref x0), some (.int 0)]) d_Builder_init_94 rfl (okl rfl) rfl ?_
  refine e_iload_n d_Builder_init_95 rfl ?_
  refine e_bipush (v := 14) d_Builder_init_96 (by decide) ?_
  refine e_ic_ge 120 d_Builder_init_98 (by decide) (fun c9 => absurd c9 (by decide)) (fun _ => ?_)
  refine e_aload_n d_Builder_init_101 rfl ?_
  obtain ⟨v30, hv30, h⟩ := bnd h
  refine e_getR d_Builder_init_102 fl_Builder_20 (fun _ _ _ => rfl) hv30 ?_
  refine e_iload_n d_Builder_init_105 rfl ?_
  refine e_newN (k2 := 14) (n2 := 1687) d_Builder_init_106 ck_Shape cl_Builder_18 in_Shape ini_Shape (by decide) (okp rfl) (okp rfl) rfl rfl ?_
  obtain ⟨a31, ea31, h⟩ := nm_s h
  obtain ⟨M32, eM32, h⟩ := nm_s h
  rw [← ea31, ← eM32]
  refine e_dup d_Builder_init_109 rfl ?_
  obtain ⟨M33, hM33, h⟩ := bnd h
  refine e_cIN (mt1 := m_Shape_init) (As := []) (st := [.ref a31, .int 0, .ref v30]) (k2 := 15) (n2 := 1695) d_Builder_init_110 mx_Builder_42 mn_Shape_init (t_Shape_init n a31 M32 M33 hM33) rfl rfl (okp rfl) (okp rfl) (okp rfl) (okp rfl) (okp rfl) rfl rfl ?_
  obtain ⟨M34, hM34, h⟩ := bnd h
  refine e_aast (kd := 104) (ci := 7) d_Builder_init_113 (by decide) hM34 ?_
  refine e_iinc (v := 1) (l2 := [some (.ref x0), some (.int 1)]) d_Builder_init_114 rfl (by decide) rfl (okl rfl) rfl ?_
  refine e_goto 95 d_Builder_init_117 (by decide) ?_
  refine e_iload_n d_Builder_init_95 rfl ?_
  refine e_bipush (v := 14) d_Builder_init_96 (by decide) ?_
  refine e_ic_ge 120 d_Builder_init_98 (by decide) (fun c9 => absurd c9 (by decide)) (fun _ => ?_)
  refine e_aload_n d_Builder_init_101 rfl ?_
  obtain ⟨v35, hv35, h⟩ := bnd h
  refine e_getR d_Builder_init_102 fl_Builder_20 (fun _ _ _ => rfl) hv35 ?_
  refine e_iload_n d_Builder_init_105 rfl ?_
  refine e_newN (k2 := 16) (n2 := 1696) d_Builder_init_106 ck_Shape cl_Builder_18 in_Shape ini_Shape (by decide) (okp rfl) (okp rfl) rfl rfl ?_
  obtain ⟨a36, ea36, h⟩ := nm_s h
  obtain ⟨M37, eM37, h⟩ := nm_s h
  rw [← ea36, ← eM37]
  refine e_dup d_Builder_init_109 rfl ?_
  obtain ⟨M38, hM38, h⟩ := bnd h
  refine e_cIN (mt1 := m_Shape_init) (As := []) (st := [.ref a36, .int 1, .ref v35]) (k2 := 17) (n2 := 1704) d_Builder_init_110 mx_Builder_42 mn_Shape_init (t_Shape_init n a36 M37 M38 hM38) rfl rfl (okp rfl) (okp rfl) (okp rfl) (okp rfl) (okp rfl) rfl rfl ?_
  obtain ⟨M39, hM39, h⟩ := bnd h
  refine e_aast (kd := 104) (ci := 7) d_Builder_init_113 (by decide) hM39 ?_
  refine e_iinc (v := 2) (l2 := [some (.ref x0), some (.int 2)]) d_Builder_init_114 rfl (by decide) rfl (okl rfl) rfl ?_
  refine e_goto 95 d_Builder_init_117 (by decide) ?_
  refine e_iload_n d_Builder_init_95 rfl ?_
  refine e_bipush (v := 14) d_Builder_init_96 (by decide) ?_
  refine e_ic_ge 120 d_Builder_init_98 (by decide) (fun c9 => absurd c9 (by decide)) (fun _ => ?_)
  refine e_aload_n d_Builder_init_101 rfl ?_
  obtain ⟨v40, hv40, h⟩ := bnd h
  refine e_getR d_Builder_init_102 fl_Builder_20 (fun _ _ _ => rfl) hv40 ?_
  refine e_iload_n d_Builder_init_105 rfl ?_
  refine e_newN (k2 := 18) (n2 := 1705) d_Builder_init_106 ck_Shape cl_Builder_18 in_Shape ini_Shape (by decide) (okp rfl) (okp rfl) rfl rfl ?_
  obtain ⟨a41, ea41, h⟩ := nm_s h
  obtain ⟨M42, eM42, h⟩ := nm_s h
  rw [← ea41, ← eM42]
  refine e_dup d_Builder_init_109 rfl ?_
  obtain ⟨M43, hM43, h⟩ := bnd h
  refine e_cIN (mt1 := m_Shape_init) (As := []) (st := [.ref a41, .int 2, .ref v40]) (k2 := 19) (n2 := 1713) d_Builder_init_110 mx_Builder_42 mn_Shape_init (t_Shape_init n a41 M42 M43 hM43) rfl rfl (okp rfl) (okp rfl) (okp rfl) (okp rfl) (okp rfl) rfl rfl ?_
  obtain ⟨M44, hM44, h⟩ := bnd h
  refine e_aast (kd := 104) (ci := 7) d_Builder_init_113 (by decide) hM44 ?_
  refine e_iinc (v := 3) (l2 := [some (.ref x0), some (.int 3)]) d_Builder_init_114 rfl (by decide) rfl (okl rfl) rfl ?_
  refine e_goto 95 d_Builder_init_117 (by decide) ?_
  refine e_iload_n d_Builder_init_95 rfl ?_
  refine e_bipush (v := 14) d_Builder_init_96 (by decide) ?_
  refine e_ic_ge 120 d_Builder_init_98 (by decide) (fun c9 => absurd c9 (by decide)) (fun _ => ?_)
  refine e_aload_n d_Builder_init_101 rfl ?_
  obtain ⟨v45, hv45, h⟩ := bnd h
  refine e_getR d_Builder_init_102 fl_Builder_20 (fun _ _ _ => rfl) hv45 ?_
  refine e_iload_n d_Builder_init_105 rfl ?_
  refine e_newN (k2 := 20) (n2 := 1714) d_Builder_init_106 ck_Shape cl_Builder_18 in_Shape ini_Shape (by decide) (okp rfl) (okp rfl) rfl rfl ?_
  obtain ⟨a46, ea46, h⟩ := nm_s h
  obtain ⟨M47, eM47, h⟩ := nm_s h
  rw [← ea46, ← eM47]
  refine e_dup d_Builder_init_109 rfl ?_
  obtain ⟨M48, hM48, h⟩ := bnd h
  refine e_cIN (mt1 := m_Shape_init) (As := []) (st := [.ref a46, .int 3, .ref v45]) (k2 := 21) (n2 := 1722) d_Builder_init_110 mx_Builder_42 mn_Shape_init (t_Shape_init n a46 M47 M48 hM48) rfl rfl (okp rfl) (okp rfl) (okp rfl) (okp rfl) (okp rfl) rfl rfl ?_
  obtain ⟨M49, hM49, h⟩ := bnd h
  refine e_aast (kd := 104) (ci := 7) d_Builder_init_113 (by decide) hM49 ?_
  refine e_iinc (v := 4) (l2 := [some (.ref x0), some (.int 4)]) d_Builder_init_114 rfl (by decide) rfl (okl rfl) rfl ?_
  refine e_goto 95 d_Builder_init_117 (by decide) ?_
  refine e_iload_n d_Builder_init_95 rfl ?_
  refine e_bipush (v := 14) d_Builder_init_96 (by decide) ?_
  refine e_ic_ge 120 d_Builder_init_98 (by decide) (fun c9 => absurd c9 (by decide)) (fun _ => ?_)
  refine e_aload_n d_Builder_init_101 rfl ?_
  obtain ⟨v50, hv50, h⟩ := bnd h
  refine e_getR d_Builder_init_102 fl_Builder_20 (fun _ _ _ => rfl) hv50 ?_
  refine e_iload_n d_Builder_init_105 rfl ?_
  refine e_newN (k2 := 22) (n2 := 1723) d_Builder_init_106 ck_Shape cl_Builder_18 in_Shape ini_Shape (by decide) (okp rfl) (okp rfl) rfl rfl ?_
  obtain ⟨a51, ea51, h⟩ := nm_s h
  obtain ⟨M52, eM52, h⟩ := nm_s h
  rw [← ea51, ← eM52]
  refine e_dup d_Builder_init_109 rfl ?_
  obtain ⟨M53, hM53, h⟩ := bnd h
  refine e_cIN (mt1 := m_Shape_init) (As := []) (st := [.ref a51, .int 4, .ref v50]) (k2 := 23) (n2 := 1731) d_Builder_init_110 mx_Builder_42 mn_Shape_init (t_Shape_init n a51 M52 M53 hM53) rfl rfl (okp rfl) (okp rfl) (okp rfl) (okp rfl) (okp rfl) rfl rfl ?_
  obtain ⟨M54, hM54, h⟩ := bnd h
  refine e_aast (kd := 104) (ci := 7) d_Builder_init_113 (by decide) hM54 ?_
  refine e_iinc (v := 5) (l2 := [some (.ref x0), some (.int 5)]) d_Builder_init_114 rfl (by decide) rfl (okl rfl) rfl ?_
  refine e_goto 95 d_Builder_init_117 (by decide) ?_
  refine e_iload_n d_Builder_init_95 rfl ?_
  refine e_bipush (v := 14) d_Builder_init_96 (by decide) ?_
  refine e_ic_ge 120 d_Builder_init_98 (by decide) (fun c9 => absurd c9 (by decide)) (fun _ => ?_)
  refine e_aload_n d_Builder_init_101 rfl ?_
  obtain ⟨v55, hv55, h⟩ := bnd h
  refine e_getR d_Builder_init_102 fl_Builder_20 (fun _ _ _ => rfl) hv55 ?_
  refine e_iload_n d_Builder_init_105 rfl ?_
  refine e_newN (k2 := 24) (n2 := 1732) d_Builder_init_106 ck_Shape cl_Builder_18 in_Shape ini_Shape (by decide) (okp rfl) (okp rfl) rfl rfl ?_
  obtain ⟨a56, ea56, h⟩ := nm_s h
  obtain ⟨M57, eM57, h⟩ := nm_s h
  rw [← ea56, ← eM57]
  refine e_dup d_Builder_init_109 rfl ?_
  obtain ⟨M58, hM58, h⟩ := bnd h
  refine e_cIN (mt1 := m_Shape_init) (As := []) (st := [.ref a56, .int 5, .ref v55]) (k2 := 25) (n2 := 1740) d_Builder_init_110 mx_Builder_42 mn_Shape_init (t_Shape_init n a56 M57 M58 hM58) rfl rfl (okp rfl) (okp rfl) (okp rfl) (okp rfl) (okp rfl) rfl rfl ?_
  obtain ⟨M59, hM59, h⟩ := bnd h
  refine e_aast (kd := 104) (ci := 7) d_Builder_init_113 (by decide) hM59 ?_
  refine e_iinc (v := 6) (l2 := [some (.ref x0), some (.int 6)]) d_Builder_init_114 rfl (by decide) rfl (okl rfl) rfl ?_
  refine e_goto 95 d_Builder_init_117 (by decide) ?_
  refine e_iload_n d_Builder_init_95 rfl ?_
  refine e_bipush (v := 14) d_Builder_init_96 (by decide) ?_
  refine e_ic_ge 120 d_Builder_init_98 (by decide) (fun c9 => absurd c9 (by decide)) (fun _ => ?_)
  refine e_aload_n d_Builder_init_101 rfl ?_
  obtain ⟨v60, hv60, h⟩ := bnd h
  refine e_getR d_Builder_init_102 fl_Builder_20 (fun _ _ _ => rfl) hv60 ?_
  refine e_iload_n d_Builder_init_105 rfl ?_
  refine e_newN (k2 := 26) (n2 := 1741) d_Builder_init_106 ck_Shape cl_Builder_18 in_Shape ini_Shape (by decide) (okp rfl) (okp rfl) rfl rfl ?_
  obtain ⟨a61, ea61, h⟩ := nm_s h
  obtain ⟨M62, eM62, h⟩ := nm_s h
  rw [← ea61, ← eM62]
  refine e_dup d_Builder_init_109 rfl ?_
  obtain ⟨M63, hM63, h⟩ := bnd h
  refine e_cIN (mt1 := m_Shape_init) (As := []) (st := [.ref a61, .int 6, .ref v60]) (k2 := 27) (n2 := 1749) d_Builder_init_110 mx_Builder_42 mn_Shape_init (t_Shape_init n a61 M62 M63 hM63) rfl rfl (okp rfl) (okp rfl) (okp rfl) (okp rfl) (okp rfl) rfl rfl ?_
  obtain ⟨M64, hM64, h⟩ := bnd h
  refine e_aast (kd := 104) (ci := 7) d_Builder_init_113 (by decide) hM64 ?_
  refine e_iinc (v := 7) (l2 := [some (.ref x0), some (.int 7)]) d_Builder_init_114 rfl (by decide) rfl (okl rfl) rfl ?_
  refine e_goto 95 d_Builder_init_117 (by decide) ?_
  refine e_iload_n d_Builder_init_95 rfl ?_
  refine e_bipush (v := 14) d_Builder_init_96 (by decide) ?_
  refine e_ic_ge 120 d_Builder_init_98 (by decide) (fun c9 => absurd c9 (by decide)) (fun _ => ?_)
  refine e_aload_n d_Builder_init_101 rfl ?_
  obtain ⟨v65, hv65, h⟩ := bnd h
  refine e_getR d_Builder_init_102 fl_Builder_20 (fun _ _ _ => rfl) hv65 ?_
  refine e_iload_n d_Builder_init_105 rfl ?_
  refine e_newN (k2 := 28) (n2 := 1750) d_Builder_init_106 ck_Shape cl_Builder_18 in_Shape ini_Shape (by decide) (okp rfl) (okp rfl) rfl rfl ?_
  obtain ⟨a66, ea66, h⟩ := nm_s h
  obtain ⟨M67, eM67, h⟩ := nm_s h
  rw [← ea66, ← eM67]
  refine e_dup d_Builder_init_109 rfl ?_
  obtain ⟨M68, hM68, h⟩ := bnd h
  refine e_cIN (mt1 := m_Shape_init) (As := []) (st := [.ref a66, .int 7, .ref v65]) (k2 := 29) (n2 := 1758) d_Builder_init_110 mx_Builder_42 mn_Shape_init (t_Shape_init n a66 M67 M68 hM68) rfl rfl (okp rfl) (okp rfl) (okp rfl) (okp rfl) (okp rfl) rfl rfl ?_
  obtain ⟨M69, hM69, h⟩ := bnd h
  refine e_aast (kd := 104) (ci := 7) d_Builder_init_113 (by decide) hM69 ?_
  refine e_iinc (v := 8) (l2 := [some (.ref x0), some (.int 8)]) d_Builder_init_114 rfl (by decide) rfl (okl rfl) rfl ?_
  refine e_goto 95 d_Builder_init_117 (by decide) ?_
  refine e_iload_n d_Builder_init_95 rfl ?_
  refine e_bipush (v := 14) d_Builder_init_96 (by decide) ?_
  refine e_ic_ge 120 d_Builder_init_98 (by decide) (fun c9 => absurd c9 (by decide)) (fun _ => ?_)
  refine e_aload_n d_Builder_init_101 rfl ?_
  obtain ⟨v70, hv70, h⟩ := bnd h
  refine e_getR d_Builder_init_102 fl_Builder_20 (fun _ _ _ => rfl) hv70 ?_
  refine e_iload_n d_Builder_init_105 rfl ?_
  refine e_newN (k2 := 30) (n2 := 1759) d_Builder_init_106 ck_Shape cl_Builder_18 in_Shape ini_Shape (by decide) (okp rfl) (okp rfl) rfl rfl ?_
  obtain ⟨a71, ea71, h⟩ := nm_s h
  obtain ⟨M72, eM72, h⟩ := nm_s h
  rw [← ea71, ← eM72]
  refine e_dup d_Builder_init_109 rfl ?_
  obtain ⟨M73, hM73, h⟩ := bnd h
  refine e_cIN (mt1 := m_Shape_init) (As := []) (st := [.ref a71, .int 8, .ref v70]) (k2 := 31) (n2 := 1767) d_Builder_init_110 mx_Builder_42 mn_Shape_init (t_Shape_init n a71 M72 M73 hM73) rfl rfl (okp rfl) (okp rfl) (okp rfl) (okp rfl) (okp rfl) rfl rfl ?_
  obtain ⟨M74, hM74, h⟩ := bnd h
  refine e_aast (kd := 104) (ci := 7) d_Builder_init_113 (by decide) hM74 ?_
  refine e_iinc (v := 9) (l2 := [some (.ref x0), some (.int 9)]) d_Builder_init_114 rfl (by decide) rfl (okl rfl) rfl ?_
  refine e_goto 95 d_Builder_init_117 (by decide) ?_
  refine e_iload_n d_Builder_init_95 rfl ?_
  refine e_bipush (v := 14) d_Builder_init_96 (by decide) ?_
  refine e_ic_ge 120 d_Builder_init_98 (by decide) (fun c9 => absurd c9 (by decide)) (fun _ => ?_)
  refine e_aload_n d_Builder_init_101 rfl ?_
  obtain ⟨v75, hv75, h⟩ := bnd h
  refine e_getR d_Builder_init_102 fl_Builder_20 (fun _ _ _ => rfl) hv75 ?_
  refine e_iload_n d_Builder_init_105 rfl ?_
  refine e_newN (k2 := 32) (n2 := 1768) d_Builder_init_106 ck_Shape cl_Builder_18 in_Shape ini_Shape (by decide) (okp rfl) (okp rfl) rfl rfl ?_
  obtain ⟨a76, ea76, h⟩ := nm_s h
  obtain ⟨M77, eM77, h⟩ := nm_s h
  rw [← ea76, ← eM77]
  refine e_dup d_Builder_init_109 rfl ?_
  obtain ⟨M78, hM78, h⟩ := bnd h
  refine e_cIN (mt1 := m_Shape_init) (As := []) (st := [.ref a76, .int 9, .ref v75]) (k2 := 33) (n2 := 1776) d_Builder_init_110 mx_Builder_42 mn_Shape_init (t_Shape_init n a76 M77 M78 hM78) rfl rfl (okp rfl) (okp rfl) (okp rfl) (okp rfl) (okp rfl) rfl rfl ?_
  obtain ⟨M79, hM79, h⟩ := bnd h
  refine e_aast (kd := 104) (ci := 7) d_Builder_init_113 (by decide) hM79 ?_
  refine e_iinc (v := 10) (l2 := [some (.ref x0), some (.int 10)]) d_Builder_init_114 rfl (by decide) rfl (okl rfl) rfl ?_
  refine e_goto 95 d_Builder_init_117 (by decide) ?_
  refine e_iload_n d_Builder_init_95 rfl ?_
  refine e_bipush (v := 14) d_Builder_init_96 (by decide) ?_
  refine e_ic_ge 120 d_Builder_init_98 (by decide) (fun c9 => absurd c9 (by decide)) (fun _ => ?_)
  refine e_aload_n d_Builder_init_101 rfl ?_
  obtain ⟨v80, hv80, h⟩ := bnd h
  refine e_getR d_Builder_init_102 fl_Builder_20 (fun _ _ _ => rfl) hv80 ?_
  refine e_iload_n d_Builder_init_105 rfl ?_
  refine e_newN (k2 := 34) (n2 := 1777) d_Builder_init_106 ck_Shape cl_Builder_18 in_Shape ini_Shape (by decide) (okp rfl) (okp rfl) rfl rfl ?_
  obtain ⟨a81, ea81, h⟩ := nm_s h
  obtain ⟨M82, eM82, h⟩ := nm_s h
  rw [← ea81, ← eM82]
  refine e_dup d_Builder_init_109 rfl ?_
  obtain ⟨M83, hM83, h⟩ := bnd h
  refine e_cIN (mt1 := m_Shape_init) (As := []) (st := [.ref a81, .int 10, .ref v80]) (k2 := 35) (n2 := 1785) d_Builder_init_110 mx_Builder_42 mn_Shape_init (t_Shape_init n a81 M82 M83 hM83) rfl rfl (okp rfl) (okp rfl) (okp rfl) (okp rfl) (okp rfl) rfl rfl ?_
  obtain ⟨M84, hM84, h⟩ := bnd h
  refine e_aast (kd := 104) (ci := 7) d_Builder_init_113 (by decide) hM84 ?_
  refine e_iinc (v := 11) (l2 := [some (.ref x0), some (.int 11)]) d_Builder_init_114 rfl (by decide) rfl (okl rfl) rfl ?_
  refine e_goto 95 d_Builder_init_117 (by decide) ?_
  refine e_iload_n d_Builder_init_95 rfl ?_
  refine e_bipush (v := 14) d_Builder_init_96 (by decide) ?_
  refine e_ic_ge 120 d_Builder_init_98 (by decide) (fun c9 => absurd c9 (by decide)) (fun _ => ?_)
  refine e_aload_n d_Builder_init_101 rfl ?_
  obtain ⟨v85, hv85, h⟩ := bnd h
  refine e_getR d_Builder_init_102 fl_Builder_20 (fun _ _ _ => rfl) hv85 ?_
  refine e_iload_n d_Builder_init_105 rfl ?_
  refine e_newN (k2 := 36) (n2 := 1786) d_Builder_init_106 ck_Shape cl_Builder_18 in_Shape ini_Shape (by decide) (okp rfl) (okp rfl) rfl rfl ?_
  obtain ⟨a86, ea86, h⟩ := nm_s h
  obtain ⟨M87, eM87, h⟩ := nm_s h
  rw [← ea86, ← eM87]
  refine e_dup d_Builder_init_109 rfl ?_
  obtain ⟨M88, hM88, h⟩ := bnd h
  refine e_cIN (mt1 := m_Shape_init) (As := []) (st := [.ref a86, .int 11, .ref v85]) (k2 := 37) (n2 := 1794) d_Builder_init_110 mx_Builder_42 mn_Shape_init (t_Shape_init n a86 M87 M88 hM88) rfl rfl (okp rfl) (okp rfl) (okp rfl) (okp rfl) (okp rfl) rfl rfl ?_
  obtain ⟨M89, hM89, h⟩ := bnd h
  refine e_aast (kd := 104) (ci := 7) d_Builder_init_113 (by decide) hM89 ?_
  refine e_iinc (v := 12) (l2 := [some (.ref x0), some (.int 12)]) d_Builder_init_114 rfl (by decide) rfl (okl rfl) rfl ?_
  refine e_goto 95 d_Builder_init_117 (by decide) ?_
  refine e_iload_n d_Builder_init_95 rfl ?_
  refine e_bipush (v := 14) d_Builder_init_96 (by decide) ?_
  refine e_ic_ge 120 d_Builder_init_98 (by decide) (fun c9 => absurd c9 (by decide)) (fun _ => ?_)
  refine e_aload_n d_Builder_init_101 rfl ?_
  obtain ⟨v90, hv90, h⟩ := bnd h
  refine e_getR d_Builder_init_102 fl_Builder_20 (fun _ _ _ => rfl) hv90 ?_
  refine e_iload_n d_Builder_init_105 rfl ?_
  refine e_newN (k2 := 38) (n2 := 1795) d_Builder_init_106 ck_Shape cl_Builder_18 in_Shape ini_Shape (by decide) (okp rfl) (okp rfl) rfl rfl ?_
  obtain ⟨a91, ea91, h⟩ := nm_s h
  obtain ⟨M92, eM92, h⟩ := nm_s h
  rw [← ea91, ← eM92]
  refine e_dup d_Builder_init_109 rfl ?_
  obtain ⟨M93, hM93, h⟩ := bnd h
  refine e_cIN (mt1 := m_Shape_init) (As := []) (st := [.ref a91, .int 12, .ref v90]) (k2 := 39) (n2 := 1803) d_Builder_init_110 mx_Builder_42 mn_Shape_init (t_Shape_init n a91 M92 M93 hM93) rfl rfl (okp rfl) (okp rfl) (okp rfl) (okp rfl) (okp rfl) rfl rfl ?_
  obtain ⟨M94, hM94, h⟩ := bnd h
  refine e_aast (kd := 104) (ci := 7) d_Builder_init_113 (by decide) hM94 ?_
  refine e_iinc (v := 13) (l2 := [some (.ref x0), some (.int 13)]) d_Builder_init_114 rfl (by decide) rfl (okl rfl) rfl ?_
  refine e_goto 95 d_Builder_init_117 (by decide) ?_
  refine e_iload_n d_Builder_init_95 rfl ?_
  refine e_bipush (v := 14) d_Builder_init_96 (by decide) ?_
  refine e_ic_ge 120 d_Builder_init_98 (by decide) (fun c9 => absurd c9 (by decide)) (fun _ => ?_)
  refine e_aload_n d_Builder_init_101 rfl ?_
  obtain ⟨v95, hv95, h⟩ := bnd h
  refine e_getR d_Builder_init_102 fl_Builder_20 (fun _ _ _ => rfl) hv95 ?_
  refine e_iload_n d_Builder_init_105 rfl ?_
  refine e_newN (k2 := 40) (n2 := 1804) d_Builder_init_106 ck_Shape cl_Builder_18 in_Shape ini_Shape (by decide) (okp rfl) (okp rfl) rfl rfl ?_
  obtain ⟨a96, ea96, h⟩ := nm_s h
  obtain ⟨M97, eM97, h⟩ := nm_s h
  rw [← ea96, ← eM97]
  refine e_dup d_Builder_init_109 rfl ?_
  obtain ⟨M98, hM98, h⟩ := bnd h
  refine e_cIN (mt1 := m_Shape_init) (As := []) (st := [.ref a96, .int 13, .ref v95]) (k2 := 41) (n2 := 1812) d_Builder_init_110 mx_Builder_42 mn_Shape_init (t_Shape_init n a96 M97 M98 hM98) rfl rfl (okp rfl) (okp rfl) (okp rfl) (okp rfl) (okp rfl) rfl rfl ?_
  obtain ⟨M99, hM99, h⟩ := bnd h
  refine e_aast (kd := 104) (ci := 7) d_Builder_init_113 (by decide) hM99 ?_
  refine e_iinc (v := 14) (l2 := [some (.ref x0), some (.int 14)]) d_Builder_init_114 rfl (by decide) rfl (okl rfl) rfl ?_
  refine e_goto 95 d_Builder_init_117 (by decide) ?_
  refine e_iload_n d_Builder_init_95 rfl ?_
  refine e_bipush (v := 14) d_Builder_init_96 (by decide) ?_
  refine e_ic_ge 120 d_Builder_init_98 (by decide) (fun _ => ?_) (fun c9 => absurd c9 (by decide))
  refine e_iconst (v := 0) d_Builder_init_120 (by decide) ?_
  refine e_istore_n (l2 := [some (.ref x0), some (.int 0)]) d_Builder_init_121 rfl (okl rfl) rfl ?_
  refine e_iload_n d_Builder_init_122 rfl ?_
  refine e_bipush (v := 7) d_Builder_init_123 (by decide) ?_
  refine e_ic_ge 160 d_Builder_init_125 (by decide) (fun c9 => absurd c9 (by decide)) (fun _ => ?_)
  refine e_aload_n d_Builder_init_128 rfl ?_
  obtain ⟨v100, hv100, h⟩ := bnd h
  refine e_getR d_Builder_init_129 fl_Builder_36 (fun _ _ _ => rfl) hv100 ?_
  refine e_iload_n d_Builder_init_132 rfl ?_
  refine e_newN (k2 := 42) (n2 := 1813) d_Builder_init_133 ck_Shape cl_Builder_18 in_Shape ini_Shape (by decide) (okp rfl) (okp rfl) rfl rfl ?_
  obtain ⟨a101, ea101, h⟩ := nm_s h
  obtain ⟨M102, eM102, h⟩ := nm_s h
  rw [← ea101, ← eM102]
  refine e_dup d_Builder_init_136 rfl ?_
  obtain ⟨M103, hM103, h⟩ := bnd h
  refine e_cIN (mt1 := m_Shape_init) (As := []) (st := [.ref a101, .int 0, .ref v100]) (k2 := 43) (n2 := 1821) d_Builder_init_137 mx_Builder_42 mn_Shape_init (t_Shape_init n a101 M102 M103 hM103) rfl rfl (okp rfl) (okp rfl) (okp rfl) (okp rfl) (okp rfl) rfl rfl ?_
  obtain ⟨M104, hM104, h⟩ := bnd h
  refine e_aast (kd := 104) (ci := 7) d_Builder_init_140 (by decide) hM104 ?_
  refine e_aload_n d_Builder_init_141 rfl ?_
  obtain ⟨v105, hv105, h⟩ := bnd h
  refine e_getR d_Builder_init_142 fl_Builder_39 (fun _ _ _ => rfl) hv105 ?_
  refine e_iload_n d_Builder_init_145 rfl ?_
  refine e_newN (k2 := 44) (n2 := 1822) d_Builder_init_146 ck_Shape cl_Builder_18 in_Shape ini_Shape (by decide) (okp rfl) (okp rfl) rfl rfl ?_
  obtain ⟨a106, ea106, h⟩ := nm_s h
  obtain ⟨M107, eM107, h⟩ := nm_s h
  rw [← ea106, ← eM107]
  refine e_dup d_Builder_init_149 rfl ?_
  obtain ⟨M108, hM108, h⟩ := bnd h
  refine e_cIN (mt1 := m_Shape_init) (As := []) (st := [.ref a106, .int 0, .ref v105]) (k2 := 45) (n2 := 1830) d_Builder_init_150 mx_Builder_42 mn_Shape_init (t_Shape_init n a106 M107 M108 hM108) rfl rfl (okp rfl) (okp rfl) (okp rfl) (okp rfl) (okp rfl) rfl rfl ?_
  obtain ⟨M109, hM109, h⟩ := bnd h
  refine e_aast (kd := 104) (ci := 7) d_Builder_init_153 (by decide) hM109 ?_
  refine e_iinc (v := 1) (l2 := [some (.ref x0), some (.int 1)]) d_Builder_init_154 rfl (by decide) rfl (okl rfl) rfl ?_
  refine e_goto 122 d_Builder_init_157 (by decide) ?_
  refine e_iload_n d_Builder_init_122 rfl ?_
  refine e_bipush (v := 7) d_Builder_init_123 (by decide) ?_
  refine e_ic_ge 160 d_Builder_init_125 (by decide) (fun c9 => absurd c9 (by decide)) (fun _ => ?_)
  refine e_aload_n d_Builder_init_128 rfl ?_
  obtain ⟨v110, hv110, h⟩ := bnd h
  refine e_getR d_Builder_init_129 fl_Builder_36 (fun _ _ _ => rfl) hv110 ?_
  refine e_iload_n d_Builder_init_132 rfl ?_
  refine e_newN (k2 := 46) (n2 := 1831) d_Builder_init_133 ck_Shape cl_Builder_18 in_Shape ini_Shape (by decide) (okp rfl) (okp rfl) rfl rfl ?_
  obtain ⟨a111, ea111, h⟩ := nm_s h
  obtain ⟨M112, eM112, h⟩ := nm_s h
  rw [← ea111, ← eM112]
  refine e_dup d_Builder_init_136 rfl ?_
  obtain ⟨M113, hM113, h⟩ := bnd h
  refine e_cIN (mt1 := m_Shape_init) (As := []) (st := [.ref a111, .int 1, .ref v110]) (k2 := 47) (n2 := 1839) d_Builder_init_137 mx_Builder_42 mn_Shape_init (t_Shape_init n a111 M112 M113 hM113) rfl rfl (okp rfl) (okp rfl) (okp rfl) (okp rfl) (okp rfl) rfl rfl ?_
  obtain ⟨M114, hM114, h⟩ := bnd h
  refine e_aast (kd := 104) (ci := 7) d_Builder_init_140 (by decide) hM114 ?_
  refine e_aload_n d_Builder_init_141 rfl ?_
  obtain ⟨v115, hv115, h⟩ := bnd h
  refine e_getR d_Builder_init_142 fl_Builder_39 (fun _ _ _ => rfl) hv115 ?_
  refine e_iload_n d_Builder_init_145 rfl ?_
  refine e_newN (k2 := 48) (n2 := 1840) d_Builder_init_146 ck_Shape cl_Builder_18 in_Shape ini_Shape (by decide) (okp rfl) (okp rfl) rfl rfl ?_
  obtain ⟨a116, ea116, h⟩ := nm_s h
  obtain ⟨M117, eM117, h⟩ := nm_s h
  rw [← ea116, ← eM117]
  refine e_dup d_Builder_init_149 rfl ?_
  obtain ⟨M118, hM118, h⟩ := bnd h
  refine e_cIN (mt1 := m_Shape_init) (As := []) (st := [.ref a116, .int 1, .ref v115]) (k2 := 49) (n2 := 1848) d_Builder_init_150 mx_Builder_42 mn_Shape_init (t_Shape_init n a116 M117 M118 hM118) rfl rfl (okp rfl) (okp rfl) (okp rfl) (okp rfl) (okp rfl) rfl rfl ?_
  obtain ⟨M119, hM119, h⟩ := bnd h
  refine e_aast (kd := 104) (ci := 7) d_Builder_init_153 (by decide) hM119 ?_
  refine e_iinc (v := 2) (l2 := [some (.ref x0), some (.int 2)]) d_Builder_init_154 rfl (by decide) rfl (okl rfl) rfl ?_
  refine e_goto 122 d_Builder_init_157 (by decide) ?_
  refine e_iload_n d_Builder_init_122 rfl ?_
  refine e_bipush (v := 7) d_Builder_init_123 (by decide) ?_
  refine e_ic_ge 160 d_Builder_init_125 (by decide) (fun c9 => absurd c9 (by decide)) (fun _ => ?_)
  refine e_aload_n d_Builder_init_128 rfl ?_
  obtain ⟨v120, hv120, h⟩ := bnd h
  refine e_getR d_Builder_init_129 fl_Builder_36 (fun _ _ _ => rfl) hv120 ?_
  refine e_iload_n d_Builder_init_132 rfl ?_
  refine e_newN (k2 := 50) (n2 := 1849) d_Builder_init_133 ck_Shape cl_Builder_18 in_Shape ini_Shape (by decide) (okp rfl) (okp rfl) rfl rfl ?_
  obtain ⟨a121, ea121, h⟩ := nm_s h
  obtain ⟨M122, eM122, h⟩ := nm_s h
  rw [← ea121, ← eM122]
  refine e_dup d_Builder_init_136 rfl ?_
  obtain ⟨M123, hM123, h⟩ := bnd h
  refine e_cIN (mt1 := m_Shape_init) (As := []) (st := [.ref a121, .int 2, .ref v120]) (k2 := 51) (n2 := 1857) d_Builder_init_137 mx_Builder_42 mn_Shape_init (t_Shape_init n a121 M122 M123 hM123) rfl rfl (okp rfl) (okp rfl) (okp rfl) (okp rfl) (okp rfl) rfl rfl ?_
  obtain ⟨M124, hM124, h⟩ := bnd h
  refine e_aast (kd := 104) (ci := 7) d_Builder_init_140 (by decide) hM124 ?_
  refine e_aload_n d_Builder_init_141 rfl ?_
  obtain ⟨v125, hv125, h⟩ := bnd h
  refine e_getR d_Builder_init_142 fl_Builder_39 (fun _ _ _ => rfl) hv125 ?_
  refine e_iload_n d_Builder_init_145 rfl ?_
  refine e_newN (k2 := 52) (n2 := 1858) d_Builder_init_146 ck_Shape cl_Builder_18 in_Shape ini_Shape (by decide) (okp rfl) (okp rfl) rfl rfl ?_
  obtain ⟨a126, ea126, h⟩ := nm_s h
  obtain ⟨M127, eM127, h⟩ := nm_s h
  rw [← ea126, ← eM127]
  refine e_dup d_Builder_init_149 rfl ?_
  obtain ⟨M128, hM128, h⟩ := bnd h
  refine e_cIN (mt1 := m_Shape_init) (As := []) (st := [.ref a126, .int 2, .ref v125]) (k2 := 53) (n2 := 1866) d_Builder_init_150 mx_Builder_42 mn_Shape_init (t_Shape_init n a126 M127 M128 hM128) rfl rfl (okp rfl) (okp rfl) (okp rfl) (okp rfl) (okp rfl) rfl rfl ?_
  obtain ⟨M129, hM129, h⟩ := bnd h
  refine e_aast (kd := 104) (ci := 7) d_Builder_init_153 (by decide) hM129 ?_
  refine e_iinc (v := 3) (l2 := [some (.ref x0), some (.int 3)]) d_Builder_init_154 rfl (by decide) rfl (okl rfl) rfl ?_
  refine e_goto 122 d_Builder_init_157 (by decide) ?_
  refine e_iload_n d_Builder_init_122 rfl ?_
  refine e_bipush (v := 7) d_Builder_init_123 (by decide) ?_
  refine e_ic_ge 160 d_Builder_init_125 (by decide) (fun c9 => absurd c9 (by decide)) (fun _ => ?_)
  refine e_aload_n d_Builder_init_128 rfl ?_
  obtain ⟨v130, hv130, h⟩ := bnd h
  refine e_getR d_Builder_init_129 fl_Builder_36 (fun _ _ _ => rfl) hv130 ?_
  refine e_iload_n d_Builder_init_132 rfl ?_
  refine e_newN (k2 := 54) (n2 := 1867) d_Builder_init_133 ck_Shape cl_Builder_18 in_Shape ini_Shape (by decide) (okp rfl) (okp rfl) rfl rfl ?_
  obtain ⟨a131, ea131, h⟩ := nm_s h
  obtain ⟨M132, eM132, h⟩ := nm_s h
  rw [← ea131, ← eM132]
  refine e_dup d_Builder_init_136 rfl ?_
  obtain ⟨M133, hM133, h⟩ := bnd h
  refine e_cIN (mt1 := m_Shape_init) (As := []) (st := [.ref a131, .int 3, .ref v130]) (k2 := 55) (n2 := 1875) d_Builder_init_137 mx_Builder_42 mn_Shape_init (t_Shape_init n a131 M132 M133 hM133) rfl rfl (okp rfl) (okp rfl) (okp rfl) (okp rfl) (okp rfl) rfl rfl ?_
  obtain ⟨M134, hM134, h⟩ := bnd h
  refine e_aast (kd := 104) (ci := 7) d_Builder_init_140 (by decide) hM134 ?_
  refine e_aload_n d_Builder_init_141 rfl ?_
  obtain ⟨v135, hv135, h⟩ := bnd h
  refine e_getR d_Builder_init_142 fl_Builder_39 (fun _ _ _ => rfl) hv135 ?_
  refine e_iload_n d_Builder_init_145 rfl ?_
  refine e_newN (k2 := 56) (n2 := 1876) d_Builder_init_146 ck_Shape cl_Builder_18 in_Shape ini_Shape (by decide) (okp rfl) (okp rfl) rfl rfl ?_
  obtain ⟨a136, ea136, h⟩ := nm_s h
  obtain ⟨M137, eM137, h⟩ := nm_s h
  rw [← ea136, ← eM137]
  refine e_dup d_Builder_init_149 rfl ?_
  obtain ⟨M138, hM138, h⟩ := bnd h
  refine e_cIN (mt1 := m_Shape_init) (As := []) (st := [.ref a136, .int 3, .ref v135]) (k2 := 57) (n2 := 1884) d_Builder_init_150 mx_Builder_42 mn_Shape_init (t_Shape_init n a136 M137 M138 hM138) rfl rfl (okp rfl) (okp rfl) (okp rfl) (okp rfl) (okp rfl) rfl rfl ?_
  obtain ⟨M139, hM139, h⟩ := bnd h
  refine e_aast (kd := 104) (ci := 7) d_Builder_init_153 (by decide) hM139 ?_
  refine e_iinc (v := 4) (l2 := [some (.ref x0), some (.int 4)]) d_Builder_init_154 rfl (by decide) rfl (okl rfl) rfl ?_
  refine e_goto 122 d_Builder_init_157 (by decide) ?_
  refine e_iload_n d_Builder_init_122 rfl ?_
  refine e_bipush (v := 7) d_Builder_init_123 (by decide) ?_
  refine e_ic_ge 160 d_Builder_init_125 (by decide) (fun c9 => absurd c9 (by decide)) (fun _ => ?_)
  refine e_aload_n d_Builder_init_128 rfl ?_
  obtain ⟨v140, hv140, h⟩ := bnd h
  refine e_getR d_Builder_init_129 fl_Builder_36 (fun _ _ _ => rfl) hv140 ?_
  refine e_iload_n d_Builder_init_132 rfl ?_
  refine e_newN (k2 := 58) (n2 := 1885) d_Builder_init_133 ck_Shape cl_Builder_18 in_Shape ini_Shape (by decide) (okp rfl) (okp rfl) rfl rfl ?_
  obtain ⟨a141, ea141, h⟩ := nm_s h
  obtain ⟨M142, eM142, h⟩ := nm_s h
  rw [← ea141, ← eM142]
  refine e_dup d_Builder_init_136 rfl ?_
  obtain ⟨M143, hM143, h⟩ := bnd h
  refine e_cIN (mt1 := m_Shape_init) (As := []) (st := [.ref a141, .int 4, .ref v140]) (k2 := 59) (n2 := 1893) d_Builder_init_137 mx_Builder_42 mn_Shape_init (t_Shape_init n a141 M142 M143 hM143) rfl rfl (okp rfl) (okp rfl) (okp rfl) (okp rfl) (okp rfl) rfl rfl ?_
  obtain ⟨M144, hM144, h⟩ := bnd h
  refine e_aast (kd := 104) (ci := 7) d_Builder_init_140 (by decide) hM144 ?_
  refine e_aload_n d_Builder_init_141 rfl ?_
  obtain ⟨v145, hv145, h⟩ := bnd h
  refine e_getR d_Builder_init_142 fl_Builder_39 (fun _ _ _ => rfl) hv145 ?_
  refine e_iload_n d_Builder_init_145 rfl ?_
  refine e_newN (k2 := 60) (n2 := 1894) d_Builder_init_146 ck_Shape cl_Builder_18 in_Shape ini_Shape (by decide) (okp rfl) (okp rfl) rfl rfl ?_
  obtain ⟨a146, ea146, h⟩ := nm_s h
  obtain ⟨M147, eM147, h⟩ := nm_s h
  rw [← ea146, ← eM147]
  refine e_dup d_Builder_init_149 rfl ?_
  obtain ⟨M148, hM148, h⟩ := bnd h
  refine e_cIN (mt1 := m_Shape_init) (As := []) (st := [.ref a146, .int 4, .ref v145]) (k2 := 61) (n2 := 1902) d_Builder_init_150 mx_Builder_42 mn_Shape_init (t_Shape_init n a146 M147 M148 hM148) rfl rfl (okp rfl) (okp rfl) (okp rfl) (okp rfl) (okp rfl) rfl rfl ?_
  obtain ⟨M149, hM149, h⟩ := bnd h
  refine e_aast (kd := 104) (ci := 7) d_Builder_init_153 (by decide) hM149 ?_
  refine e_iinc (v := 5) (l2 := [some (.ref x0), some (.int 5)]) d_Builder_init_154 rfl (by decide) rfl (okl rfl) rfl ?_
  refine e_goto 122 d_Builder_init_157 (by decide) ?_
  refine e_iload_n d_Builder_init_122 rfl ?_
  refine e_bipush (v := 7) d_Builder_init_123 (by decide) ?_
  refine e_ic_ge 160 d_Builder_init_125 (by decide) (fun c9 => absurd c9 (by decide)) (fun _ => ?_)
  refine e_aload_n d_Builder_init_128 rfl ?_
  obtain ⟨v150, hv150, h⟩ := bnd h
  refine e_getR d_Builder_init_129 fl_Builder_36 (fun _ _ _ => rfl) hv150 ?_
  refine e_iload_n d_Builder_init_132 rfl ?_
  refine e_newN (k2 := 62) (n2 := 1903) d_Builder_init_133 ck_Shape cl_Builder_18 in_Shape ini_Shape (by decide) (okp rfl) (okp rfl) rfl rfl ?_
  obtain ⟨a151, ea151, h⟩ := nm_s h
  obtain ⟨M152, eM152, h⟩ := nm_s h
  rw [← ea151, ← eM152]
  refine e_dup d_Builder_init_136 rfl ?_
  obtain ⟨M153, hM153, h⟩ := bnd h
  refine e_cIN (mt1 := m_Shape_init) (As := []) (st := [.ref a151, .int 5, .ref v150]) (k2 := 63) (n2 := 1911) d_Builder_init_137 mx_Builder_42 mn_Shape_init (t_Shape_init n a151 M152 M153 hM153) rfl rfl (okp rfl) (okp rfl) (okp rfl) (okp rfl) (okp rfl) rfl rfl ?_
  obtain ⟨M154, hM154, h⟩ := bnd h
  refine e_aast (kd := 104) (ci := 7) d_Builder_init_140 (by decide) hM154 ?_
  refine e_aload_n d_Builder_init_141 rfl ?_
  obtain ⟨v155, hv155, h⟩ := bnd h
  refine e_getR d_Builder_init_142 fl_Builder_39 (fun _ _ _ => rfl) hv155 ?_
  refine e_iload_n d_Builder_init_145 rfl ?_
  refine e_newN (k2 := 64) (n2 := 1912) d_Builder_init_146 ck_Shape cl_Builder_18 in_Shape ini_Shape (by decide) (okp rfl) (okp rfl) rfl rfl ?_
  obtain ⟨a156, ea156, h⟩ := nm_s h
  obtain ⟨M157, eM157, h⟩ := nm_s h
  rw [← ea156, ← eM157]
  refine e_dup d_Builder_init_149 rfl ?_
  obtain ⟨M158, hM158, h⟩ := bnd h
  refine e_cIN (mt1 := m_Shape_init) (As := []) (st := [.ref a156, .int 5, .ref v155]) (k2 := 65) (n2 := 1920) d_Builder_init_150 mx_Builder_42 mn_Shape_init (t_Shape_init n a156 M157 M158 hM158) rfl rfl (okp rfl) (okp rfl) (okp rfl) (okp rfl) (okp rfl) rfl rfl ?_
  obtain ⟨M159, hM159, h⟩ := bnd h
  refine e_aast (kd := 104) (ci := 7) d_Builder_init_153 (by decide) hM159 ?_
  refine e_iinc (v := 6) (l2 := [some (.ref x0), some (.int 6)]) d_Builder_init_154 rfl (by decide) rfl (okl rfl) rfl ?_
  refine e_goto 122 d_Builder_init_157 (by decide) ?_
  refine e_iload_n d_Builder_init_122 rfl ?_
  refine e_bipush (v := 7) d_Builder_init_123 (by decide) ?_
  refine e_ic_ge 160 d_Builder_init_125 (by decide) (fun c9 => absurd c9 (by decide)) (fun _ => ?_)
  refine e_aload_n d_Builder_init_128 rfl ?_
  obtain ⟨v160, hv160, h⟩ := bnd h
  refine e_getR d_Builder_init_129 fl_Builder_36 (fun _ _ _ => rfl) hv160 ?_
  refine e_iload_n d_Builder_init_132 rfl ?_
  refine e_newN (k2 := 66) (n2 := 1921) d_Builder_init_133 ck_Shape cl_Builder_18 in_Shape ini_Shape (by decide) (okp rfl) (okp rfl) rfl rfl ?_
  obtain ⟨a161, ea161, h⟩ := nm_s h
  obtain ⟨M162, eM162, h⟩ := nm_s h
  rw [← ea161, ← eM162]
  refine e_dup d_Builder_init_136 rfl ?_
  obtain ⟨M163, hM163, h⟩ := bnd h
  refine e_cIN (mt1 := m_Shape_init) (As := []) (st := [.ref a161, .int 6, .ref v160]) (k2 := 67) (n2 := 1929) d_Builder_init_137 mx_Builder_42 mn_Shape_init (t_Shape_init n a161 M162 M163 hM163) rfl rfl (okp rfl) (okp rfl) (okp rfl) (okp rfl) (okp rfl) rfl rfl ?_
  obtain ⟨M164, hM164, h⟩ := bnd h
  refine e_aast (kd := 104) (ci := 7) d_Builder_init_140 (by decide) hM164 ?_
  refine e_aload_n d_Builder_init_141 rfl ?_
  obtain ⟨v165, hv165, h⟩ := bnd h
  refine e_getR d_Builder_init_142 fl_Builder_39 (fun _ _ _ => rfl) hv165 ?_
  refine e_iload_n d_Builder_init_145 rfl ?_
  refine e_newN (k2 := 68) (n2 := 1930) d_Builder_init_146 ck_Shape cl_Builder_18 in_Shape ini_Shape (by decide) (okp rfl) (okp rfl) rfl rfl ?_
  obtain ⟨a166, ea166, h⟩ := nm_s h
  obtain ⟨M167, eM167, h⟩ := nm_s h
  rw [← ea166, ← eM167]
  refine e_dup d_Builder_init_149 rfl ?_
  obtain ⟨M168, hM168, h⟩ := bnd h
  refine e_cIN (mt1 := m_Shape_init) (As := []) (st := [.ref a166, .int 6, .ref v165]) (k2 := 69) (n2 := 1938) d_Builder_init_150 mx_Builder_42 mn_Shape_init (t_Shape_init n a166 M167 M168 hM168) rfl rfl (okp rfl) (okp rfl) (okp rfl) (okp rfl) (okp rfl) rfl rfl ?_
  obtain ⟨M169, hM169, h⟩ := bnd h
  refine e_aast (kd := 104) (ci := 7) d_Builder_init_153 (by decide) hM169 ?_
  refine e_iinc (v := 7) (l2 := [some (.ref x0), some (.int 7)]) d_Builder_init_154 rfl (by decide) rfl (okl rfl) rfl ?_
  refine e_goto 122 d_Builder_init_157 (by decide) ?_
  refine e_iload_n d_Builder_init_122 rfl ?_
  refine e_bipush (v := 7) d_Builder_init_123 (by decide) ?_
  refine e_ic_ge 160 d_Builder_init_125 (by decide) (fun _ => ?_) (fun c9 => absurd c9 (by decide))
  cases h
  exact e_vret d_Builder_init_160 rfl (okp rfl) (okp rfl)
theorem d_Measure_init_0 : DC m_Measure_init 0 (.aload_n 0) 1 1 := ⟨by decide +kernel, rfl⟩
theorem d_Measure_init_1 : DC m_Measure_init 1 (.invokespecial 3) 3 4 := ⟨by decide +kernel, rfl⟩
theorem d_Measure_init_4 : DC m_Measure_init 4 (.aload_n 0) 1 5 := ⟨by decide +kernel, rfl⟩
theorem d_Measure_init_5 : DC m_Measure_init 5 (.new 9) 3 8 := ⟨by decide +kernel, rfl⟩
theorem d_Measure_init_8 : DC m_Measure_init 8 .dup 1 9 := ⟨by decide +kernel, rfl⟩
theorem d_Measure_init_9 : DC m_Measure_init 9 (.invokespecial 11) 3 12 := ⟨by decide +kernel, rfl⟩
theorem d_Measure_init_12 : DC m_Measure_init 12 (.putfield 12) 3 15 := ⟨by decide +kernel, rfl⟩
theorem d_Measure_init_15 : DC m_Measure_init 15 (.aload_n 0) 1 16 := ⟨by decide +kernel, rfl⟩
theorem d_Measure_init_16 : DC m_Measure_init 16 (.sipush 256) 3 19 := ⟨by decide +kernel, rfl⟩
theorem d_Measure_init_19 : DC m_Measure_init 19 (.newarray .int) 2 21 := ⟨by decide +kernel, rfl⟩
theorem d_Measure_init_21 : DC m_Measure_init 21 (.putfield 18) 3 24 := ⟨by decide +kernel, rfl⟩
theorem d_Measure_init_24 : DC m_Measure_init 24 (.aload_n 0) 1 25 := ⟨by decide +kernel, rfl⟩
theorem d_Measure_init_25 : DC m_Measure_init 25 (.iconst 0) 1 26 := ⟨by decide +kernel, rfl⟩
theorem d_Measure_init_26 : DC m_Measure_init 26 (.putfield 22) 3 29 := ⟨by decide +kernel, rfl⟩
theorem d_Measure_init_29 : DC m_Measure_init 29 .return_ 1 30 := ⟨by decide +kernel, rfl⟩
set_option maxRecDepth 20000 in
def f_Measure_init (n : Nat) (x0 : Nat) (M : MM) : Option MM :=
  nm (rho M.1.1) fun a1 =>
  nm (nwC 7 0 M) fun M2 =>
  (f_Shape_init n a1 M2).bind fun M3 =>
  (pR 6 0 x0 a1 M3).bind fun M4 =>
  nm (rho M4.1.1) fun a5 =>
  nm (nwC 100 256 M4) fun M6 =>
  (pR 6 1 x0 a5 M6).bind fun M7 =>
  (pI 6 2 x0 0 M7).bind fun M8 =>
  some M8
set_option maxRecDepth 20000 in
theorem t_Measure_init (n : Nat) (x0 : Nat) (M : MM) (z : MM) (h : f_Measure_init n x0 M = some z) : CT m_Measure_init (rm 3 3 265) [.ref x0] M none z := by
  unfold f_Measure_init at h
  refine CT.of (ls := [some (.ref x0)]) rfl (okp rfl) rfl ?_
  refine e_aload_n d_Measure_init_0 rfl ?_
  refine e_objInit d_Measure_init_1 ml_Measure_3 oi_in oi_code (okp rfl) (okp rfl) (okp rfl) ?_
  refine e_aload_n d_Measure_init_4 rfl ?_
  refine e_newN (k2 := 1) (n2 := 1) d_Measure_init_5 ck_Shape cl_Measure_9 in_Shape ini_Shape (by decide) (okp rfl) (okp rfl) rfl rfl ?_
  obtain ⟨a1, ea1, h⟩ := nm_s h
  obtain ⟨M2, eM2, h⟩ := nm_s h
  rw [← ea1, ← eM2]
  refine e_dup d_Measure_init_8 rfl ?_
  obtain ⟨M3, hM3, h⟩ := bnd h
  refine e_cIN (mt1 := m_Shape_init) (As := []) (st := [.ref a1, .ref x0]) (k2 := 2) (n2 := 9) d_Measure_init_9 mx_Measure_11 mn_Shape_init (t_Shape_init n a1 M2 M3 hM3) rfl rfl (okp rfl) (okp rfl) (okp rfl) (okp rfl) (okp rfl) rfl rfl ?_
  obtain ⟨M4, hM4, h⟩ := bnd h
  refine e_putR d_Measure_init_12 fl_Measure_12 (Or.inr ⟨rfl, _, rfl, rfl⟩) (fun _ _ _ => rfl) (fun _ => ⟨rfl, rfl⟩) hM4 ?_
  refine e_aload_n d_Measure_init_15 rfl ?_
  refine e_sipush (v := 256) d_Measure_init_16 (by decide) ?_
  refine e_newaN (kd := 100) (len := 256) (ty := .int) (k2 := 3) (n2 := 265) d_Measure_init_19 rfl ac_int (by decide) (by decide) (by decide) (okp rfl) (okp rfl) (okp rfl) rfl rfl ?_
  obtain ⟨a5, ea5, h⟩ := nm_s h
  obtain ⟨M6, eM6, h⟩ := nm_s h
  rw [← ea5, ← eM6]
  obtain ⟨M7, hM7, h⟩ := bnd h
  refine e_putR d_Measure_init_21 fl_Measure_18 (Or.inr ⟨rfl, _, rfl, rfl⟩) (fun _ _ _ => rfl) (fun _ => ⟨rfl, rfl⟩) hM7 ?_
  refine e_aload_n d_Measure_init_24 rfl ?_
  refine e_iconst (v := 0) d_Measure_init_25 (by decide) ?_
  obtain ⟨M8, hM8, h⟩ := bnd h
  refine e_putI d_Measure_init_26 fl_Measure_22 (Or.inl rfl) (fun _ _ _ => rfl) rfl hM8 ?_
  cases h
  exact e_vret d_Measure_init_29 rfl (okp rfl) (okp rfl)
theorem d_Filler_init_0 : DC m_Filler_init 0 (.aload_n 0) 1 1 := ⟨by decide +kernel, rfl⟩
theorem d_Filler_init_1 : DC m_Filler_init 1 (.invokespecial 5) 3 4 := ⟨by decide +kernel, rfl⟩
theorem d_Filler_init_4 : DC m_Filler_init 4 (.aload_n 0) 1 5 := ⟨by decide +kernel, rfl⟩
theorem d_Filler_init_5 : DC m_Filler_init 5 (.bipush 8) 2 7 := ⟨by decide +kernel, rfl⟩
theorem d_Filler_init_7 : DC m_Filler_init 7 (.anewarray 11) 3 10 := ⟨by decide +kernel, rfl⟩
theorem d_Filler_init_10 : DC m_Filler_init 10 (.putfield 13) 3 13 := ⟨by decide +kernel, rfl⟩
theorem d_Filler_init_13 : DC m_Filler_init 13 (.aload_n 0) 1 14 := ⟨by decide +kernel, rfl⟩
theorem d_Filler_init_14 : DC m_Filler_init 14 (.iconst 0) 1 15 := ⟨by decide +kernel, rfl⟩
theorem d_Filler_init_15 : DC m_Filler_init 15 (.putfield 17) 3 18 := ⟨by decide +kernel, rfl⟩
theorem d_Filler_init_18 : DC m_Filler_init 18 (.aload_n 0) 1 19 := ⟨by decide +kernel, rfl⟩
theorem d_Filler_init_19 : DC m_Filler_init 19 (.new 21) 3 22 := ⟨by decide +kernel, rfl⟩
theorem d_Filler_init_22 : DC m_Filler_init 22 .dup 1 23 := ⟨by decide +kernel, rfl⟩
theorem d_Filler_init_23 : DC m_Filler_init 23 (.invokespecial 23) 3 26 := ⟨by decide +kernel, rfl⟩
theorem d_Filler_init_26 : DC m_Filler_init 26 (.putfield 24) 3 29 := ⟨by decide +kernel, rfl⟩
theorem d_Filler_init_29 : DC m_Filler_init 29 (.aload_n 0) 1 30 := ⟨by decide +kernel, rfl⟩
theorem d_Filler_init_30 : DC m_Filler_init 30 (.iconst 0) 1 31 := ⟨by decide +kernel, rfl⟩
theorem d_Filler_init_31 : DC m_Filler_init 31 (.putfield 28) 3 34 := ⟨by decide +kernel, rfl⟩
theorem d_Filler_init_34 : DC m_Filler_init 34 (.aload_n 0) 1 35 := ⟨by decide +kernel, rfl⟩
theorem d_Filler_init_35 : DC m_Filler_init 35 (.iconst 0) 1 36 := ⟨by decide +kernel, rfl⟩
theorem d_Filler_init_36 : DC m_Filler_init 36 (.putfield 32) 3 39 := ⟨by decide +kernel, rfl⟩
theorem d_Filler_init_39 : DC m_Filler_init 39 (.aload_n 0) 1 40 := ⟨by decide +kernel, rfl⟩
theorem d_Filler_init_40 : DC m_Filler_init 40 (.iconst 0) 1 41 := ⟨by decide +kernel, rfl⟩
theorem d_Filler_init_41 : DC m_Filler_init 41 (.putfield 35) 3 44 := ⟨by decide +kernel, rfl⟩
theorem d_Filler_init_44 : DC m_Filler_init 44 (.aload_n 0) 1 45 := ⟨by decide +kernel, rfl⟩
theorem d_Filler_init_45 : DC m_Filler_init 45 (.iconst 0) 1 46 := ⟨by decide +kernel, rfl⟩
theorem d_Filler_init_46 : DC m_Filler_init 46 (.putfield 38) 3 49 := ⟨by decide +kernel, rfl⟩
theorem d_Filler_init_49 : DC m_Filler_init 49 (.aload_n 0) 1 50 := ⟨by decide +kernel, rfl⟩
theorem d_Filler_init_50 : DC m_Filler_init 50 (.bipush 8) 2 52 := ⟨by decide +kernel, rfl⟩
theorem d_Filler_init_52 : DC m_Filler_init 52 (.newarray .int) 2 54 := ⟨by decide +kernel, rfl⟩
theorem d_Filler_init_54 : DC m_Filler_init 54 (.putfield 41) 3 57 := ⟨by decide +kernel, rfl⟩
theorem d_Filler_init_57 : DC m_Filler_init 57 (.aload_n 0) 1 58 := ⟨by decide +kernel, rfl⟩
theorem d_Filler_init_58 : DC m_Filler_init 58 (.bipush 8) 2 60 := ⟨by decide +kernel, rfl⟩
theorem d_Filler_init_60 : DC m_Filler_init 60 (.newarray .int) 2 62 := ⟨by decide +kernel, rfl⟩
theorem d_Filler_init_62 : DC m_Filler_init 62 (.putfield 45) 3 65 := ⟨by decide +kernel, rfl⟩
theorem d_Filler_init_65 : DC m_Filler_init 65 (.aload_n 0) 1 66 := ⟨by decide +kernel, rfl⟩
theorem d_Filler_init_66 : DC m_Filler_init 66 (.iconst 0) 1 67 := ⟨by decide +kernel, rfl⟩
theorem d_Filler_init_67 : DC m_Filler_init 67 (.putfield 48) 3 70 := ⟨by decide +kernel, rfl⟩
theorem d_Filler_init_70 : DC m_Filler_init 70 (.aload_n 0) 1 71 := ⟨by decide +kernel, rfl⟩
theorem d_Filler_init_71 : DC m_Filler_init 71 (.bipush 6) 2 73 := ⟨by decide +kernel, rfl⟩
theorem d_Filler_init_73 : DC m_Filler_init 73 (.newarray .int) 2 75 := ⟨by decide +kernel, rfl⟩
theorem d_Filler_init_75 : DC m_Filler_init 75 (.putfield 51) 3 78 := ⟨by decide +kernel, rfl⟩
theorem d_Filler_init_78 : DC m_Filler_init 78 (.aload_n 0) 1 79 := ⟨by decide +kernel, rfl⟩
theorem d_Filler_init_79 : DC m_Filler_init 79 (.bipush 6) 2 81 := ⟨by decide +kernel, rfl⟩
theorem d_Filler_init_81 : DC m_Filler_init 81 (.bipush 8) 2 83 := ⟨by decide +kernel, rfl⟩
theorem d_Filler_init_83 : DC m_Filler_init 83 (.multianewarray 54 2) 4 87 := ⟨by decide +kernel, rfl⟩
theorem d_Filler_init_87 : DC m_Filler_init 87 (.putfield 56) 3 90 := ⟨by decide +kernel, rfl⟩
theorem d_Filler_init_90 : DC m_Filler_init 90 (.iconst 0) 1 91 := ⟨by decide +kernel, rfl⟩
theorem d_Filler_init_91 : DC m_Filler_init 91 (.istore_n 1) 1 92 := ⟨by decide +kernel, rfl⟩
theorem d_Filler_init_92 : DC m_Filler_init 92 (.iload_n 1) 1 93 := ⟨by decide +kernel, rfl⟩
theorem d_Filler_init_93 : DC m_Filler_init 93 (.bipush 8) 2 95 := ⟨by decide +kernel, rfl⟩
theorem d_Filler_init_95 : DC m_Filler_init 95 (.if_icmp .ge 22) 3 98 := ⟨by decide +kernel, rfl⟩
theorem d_Filler_init_98 : DC m_Filler_init 98 (.aload_n 0) 1 99 := ⟨by decide +kernel, rfl⟩
theorem d_Filler_init_99 : DC m_Filler_init 99 (.getfield 13) 3 102 := ⟨by decide +kernel, rfl⟩
theorem d_Filler_init_102 : DC m_Filler_init 102 (.iload_n 1) 1 103 := ⟨by decide +kernel, rfl⟩
theorem d_Filler_init_103 : DC m_Filler_init 103 (.new 11) 3 106 := ⟨by decide +kernel, rfl⟩
theorem d_Filler_init_106 : DC m_Filler_init 106 .dup 1 107 := ⟨by decide +kernel, rfl⟩
theorem d_Filler_init_107 : DC m_Filler_init 107 (.invokespecial 59) 3 110 := ⟨by decide +kernel, rfl⟩
theorem d_Filler_init_110 : DC m_Filler_init 110 .aastore 1 111 := ⟨by decide +kernel, rfl⟩
theorem d_Filler_init_111 : DC m_Filler_init 111 (.iinc 1 1) 3 114 := ⟨by decide +kernel, rfl⟩
theorem d_Filler_init_114 : DC m_Filler_init 114 (.goto (-22)) 3 117 := ⟨by decide +kernel, rfl⟩
theorem d_Filler_init_117 : DC m_Filler_init 117 .return_ 1 118 := ⟨by decide +kernel, rfl⟩
set_option maxRecDepth 20000 in
def f_Filler_init (n : Nat) (x0 : Nat) (M : MM) : Option MM :=
  nm (rho M.1.1) fun a1 =>
  nm (nwC 105 8 M) fun M2 =>
  (pR 3 1 x0 a1 M2).bind fun M3 =>
  (pI 3 0 x0 0 M3).bind fun M4 =>
  nm (rho M4.1.1) fun a5 =>
  nm (nwC 7 0 M4) fun M6 =>
  (f_Shape_init n a5 M6).bind fun M7 =>
  (pR 3 2 x0 a5 M7).bind fun M8 =>
  (pZ 3 3 x0 0 M8).bind fun M9 =>
  (pZ 3 4 x0 0 M9).bind fun M10 =>
  (pI 3 5 x0 0 M10).bind fun M11 =>
  (pI 3 6 x0 0 M11).bind fun M12 =>
  nm (rho M12.1.1) fun a13 =>
  nm (nwC 100 8 M12) fun M14 =>
  (pR 3 7 x0 a13 M14).bind fun M15 =>
  nm (rho M15.1.1) fun a16 =>
  nm (nwC 100 8 M15) fun M17 =>
  (pR 3 8 x0 a16 M17).bind fun M18 =>
  (pI 3 9 x0 0 M18).bind fun M19 =>
  nm (rho M19.1.1) fun a20 =>
  nm (nwC 100 6 M19) fun M21 =>
  (pR 3 10 x0 a20 M21).bind fun M22 =>
  nm (rho M22.1.1) fun a23 =>
  nm (nwG 6 8 M22) fun M24 =>
  (pR 3 11 x0 a23 M24).bind fun M25 =>
  (gR 3 1 x0 M25).bind fun v26 =>
  nm (rho M25.1.1) fun a27 =>
  nm (nwC 4 0 M25) fun M28 =>
  (f_Form_init n a27 M28).bind fun M29 =>
  (sR 105 4 v26 0 a27 M29).bind fun M30 =>
  (gR 3 1 x0 M30).bind fun v31 =>
  nm (rho M30.1.1) fun a32 =>
  nm (nwC 4 0 M30) fun M33 =>
  (f_Form_init n a32 M33).bind fun M34 =>
  (sR 105 4 v31 1 a32 M34).bind fun M35 =>
  (gR 3 1 x0 M35).bind fun v36 =>
  nm (rho M35.1.1) fun a37 =>
  nm (nwC 4 0 M35) fun M38 =>
  (f_Form_init n a37 M38).bind fun M39 =>
  (sR 105 4 v36 2 a37 M39).bind fun M40 =>
  (gR 3 1 x0 M40).bind fun v41 =>
  nm (rho M40.1.1) fun a42 =>
  nm (nwC 4 0 M40) fun M43 =>
  (f_Form_init n a42 M43).bind fun M44 =>
  (sR 105 4 v41 3 a42 M44).bind fun M45 =>
  (gR 3 1 x0 M45).bind fun v46 =>
  nm (rho M45.1.1) fun a47 =>
  nm (nwC 4 0 M45) fun M48 =>
  (f_Form_init n a47 M48).bind fun M49 =>
  (sR 105 4 v46 4 a47 M49).bind fun M50 =>
  (gR 3 1 x0 M50).bind fun v51 =>
  nm (rho M50.1.1) fun a52 =>
  nm (nwC 4 0 M50) fun M53 =>
  (f_Form_init n a52 M53).bind fun M54 =>
  (sR 105 4 v51 5 a52 M54).bind fun M55 =>
  (gR 3 1 x0 M55).bind fun v56 =>
  nm (rho M55.1.1) fun a57 =>
  nm (nwC 4 0 M55) fun M58 =>
  (f_Form_init n a57 M58).bind fun M59 =>
  (sR 105 4 v56 6 a57 M59).bind fun M60 =>
  (gR 3 1 x0 M60).bind fun v61 =>
  nm (rho M60.1.1) fun a62 =>
  nm (nwC 4 0 M60) fun M63 =>
  (f_Form_init n a62 M63).bind fun M64 =>
  (sR 105 4 v61 7 a62 M64).bind fun M65 =>
  some M65
set_option maxRecDepth 20000 in
theorem t_Filler_init (n : Nat) (x0 : Nat) (M : MM) (z : MM) (h : f_Filler_init n x0 M = some z) : CT m_Filler_init (rm 4 205 1117) [.ref x0] M none z := by
  unfold f_Filler_init at h
  refine CT.of (ls := [some (.ref x0), none]) rfl (okp rfl) rfl ?_
  refine e_aload_n d_Filler_init_0 rfl ?_
  refine e_objInit d_Filler_init_1 ml_Filler_5 oi_in oi_code (okp rfl) (okp rfl) (okp rfl) ?_
  refine e_aload_n d_Filler_init_4 rfl ?_
  refine e_bipush (v := 8) d_Filler_init_5 (by decide) ?_
  refine e_newqN (kd := 105) (len := 8) (k2 := 1) (n2 := 8) d_Filler_init_7 cl_Filler_11 ao_Form (by decide) (by decide) (by decide) (okp rfl) (okp rfl) (okp rfl) rfl rfl ?_
  obtain ⟨a1, ea1, h⟩ := nm_s h
  obtain ⟨M2, eM2, h⟩ := nm_s h
  rw [← ea1, ← eM2]
  obtain ⟨M3, hM3, h⟩ := bnd h
  refine e_putR d_Filler_init_10 fl_Filler_13 (Or.inr ⟨rfl, _, rfl, rfl⟩) (fun _ _ _ => rfl) (fun _ => ⟨rfl, rfl⟩) hM3 ?_
  refine e_aload_n d_Filler_init_13 rfl ?_
  refine e_iconst (v := 0) d_Filler_init_14 (by decide) ?_
  obtain ⟨M4, hM4, h⟩ := bnd h
  refine e_putI d_Filler_init_15 fl_Filler_17 (Or.inl rfl) (fun _ _ _ => rfl) rfl hM4 ?_
  refine e_aload_n d_Filler_init_18 rfl ?_
  refine e_newN (k2 := 2) (n2 := 9) d_Filler_init_19 ck_Shape cl_Filler_21 in_Shape ini_Shape (by decide) (okp rfl) (okp rfl) rfl rfl ?_
  obtain ⟨a5, ea5, h⟩ := nm_s h
  obtain ⟨M6, eM6, h⟩ := nm_s h
  rw [← ea5, ← eM6]
  refine e_dup d_Filler_init_22 rfl ?_
  obtain ⟨M7, hM7, h⟩ := bnd h
  refine e_cIN (mt1 := m_Shape_init) (As := []) (st := [.ref a5, .ref x0]) (k2 := 3) (n2 := 17) d_Filler_init_23 mx_Filler_23 mn_Shape_init (t_Shape_init n a5 M6 M7 hM7) rfl rfl (okp rfl) (okp rfl) (okp rfl) (okp rfl) (okp rfl) rfl rfl ?_
  obtain ⟨M8, hM8, h⟩ := bnd h
  refine e_putR d_Filler_init_26 fl_Filler_24 (Or.inr ⟨rfl, _, rfl, rfl⟩) (fun _ _ _ => rfl) (fun _ => ⟨rfl, rfl⟩) hM8 ?_
  refine e_aload_n d_Filler_init_29 rfl ?_
  refine e_iconst (v := 0) d_Filler_init_30 (by decide) ?_
  obtain ⟨M9, hM9, h⟩ := bnd h
  refine e_putZ d_Filler_init_31 fl_Filler_28 (Or.inl rfl) (fun _ _ _ => rfl) rfl hM9 ?_
  refine e_aload_n d_Filler_init_34 rfl ?_
  refine e_iconst (v := 0) d_Filler_init_35 (by decide) ?_
  obtain ⟨M10, hM10, h⟩ := bnd h
  refine e_putZ d_Filler_init_36 fl_Filler_32 (Or.inl rfl) (fun _ _ _ => rfl) rfl hM10 ?_
  refine e_aload_n d_Filler_init_39 rfl ?_
  refine e_iconst (v := 0) d_Filler_init_40 (by decide) ?_
  obtain ⟨M11, hM11, h⟩ := bnd h
  refine e_putI d_Filler_init_41 fl_Filler_35 (Or.inl rfl) (fun _ _ _ => rfl) rfl hM11 ?_
  refine e_aload_n d_Filler_init_44 rfl ?_
  refine e_iconst (v := 0) d_Filler_init_45 (by decide) ?_
  obtain ⟨M12, hM12, h⟩ := bnd h
  refine e_putI d_Filler_init_46 fl_Filler_38 (Or.inl rfl) (fun _ _ _ => rfl) rfl hM12 ?_
  refine e_aload_n d_Filler_init_49 rfl ?_
  refine e_bipush (v := 8) d_Filler_init_50 (by decide) ?_
  refine e_newaN (kd := 100) (len := 8) (ty := .int) (k2 := 4) (n2 := 25) d_Filler_init_52 rfl ac_int (by decide) (by decide) (by decide) (okp rfl) (okp rfl) (okp rfl) rfl rfl ?_
  obtain ⟨a13, ea13, h⟩ := nm_s h
  obtain ⟨M14, eM14, h⟩ := nm_s h
  rw [← ea13, ← eM14]
  obtain ⟨M15, hM15, h⟩ := bnd h
  refine e_putR d_Filler_init_54 fl_Filler_41 (Or.inr ⟨rfl, _, rfl, rfl⟩) (fun _ _ _ => rfl) (fun _ => ⟨rfl, rfl⟩) hM15 ?_
  refine e_aload_n d_Filler_init_57 rfl ?_
  refine e_bipush (v := 8) d_Filler_init_58 (by decide) ?_
  refine e_newaN (kd := 100) (len := 8) (ty := .int) (k2 := 5) (n2 := 33) d_Filler_init_60 rfl ac_int (by decide) (by decide) (by decide) (okp rfl) (okp rfl) (okp rfl) rfl rfl ?_
  obtain ⟨a16, ea16, h⟩ := nm_s h
  obtain ⟨M17, eM17, h⟩ := nm_s h
  rw [← ea16, ← eM17]
  obtain ⟨M18, hM18, h⟩ := bnd h
  refine e_putR d_Filler_init_62 fl_Filler_45 (Or.inr ⟨rfl, _, rfl, rfl⟩) (fun _ _ _ => rfl) (fun _ => ⟨rfl, rfl⟩) hM18 ?_
  refine e_aload_n d_Filler_init_65 rfl ?_
  refine e_iconst (v := 0) d_Filler_init_66 (by decide) ?_
  obtain ⟨M19, hM19, h⟩ := bnd h
  refine e_putI d_Filler_init_67 fl_Filler_48 (Or.inl rfl) (fun _ _ _ => rfl) rfl hM19 ?_
  refine e_aload_n d_Filler_init_70 rfl ?_
  refine e_bipush (v := 6) d_Filler_init_71 (by decide) ?_
  refine e_newaN (kd := 100) (len := 6) (ty := .int) (k2 := 6) (n2 := 39) d_Filler_init_73 rfl ac_int (by decide) (by decide) (by decide) (okp rfl) (okp rfl) (okp rfl) rfl rfl ?_
  obtain ⟨a20, ea20, h⟩ := nm_s h
  obtain ⟨M21, eM21, h⟩ := nm_s h
  rw [← ea20, ← eM21]
  obtain ⟨M22, hM22, h⟩ := bnd h
  refine e_putR d_Filler_init_75 fl_Filler_51 (Or.inr ⟨rfl, _, rfl, rfl⟩) (fun _ _ _ => rfl) (fun _ => ⟨rfl, rfl⟩) hM22 ?_
  refine e_aload_n d_Filler_init_78 rfl ?_
  refine e_bipush (v := 6) d_Filler_init_79 (by decide) ?_
  refine e_bipush (v := 8) d_Filler_init_81 (by decide) ?_
  refine e_mna (N := 6) (K := 8) (k2 := 13) (n2 := 93) d_Filler_init_83 cl_Filler_54 ao_II ac_int (by decide) (by decide) (by decide) (by decide) (okp rfl) (okp rfl) (okp rfl) (okp rfl) rfl rfl ?_
  obtain ⟨a23, ea23, h⟩ := nm_s h
  obtain ⟨M24, eM24, h⟩ := nm_s h
  rw [← ea23, ← eM24]
  obtain ⟨M25, hM25, h⟩ := bnd h
  refine e_putR d_Filler_init_87 fl_Filler_56 (Or.inr ⟨rfl, _, rfl, rfl⟩) (fun _ _ _ => rfl) (fun _ => ⟨rfl, rfl⟩) hM25 ?_
  refine e_iconst (v := 0) d_Filler_init_90 (by decide) ?_
  refine e_istore_n (l2 := [some (.ref x0), some (.int 0)]) d_Filler_init_91 rfl (okl rfl) rfl ?_
  refine e_iload_n d_Filler_init_92 rfl ?_
  refine e_bipush (v := 8) d_Filler_init_93 (by decide) ?_
  refine e_ic_ge 117 d_Filler_init_95 (by decide) (fun c9 => absurd c9 (by decide)) (fun _ => ?_)
  refine e_aload_n d_Filler_init_98 rfl ?_
  obtain ⟨v26, hv26, h⟩ := bnd h
  refine e_getR d_Filler_init_99 fl_Filler_13 (fun _ _ _ => rfl) hv26 ?_
  refine e_iload_n d_Filler_init_102 rfl ?_
  refine e_newN (k2 := 14) (n2 := 100) d_Filler_init_103 ck_Form cl_Filler_11 in_Form ini_Form (by decide) (okp rfl) (okp rfl) rfl rfl ?_
  obtain ⟨a27, ea27, h⟩ := nm_s h
  obtain ⟨M28, eM28, h⟩ := nm_s h
  rw [← ea27, ← eM28]
  refine e_dup d_Filler_init_106 rfl ?_
  obtain ⟨M29, hM29, h⟩ := bnd h
  refine e_cI (mt1 := m_Form_init) (As := []) (st := [.ref a27, .int 0, .ref v26]) (k2 := 37) (n2 := 221) d_Filler_init_107 ml_Filler_59 mn_Form_init (t_Form_init n a27 M28 M29 hM29) rfl rfl (okp rfl) (okp rfl) (okp rfl) (okp rfl) (okp rfl) rfl rfl ?_
  obtain ⟨M30, hM30, h⟩ := bnd h
  refine e_aast (kd := 105) (ci := 4) d_Filler_init_110 (by decide) hM30 ?_
  refine e_iinc (v := 1) (l2 := [some (.ref x0), some (.int 1)]) d_Filler_init_111 rfl (by decide) rfl (okl rfl) rfl ?_
  refine e_goto 92 d_Filler_init_114 (by decide) ?_
  refine e_iload_n d_Filler_init_92 rfl ?_
  refine e_bipush (v := 8) d_Filler_init_93 (by decide) ?_
  refine e_ic_ge 117 d_Filler_init_95 (by decide) (fun c9 => absurd c9 (by decide)) (fun _ => ?_)
  refine e_aload_n d_Filler_init_98 rfl ?_
  obtain ⟨v31, hv31, h⟩ := bnd h
  refine e_getR d_Filler_init_99 fl_Filler_13 (fun _ _ _ => rfl) hv31 ?_
  refine e_iload_n d_Filler_init_102 rfl ?_
  refine e_newN (k2 := 38) (n2 := 228) d_Filler_init_103 ck_Form cl_Filler_11 in_Form ini_Form (by decide) (okp rfl) (okp rfl) rfl rfl ?_
  obtain ⟨a32, ea32, h⟩ := nm_s h
  obtain ⟨M33, eM33, h⟩ := nm_s h
  rw [← ea32, ← eM33]
  refine e_dup d_Filler_init_106 rfl ?_
  obtain ⟨M34, hM34, h⟩ := bnd h
  refine e_cI (mt1 := m_Form_init) (As := []) (st := [.ref a32, .int 1, .ref v31]) (k2 := 61) (n2 := 349) d_Filler_init_107 ml_Filler_59 mn_Form_init (t_Form_init n a32 M33 M34 hM34) rfl rfl (okp rfl) (okp rfl) (okp rfl) (okp rfl) (okp rfl) rfl rfl ?_
  obtain ⟨M35, hM35, h⟩ := bnd h
  refine e_aast (kd := 105) (ci := 4) d_Filler_init_110 (by decide) hM35 ?_
  refine e_iinc (v := 2) (l2 := [some (.ref x0), some (.int 2)]) d_Filler_init_111 rfl (by decide) rfl (okl rfl) rfl ?_
  refine e_goto 92 d_Filler_init_114 (by decide) ?_
  refine e_iload_n d_Filler_init_92 rfl ?_
  refine e_bipush (v := 8) d_Filler_init_93 (by decide) ?_
  refine e_ic_ge 117 d_Filler_init_95 (by decide) (fun c9 => absurd c9 (by decide)) (fun _ => ?_)
  refine e_aload_n d_Filler_init_98 rfl ?_
  obtain ⟨v36, hv36, h⟩ := bnd h
  refine e_getR d_Filler_init_99 fl_Filler_13 (fun _ _ _ => rfl) hv36 ?_
  refine e_iload_n d_Filler_init_102 rfl ?_
  refine e_newN (k2 := 62) (n2 := 356) d_Filler_init_103 ck_Form cl_Filler_11 in_Form ini_Form (by decide) (okp rfl) (okp rfl) rfl rfl ?_
  obtain ⟨a37, ea37, h⟩ := nm_s h
  obtain ⟨M38, eM38, h⟩ := nm_s h
  rw [← ea37, ← eM38]
  refine e_dup d_Filler_init_106 rfl ?_
  obtain ⟨M39, hM39, h⟩ := bnd h
  refine e_cI (mt1 := m_Form_init) (As := []) (st := [.ref a37, .int 2, .ref v36]) (k2 := 85) (n2 := 477) d_Filler_init_107 ml_Filler_59 mn_Form_init (t_Form_init n a37 M38 M39 hM39) rfl rfl (okp rfl) (okp rfl) (okp rfl) (okp rfl) (okp rfl) rfl rfl ?_
  obtain ⟨M40, hM40, h⟩ := bnd h
  refine e_aast (kd := 105) (ci := 4) d_Filler_init_110 (by decide) hM40 ?_
  refine e_iinc (v := 3) (l2 := [some (.ref x0), some (.int 3)]) d_Filler_init_111 rfl (by decide) rfl (okl rfl) rfl ?_
  refine e_goto 92 d_Filler_init_114 (by decide) ?_
  refine e_iload_n d_Filler_init_92 rfl ?_
  refine e_bipush (v := 8) d_Filler_init_93 (by decide) ?_
  refine e_ic_ge 117 d_Filler_init_95 (by decide) (fun c9 => absurd c9 (by decide)) (fun _ => ?_)
  refine e_aload_n d_Filler_init_98 rfl ?_
  obtain ⟨v41, hv41, h⟩ := bnd h
  refine e_getR d_Filler_init_99 fl_Filler_13 (fun _ _ _ => rfl) hv41 ?_
  refine e_iload_n d_Filler_init_102 rfl ?_
  refine e_newN (k2 := 86) (n2 := 484) d_Filler_init_103 ck_Form cl_Filler_11 in_Form ini_Form (by decide) (okp rfl) (okp rfl) rfl rfl ?_
  obtain ⟨a42, ea42, h⟩ := nm_s h
  obtain ⟨M43, eM43, h⟩ := nm_s h
  rw [← ea42, ← eM43]
  refine e_dup d_Filler_init_106 rfl ?_
  obtain ⟨M44, hM44, h⟩ := bnd h
  refine e_cI (mt1 := m_Form_init) (As := []) (st := [.ref a42, .int 3, .ref v41]) (k2 := 109) (n2 := 605) d_Filler_init_107 ml_Filler_59 mn_Form_init (t_Form_init n a42 M43 M44 hM44) rfl rfl (okp rfl) (okp rfl) (okp rfl) (okp rfl) (okp rfl) rfl rfl ?_
  obtain ⟨M45, hM45, h⟩ := bnd h
  refine e_aast (kd := 105) (ci := 4) d_Filler_init_110 (by decide) hM45 ?_
  refine e_iinc (v := 4) (l2 := [some (.ref x0), some (.int 4)]) d_Filler_init_111 rfl (by decide) rfl (okl rfl) rfl ?_
  refine e_goto 92 d_Filler_init_114 (by decide) ?_
  refine e_iload_n d_Filler_init_92 rfl ?_
  refine e_bipush (v := 8) d_Filler_init_93 (by decide) ?_
  refine e_ic_ge 117 d_Filler_init_95 (by decide) (fun c9 => absurd c9 (by decide)) (fun _ => ?_)
  refine e_aload_n d_Filler_init_98 rfl ?_
  obtain ⟨v46, hv46, h⟩ := bnd h
  refine e_getR d_Filler_init_99 fl_Filler_13 (fun _ _ _ => rfl) hv46 ?_
  refine e_iload_n d_Filler_init_102 rfl ?_
  refine e_newN (k2 := 110) (n2 := 612) d_Filler_init_103 ck_Form cl_Filler_11 in_Form ini_Form (by decide) (okp rfl) (okp rfl) rfl rfl ?_
  obtain ⟨a47, ea47, h⟩ := nm_s h
  obtain ⟨M48, eM48, h⟩ := nm_s h
  rw [← ea47, ← eM48]
  refine e_dup d_Filler_init_106 rfl ?_
  obtain ⟨M49, hM49, h⟩ := bnd h
  refine e_cI (mt1 := m_Form_init) (As := []) (st := [.ref a47, .int 4, .ref v46]) (k2 := 133) (n2 := 733) d_Filler_init_107 ml_Filler_59 mn_Form_init (t_Form_init n a47 M48 M49 hM49) rfl rfl (okp rfl) (okp rfl) (okp rfl) (okp rfl) (okp rfl) rfl rfl ?_
  obtain ⟨M50, hM50, h⟩ := bnd h
  refine e_aast (kd := 105) (ci := 4) d_Filler_init_110 (by decide) hM50 ?_
  refine e_iinc (v := 5) (l2 := [some (.ref x0), some (.int 5)]) d_Filler_init_111 rfl (by decide) rfl (okl rfl) rfl ?_
  refine e_goto 92 d_Filler_init_114 (by decide) ?_
  refine e_iload_n d_Filler_init_92 rfl ?_
  refine e_bipush (v := 8) d_Filler_init_93 (by decide) ?_
  refine e_ic_ge 117 d_Filler_init_95 (by decide) (fun c9 => absurd c9 (by decide)) (fun _ => ?_)
  refine e_aload_n d_Filler_init_98 rfl ?_
  obtain ⟨v51, hv51, h⟩ := bnd h
  refine e_getR d_Filler_init_99 fl_Filler_13 (fun _ _ _ => rfl) hv51 ?_
  refine e_iload_n d_Filler_init_102 rfl ?_
  refine e_newN (k2 := 134) (n2 := 740) d_Filler_init_103 ck_Form cl_Filler_11 in_Form ini_Form (by decide) (okp rfl) (okp rfl) rfl rfl ?_
  obtain ⟨a52, ea52, h⟩ := nm_s h
  obtain ⟨M53, eM53, h⟩ := nm_s h
  rw [← ea52, ← eM53]
  refine e_dup d_Filler_init_106 rfl ?_
  obtain ⟨M54, hM54, h⟩ := bnd h
  refine e_cI (mt1 := m_Form_init) (As := []) (st := [.ref a52, .int 5, .ref v51]) (k2 := 157) (n2 := 861) d_Filler_init_107 ml_Filler_59 mn_Form_init (t_Form_init n a52 M53 M54 hM54) rfl rfl (okp rfl) (okp rfl) (okp rfl) (okp rfl) (okp rfl) rfl rfl ?_
  obtain ⟨M55, hM55, h⟩ := bnd h
  refine e_aast (kd := 105) (ci := 4) d_Filler_init_110 (by decide) hM55 ?_
  refine e_iinc (v := 6) (l2 := [some (.ref x0), some (.int 6)]) d_Filler_init_111 rfl (by decide) rfl (okl rfl) rfl ?_
  refine e_goto 92 d_Filler_init_114 (by decide) ?_
  refine e_iload_n d_Filler_init_92 rfl ?_
  refine e_bipush (v := 8) d_Filler_init_93 (by decide) ?_
  refine e_ic_ge 117 d_Filler_init_95 (by decide) (fun c9 => absurd c9 (by decide)) (fun _ => ?_)
  refine e_aload_n d_Filler_init_98 rfl ?_
  obtain ⟨v56, hv56, h⟩ := bnd h
  refine e_getR d_Filler_init_99 fl_Filler_13 (fun _ _ _ => rfl) hv56 ?_
  refine e_iload_n d_Filler_init_102 rfl ?_
  refine e_newN (k2 := 158) (n2 := 868) d_Filler_init_103 ck_Form cl_Filler_11 in_Form ini_Form (by decide) (okp rfl) (okp rfl) rfl rfl ?_
  obtain ⟨a57, ea57, h⟩ := nm_s h
  obtain ⟨M58, eM58, h⟩ := nm_s h
  rw [← ea57, ← eM58]
  refine e_dup d_Filler_init_106 rfl ?_
  obtain ⟨M59, hM59, h⟩ := bnd h
  refine e_cI (mt1 := m_Form_init) (As := []) (st := [.ref a57, .int 6, .ref v56]) (k2 := 181) (n2 := 989) d_Filler_init_107 ml_Filler_59 mn_Form_init (t_Form_init n a57 M58 M59 hM59) rfl rfl (okp rfl) (okp rfl) (okp rfl) (okp rfl) (okp rfl) rfl rfl ?_
  obtain ⟨M60, hM60, h⟩ := bnd h
  refine e_aast (kd := 105) (ci := 4) d_Filler_init_110 (by decide) hM60 ?_
  refine e_iinc (v := 7) (l2 := [some (.ref x0), some (.int 7)]) d_Filler_init_111 rfl (by decide) rfl (okl rfl) rfl ?_
  refine e_goto 92 d_Filler_init_114 (by decide) ?_
  refine e_iload_n d_Filler_init_92 rfl ?_
  refine e_bipush (v := 8) d_Filler_init_93 (by decide) ?_
  refine e_ic_ge 117 d_Filler_init_95 (by decide) (fun c9 => absurd c9 (by decide)) (fun _ => ?_)
  refine e_aload_n d_Filler_init_98 rfl ?_
  obtain ⟨v61, hv61, h⟩ := bnd h
  refine e_getR d_Filler_init_99 fl_Filler_13 (fun _ _ _ => rfl) hv61 ?_
  refine e_iload_n d_Filler_init_102 rfl ?_
  refine e_newN (k2 := 182) (n2 := 996) d_Filler_init_103 ck_Form cl_Filler_11 in_Form ini_Form (by decide) (okp rfl) (okp rfl) rfl rfl ?_
  obtain ⟨a62, ea62, h⟩ := nm_s h
  obtain ⟨M63, eM63, h⟩ := nm_s h
  rw [← ea62, ← eM63]
  refine e_dup d_Filler_init_106 rfl ?_
  obtain ⟨M64, hM64, h⟩ := bnd h
  refine e_cI (mt1 := m_Form_init) (As := []) (st := [.ref a62, .int 7, .ref v61]) (k2 := 205) (n2 := 1117) d_Filler_init_107 ml_Filler_59 mn_Form_init (t_Form_init n a62 M63 M64 hM64) rfl rfl (okp rfl) (okp rfl) (okp rfl) (okp rfl) (okp rfl) rfl rfl ?_
  obtain ⟨M65, hM65, h⟩ := bnd h
  refine e_aast (kd := 105) (ci := 4) d_Filler_init_110 (by decide) hM65 ?_
  refine e_iinc (v := 8) (l2 := [some (.ref x0), some (.int 8)]) d_Filler_init_111 rfl (by decide) rfl (okl rfl) rfl ?_
  refine e_goto 92 d_Filler_init_114 (by decide) ?_
  refine e_iload_n d_Filler_init_92 rfl ?_
  refine e_bipush (v := 8) d_Filler_init_93 (by decide) ?_
  refine e_ic_ge 117 d_Filler_init_95 (by decide) (fun _ => ?_) (fun c9 => absurd c9 (by decide))
  cases h
  exact e_vret d_Filler_init_117 rfl (okp rfl) (okp rfl)
theorem d_Cutter_init_0 : DC m_Cutter_init 0 (.aload_n 0) 1 1 := ⟨by decide +kernel, rfl⟩
theorem d_Cutter_init_1 : DC m_Cutter_init 1 (.invokespecial 3) 3 4 := ⟨by decide +kernel, rfl⟩
theorem d_Cutter_init_4 : DC m_Cutter_init 4 (.aload_n 0) 1 5 := ⟨by decide +kernel, rfl⟩
theorem d_Cutter_init_5 : DC m_Cutter_init 5 (.iconst 0) 1 6 := ⟨by decide +kernel, rfl⟩
theorem d_Cutter_init_6 : DC m_Cutter_init 6 (.putfield 9) 3 9 := ⟨by decide +kernel, rfl⟩
theorem d_Cutter_init_9 : DC m_Cutter_init 9 (.aload_n 0) 1 10 := ⟨by decide +kernel, rfl⟩
theorem d_Cutter_init_10 : DC m_Cutter_init 10 (.iconst 0) 1 11 := ⟨by decide +kernel, rfl⟩
theorem d_Cutter_init_11 : DC m_Cutter_init 11 (.putfield 15) 3 14 := ⟨by decide +kernel, rfl⟩
theorem d_Cutter_init_14 : DC m_Cutter_init 14 (.aload_n 0) 1 15 := ⟨by decide +kernel, rfl⟩
theorem d_Cutter_init_15 : DC m_Cutter_init 15 (.iconst 0) 1 16 := ⟨by decide +kernel, rfl⟩
theorem d_Cutter_init_16 : DC m_Cutter_init 16 (.putfield 18) 3 19 := ⟨by decide +kernel, rfl⟩
theorem d_Cutter_init_19 : DC m_Cutter_init 19 (.aload_n 0) 1 20 := ⟨by decide +kernel, rfl⟩
theorem d_Cutter_init_20 : DC m_Cutter_init 20 (.iconst 0) 1 21 := ⟨by decide +kernel, rfl⟩
theorem d_Cutter_init_21 : DC m_Cutter_init 21 (.putfield 21) 3 24 := ⟨by decide +kernel, rfl⟩
theorem d_Cutter_init_24 : DC m_Cutter_init 24 (.aload_n 0) 1 25 := ⟨by decide +kernel, rfl⟩
theorem d_Cutter_init_25 : DC m_Cutter_init 25 (.new 24) 3 28 := ⟨by decide +kernel, rfl⟩
theorem d_Cutter_init_28 : DC m_Cutter_init 28 .dup 1 29 := ⟨by decide +kernel, rfl⟩
theorem d_Cutter_init_29 : DC m_Cutter_init 29 (.invokespecial 26) 3 32 := ⟨by decide +kernel, rfl⟩
theorem d_Cutter_init_32 : DC m_Cutter_init 32 (.putfield 27) 3 35 := ⟨by decide +kernel, rfl⟩
theorem d_Cutter_init_35 : DC m_Cutter_init 35 (.aload_n 0) 1 36 := ⟨by decide +kernel, rfl⟩
theorem d_Cutter_init_36 : DC m_Cutter_init 36 (.new 24) 3 39 := ⟨by decide +kernel, rfl⟩
theorem d_Cutter_init_39 : DC m_Cutter_init 39 .dup 1 40 := ⟨by decide +kernel, rfl⟩
theorem d_Cutter_init_40 : DC m_Cutter_init 40 (.invokespecial 26) 3 43 := ⟨by decide +kernel, rfl⟩
theorem d_Cutter_init_43 : DC m_Cutter_init 43 (.putfield 31) 3 46 := ⟨by decide +kernel, rfl⟩
theorem d_Cutter_init_46 : DC m_Cutter_init 46 (.aload_n 0) 1 47 := ⟨by decide +kernel, rfl⟩
theorem d_Cutter_init_47 : DC m_Cutter_init 47 (.new 24) 3 50 := ⟨by decide +kernel, rfl⟩
theorem d_Cutter_init_50 : DC m_Cutter_init 50 .dup 1 51 := ⟨by decide +kernel, rfl⟩
theorem d_Cutter_init_51 : DC m_Cutter_init 51 (.invokespecial 26) 3 54 := ⟨by decide +kernel, rfl⟩
theorem d_Cutter_init_54 : DC m_Cutter_init 54 (.putfield 34) 3 57 := ⟨by decide +kernel, rfl⟩
theorem d_Cutter_init_57 : DC m_Cutter_init 57 (.aload_n 0) 1 58 := ⟨by decide +kernel, rfl⟩
theorem d_Cutter_init_58 : DC m_Cutter_init 58 (.new 24) 3 61 := ⟨by decide +kernel, rfl⟩
theorem d_Cutter_init_61 : DC m_Cutter_init 61 .dup 1 62 := ⟨by decide +kernel, rfl⟩
theorem d_Cutter_init_62 : DC m_Cutter_init 62 (.invokespecial 26) 3 65 := ⟨by decide +kernel, rfl⟩
theorem d_Cutter_init_65 : DC m_Cutter_init 65 (.putfield 37) 3 68 := ⟨by decide +kernel, rfl⟩
theorem d_Cutter_init_68 : DC m_Cutter_init 68 (.aload_n 0) 1 69 := ⟨by decide +kernel, rfl⟩
theorem d_Cutter_init_69 : DC m_Cutter_init 69 (.new 24) 3 72 := ⟨by decide +kernel, rfl⟩
theorem d_Cutter_init_72 : DC m_Cutter_init 72 .dup 1 73 := ⟨by decide +kernel, rfl⟩
theorem d_Cutter_init_73 : DC m_Cutter_init 73 (.invokespecial 26) 3 76 := ⟨by decide +kernel, rfl⟩
theorem d_Cutter_init_76 : DC m_Cutter_init 76 (.putfield 40) 3 79 := ⟨by decide +kernel, rfl⟩
theorem d_Cutter_init_79 : DC m_Cutter_init 79 (.aload_n 0) 1 80 := ⟨by decide +kernel, rfl⟩
theorem d_Cutter_init_80 : DC m_Cutter_init 80 (.new 43) 3 83 := ⟨by decide +kernel, rfl⟩
theorem d_Cutter_init_83 : DC m_Cutter_init 83 .dup 1 84 := ⟨by decide +kernel, rfl⟩
theorem d_Cutter_init_84 : DC m_Cutter_init 84 (.invokespecial 45) 3 87 := ⟨by decide +kernel, rfl⟩
theorem d_Cutter_init_87 : DC m_Cutter_init 87 (.putfield 46) 3 90 := ⟨by decide +kernel, rfl⟩
theorem d_Cutter_init_90 : DC m_Cutter_init 90 .return_ 1 91 := ⟨by decide +kernel, rfl⟩
set_option maxRecDepth 20000 in
def f_Cutter_init (n : Nat) (x0 : Nat) (M : MM) : Option MM :=
  (pI 2 0 x0 0 M).bind fun M1 =>
  (pI 2 1 x0 0 M1).bind fun M2 =>
  (pI 2 2 x0 0 M2).bind fun M3 =>
  (pI 2 3 x0 0 M3).bind fun M4 =>
  nm (rho M4.1.1) fun a5 =>
  nm (nwC 7 0 M4) fun M6 =>
  (f_Shape_init n a5 M6).bind fun M7 =>
  (pR 2 4 x0 a5 M7).bind fun M8 =>
  nm (rho M8.1.1) fun a9 =>
  nm (nwC 7 0 M8) fun M10 =>
  (f_Shape_init n a9 M10).bind fun M11 =>
  (pR 2 5 x0 a9 M11).bind fun M12 =>
  nm (rho M12.1.1) fun a13 =>
  nm (nwC 7 0 M12) fun M14 =>
  (f_Shape_init n a13 M14).bind fun M15 =>
  (pR 2 6 x0 a13 M15).bind fun M16 =>
  nm (rho M16.1.1) fun a17 =>
  nm (nwC 7 0 M16) fun M18 =>
  (f_Shape_init n a17 M18).bind fun M19 =>
  (pR 2 7 x0 a17 M19).bind fun M20 =>
  nm (rho M20.1.1) fun a21 =>
  nm (nwC 7 0 M20) fun M22 =>
  (f_Shape_init n a21 M22).bind fun M23 =>
  (pR 2 8 x0 a21 M23).bind fun M24 =>
  nm (rho M24.1.1) fun a25 =>
  nm (nwC 4 0 M24) fun M26 =>
  (f_Form_init n a25 M26).bind fun M27 =>
  (pR 2 9 x0 a25 M27).bind fun M28 =>
  some M28
set_option maxRecDepth 20000 in
theorem t_Cutter_init (n : Nat) (x0 : Nat) (M : MM) (z : MM) (h : f_Cutter_init n x0 M = some z) : CT m_Cutter_init (rm 4 34 173) [.ref x0] M none z := by
  unfold f_Cutter_init at h
  refine CT.of (ls := [some (.ref x0)]) rfl (okp rfl) rfl ?_
  refine e_aload_n d_Cutter_init_0 rfl ?_
  refine e_objInit d_Cutter_init_1 ml_Cutter_3 oi_in oi_code (okp rfl) (okp rfl) (okp rfl) ?_
  refine e_aload_n d_Cutter_init_4 rfl ?_
  refine e_iconst (v := 0) d_Cutter_init_5 (by decide) ?_
  obtain ⟨M1, hM1, h⟩ := bnd h
  refine e_putI d_Cutter_init_6 fl_Cutter_9 (Or.inl rfl) (fun _ _ _ => rfl) rfl hM1 ?_
  refine e_aload_n d_Cutter_init_9 rfl ?_
  refine e_iconst (v := 0) d_Cutter_init_10 (by decide) ?_
  obtain ⟨M2, hM2, h⟩ := bnd h
  refine e_putI d_Cutter_init_11 fl_Cutter_15 (Or.inl rfl) (fun _ _ _ => rfl) rfl hM2 ?_
  refine e_aload_n d_Cutter_init_14 rfl ?_
  refine e_iconst (v := 0) d_Cutter_init_15 (by decide) ?_
  obtain ⟨M3, hM3, h⟩ := bnd h
  refine e_putI d_Cutter_init_16 fl_Cutter_18 (Or.inl rfl) (fun _ _ _ => rfl) rfl hM3 ?_
  refine e_aload_n d_Cutter_init_19 rfl ?_
  refine e_iconst (v := 0) d_Cutter_init_20 (by decide) ?_
  obtain ⟨M4, hM4, h⟩ := bnd h
  refine e_putI d_Cutter_init_21 fl_Cutter_21 (Or.inl rfl) (fun _ _ _ => rfl) rfl hM4 ?_
  refine e_aload_n d_Cutter_init_24 rfl ?_
  refine e_newN (k2 := 1) (n2 := 1) d_Cutter_init_25 ck_Shape cl_Cutter_24 in_Shape ini_Shape (by decide) (okp rfl) (okp rfl) rfl rfl ?_
  obtain ⟨a5, ea5, h⟩ := nm_s h
  obtain ⟨M6, eM6, h⟩ := nm_s h
  rw [← ea5, ← eM6]
  refine e_dup d_Cutter_init_28 rfl ?_
  obtain ⟨M7, hM7, h⟩ := bnd h
  refine e_cIN (mt1 := m_Shape_init) (As := []) (st := [.ref a5, .ref x0]) (k2 := 2) (n2 := 9) d_Cutter_init_29 mx_Cutter_26 mn_Shape_init (t_Shape_init n a5 M6 M7 hM7) rfl rfl (okp rfl) (okp rfl) (okp rfl) (okp rfl) (okp rfl) rfl rfl ?_
  obtain ⟨M8, hM8, h⟩ := bnd h
  refine e_putR d_Cutter_init_32 fl_Cutter_27 (Or.inr ⟨rfl, _, rfl, rfl⟩) (fun _ _ _ => rfl) (fun _ => ⟨rfl, rfl⟩) hM8 ?_
  refine e_aload_n d_Cutter_init_35 rfl ?_
  refine e_newN (k2 := 3) (n2 := 10) d_Cutter_init_36 ck_Shape cl_Cutter_24 in_Shape ini_Shape (by decide) (okp rfl) (okp rfl) rfl rfl ?_
  obtain ⟨a9, ea9, h⟩ := nm_s h
  obtain ⟨M10, eM10, h⟩ := nm_s h
  rw [← ea9, ← eM10]
  refine e_dup d_Cutter_init_39 rfl ?_
  obtain ⟨M11, hM11, h⟩ := bnd h
  refine e_cIN (mt1 := m_Shape_init) (As := []) (st := [.ref a9, .ref x0]) (k2 := 4) (n2 := 18) d_Cutter_init_40 mx_Cutter_26 mn_Shape_init (t_Shape_init n a9 M10 M11 hM11) rfl rfl (okp rfl) (okp rfl) (okp rfl) (okp rfl) (okp rfl) rfl rfl ?_
  obtain ⟨M12, hM12, h⟩ := bnd h
  refine e_putR d_Cutter_init_43 fl_Cutter_31 (Or.inr ⟨rfl, _, rfl, rfl⟩) (fun _ _ _ => rfl) (fun _ => ⟨rfl, rfl⟩) hM12 ?_
  refine e_aload_n d_Cutter_init_46 rfl ?_
  refine e_newN (k2 := 5) (n2 := 19) d_Cutter_init_47 ck_Shape cl_Cutter_24 in_Shape ini_Shape (by decide) (okp rfl) (okp rfl) rfl rfl ?_
  obtain ⟨a13, ea13, h⟩ := nm_s h
  obtain ⟨M14, eM14, h⟩ := nm_s h
  rw [← ea13, ← eM14]
  refine e_dup d_Cutter_init_50 rfl ?_
  obtain ⟨M15, hM15, h⟩ := bnd h
  refine e_cIN (mt1 := m_Shape_init) (As := []) (st := [.ref a13, .ref x0]) (k2 := 6) (n2 := 27) d_Cutter_init_51 mx_Cutter_26 mn_Shape_init (t_Shape_init n a13 M14 M15 hM15) rfl rfl (okp rfl) (okp rfl) (okp rfl) (okp rfl) (okp rfl) rfl rfl ?_
  obtain ⟨M16, hM16, h⟩ := bnd h
  refine e_putR d_Cutter_init_54 fl_Cutter_34 (Or.inr ⟨rfl, _, rfl, rfl⟩) (fun _ _ _ => rfl) (fun _ => ⟨rfl, rfl⟩) hM16 ?_
  refine e_aload_n d_Cutter_init_57 rfl ?_
  refine e_newN (k2 := 7) (n2 := 28) d_Cutter_init_58 ck_Shape cl_Cutter_24 in_Shape ini_Shape (by decide) (okp rfl) (okp rfl) rfl rfl ?_
  obtain ⟨a17, ea17, h⟩ := nm_s h
  obtain ⟨M18, eM18, h⟩ := nm_s h
  rw [← ea17, ← eM18]
  refine e_dup d_Cutter_init_61 rfl ?_
  obtain ⟨M19, hM19, h⟩ := bnd h
  refine e_cIN (mt1 := m_Shape_init) (As := []) (st := [.ref a17, .ref x0]) (k2 := 8) (n2 := 36) d_Cutter_init_62 mx_Cutter_26 mn_Shape_init (t_Shape_init n a17 M18 M19 hM19) rfl rfl (okp rfl) (okp rfl) (okp rfl) (okp rfl) (okp rfl) rfl rfl ?_
  obtain ⟨M20, hM20, h⟩ := bnd h
  refine e_putR d_Cutter_init_65 fl_Cutter_37 (Or.inr ⟨rfl, _, rfl, rfl⟩) (fun _ _ _ => rfl) (fun _ => ⟨rfl, rfl⟩) hM20 ?_
  refine e_aload_n d_Cutter_init_68 rfl ?_
  refine e_newN (k2 := 9) (n2 := 37) d_Cutter_init_69 ck_Shape cl_Cutter_24 in_Shape ini_Shape (by decide) (okp rfl) (okp rfl) rfl rfl ?_
  obtain ⟨a21, ea21, h⟩ := nm_s h
  obtain ⟨M22, eM22, h⟩ := nm_s h
  rw [← ea21, ← eM22]
  refine e_dup d_Cutter_init_72 rfl ?_
  obtain ⟨M23, hM23, h⟩ := bnd h
  refine e_cIN (mt1 := m_Shape_init) (As := []) (st := [.ref a21, .ref x0]) (k2 := 10) (n2 := 45) d_Cutter_init_73 mx_Cutter_26 mn_Shape_init (t_Shape_init n a21 M22 M23 hM23) rfl rfl (okp rfl) (okp rfl) (okp rfl) (okp rfl) (okp rfl) rfl rfl ?_
  obtain ⟨M24, hM24, h⟩ := bnd h
  refine e_putR d_Cutter_init_76 fl_Cutter_40 (Or.inr ⟨rfl, _, rfl, rfl⟩) (fun _ _ _ => rfl) (fun _ => ⟨rfl, rfl⟩) hM24 ?_
  refine e_aload_n d_Cutter_init_79 rfl ?_
  refine e_newN (k2 := 11) (n2 := 52) d_Cutter_init_80 ck_Form cl_Cutter_43 in_Form ini_Form (by decide) (okp rfl) (okp rfl) rfl rfl ?_
  obtain ⟨a25, ea25, h⟩ := nm_s h
  obtain ⟨M26, eM26, h⟩ := nm_s h
  rw [← ea25, ← eM26]
  refine e_dup d_Cutter_init_83 rfl ?_
  obtain ⟨M27, hM27, h⟩ := bnd h
  refine e_cI (mt1 := m_Form_init) (As := []) (st := [.ref a25, .ref x0]) (k2 := 34) (n2 := 173) d_Cutter_init_84 ml_Cutter_45 mn_Form_init (t_Form_init n a25 M26 M27 hM27) rfl rfl (okp rfl) (okp rfl) (okp rfl) (okp rfl) (okp rfl) rfl rfl ?_
  obtain ⟨M28, hM28, h⟩ := bnd h
  refine e_putR d_Cutter_init_87 fl_Cutter_46 (Or.inr ⟨rfl, _, rfl, rfl⟩) (fun _ _ _ => rfl) (fun _ => ⟨rfl, rfl⟩) hM28 ?_
  cases h
  exact e_vret d_Cutter_init_90 rfl (okp rfl) (okp rfl)
theorem d_Table_init_0 : DC m_Table_init 0 (.aload_n 0) 1 1 := ⟨by decide +kernel, rfl⟩
theorem d_Table_init_1 : DC m_Table_init 1 (.invokespecial 3) 3 4 := ⟨by decide +kernel, rfl⟩
theorem d_Table_init_4 : DC m_Table_init 4 (.aload_n 0) 1 5 := ⟨by decide +kernel, rfl⟩
theorem d_Table_init_5 : DC m_Table_init 5 (.bipush 8) 2 7 := ⟨by decide +kernel, rfl⟩
theorem d_Table_init_7 : DC m_Table_init 7 (.anewarray 9) 3 10 := ⟨by decide +kernel, rfl⟩
theorem d_Table_init_10 : DC m_Table_init 10 (.putfield 11) 3 13 := ⟨by decide +kernel, rfl⟩
theorem d_Table_init_13 : DC m_Table_init 13 (.aload_n 0) 1 14 := ⟨by decide +kernel, rfl⟩
theorem d_Table_init_14 : DC m_Table_init 14 (.bipush 8) 2 16 := ⟨by decide +kernel, rfl⟩
theorem d_Table_init_16 : DC m_Table_init 16 (.newarray .int) 2 18 := ⟨by decide +kernel, rfl⟩
theorem d_Table_init_18 : DC m_Table_init 18 (.putfield 17) 3 21 := ⟨by decide +kernel, rfl⟩
theorem d_Table_init_21 : DC m_Table_init 21 (.aload_n 0) 1 22 := ⟨by decide +kernel, rfl⟩
theorem d_Table_init_22 : DC m_Table_init 22 (.new 9) 3 25 := ⟨by decide +kernel, rfl⟩
theorem d_Table_init_25 : DC m_Table_init 25 .dup 1 26 := ⟨by decide +kernel, rfl⟩
theorem d_Table_init_26 : DC m_Table_init 26 (.invokespecial 21) 3 29 := ⟨by decide +kernel, rfl⟩
theorem d_Table_init_29 : DC m_Table_init 29 (.putfield 22) 3 32 := ⟨by decide +kernel, rfl⟩
theorem d_Table_init_32 : DC m_Table_init 32 (.aload_n 0) 1 33 := ⟨by decide +kernel, rfl⟩
theorem d_Table_init_33 : DC m_Table_init 33 (.new 9) 3 36 := ⟨by decide +kernel, rfl⟩
theorem d_Table_init_36 : DC m_Table_init 36 .dup 1 37 := ⟨by decide +kernel, rfl⟩
theorem d_Table_init_37 : DC m_Table_init 37 (.invokespecial 21) 3 40 := ⟨by decide +kernel, rfl⟩
theorem d_Table_init_40 : DC m_Table_init 40 (.putfield 26) 3 43 := ⟨by decide +kernel, rfl⟩
theorem d_Table_init_43 : DC m_Table_init 43 (.aload_n 0) 1 44 := ⟨by decide +kernel, rfl⟩
theorem d_Table_init_44 : DC m_Table_init 44 (.new 9) 3 47 := ⟨by decide +kernel, rfl⟩
theorem d_Table_init_47 : DC m_Table_init 47 .dup 1 48 := ⟨by decide +kernel, rfl⟩
theorem d_Table_init_48 : DC m_Table_init 48 (.invokespecial 21) 3 51 := ⟨by decide +kernel, rfl⟩
theorem d_Table_init_51 : DC m_Table_init 51 (.putfield 29) 3 54 := ⟨by decide +kernel, rfl⟩
theorem d_Table_init_54 : DC m_Table_init 54 (.iconst 0) 1 55 := ⟨by decide +kernel, rfl⟩
theorem d_Table_init_55 : DC m_Table_init 55 (.istore_n 1) 1 56 := ⟨by decide +kernel, rfl⟩
theorem d_Table_init_56 : DC m_Table_init 56 (.iload_n 1) 1 57 := ⟨by decide +kernel, rfl⟩
theorem d_Table_init_57 : DC m_Table_init 57 (.bipush 8) 2 59 := ⟨by decide +kernel, rfl⟩
theorem d_Table_init_59 : DC m_Table_init 59 (.if_icmp .ge 29) 3 62 := ⟨by decide +kernel, rfl⟩
theorem d_Table_init_62 : DC m_Table_init 62 (.aload_n 0) 1 63 := ⟨by decide +kernel, rfl⟩
theorem d_Table_init_63 : DC m_Table_init 63 (.getfield 11) 3 66 := ⟨by decide +kernel, rfl⟩
theorem d_Table_init_66 : DC m_Table_init 66 (.iload_n 1) 1 67 := ⟨by decide +kernel, rfl⟩
theorem d_Table_init_67 : DC m_Table_init 67 (.new 9) 3 70 := ⟨by decide +kernel, rfl⟩
theorem d_Table_init_70 : DC m_Table_init 70 .dup 1 71 := ⟨by decide +kernel, rfl⟩
theorem d_Table_init_71 : DC m_Table_init 71 (.invokespecial 21) 3 74 := ⟨by decide +kernel, rfl⟩
theorem d_Table_init_74 : DC m_Table_init 74 .aastore 1 75 := ⟨by decide +kernel, rfl⟩
theorem d_Table_init_75 : DC m_Table_init 75 (.aload_n 0) 1 76 := ⟨by decide +kernel, rfl⟩
theorem d_Table_init_76 : DC m_Table_init 76 (.getfield 17) 3 79 := ⟨by decide +kernel, rfl⟩
theorem d_Table_init_79 : DC m_Table_init 79 (.iload_n 1) 1 80 := ⟨by decide +kernel, rfl⟩
theorem d_Table_init_80 : DC m_Table_init 80 (.iconst (-1)) 1 81 := ⟨by decide +kernel, rfl⟩
theorem d_Table_init_81 : DC m_Table_init 81 .iastore 1 82 := ⟨by decide +kernel, rfl⟩
theorem d_Table_init_82 : DC m_Table_init 82 (.iinc 1 1) 3 85 := ⟨by decide +kernel, rfl⟩
theorem d_Table_init_85 : DC m_Table_init 85 (.goto (-29)) 3 88 := ⟨by decide +kernel, rfl⟩
theorem d_Table_init_88 : DC m_Table_init 88 .return_ 1 89 := ⟨by decide +kernel, rfl⟩
set_option maxRecDepth 20000 in
def f_Table_init (n : Nat) (x0 : Nat) (M : MM) : Option MM :=
  nm (rho M.1.1) fun a1 =>
  nm (nwC 104 8 M) fun M2 =>
  (pR 9 0 x0 a1 M2).bind fun M3 =>
  nm (rho M3.1.1) fun a4 =>
  nm (nwC 100 8 M3) fun M5 =>
  (pR 9 1 x0 a4 M5).bind fun M6 =>
  nm (rho M6.1.1) fun a7 =>
  nm (nwC 7 0 M6) fun M8 =>
  (f_Shape_init n a7 M8).bind fun M9 =>
  (pR 9 2 x0 a7 M9).bind fun M10 =>
  nm (rho M10.1.1) fun a11 =>
  nm (nwC 7 0 M10) fun M12 =>
  (f_Shape_init n a11 M12).bind fun M13 =>
  (pR 9 3 x0 a11 M13).bind fun M14 =>
  nm (rho M14.1.1) fun a15 =>
  nm (nwC 7 0 M14) fun M16 =>
  (f_Shape_init n a15 M16).bind fun M17 =>
  (pR 9 4 x0 a15 M17).bind fun M18 =>
  (gR 9 0 x0 M18).bind fun v19 =>
  nm (rho M18.1.1) fun a20 =>
  nm (nwC 7 0 M18) fun M21 =>
  (f_Shape_init n a20 M21).bind fun M22 =>
  (sR 104 7 v19 0 a20 M22).bind fun M23 =>
  (gR 9 1 x0 M23).bind fun v24 =>
  (sI 100 v24 0 (-1) M23).bind fun M25 =>
  (gR 9 0 x0 M25).bind fun v26 =>
  nm (rho M25.1.1) fun a27 =>
  nm (nwC 7 0 M25) fun M28 =>
  (f_Shape_init n a27 M28).bind fun M29 =>
  (sR 104 7 v26 1 a27 M29).bind fun M30 =>
  (gR 9 1 x0 M30).bind fun v31 =>
  (sI 100 v31 1 (-1) M30).bind fun M32 =>
  (gR 9 0 x0 M32).bind fun v33 =>
  nm (rho M32.1.1) fun a34 =>
  nm (nwC 7 0 M32) fun M35 =>
  (f_Shape_init n a34 M35).bind fun M36 =>
  (sR 104 7 v33 2 a34 M36).bind fun M37 =>
  (gR 9 1 x0 M37).bind fun v38 =>
  (sI 100 v38 2 (-1) M37).bind fun M39 =>
  (gR 9 0 x0 M39).bind fun v40 =>
  nm (rho M39.1.1) fun a41 =>
  nm (nwC 7 0 M39) fun M42 =>
  (f_Shape_init n a41 M42).bind fun M43 =>
  (sR 104 7 v40 3 a41 M43).bind fun M44 =>
  (gR 9 1 x0 M44).bind fun v45 =>
  (sI 100 v45 3 (-1) M44).bind fun M46 =>
  (gR 9 0 x0 M46).bind fun v47 =>
  nm (rho M46.1.1) fun a48 =>
  nm (nwC 7 0 M46) fun M49 =>
  (f_Shape_init n a48 M49).bind fun M50 =>
  (sR 104 7 v47 4 a48 M50).bind fun M51 =>
  (gR 9 1 x0 M51).bind fun v52 =>
  (sI 100 v52 4 (-1) M51).bind fun M53 =>
  (gR 9 0 x0 M53).bind fun v54 =>
  nm (rho M53.1.1) fun a55 =>
  nm (nwC 7 0 M53) fun M56 =>
  (f_Shape_init n a55 M56).bind fun M57 =>
  (sR 104 7 v54 5 a55 M57).bind fun M58 =>
  (gR 9 1 x0 M58).bind fun v59 =>
  (sI 100 v59 5 (-1) M58).bind fun M60 =>
  (gR 9 0 x0 M60).bind fun v61 =>
  nm (rho M60.1.1) fun a62 =>
  nm (nwC 7 0 M60) fun M63 =>
  (f_Shape_init n a62 M63).bind fun M64 =>
  (sR 104 7 v61 6 a62 M64).bind fun M65 =>
  (gR 9 1 x0 M65).bind fun v66 =>
  (sI 100 v66 6 (-1) M65).bind fun M67 =>
  (gR 9 0 x0 M67).bind fun v68 =>
  nm (rho M67.1.1) fun a69 =>
  nm (nwC 7 0 M67) fun M70 =>
  (f_Shape_init n a69 M70).bind fun M71 =>
  (sR 104 7 v68 7 a69 M71).bind fun M72 =>
  (gR 9 1 x0 M72).bind fun v73 =>
  (sI 100 v73 7 (-1) M72).bind fun M74 =>
  some M74
set_option maxRecDepth 20000 in
theorem t_Table_init (n : Nat) (x0 : Nat) (M : MM) (z : MM) (h : f_Table_init n x0 M = some z) : CT m_Table_init (rm 3 24 115) [.ref x0] M none z := by
  unfold f_Table_init at h
  refine CT.of (ls := [some (.ref x0), none]) rfl (okp rfl) rfl ?_
  refine e_aload_n d_Table_init_0 rfl ?_
  refine e_objInit d_Table_init_1 ml_Table_3 oi_in oi_code (okp rfl) (okp rfl) (okp rfl) ?_
  refine e_aload_n d_Table_init_4 rfl ?_
  refine e_bipush (v := 8) d_Table_init_5 (by decide) ?_
  refine e_newqN (kd := 104) (len := 8) (k2 := 1) (n2 := 8) d_Table_init_7 cl_Table_9 ao_Shape (by decide) (by decide) (by decide) (okp rfl) (okp rfl) (okp rfl) rfl rfl ?_
  obtain ⟨a1, ea1, h⟩ := nm_s h
  obtain ⟨M2, eM2, h⟩ := nm_s h
  rw [← ea1, ← eM2]
  obtain ⟨M3, hM3, h⟩ := bnd h
  refine e_putR d_Table_init_10 fl_Table_11 (Or.inr ⟨rfl, _, rfl, rfl⟩) (fun _ _ _ => rfl) (fun _ => ⟨rfl, rfl⟩) hM3 ?_
  refine e_aload_n d_Table_init_13 rfl ?_
  refine e_bipush (v := 8) d_Table_init_14 (by decide) ?_
  refine e_newaN (kd := 100) (len := 8) (ty := .int) (k2 := 2) (n2 := 16) d_Table_init_16 rfl ac_int (by decide) (by decide) (by decide) (okp rfl) (okp rfl) (okp rfl) rfl rfl ?_
  obtain ⟨a4, ea4, h⟩ := nm_s h
  obtain ⟨M5, eM5, h⟩ := nm_s h
  rw [← ea4, ← eM5]
  obtain ⟨M6, hM6, h⟩ := bnd h
  refine e_putR d_Table_init_18 fl_Table_17 (Or.inr ⟨rfl, _, rfl, rfl⟩) (fun _ _ _ => rfl) (fun _ => ⟨rfl, rfl⟩) hM6 ?_
  refine e_aload_n d_Table_init_21 rfl ?_
  refine e_newN (k2 := 3) (n2 := 17) d_Table_init_22 ck_Shape cl_Table_9 in_Shape ini_Shape (by decide) (okp rfl) (okp rfl) rfl rfl ?_
  obtain ⟨a7, ea7, h⟩ := nm_s h
  obtain ⟨M8, eM8, h⟩ := nm_s h
  rw [← ea7, ← eM8]
  refine e_dup d_Table_init_25 rfl ?_
  obtain ⟨M9, hM9, h⟩ := bnd h
  refine e_cIN (mt1 := m_Shape_init) (As := []) (st := [.ref a7, .ref x0]) (k2 := 4) (n2 := 25) d_Table_init_26 mx_Table_21 mn_Shape_init (t_Shape_init n a7 M8 M9 hM9) rfl rfl (okp rfl) (okp rfl) (okp rfl) (okp rfl) (okp rfl) rfl rfl ?_
  obtain ⟨M10, hM10, h⟩ := bnd h
  refine e_putR d_Table_init_29 fl_Table_22 (Or.inr ⟨rfl, _, rfl, rfl⟩) (fun _ _ _ => rfl) (fun _ => ⟨rfl, rfl⟩) hM10 ?_
  refine e_aload_n d_Table_init_32 rfl ?_
  refine e_newN (k2 := 5) (n2 := 26) d_Table_init_33 ck_Shape cl_Table_9 in_Shape ini_Shape (by decide) (okp rfl) (okp rfl) rfl rfl ?_
  obtain ⟨a11, ea11, h⟩ := nm_s h
  obtain ⟨M12, eM12, h⟩ := nm_s h
  rw [← ea11, ← eM12]
  refine e_dup d_Table_init_36 rfl ?_
  obtain ⟨M13, hM13, h⟩ := bnd h
  refine e_cIN (mt1 := m_Shape_init) (As := []) (st := [.ref a11, .ref x0]) (k2 := 6) (n2 := 34) d_Table_init_37 mx_Table_21 mn_Shape_init (t_Shape_init n a11 M12 M13 hM13) rfl rfl (okp rfl) (okp rfl) (okp rfl) (okp rfl) (okp rfl) rfl rfl ?_
  obtain ⟨M14, hM14, h⟩ := bnd h
  refine e_putR d_Table_init_40 fl_Table_26 (Or.inr ⟨rfl, _, rfl, rfl⟩) (fun _ _ _ => rfl) (fun _ => ⟨rfl, rfl⟩) hM14 ?_
  refine e_aload_n d_Table_init_43 rfl ?_
  refine e_newN (k2 := 7) (n2 := 35) d_Table_init_44 ck_Shape cl_Table_9 in_Shape ini_Shape (by decide) (okp rfl) (okp rfl) rfl rfl ?_
  obtain ⟨a15, ea15, h⟩ := nm_s h
  obtain ⟨M16, eM16, h⟩ := nm_s h
  rw [← ea15, ← eM16]
  refine e_dup d_Table_init_47 rfl ?_
  obtain ⟨M17, hM17, h⟩ := bnd h
  refine e_cIN (mt1 := m_Shape_init) (As := []) (st := [.ref a15, .ref x0]) (k2 := 8) (n2 := 43) d_Table_init_48 mx_Table_21 mn_Shape_init (t_Shape_init n a15 M16 M17 hM17) rfl rfl (okp rfl) (okp rfl) (okp rfl) (okp rfl) (okp rfl) rfl rfl ?_
  obtain ⟨M18, hM18, h⟩ := bnd h
  refine e_putR d_Table_init_51 fl_Table_29 (Or.inr ⟨rfl, _, rfl, rfl⟩) (fun _ _ _ => rfl) (fun _ => ⟨rfl, rfl⟩) hM18 ?_
  refine e_iconst (v := 0) d_Table_init_54 (by decide) ?_
  refine e_istore_n (l2 := [some (.ref x0), some (.int 0)]) d_Table_init_55 rfl (okl rfl) rfl ?_
  refine e_iload_n d_Table_init_56 rfl ?_
  refine e_bipush (v := 8) d_Table_init_57 (by decide) ?_
  refine e_ic_ge 88 d_Table_init_59 (by decide) (fun c9 => absurd c9 (by decide)) (fun _ => ?_)
  refine e_aload_n d_Table_init_62 rfl ?_
  obtain ⟨v19, hv19, h⟩ := bnd h
  refine e_getR d_Table_init_63 fl_Table_11 (fun _ _ _ => rfl) hv19 ?_
  refine e_iload_n d_Table_init_66 rfl ?_
  refine e_newN (k2 := 9) (n2 := 44) d_Table_init_67 ck_Shape cl_Table_9 in_Shape ini_Shape (by decide) (okp rfl) (okp rfl) rfl rfl ?_
  obtain ⟨a20, ea20, h⟩ := nm_s h
  obtain ⟨M21, eM21, h⟩ := nm_s h
  rw [← ea20, ← eM21]
  refine e_dup d_Table_init_70 rfl ?_
  obtain ⟨M22, hM22, h⟩ := bnd h
  refine e_cIN (mt1 := m_Shape_init) (As := []) (st := [.ref a20, .int 0, .ref v19]) (k2 := 10) (n2 := 52) d_Table_init_71 mx_Table_21 mn_Shape_init (t_Shape_init n a20 M21 M22 hM22) rfl rfl (okp rfl) (okp rfl) (okp rfl) (okp rfl) (okp rfl) rfl rfl ?_
  obtain ⟨M23, hM23, h⟩ := bnd h
  refine e_aast (kd := 104) (ci := 7) d_Table_init_74 (by decide) hM23 ?_
  refine e_aload_n d_Table_init_75 rfl ?_
  obtain ⟨v24, hv24, h⟩ := bnd h
  refine e_getR d_Table_init_76 fl_Table_17 (fun _ _ _ => rfl) hv24 ?_
  refine e_iload_n d_Table_init_79 rfl ?_
  refine e_iconst (v := (-1)) d_Table_init_80 (by decide) ?_
  obtain ⟨M25, hM25, h⟩ := bnd h
  refine e_iast d_Table_init_81 hM25 ?_
  refine e_iinc (v := 1) (l2 := [some (.ref x0), some (.int 1)]) d_Table_init_82 rfl (by decide) rfl (okl rfl) rfl ?_
  refine e_goto 56 d_Table_init_85 (by decide) ?_
  refine e_iload_n d_Table_init_56 rfl ?_
  refine e_bipush (v := 8) d_Table_init_57 (by decide) ?_
  refine e_ic_ge 88 d_Table_init_59 (by decide) (fun c9 => absurd c9 (by decide)) (fun _ => ?_)
  refine e_aload_n d_Table_init_62 rfl ?_
  obtain ⟨v26, hv26, h⟩ := bnd h
  refine e_getR d_Table_init_63 fl_Table_11 (fun _ _ _ => rfl) hv26 ?_
  refine e_iload_n d_Table_init_66 rfl ?_
  refine e_newN (k2 := 11) (n2 := 53) d_Table_init_67 ck_Shape cl_Table_9 in_Shape ini_Shape (by decide) (okp rfl) (okp rfl) rfl rfl ?_
  obtain ⟨a27, ea27, h⟩ := nm_s h
  obtain ⟨M28, eM28, h⟩ := nm_s h
  rw [← ea27, ← eM28]
  refine e_dup d_Table_init_70 rfl ?_
  obtain ⟨M29, hM29, h⟩ := bnd h
  refine e_cIN (mt1 := m_Shape_init) (As := []) (st := [.ref a27, .int 1, .ref v26]) (k2 := 12) (n2 := 61) d_Table_init_71 mx_Table_21 mn_Shape_init (t_Shape_init n a27 M28 M29 hM29) rfl rfl (okp rfl) (okp rfl) (okp rfl) (okp rfl) (okp rfl) rfl rfl ?_
  obtain ⟨M30, hM30, h⟩ := bnd h
  refine e_aast (kd := 104) (ci := 7) d_Table_init_74 (by decide) hM30 ?_
  refine e_aload_n d_Table_init_75 rfl ?_
  obtain ⟨v31, hv31, h⟩ := bnd h
  refine e_getR d_Table_init_76 fl_Table_17 (fun _ _ _ => rfl) hv31 ?_
  refine e_iload_n d_Table_init_79 rfl ?_
  refine e_iconst (v := (-1)) d_Table_init_80 (by decide) ?_
  obtain ⟨M32, hM32, h⟩ := bnd h
  refine e_iast d_Table_init_81 hM32 ?_
  refine e_iinc (v := 2) (l2 := [some (.ref x0), some (.int 2)]) d_Table_init_82 rfl (by decide) rfl (okl rfl) rfl ?_
  refine e_goto 56 d_Table_init_85 (by decide) ?_
  refine e_iload_n d_Table_init_56 rfl ?_
  refine e_bipush (v := 8) d_Table_init_57 (by decide) ?_
  refine e_ic_ge 88 d_Table_init_59 (by decide) (fun c9 => absurd c9 (by decide)) (fun _ => ?_)
  refine e_aload_n d_Table_init_62 rfl ?_
  obtain ⟨v33, hv33, h⟩ := bnd h
  refine e_getR d_Table_init_63 fl_Table_11 (fun _ _ _ => rfl) hv33 ?_
  refine e_iload_n d_Table_init_66 rfl ?_
  refine e_newN (k2 := 13) (n2 := 62) d_Table_init_67 ck_Shape cl_Table_9 in_Shape ini_Shape (by decide) (okp rfl) (okp rfl) rfl rfl ?_
  obtain ⟨a34, ea34, h⟩ := nm_s h
  obtain ⟨M35, eM35, h⟩ := nm_s h
  rw [← ea34, ← eM35]
  refine e_dup d_Table_init_70 rfl ?_
  obtain ⟨M36, hM36, h⟩ := bnd h
  refine e_cIN (mt1 := m_Shape_init) (As := []) (st := [.ref a34, .int 2, .ref v33]) (k2 := 14) (n2 := 70) d_Table_init_71 mx_Table_21 mn_Shape_init (t_Shape_init n a34 M35 M36 hM36) rfl rfl (okp rfl) (okp rfl) (okp rfl) (okp rfl) (okp rfl) rfl rfl ?_
  obtain ⟨M37, hM37, h⟩ := bnd h
  refine e_aast (kd := 104) (ci := 7) d_Table_init_74 (by decide) hM37 ?_
  refine e_aload_n d_Table_init_75 rfl ?_
  obtain ⟨v38, hv38, h⟩ := bnd h
  refine e_getR d_Table_init_76 fl_Table_17 (fun _ _ _ => rfl) hv38 ?_
  refine e_iload_n d_Table_init_79 rfl ?_
  refine e_iconst (v := (-1)) d_Table_init_80 (by decide) ?_
  obtain ⟨M39, hM39, h⟩ := bnd h
  refine e_iast d_Table_init_81 hM39 ?_
  refine e_iinc (v := 3) (l2 := [some (.ref x0), some (.int 3)]) d_Table_init_82 rfl (by decide) rfl (okl rfl) rfl ?_
  refine e_goto 56 d_Table_init_85 (by decide) ?_
  refine e_iload_n d_Table_init_56 rfl ?_
  refine e_bipush (v := 8) d_Table_init_57 (by decide) ?_
  refine e_ic_ge 88 d_Table_init_59 (by decide) (fun c9 => absurd c9 (by decide)) (fun _ => ?_)
  refine e_aload_n d_Table_init_62 rfl ?_
  obtain ⟨v40, hv40, h⟩ := bnd h
  refine e_getR d_Table_init_63 fl_Table_11 (fun _ _ _ => rfl) hv40 ?_
  refine e_iload_n d_Table_init_66 rfl ?_
  refine e_newN (k2 := 15) (n2 := 71) d_Table_init_67 ck_Shape cl_Table_9 in_Shape ini_Shape (by decide) (okp rfl) (okp rfl) rfl rfl ?_
  obtain ⟨a41, ea41, h⟩ := nm_s h
  obtain ⟨M42, eM42, h⟩ := nm_s h
  rw [← ea41, ← eM42]
  refine e_dup d_Table_init_70 rfl ?_
  obtain ⟨M43, hM43, h⟩ := bnd h
  refine e_cIN (mt1 := m_Shape_init) (As := []) (st := [.ref a41, .int 3, .ref v40]) (k2 := 16) (n2 := 79) d_Table_init_71 mx_Table_21 mn_Shape_init (t_Shape_init n a41 M42 M43 hM43) rfl rfl (okp rfl) (okp rfl) (okp rfl) (okp rfl) (okp rfl) rfl rfl ?_
  obtain ⟨M44, hM44, h⟩ := bnd h
  refine e_aast (kd := 104) (ci := 7) d_Table_init_74 (by decide) hM44 ?_
  refine e_aload_n d_Table_init_75 rfl ?_
  obtain ⟨v45, hv45, h⟩ := bnd h
  refine e_getR d_Table_init_76 fl_Table_17 (fun _ _ _ => rfl) hv45 ?_
  refine e_iload_n d_Table_init_79 rfl ?_
  refine e_iconst (v := (-1)) d_Table_init_80 (by decide) ?_
  obtain ⟨M46, hM46, h⟩ := bnd h
  refine e_iast d_Table_init_81 hM46 ?_
  refine e_iinc (v := 4) (l2 := [some (.ref x0), some (.int 4)]) d_Table_init_82 rfl (by decide) rfl (okl rfl) rfl ?_
  refine e_goto 56 d_Table_init_85 (by decide) ?_
  refine e_iload_n d_Table_init_56 rfl ?_
  refine e_bipush (v := 8) d_Table_init_57 (by decide) ?_
  refine e_ic_ge 88 d_Table_init_59 (by decide) (fun c9 => absurd c9 (by decide)) (fun _ => ?_)
  refine e_aload_n d_Table_init_62 rfl ?_
  obtain ⟨v47, hv47, h⟩ := bnd h
  refine e_getR d_Table_init_63 fl_Table_11 (fun _ _ _ => rfl) hv47 ?_
  refine e_iload_n d_Table_init_66 rfl ?_
  refine e_newN (k2 := 17) (n2 := 80) d_Table_init_67 ck_Shape cl_Table_9 in_Shape ini_Shape (by decide) (okp rfl) (okp rfl) rfl rfl ?_
  obtain ⟨a48, ea48, h⟩ := nm_s h
  obtain ⟨M49, eM49, h⟩ := nm_s h
  rw [← ea48, ← eM49]
  refine e_dup d_Table_init_70 rfl ?_
  obtain ⟨M50, hM50, h⟩ := bnd h
  refine e_cIN (mt1 := m_Shape_init) (As := []) (st := [.ref a48, .int 4, .ref v47]) (k2 := 18) (n2 := 88) d_Table_init_71 mx_Table_21 mn_Shape_init (t_Shape_init n a48 M49 M50 hM50) rfl rfl (okp rfl) (okp rfl) (okp rfl) (okp rfl) (okp rfl) rfl rfl ?_
  obtain ⟨M51, hM51, h⟩ := bnd h
  refine e_aast (kd := 104) (ci := 7) d_Table_init_74 (by decide) hM51 ?_
  refine e_aload_n d_Table_init_75 rfl ?_
  obtain ⟨v52, hv52, h⟩ := bnd h
  refine e_getR d_Table_init_76 fl_Table_17 (fun _ _ _ => rfl) hv52 ?_
  refine e_iload_n d_Table_init_79 rfl ?_
  refine e_iconst (v := (-1)) d_Table_init_80 (by decide) ?_
  obtain ⟨M53, hM53, h⟩ := bnd h
  refine e_iast d_Table_init_81 hM53 ?_
  refine e_iinc (v := 5) (l2 := [some (.ref x0), some (.int 5)]) d_Table_init_82 rfl (by decide) rfl (okl rfl) rfl ?_
  refine e_goto 56 d_Table_init_85 (by decide) ?_
  refine e_iload_n d_Table_init_56 rfl ?_
  refine e_bipush (v := 8) d_Table_init_57 (by decide) ?_
  refine e_ic_ge 88 d_Table_init_59 (by decide) (fun c9 => absurd c9 (by decide)) (fun _ => ?_)
  refine e_aload_n d_Table_init_62 rfl ?_
  obtain ⟨v54, hv54, h⟩ := bnd h
  refine e_getR d_Table_init_63 fl_Table_11 (fun _ _ _ => rfl) hv54 ?_
  refine e_iload_n d_Table_init_66 rfl ?_
  refine e_newN (k2 := 19) (n2 := 89) d_Table_init_67 ck_Shape cl_Table_9 in_Shape ini_Shape (by decide) (okp rfl) (okp rfl) rfl rfl ?_
  obtain ⟨a55, ea55, h⟩ := nm_s h
  obtain ⟨M56, eM56, h⟩ := nm_s h
  rw [← ea55, ← eM56]
  refine e_dup d_Table_init_70 rfl ?_
  obtain ⟨M57, hM57, h⟩ := bnd h
  refine e_cIN (mt1 := m_Shape_init) (As := []) (st := [.ref a55, .int 5, .ref v54]) (k2 := 20) (n2 := 97) d_Table_init_71 mx_Table_21 mn_Shape_init (t_Shape_init n a55 M56 M57 hM57) rfl rfl (okp rfl) (okp rfl) (okp rfl) (okp rfl) (okp rfl) rfl rfl ?_
  obtain ⟨M58, hM58, h⟩ := bnd h
  refine e_aast (kd := 104) (ci := 7) d_Table_init_74 (by decide) hM58 ?_
  refine e_aload_n d_Table_init_75 rfl ?_
  obtain ⟨v59, hv59, h⟩ := bnd h
  refine e_getR d_Table_init_76 fl_Table_17 (fun _ _ _ => rfl) hv59 ?_
  refine e_iload_n d_Table_init_79 rfl ?_
  refine e_iconst (v := (-1)) d_Table_init_80 (by decide) ?_
  obtain ⟨M60, hM60, h⟩ := bnd h
  refine e_iast d_Table_init_81 hM60 ?_
  refine e_iinc (v := 6) (l2 := [some (.ref x0), some (.int 6)]) d_Table_init_82 rfl (by decide) rfl (okl rfl) rfl ?_
  refine e_goto 56 d_Table_init_85 (by decide) ?_
  refine e_iload_n d_Table_init_56 rfl ?_
  refine e_bipush (v := 8) d_Table_init_57 (by decide) ?_
  refine e_ic_ge 88 d_Table_init_59 (by decide) (fun c9 => absurd c9 (by decide)) (fun _ => ?_)
  refine e_aload_n d_Table_init_62 rfl ?_
  obtain ⟨v61, hv61, h⟩ := bnd h
  refine e_getR d_Table_init_63 fl_Table_11 (fun _ _ _ => rfl) hv61 ?_
  refine e_iload_n d_Table_init_66 rfl ?_
  refine e_newN (k2 := 21) (n2 := 98) d_Table_init_67 ck_Shape cl_Table_9 in_Shape ini_Shape (by decide) (okp rfl) (okp rfl) rfl rfl ?_
  obtain ⟨a62, ea62, h⟩ := nm_s h
  obtain ⟨M63, eM63, h⟩ := nm_s h
  rw [← ea62, ← eM63]
  refine e_dup d_Table_init_70 rfl ?_
  obtain ⟨M64, hM64, h⟩ := bnd h
  refine e_cIN (mt1 := m_Shape_init) (As := []) (st := [.ref a62, .int 6, .ref v61]) (k2 := 22) (n2 := 106) d_Table_init_71 mx_Table_21 mn_Shape_init (t_Shape_init n a62 M63 M64 hM64) rfl rfl (okp rfl) (okp rfl) (okp rfl) (okp rfl) (okp rfl) rfl rfl ?_
  obtain ⟨M65, hM65, h⟩ := bnd h
  refine e_aast (kd := 104) (ci := 7) d_Table_init_74 (by decide) hM65 ?_
  refine e_aload_n d_Table_init_75 rfl ?_
  obtain ⟨v66, hv66, h⟩ := bnd h
  refine e_getR d_Table_init_76 fl_Table_17 (fun _ _ _ => rfl) hv66 ?_
  refine e_iload_n d_Table_init_79 rfl ?_
  refine e_iconst (v := (-1)) d_Table_init_80 (by decide) ?_
  obtain ⟨M67, hM67, h⟩ := bnd h
  refine e_iast d_Table_init_81 hM67 ?_
  refine e_iinc (v := 7) (l2 := [some (.ref x0), some (.int 7)]) d_Table_init_82 rfl (by decide) rfl (okl rfl) rfl ?_
  refine e_goto 56 d_Table_init_85 (by decide) ?_
  refine e_iload_n d_Table_init_56 rfl ?_
  refine e_bipush (v := 8) d_Table_init_57 (by decide) ?_
  refine e_ic_ge 88 d_Table_init_59 (by decide) (fun c9 => absurd c9 (by decide)) (fun _ => ?_)
  refine e_aload_n d_Table_init_62 rfl ?_
  obtain ⟨v68, hv68, h⟩ := bnd h
  refine e_getR d_Table_init_63 fl_Table_11 (fun _ _ _ => rfl) hv68 ?_
  refine e_iload_n d_Table_init_66 rfl ?_
  refine e_newN (k2 := 23) (n2 := 107) d_Table_init_67 ck_Shape cl_Table_9 in_Shape ini_Shape (by decide) (okp rfl) (okp rfl) rfl rfl ?_
  obtain ⟨a69, ea69, h⟩ := nm_s h
  obtain ⟨M70, eM70, h⟩ := nm_s h
  rw [← ea69, ← eM70]
  refine e_dup d_Table_init_70 rfl ?_
  obtain ⟨M71, hM71, h⟩ := bnd h
  refine e_cIN (mt1 := m_Shape_init) (As := []) (st := [.ref a69, .int 7, .ref v68]) (k2 := 24) (n2 := 115) d_Table_init_71 mx_Table_21 mn_Shape_init (t_Shape_init n a69 M70 M71 hM71) rfl rfl (okp rfl) (okp rfl) (okp rfl) (okp rfl) (okp rfl) rfl rfl ?_
  obtain ⟨M72, hM72, h⟩ := bnd h
  refine e_aast (kd := 104) (ci := 7) d_Table_init_74 (by decide) hM72 ?_
  refine e_aload_n d_Table_init_75 rfl ?_
  obtain ⟨v73, hv73, h⟩ := bnd h
  refine e_getR d_Table_init_76 fl_Table_17 (fun _ _ _ => rfl) hv73 ?_
  refine e_iload_n d_Table_init_79 rfl ?_
  refine e_iconst (v := (-1)) d_Table_init_80 (by decide) ?_
  obtain ⟨M74, hM74, h⟩ := bnd h
  refine e_iast d_Table_init_81 hM74 ?_
  refine e_iinc (v := 8) (l2 := [some (.ref x0), some (.int 8)]) d_Table_init_82 rfl (by decide) rfl (okl rfl) rfl ?_
  refine e_goto 56 d_Table_init_85 (by decide) ?_
  refine e_iload_n d_Table_init_56 rfl ?_
  refine e_bipush (v := 8) d_Table_init_57 (by decide) ?_
  refine e_ic_ge 88 d_Table_init_59 (by decide) (fun _ => ?_) (fun c9 => absurd c9 (by decide))
  cases h
  exact e_vret d_Table_init_88 rfl (okp rfl) (okp rfl)
theorem d_Book_init_0 : DC m_Book_init 0 (.aload_n 0) 1 1 := ⟨by decide +kernel, rfl⟩
theorem d_Book_init_1 : DC m_Book_init 1 (.invokespecial 3) 3 4 := ⟨by decide +kernel, rfl⟩
theorem d_Book_init_4 : DC m_Book_init 4 (.aload_n 0) 1 5 := ⟨by decide +kernel, rfl⟩
theorem d_Book_init_5 : DC m_Book_init 5 (.iconst 0) 1 6 := ⟨by decide +kernel, rfl⟩
theorem d_Book_init_6 : DC m_Book_init 6 (.putfield 9) 3 9 := ⟨by decide +kernel, rfl⟩
theorem d_Book_init_9 : DC m_Book_init 9 (.aload_n 0) 1 10 := ⟨by decide +kernel, rfl⟩
theorem d_Book_init_10 : DC m_Book_init 10 (.bipush 60) 2 12 := ⟨by decide +kernel, rfl⟩
theorem d_Book_init_12 : DC m_Book_init 12 (.newarray .int) 2 14 := ⟨by decide +kernel, rfl⟩
theorem d_Book_init_14 : DC m_Book_init 14 (.putfield 15) 3 17 := ⟨by decide +kernel, rfl⟩
theorem d_Book_init_17 : DC m_Book_init 17 (.aload_n 0) 1 18 := ⟨by decide +kernel, rfl⟩
theorem d_Book_init_18 : DC m_Book_init 18 (.bipush 60) 2 20 := ⟨by decide +kernel, rfl⟩
theorem d_Book_init_20 : DC m_Book_init 20 (.newarray .int) 2 22 := ⟨by decide +kernel, rfl⟩
theorem d_Book_init_22 : DC m_Book_init 22 (.putfield 19) 3 25 := ⟨by decide +kernel, rfl⟩
theorem d_Book_init_25 : DC m_Book_init 25 (.aload_n 0) 1 26 := ⟨by decide +kernel, rfl⟩
theorem d_Book_init_26 : DC m_Book_init 26 (.bipush 60) 2 28 := ⟨by decide +kernel, rfl⟩
theorem d_Book_init_28 : DC m_Book_init 28 (.newarray .int) 2 30 := ⟨by decide +kernel, rfl⟩
theorem d_Book_init_30 : DC m_Book_init 30 (.putfield 22) 3 33 := ⟨by decide +kernel, rfl⟩
theorem d_Book_init_33 : DC m_Book_init 33 (.aload_n 0) 1 34 := ⟨by decide +kernel, rfl⟩
theorem d_Book_init_34 : DC m_Book_init 34 (.bipush 60) 2 36 := ⟨by decide +kernel, rfl⟩
theorem d_Book_init_36 : DC m_Book_init 36 (.newarray .int) 2 38 := ⟨by decide +kernel, rfl⟩
theorem d_Book_init_38 : DC m_Book_init 38 (.putfield 25) 3 41 := ⟨by decide +kernel, rfl⟩
theorem d_Book_init_41 : DC m_Book_init 41 (.aload_n 0) 1 42 := ⟨by decide +kernel, rfl⟩
theorem d_Book_init_42 : DC m_Book_init 42 (.bipush 60) 2 44 := ⟨by decide +kernel, rfl⟩
theorem d_Book_init_44 : DC m_Book_init 44 (.bipush 8) 2 46 := ⟨by decide +kernel, rfl⟩
theorem d_Book_init_46 : DC m_Book_init 46 (.multianewarray 28 2) 4 50 := ⟨by decide +kernel, rfl⟩
theorem d_Book_init_50 : DC m_Book_init 50 (.putfield 30) 3 53 := ⟨by decide +kernel, rfl⟩
theorem d_Book_init_53 : DC m_Book_init 53 (.aload_n 0) 1 54 := ⟨by decide +kernel, rfl⟩
theorem d_Book_init_54 : DC m_Book_init 54 (.bipush 60) 2 56 := ⟨by decide +kernel, rfl⟩
theorem d_Book_init_56 : DC m_Book_init 56 (.newarray .int) 2 58 := ⟨by decide +kernel, rfl⟩
theorem d_Book_init_58 : DC m_Book_init 58 (.putfield 33) 3 61 := ⟨by decide +kernel, rfl⟩
theorem d_Book_init_61 : DC m_Book_init 61 .return_ 1 62 := ⟨by decide +kernel, rfl⟩
set_option maxRecDepth 20000 in
def f_Book_init (n : Nat) (x0 : Nat) (M : MM) : Option MM :=
  (pI 0 0 x0 0 M).bind fun M1 =>
  nm (rho M1.1.1) fun a2 =>
  nm (nwC 100 60 M1) fun M3 =>
  (pR 0 1 x0 a2 M3).bind fun M4 =>
  nm (rho M4.1.1) fun a5 =>
  nm (nwC 100 60 M4) fun M6 =>
  (pR 0 2 x0 a5 M6).bind fun M7 =>
  nm (rho M7.1.1) fun a8 =>
  nm (nwC 100 60 M7) fun M9 =>
  (pR 0 3 x0 a8 M9).bind fun M10 =>
  nm (rho M10.1.1) fun a11 =>
  nm (nwC 100 60 M10) fun M12 =>
  (pR 0 4 x0 a11 M12).bind fun M13 =>
  nm (rho M13.1.1) fun a14 =>
  nm (nwG 60 8 M13) fun M15 =>
  (pR 0 5 x0 a14 M15).bind fun M16 =>
  nm (rho M16.1.1) fun a17 =>
  nm (nwC 100 60 M16) fun M18 =>
  (pR 0 6 x0 a17 M18).bind fun M19 =>
  some M19
set_option maxRecDepth 20000 in
theorem t_Book_init (n : Nat) (x0 : Nat) (M : MM) (z : MM) (h : f_Book_init n x0 M = some z) : CT m_Book_init (rm 2 66 840) [.ref x0] M none z := by
  unfold f_Book_init at h
  refine CT.of (ls := [some (.ref x0)]) rfl (okp rfl) rfl ?_
  refine e_aload_n d_Book_init_0 rfl ?_
  refine e_objInit d_Book_init_1 ml_Book_3 oi_in oi_code (okp rfl) (okp rfl) (okp rfl) ?_
  refine e_aload_n d_Book_init_4 rfl ?_
  refine e_iconst (v := 0) d_Book_init_5 (by decide) ?_
  obtain ⟨M1, hM1, h⟩ := bnd h
  refine e_putI d_Book_init_6 fl_Book_9 (Or.inl rfl) (fun _ _ _ => rfl) rfl hM1 ?_
  refine e_aload_n d_Book_init_9 rfl ?_
  refine e_bipush (v := 60) d_Book_init_10 (by decide) ?_
  refine e_newaN (kd := 100) (len := 60) (ty := .int) (k2 := 1) (n2 := 60) d_Book_init_12 rfl ac_int (by decide) (by decide) (by decide) (okp rfl) (okp rfl) (okp rfl) rfl rfl ?_
  obtain ⟨a2, ea2, h⟩ := nm_s h
  obtain ⟨M3, eM3, h⟩ := nm_s h
  rw [← ea2, ← eM3]
  obtain ⟨M4, hM4, h⟩ := bnd h
  refine e_putR d_Book_init_14 fl_Book_15 (Or.inr ⟨rfl, _, rfl, rfl⟩) (fun _ _ _ => rfl) (fun _ => ⟨rfl, rfl⟩) hM4 ?_
  refine e_aload_n d_Book_init_17 rfl ?_
  refine e_bipush (v := 60) d_Book_init_18 (by decide) ?_
  refine e_newaN (kd := 100) (len := 60) (ty := .int) (k2 := 2) (n2 := 120) d_Book_init_20 rfl ac_int (by decide) (by decide) (by decide) (okp rfl) (okp rfl) (okp rfl) rfl rfl ?_
  obtain ⟨a5, ea5, h⟩ := nm_s h
  obtain ⟨M6, eM6, h⟩ := nm_s h
  rw [← ea5, ← eM6]
  obtain ⟨M7, hM7, h⟩ := bnd h
  refine e_putR d_Book_init_22 fl_Book_19 (Or.inr ⟨rfl, _, rfl, rfl⟩) (fun _ _ _ => rfl) (fun _ => ⟨rfl, rfl⟩) hM7 ?_
  refine e_aload_n d_Book_init_25 rfl ?_
  refine e_bipush (v := 60) d_Book_init_26 (by decide) ?_
  refine e_newaN (kd := 100) (len := 60) (ty := .int) (k2 := 3) (n2 := 180) d_Book_init_28 rfl ac_int (by decide) (by decide) (by decide) (okp rfl) (okp rfl) (okp rfl) rfl rfl ?_
  obtain ⟨a8, ea8, h⟩ := nm_s h
  obtain ⟨M9, eM9, h⟩ := nm_s h
  rw [← ea8, ← eM9]
  obtain ⟨M10, hM10, h⟩ := bnd h
  refine e_putR d_Book_init_30 fl_Book_22 (Or.inr ⟨rfl, _, rfl, rfl⟩) (fun _ _ _ => rfl) (fun _ => ⟨rfl, rfl⟩) hM10 ?_
  refine e_aload_n d_Book_init_33 rfl ?_
  refine e_bipush (v := 60) d_Book_init_34 (by decide) ?_
  refine e_newaN (kd := 100) (len := 60) (ty := .int) (k2 := 4) (n2 := 240) d_Book_init_36 rfl ac_int (by decide) (by decide) (by decide) (okp rfl) (okp rfl) (okp rfl) rfl rfl ?_
  obtain ⟨a11, ea11, h⟩ := nm_s h
  obtain ⟨M12, eM12, h⟩ := nm_s h
  rw [← ea11, ← eM12]
  obtain ⟨M13, hM13, h⟩ := bnd h
  refine e_putR d_Book_init_38 fl_Book_25 (Or.inr ⟨rfl, _, rfl, rfl⟩) (fun _ _ _ => rfl) (fun _ => ⟨rfl, rfl⟩) hM13 ?_
  refine e_aload_n d_Book_init_41 rfl ?_
  refine e_bipush (v := 60) d_Book_init_42 (by decide) ?_
  refine e_bipush (v := 8) d_Book_init_44 (by decide) ?_
  refine e_mna (N := 60) (K := 8) (k2 := 65) (n2 := 780) d_Book_init_46 cl_Book_28 ao_II ac_int (by decide) (by decide) (by decide) (by decide) (okp rfl) (okp rfl) (okp rfl) (okp rfl) rfl rfl ?_
  obtain ⟨a14, ea14, h⟩ := nm_s h
  obtain ⟨M15, eM15, h⟩ := nm_s h
  rw [← ea14, ← eM15]
  obtain ⟨M16, hM16, h⟩ := bnd h
  refine e_putR d_Book_init_50 fl_Book_30 (Or.inr ⟨rfl, _, rfl, rfl⟩) (fun _ _ _ => rfl) (fun _ => ⟨rfl, rfl⟩) hM16 ?_
  refine e_aload_n d_Book_init_53 rfl ?_
  refine e_bipush (v := 60) d_Book_init_54 (by decide) ?_
  refine e_newaN (kd := 100) (len := 60) (ty := .int) (k2 := 66) (n2 := 840) d_Book_init_56 rfl ac_int (by decide) (by decide) (by decide) (okp rfl) (okp rfl) (okp rfl) rfl rfl ?_
  obtain ⟨a17, ea17, h⟩ := nm_s h
  obtain ⟨M18, eM18, h⟩ := nm_s h
  rw [← ea17, ← eM18]
  obtain ⟨M19, hM19, h⟩ := bnd h
  refine e_putR d_Book_init_58 fl_Book_33 (Or.inr ⟨rfl, _, rfl, rfl⟩) (fun _ _ _ => rfl) (fun _ => ⟨rfl, rfl⟩) hM19 ?_
  cases h
  exact e_vret d_Book_init_61 rfl (okp rfl) (okp rfl)
theorem d_Q_init_0 : DC m_Q_init 0 (.aload_n 0) 1 1 := ⟨by decide +kernel, rfl⟩
theorem d_Q_init_1 : DC m_Q_init 1 (.invokespecial 1) 3 4 := ⟨by decide +kernel, rfl⟩
theorem d_Q_init_4 : DC m_Q_init 4 (.aload_n 0) 1 5 := ⟨by decide +kernel, rfl⟩
theorem d_Q_init_5 : DC m_Q_init 5 (.sipush 2000) 3 8 := ⟨by decide +kernel, rfl⟩
theorem d_Q_init_8 : DC m_Q_init 8 (.newarray .byte) 2 10 := ⟨by decide +kernel, rfl⟩
theorem d_Q_init_10 : DC m_Q_init 10 (.putfield 9) 3 13 := ⟨by decide +kernel, rfl⟩
theorem d_Q_init_13 : DC m_Q_init 13 (.aload_n 0) 1 14 := ⟨by decide +kernel, rfl⟩
theorem d_Q_init_14 : DC m_Q_init 14 (.iconst 0) 1 15 := ⟨by decide +kernel, rfl⟩
theorem d_Q_init_15 : DC m_Q_init 15 (.putfield 13) 3 18 := ⟨by decide +kernel, rfl⟩
theorem d_Q_init_18 : DC m_Q_init 18 (.aload_n 0) 1 19 := ⟨by decide +kernel, rfl⟩
theorem d_Q_init_19 : DC m_Q_init 19 (.iconst (-1)) 1 20 := ⟨by decide +kernel, rfl⟩
theorem d_Q_init_20 : DC m_Q_init 20 (.putfield 17) 3 23 := ⟨by decide +kernel, rfl⟩
theorem d_Q_init_23 : DC m_Q_init 23 (.aload_n 0) 1 24 := ⟨by decide +kernel, rfl⟩
theorem d_Q_init_24 : DC m_Q_init 24 (.new 20) 3 27 := ⟨by decide +kernel, rfl⟩
theorem d_Q_init_27 : DC m_Q_init 27 .dup 1 28 := ⟨by decide +kernel, rfl⟩
theorem d_Q_init_28 : DC m_Q_init 28 (.invokespecial 22) 3 31 := ⟨by decide +kernel, rfl⟩
theorem d_Q_init_31 : DC m_Q_init 31 (.putfield 23) 3 34 := ⟨by decide +kernel, rfl⟩
theorem d_Q_init_34 : DC m_Q_init 34 (.aload_n 0) 1 35 := ⟨by decide +kernel, rfl⟩
theorem d_Q_init_35 : DC m_Q_init 35 (.new 27) 3 38 := ⟨by decide +kernel, rfl⟩
theorem d_Q_init_38 : DC m_Q_init 38 .dup 1 39 := ⟨by decide +kernel, rfl⟩
theorem d_Q_init_39 : DC m_Q_init 39 (.invokespecial 29) 3 42 := ⟨by decide +kernel, rfl⟩
theorem d_Q_init_42 : DC m_Q_init 42 (.putfield 30) 3 45 := ⟨by decide +kernel, rfl⟩
theorem d_Q_init_45 : DC m_Q_init 45 (.aload_n 0) 1 46 := ⟨by decide +kernel, rfl⟩
theorem d_Q_init_46 : DC m_Q_init 46 (.new 34) 3 49 := ⟨by decide +kernel, rfl⟩
theorem d_Q_init_49 : DC m_Q_init 49 .dup 1 50 := ⟨by decide +kernel, rfl⟩
theorem d_Q_init_50 : DC m_Q_init 50 (.invokespecial 36) 3 53 := ⟨by decide +kernel, rfl⟩
theorem d_Q_init_53 : DC m_Q_init 53 (.putfield 37) 3 56 := ⟨by decide +kernel, rfl⟩
theorem d_Q_init_56 : DC m_Q_init 56 (.aload_n 0) 1 57 := ⟨by decide +kernel, rfl⟩
theorem d_Q_init_57 : DC m_Q_init 57 (.aload_n 0) 1 58 := ⟨by decide +kernel, rfl⟩
theorem d_Q_init_58 : DC m_Q_init 58 (.getfield 37) 3 61 := ⟨by decide +kernel, rfl⟩
theorem d_Q_init_61 : DC m_Q_init 61 (.getfield 41) 3 64 := ⟨by decide +kernel, rfl⟩
theorem d_Q_init_64 : DC m_Q_init 64 (.putfield 45) 3 67 := ⟨by decide +kernel, rfl⟩
theorem d_Q_init_67 : DC m_Q_init 67 (.aload_n 0) 1 68 := ⟨by decide +kernel, rfl⟩
theorem d_Q_init_68 : DC m_Q_init 68 (.new 46) 3 71 := ⟨by decide +kernel, rfl⟩
theorem d_Q_init_71 : DC m_Q_init 71 .dup 1 72 := ⟨by decide +kernel, rfl⟩
theorem d_Q_init_72 : DC m_Q_init 72 (.invokespecial 48) 3 75 := ⟨by decide +kernel, rfl⟩
theorem d_Q_init_75 : DC m_Q_init 75 (.putfield 49) 3 78 := ⟨by decide +kernel, rfl⟩
theorem d_Q_init_78 : DC m_Q_init 78 (.aload_n 0) 1 79 := ⟨by decide +kernel, rfl⟩
theorem d_Q_init_79 : DC m_Q_init 79 (.aload_n 0) 1 80 := ⟨by decide +kernel, rfl⟩
theorem d_Q_init_80 : DC m_Q_init 80 (.getfield 49) 3 83 := ⟨by decide +kernel, rfl⟩
theorem d_Q_init_83 : DC m_Q_init 83 (.getfield 53) 3 86 := ⟨by decide +kernel, rfl⟩
theorem d_Q_init_86 : DC m_Q_init 86 (.putfield 57) 3 89 := ⟨by decide +kernel, rfl⟩
theorem d_Q_init_89 : DC m_Q_init 89 (.aload_n 0) 1 90 := ⟨by decide +kernel, rfl⟩
theorem d_Q_init_90 : DC m_Q_init 90 (.bipush 6) 2 92 := ⟨by decide +kernel, rfl⟩
theorem d_Q_init_92 : DC m_Q_init 92 (.anewarray 58) 3 95 := ⟨by decide +kernel, rfl⟩
theorem d_Q_init_95 : DC m_Q_init 95 (.putfield 60) 3 98 := ⟨by decide +kernel, rfl⟩
theorem d_Q_init_98 : DC m_Q_init 98 (.aload_n 0) 1 99 := ⟨by decide +kernel, rfl⟩
theorem d_Q_init_99 : DC m_Q_init 99 (.iconst 0) 1 100 := ⟨by decide +kernel, rfl⟩
theorem d_Q_init_100 : DC m_Q_init 100 (.putfield 63) 3 103 := ⟨by decide +kernel, rfl⟩
theorem d_Q_init_103 : DC m_Q_init 103 (.aload_n 0) 1 104 := ⟨by decide +kernel, rfl⟩
theorem d_Q_init_104 : DC m_Q_init 104 (.iconst 0) 1 105 := ⟨by decide +kernel, rfl⟩
theorem d_Q_init_105 : DC m_Q_init 105 (.putfield 66) 3 108 := ⟨by decide +kernel, rfl⟩
theorem d_Q_init_108 : DC m_Q_init 108 (.aload_n 0) 1 109 := ⟨by decide +kernel, rfl⟩
theorem d_Q_init_109 : DC m_Q_init 109 (.new 69) 3 112 := ⟨by decide +kernel, rfl⟩
theorem d_Q_init_112 : DC m_Q_init 112 .dup 1 113 := ⟨by decide +kernel, rfl⟩
theorem d_Q_init_113 : DC m_Q_init 113 (.invokespecial 71) 3 116 := ⟨by decide +kernel, rfl⟩
theorem d_Q_init_116 : DC m_Q_init 116 (.putfield 72) 3 119 := ⟨by decide +kernel, rfl⟩
theorem d_Q_init_119 : DC m_Q_init 119 (.aload_n 0) 1 120 := ⟨by decide +kernel, rfl⟩
theorem d_Q_init_120 : DC m_Q_init 120 (.new 76) 3 123 := ⟨by decide +kernel, rfl⟩
theorem d_Q_init_123 : DC m_Q_init 123 .dup 1 124 := ⟨by decide +kernel, rfl⟩
theorem d_Q_init_124 : DC m_Q_init 124 (.invokespecial 78) 3 127 := ⟨by decide +kernel, rfl⟩
theorem d_Q_init_127 : DC m_Q_init 127 (.putfield 79) 3 130 := ⟨by decide +kernel, rfl⟩
theorem d_Q_init_130 : DC m_Q_init 130 (.aload_n 0) 1 131 := ⟨by decide +kernel, rfl⟩
theorem d_Q_init_131 : DC m_Q_init 131 (.new 83) 3 134 := ⟨by decide +kernel, rfl⟩
theorem d_Q_init_134 : DC m_Q_init 134 .dup 1 135 := ⟨by decide +kernel, rfl⟩
theorem d_Q_init_135 : DC m_Q_init 135 (.invokespecial 85) 3 138 := ⟨by decide +kernel, rfl⟩
theorem d_Q_init_138 : DC m_Q_init 138 (.putfield 86) 3 141 := ⟨by decide +kernel, rfl⟩
theorem d_Q_init_141 : DC m_Q_init 141 (.aload_n 0) 1 142 := ⟨by decide +kernel, rfl⟩
theorem d_Q_init_142 : DC m_Q_init 142 (.new 90) 3 145 := ⟨by decide +kernel, rfl⟩
theorem d_Q_init_145 : DC m_Q_init 145 .dup 1 146 := ⟨by decide +kernel, rfl⟩
theorem d_Q_init_146 : DC m_Q_init 146 (.invokespecial 92) 3 149 := ⟨by decide +kernel, rfl⟩
theorem d_Q_init_149 : DC m_Q_init 149 (.putfield 93) 3 152 := ⟨by decide +kernel, rfl⟩
theorem d_Q_init_152 : DC m_Q_init 152 (.aload_n 0) 1 153 := ⟨by decide +kernel, rfl⟩
theorem d_Q_init_153 : DC m_Q_init 153 (.new 97) 3 156 := ⟨by decide +kernel, rfl⟩
theorem d_Q_init_156 : DC m_Q_init 156 .dup 1 157 := ⟨by decide +kernel, rfl⟩
theorem d_Q_init_157 : DC m_Q_init 157 (.invokespecial 99) 3 160 := ⟨by decide +kernel, rfl⟩
theorem d_Q_init_160 : DC m_Q_init 160 (.putfield 100) 3 163 := ⟨by decide +kernel, rfl⟩
theorem d_Q_init_163 : DC m_Q_init 163 (.iconst 0) 1 164 := ⟨by decide +kernel, rfl⟩
theorem d_Q_init_164 : DC m_Q_init 164 (.istore_n 1) 1 165 := ⟨by decide +kernel, rfl⟩
theorem d_Q_init_165 : DC m_Q_init 165 (.iload_n 1) 1 166 := ⟨by decide +kernel, rfl⟩
theorem d_Q_init_166 : DC m_Q_init 166 (.bipush 6) 2 168 := ⟨by decide +kernel, rfl⟩
theorem d_Q_init_168 : DC m_Q_init 168 (.if_icmp .ge 22) 3 171 := ⟨by decide +kernel, rfl⟩
theorem d_Q_init_171 : DC m_Q_init 171 (.aload_n 0) 1 172 := ⟨by decide +kernel, rfl⟩
theorem d_Q_init_172 : DC m_Q_init 172 (.getfield 60) 3 175 := ⟨by decide +kernel, rfl⟩
theorem d_Q_init_175 : DC m_Q_init 175 (.iload_n 1) 1 176 := ⟨by decide +kernel, rfl⟩
theorem d_Q_init_176 : DC m_Q_init 176 (.new 58) 3 179 := ⟨by decide +kernel, rfl⟩
theorem d_Q_init_179 : DC m_Q_init 179 .dup 1 180 := ⟨by decide +kernel, rfl⟩
theorem d_Q_init_180 : DC m_Q_init 180 (.invokespecial 104) 3 183 := ⟨by decide +kernel, rfl⟩
theorem d_Q_init_183 : DC m_Q_init 183 .aastore 1 184 := ⟨by decide +kernel, rfl⟩
theorem d_Q_init_184 : DC m_Q_init 184 (.iinc 1 1) 3 187 := ⟨by decide +kernel, rfl⟩
theorem d_Q_init_187 : DC m_Q_init 187 (.goto (-22)) 3 190 := ⟨by decide +kernel, rfl⟩
theorem d_Q_init_190 : DC m_Q_init 190 .return_ 1 191 := ⟨by decide +kernel, rfl⟩
set_option maxRecDepth 20000 in
def f_Q_init (n : Nat) (x0 : Nat) (M : MM) : Option MM :=
  nm (rho M.1.1) fun a1 =>
  nm (nwC 101 2000 M) fun M2 =>
  (pR 11 0 x0 a1 M2).bind fun M3 =>
  (pI 11 1 x0 0 M3).bind fun M4 =>
  (pI 11 2 x0 (-1) M4).bind fun M5 =>
  nm (rho M5.1.1) fun a6 =>
  nm (nwC 8 0 M5) fun M7 =>
  (f_Syntax_init n a6 M7).bind fun M8 =>
  (pR 11 8 x0 a6 M8).bind fun M9 =>
  nm (rho M9.1.1) fun a10 =>
  nm (nwC 5 0 M9) fun M11 =>
  (f_Meaning_init n a10 M11).bind fun M12 =>
  (pR 11 9 x0 a10 M12).bind fun M13 =>
  nm (rho M13.1.1) fun a14 =>
  nm (nwC 1 0 M13) fun M15 =>
  (f_Builder_init n a14 M15).bind fun M16 =>
  (pR 11 10 x0 a14 M16).bind fun M17 =>
  (gR 11 10 x0 M17).bind fun v18 =>
  (gR 1 9 v18 M17).bind fun v19 =>
  (pR 11 7 x0 v19 M17).bind fun M20 =>
  nm (rho M20.1.1) fun a21 =>
  nm (nwC 3 0 M20) fun M22 =>
  (f_Filler_init n a21 M22).bind fun M23 =>
  (pR 11 12 x0 a21 M23).bind fun M24 =>
  (gR 11 12 x0 M24).bind fun v25 =>
  (gR 3 1 v25 M24).bind fun v26 =>
  (pR 11 3 x0 v26 M24).bind fun M27 =>
  nm (rho M27.1.1) fun a28 =>
  nm (nwC 105 6 M27) fun M29 =>
  (pR 11 4 x0 a28 M29).bind fun M30 =>
  (pI 11 5 x0 0 M30).bind fun M31 =>
  (pI 11 6 x0 0 M31).bind fun M32 =>
  nm (rho M32.1.1) fun a33 =>
  nm (nwC 6 0 M32) fun M34 =>
  (f_Measure_init n a33 M34).bind fun M35 =>
  (pR 11 11 x0 a33 M35).bind fun M36 =>
  nm (rho M36.1.1) fun a37 =>
  nm (nwC 2 0 M36) fun M38 =>
  (f_Cutter_init n a37 M38).bind fun M39 =>
  (pR 11 13 x0 a37 M39).bind fun M40 =>
  nm (rho M40.1.1) fun a41 =>
  nm (nwC 9 0 M40) fun M42 =>
  (f_Table_init n a41 M42).bind fun M43 =>
  (pR 11 14 x0 a41 M43).bind fun M44 =>
  nm (rho M44.1.1) fun a45 =>
  nm (nwC 0 0 M44) fun M46 =>
  (f_Book_init n a45 M46).bind fun M47 =>
  (pR 11 15 x0 a45 M47).bind fun M48 =>
  nm (rho M48.1.1) fun a49 =>
  nm (nwC 7 0 M48) fun M50 =>
  (f_Shape_init n a49 M50).bind fun M51 =>
  (pR 11 16 x0 a49 M51).bind fun M52 =>
  (gR 11 4 x0 M52).bind fun v53 =>
  nm (rho M52.1.1) fun a54 =>
  nm (nwC 4 0 M52) fun M55 =>
  (f_Form_init n a54 M55).bind fun M56 =>
  (sR 105 4 v53 0 a54 M56).bind fun M57 =>
  (gR 11 4 x0 M57).bind fun v58 =>
  nm (rho M57.1.1) fun a59 =>
  nm (nwC 4 0 M57) fun M60 =>
  (f_Form_init n a59 M60).bind fun M61 =>
  (sR 105 4 v58 1 a59 M61).bind fun M62 =>
  (gR 11 4 x0 M62).bind fun v63 =>
  nm (rho M62.1.1) fun a64 =>
  nm (nwC 4 0 M62) fun M65 =>
  (f_Form_init n a64 M65).bind fun M66 =>
  (sR 105 4 v63 2 a64 M66).bind fun M67 =>
  (gR 11 4 x0 M67).bind fun v68 =>
  nm (rho M67.1.1) fun a69 =>
  nm (nwC 4 0 M67) fun M70 =>
  (f_Form_init n a69 M70).bind fun M71 =>
  (sR 105 4 v68 3 a69 M71).bind fun M72 =>
  (gR 11 4 x0 M72).bind fun v73 =>
  nm (rho M72.1.1) fun a74 =>
  nm (nwC 4 0 M72) fun M75 =>
  (f_Form_init n a74 M75).bind fun M76 =>
  (sR 105 4 v73 4 a74 M76).bind fun M77 =>
  (gR 11 4 x0 M77).bind fun v78 =>
  nm (rho M77.1.1) fun a79 =>
  nm (nwC 4 0 M77) fun M80 =>
  (f_Form_init n a79 M80).bind fun M81 =>
  (sR 105 4 v78 5 a79 M81).bind fun M82 =>
  some M82
set_option maxRecDepth 20000 in
theorem t_Q_init (n : Nat) (x0 : Nat) (M : MM) (z : MM) (h : f_Q_init n x0 M = some z) : CT m_Q_init (rm 7 558 7305) [.ref x0] M none z := by
  unfold f_Q_init at h
  refine CT.of (ls := [some (.ref x0), none]) rfl (okp rfl) rfl ?_
  refine e_aload_n d_Q_init_0 rfl ?_
  refine e_objInit d_Q_init_1 ml_Q_1 oi_in oi_code (okp rfl) (okp rfl) (okp rfl) ?_
  refine e_aload_n d_Q_init_4 rfl ?_
  refine e_sipush (v := 2000) d_Q_init_5 (by decide) ?_
  refine e_newaN (kd := 101) (len := 2000) (ty := .byte) (k2 := 1) (n2 := 2000) d_Q_init_8 rfl ac_byte (by decide) (by decide) (by decide) (okp rfl) (okp rfl) (okp rfl) rfl rfl ?_
  obtain ⟨a1, ea1, h⟩ := nm_s h
  obtain ⟨M2, eM2, h⟩ := nm_s h
  rw [← ea1, ← eM2]
  obtain ⟨M3, hM3, h⟩ := bnd h
  refine e_putR d_Q_init_10 fl_Q_9 (Or.inr ⟨rfl, _, rfl, rfl⟩) (fun _ _ _ => rfl) (fun _ => ⟨rfl, rfl⟩) hM3 ?_
  refine e_aload_n d_Q_init_13 rfl ?_
  refine e_iconst (v := 0) d_Q_init_14 (by decide) ?_
  obtain ⟨M4, hM4, h⟩ := bnd h
  refine e_putI d_Q_init_15 fl_Q_13 (Or.inl rfl) (fun _ _ _ => rfl) rfl hM4 ?_
  refine e_aload_n d_Q_init_18 rfl ?_
  refine e_iconst (v := (-1)) d_Q_init_19 (by decide) ?_
  obtain ⟨M5, hM5, h⟩ := bnd h
  refine e_putI d_Q_init_20 fl_Q_17 (Or.inl rfl) (fun _ _ _ => rfl) rfl hM5 ?_
  refine e_aload_n d_Q_init_23 rfl ?_
  refine e_newN (k2 := 2) (n2 := 2005) d_Q_init_24 ck_Syntax cl_Q_20 in_Syntax ini_Syntax (by decide) (okp rfl) (okp rfl) rfl rfl ?_
  obtain ⟨a6, ea6, h⟩ := nm_s h
  obtain ⟨M7, eM7, h⟩ := nm_s h
  rw [← ea6, ← eM7]
  refine e_dup d_Q_init_27 rfl ?_
  obtain ⟨M8, hM8, h⟩ := bnd h
  refine e_cIN (mt1 := m_Syntax_init) (As := []) (st := [.ref a6, .ref x0]) (k2 := 2) (n2 := 2005) d_Q_init_28 mx_Q_22 mn_Syntax_init (t_Syntax_init n a6 M7 M8 hM8) rfl rfl (okp rfl) (okp rfl) (okp rfl) (okp rfl) (okp rfl) rfl rfl ?_
  obtain ⟨M9, hM9, h⟩ := bnd h
  refine e_putR d_Q_init_31 fl_Q_23 (Or.inr ⟨rfl, _, rfl, rfl⟩) (fun _ _ _ => rfl) (fun _ => ⟨rfl, rfl⟩) hM9 ?_
  refine e_aload_n d_Q_init_34 rfl ?_
  refine e_newN (k2 := 3) (n2 := 2012) d_Q_init_35 ck_Meaning cl_Q_27 in_Meaning ini_Meaning (by decide) (okp rfl) (okp rfl) rfl rfl ?_
  obtain ⟨a10, ea10, h⟩ := nm_s h
  obtain ⟨M11, eM11, h⟩ := nm_s h
  rw [← ea10, ← eM11]
  refine e_dup d_Q_init_38 rfl ?_
  obtain ⟨M12, hM12, h⟩ := bnd h
  refine e_cIN (mt1 := m_Meaning_init) (As := []) (st := [.ref a10, .ref x0]) (k2 := 4) (n2 := 2026) d_Q_init_39 mx_Q_29 mn_Meaning_init (t_Meaning_init n a10 M11 M12 hM12) rfl rfl (okp rfl) (okp rfl) (okp rfl) (okp rfl) (okp rfl) rfl rfl ?_
  obtain ⟨M13, hM13, h⟩ := bnd h
  refine e_putR d_Q_init_42 fl_Q_30 (Or.inr ⟨rfl, _, rfl, rfl⟩) (fun _ _ _ => rfl) (fun _ => ⟨rfl, rfl⟩) hM13 ?_
  refine e_aload_n d_Q_init_45 rfl ?_
  refine e_newN (k2 := 5) (n2 := 2037) d_Q_init_46 ck_Builder cl_Q_34 in_Builder ini_Builder (by decide) (okp rfl) (okp rfl) rfl rfl ?_
  obtain ⟨a14, ea14, h⟩ := nm_s h
  obtain ⟨M15, eM15, h⟩ := nm_s h
  rw [← ea14, ← eM15]
  refine e_dup d_Q_init_49 rfl ?_
  obtain ⟨M16, hM16, h⟩ := bnd h
  refine e_cI (mt1 := m_Builder_init) (As := []) (st := [.ref a14, .ref x0]) (k2 := 74) (n2 := 3975) d_Q_init_50 ml_Q_36 mn_Builder_init (t_Builder_init n a14 M15 M16 hM16) rfl rfl (okp rfl) (okp rfl) (okp rfl) (okp rfl) (okp rfl) rfl rfl ?_
  obtain ⟨M17, hM17, h⟩ := bnd h
  refine e_putR d_Q_init_53 fl_Q_37 (Or.inr ⟨rfl, _, rfl, rfl⟩) (fun _ _ _ => rfl) (fun _ => ⟨rfl, rfl⟩) hM17 ?_
  refine e_aload_n d_Q_init_56 rfl ?_
  refine e_aload_n d_Q_init_57 rfl ?_
  obtain ⟨v18, hv18, h⟩ := bnd h
  refine e_getR d_Q_init_58 fl_Q_37 (fun _ _ _ => rfl) hv18 ?_
  obtain ⟨v19, hv19, h⟩ := bnd h
  refine e_getR d_Q_init_61 fl_Q_41 (fun _ _ _ => rfl) hv19 ?_
  obtain ⟨M20, hM20, h⟩ := bnd h
  refine e_putR d_Q_init_64 fl_Q_45 (Or.inr ⟨rfl, _, rfl, rfl⟩) (fun _ _ _ => rfl) (fun _ => ⟨rfl, rfl⟩) hM20 ?_
  refine e_aload_n d_Q_init_67 rfl ?_
  refine e_newN (k2 := 75) (n2 := 3987) d_Q_init_68 ck_Filler cl_Q_46 in_Filler ini_Filler (by decide) (okp rfl) (okp rfl) rfl rfl ?_
  obtain ⟨a21, ea21, h⟩ := nm_s h
  obtain ⟨M22, eM22, h⟩ := nm_s h
  rw [← ea21, ← eM22]
  refine e_dup d_Q_init_71 rfl ?_
  obtain ⟨M23, hM23, h⟩ := bnd h
  refine e_cI (mt1 := m_Filler_init) (As := []) (st := [.ref a21, .ref x0]) (k2 := 280) (n2 := 5104) d_Q_init_72 ml_Q_48 mn_Filler_init (t_Filler_init n a21 M22 M23 hM23) rfl rfl (okp rfl) (okp rfl) (okp rfl) (okp rfl) (okp rfl) rfl rfl ?_
  obtain ⟨M24, hM24, h⟩ := bnd h
  refine e_putR d_Q_init_75 fl_Q_49 (Or.inr ⟨rfl, _, rfl, rfl⟩) (fun _ _ _ => rfl) (fun _ => ⟨rfl, rfl⟩) hM24 ?_
  refine e_aload_n d_Q_init_78 rfl ?_
  refine e_aload_n d_Q_init_79 rfl ?_
  obtain ⟨v25, hv25, h⟩ := bnd h
  refine e_getR d_Q_init_80 fl_Q_49 (fun _ _ _ => rfl) hv25 ?_
  obtain ⟨v26, hv26, h⟩ := bnd h
  refine e_getR d_Q_init_83 fl_Q_53 (fun _ _ _ => rfl) hv26 ?_
  obtain ⟨M27, hM27, h⟩ := bnd h
  refine e_putR d_Q_init_86 fl_Q_57 (Or.inr ⟨rfl, _, rfl, rfl⟩) (fun _ _ _ => rfl) (fun _ => ⟨rfl, rfl⟩) hM27 ?_
  refine e_aload_n d_Q_init_89 rfl ?_
  refine e_bipush (v := 6) d_Q_init_90 (by decide) ?_
  refine e_newqN (kd := 105) (len := 6) (k2 := 281) (n2 := 5110) d_Q_init_92 cl_Q_58 ao_Form (by decide) (by decide) (by decide) (okp rfl) (okp rfl) (okp rfl) rfl rfl ?_
  obtain ⟨a28, ea28, h⟩ := nm_s h
  obtain ⟨M29, eM29, h⟩ := nm_s h
  rw [← ea28, ← eM29]
  obtain ⟨M30, hM30, h⟩ := bnd h
  refine e_putR d_Q_init_95 fl_Q_60 (Or.inr ⟨rfl, _, rfl, rfl⟩) (fun _ _ _ => rfl) (fun _ => ⟨rfl, rfl⟩) hM30 ?_
  refine e_aload_n d_Q_init_98 rfl ?_
  refine e_iconst (v := 0) d_Q_init_99 (by decide) ?_
  obtain ⟨M31, hM31, h⟩ := bnd h
  refine e_putI d_Q_init_100 fl_Q_63 (Or.inl rfl) (fun _ _ _ => rfl) rfl hM31 ?_
  refine e_aload_n d_Q_init_103 rfl ?_
  refine e_iconst (v := 0) d_Q_init_104 (by decide) ?_
  obtain ⟨M32, hM32, h⟩ := bnd h
  refine e_putI d_Q_init_105 fl_Q_66 (Or.inl rfl) (fun _ _ _ => rfl) rfl hM32 ?_
  refine e_aload_n d_Q_init_108 rfl ?_
  refine e_newN (k2 := 282) (n2 := 5113) d_Q_init_109 ck_Measure cl_Q_69 in_Measure ini_Measure (by decide) (okp rfl) (okp rfl) rfl rfl ?_
  obtain ⟨a33, ea33, h⟩ := nm_s h
  obtain ⟨M34, eM34, h⟩ := nm_s h
  rw [← ea33, ← eM34]
  refine e_dup d_Q_init_112 rfl ?_
  obtain ⟨M35, hM35, h⟩ := bnd h
  refine e_cIN (mt1 := m_Measure_init) (As := []) (st := [.ref a33, .ref x0]) (k2 := 285) (n2 := 5378) d_Q_init_113 mx_Q_71 mn_Measure_init (t_Measure_init n a33 M34 M35 hM35) rfl rfl (okp rfl) (okp rfl) (okp rfl) (okp rfl) (okp rfl) rfl rfl ?_
  obtain ⟨M36, hM36, h⟩ := bnd h
  refine e_putR d_Q_init_116 fl_Q_72 (Or.inr ⟨rfl, _, rfl, rfl⟩) (fun _ _ _ => rfl) (fun _ => ⟨rfl, rfl⟩) hM36 ?_
  refine e_aload_n d_Q_init_119 rfl ?_
  refine e_newN (k2 := 286) (n2 := 5388) d_Q_init_120 ck_Cutter cl_Q_76 in_Cutter ini_Cutter (by decide) (okp rfl) (okp rfl) rfl rfl ?_
  obtain ⟨a37, ea37, h⟩ := nm_s h
  obtain ⟨M38, eM38, h⟩ := nm_s h
  rw [← ea37, ← eM38]
  refine e_dup d_Q_init_123 rfl ?_
  obtain ⟨M39, hM39, h⟩ := bnd h
  refine e_cIN (mt1 := m_Cutter_init) (As := []) (st := [.ref a37, .ref x0]) (k2 := 320) (n2 := 5561) d_Q_init_124 mx_Q_78 mn_Cutter_init (t_Cutter_init n a37 M38 M39 hM39) rfl rfl (okp rfl) (okp rfl) (okp rfl) (okp rfl) (okp rfl) rfl rfl ?_
  obtain ⟨M40, hM40, h⟩ := bnd h
  refine e_putR d_Q_init_127 fl_Q_79 (Or.inr ⟨rfl, _, rfl, rfl⟩) (fun _ _ _ => rfl) (fun _ => ⟨rfl, rfl⟩) hM40 ?_
  refine e_aload_n d_Q_init_130 rfl ?_
  refine e_newN (k2 := 321) (n2 := 5566) d_Q_init_131 ck_Table cl_Q_83 in_Table ini_Table (by decide) (okp rfl) (okp rfl) rfl rfl ?_
  obtain ⟨a41, ea41, h⟩ := nm_s h
  obtain ⟨M42, eM42, h⟩ := nm_s h
  rw [← ea41, ← eM42]
  refine e_dup d_Q_init_134 rfl ?_
  obtain ⟨M43, hM43, h⟩ := bnd h
  refine e_cI (mt1 := m_Table_init) (As := []) (st := [.ref a41, .ref x0]) (k2 := 345) (n2 := 5681) d_Q_init_135 ml_Q_85 mn_Table_init (t_Table_init n a41 M42 M43 hM43) rfl rfl (okp rfl) (okp rfl) (okp rfl) (okp rfl) (okp rfl) rfl rfl ?_
  obtain ⟨M44, hM44, h⟩ := bnd h
  refine e_putR d_Q_init_138 fl_Q_86 (Or.inr ⟨rfl, _, rfl, rfl⟩) (fun _ _ _ => rfl) (fun _ => ⟨rfl, rfl⟩) hM44 ?_
  refine e_aload_n d_Q_init_141 rfl ?_
  refine e_newN (k2 := 346) (n2 := 5688) d_Q_init_142 ck_Book cl_Q_90 in_Book ini_Book (by decide) (okp rfl) (okp rfl) rfl rfl ?_
  obtain ⟨a45, ea45, h⟩ := nm_s h
  obtain ⟨M46, eM46, h⟩ := nm_s h
  rw [← ea45, ← eM46]
  refine e_dup d_Q_init_145 rfl ?_
  obtain ⟨M47, hM47, h⟩ := bnd h
  refine e_cIN (mt1 := m_Book_init) (As := []) (st := [.ref a45, .ref x0]) (k2 := 412) (n2 := 6528) d_Q_init_146 mx_Q_92 mn_Book_init (t_Book_init n a45 M46 M47 hM47) rfl rfl (okp rfl) (okp rfl) (okp rfl) (okp rfl) (okp rfl) rfl rfl ?_
  obtain ⟨M48, hM48, h⟩ := bnd h
  refine e_putR d_Q_init_149 fl_Q_93 (Or.inr ⟨rfl, _, rfl, rfl⟩) (fun _ _ _ => rfl) (fun _ => ⟨rfl, rfl⟩) hM48 ?_
  refine e_aload_n d_Q_init_152 rfl ?_
  refine e_newN (k2 := 413) (n2 := 6529) d_Q_init_153 ck_Shape cl_Q_97 in_Shape ini_Shape (by decide) (okp rfl) (okp rfl) rfl rfl ?_
  obtain ⟨a49, ea49, h⟩ := nm_s h
  obtain ⟨M50, eM50, h⟩ := nm_s h
  rw [← ea49, ← eM50]
  refine e_dup d_Q_init_156 rfl ?_
  obtain ⟨M51, hM51, h⟩ := bnd h
  refine e_cIN (mt1 := m_Shape_init) (As := []) (st := [.ref a49, .ref x0]) (k2 := 414) (n2 := 6537) d_Q_init_157 mx_Q_99 mn_Shape_init (t_Shape_init n a49 M50 M51 hM51) rfl rfl (okp rfl) (okp rfl) (okp rfl) (okp rfl) (okp rfl) rfl rfl ?_
  obtain ⟨M52, hM52, h⟩ := bnd h
  refine e_putR d_Q_init_160 fl_Q_100 (Or.inr ⟨rfl, _, rfl, rfl⟩) (fun _ _ _ => rfl) (fun _ => ⟨rfl, rfl⟩) hM52 ?_
  refine e_iconst (v := 0) d_Q_init_163 (by decide) ?_
  refine e_istore_n (l2 := [some (.ref x0), some (.int 0)]) d_Q_init_164 rfl (okl rfl) rfl ?_
  refine e_iload_n d_Q_init_165 rfl ?_
  refine e_bipush (v := 6) d_Q_init_166 (by decide) ?_
  refine e_ic_ge 190 d_Q_init_168 (by decide) (fun c9 => absurd c9 (by decide)) (fun _ => ?_)
  refine e_aload_n d_Q_init_171 rfl ?_
  obtain ⟨v53, hv53, h⟩ := bnd h
  refine e_getR d_Q_init_172 fl_Q_60 (fun _ _ _ => rfl) hv53 ?_
  refine e_iload_n d_Q_init_175 rfl ?_
  refine e_newN (k2 := 415) (n2 := 6544) d_Q_init_176 ck_Form cl_Q_58 in_Form ini_Form (by decide) (okp rfl) (okp rfl) rfl rfl ?_
  obtain ⟨a54, ea54, h⟩ := nm_s h
  obtain ⟨M55, eM55, h⟩ := nm_s h
  rw [← ea54, ← eM55]
  refine e_dup d_Q_init_179 rfl ?_
  obtain ⟨M56, hM56, h⟩ := bnd h
  refine e_cI (mt1 := m_Form_init) (As := []) (st := [.ref a54, .int 0, .ref v53]) (k2 := 438) (n2 := 6665) d_Q_init_180 ml_Q_104 mn_Form_init (t_Form_init n a54 M55 M56 hM56) rfl rfl (okp rfl) (okp rfl) (okp rfl) (okp rfl) (okp rfl) rfl rfl ?_
  obtain ⟨M57, hM57, h⟩ := bnd h
  refine e_aast (kd := 105) (ci := 4) d_Q_init_183 (by decide) hM57 ?_
  refine e_iinc (v := 1) (l2 := [some (.ref x0), some (.int 1)]) d_Q_init_184 rfl (by decide) rfl (okl rfl) rfl ?_
  refine e_goto 165 d_Q_init_187 (by decide) ?_
  refine e_iload_n d_Q_init_165 rfl ?_
  refine e_bipush (v := 6) d_Q_init_166 (by decide) ?_
  refine e_ic_ge 190 d_Q_init_168 (by decide) (fun c9 => absurd c9 (by decide)) (fun _ => ?_)
  refine e_aload_n d_Q_init_171 rfl ?_
  obtain ⟨v58, hv58, h⟩ := bnd h
  refine e_getR d_Q_init_172 fl_Q_60 (fun _ _ _ => rfl) hv58 ?_
  refine e_iload_n d_Q_init_175 rfl ?_
  refine e_newN (k2 := 439) (n2 := 6672) d_Q_init_176 ck_Form cl_Q_58 in_Form ini_Form (by decide) (okp rfl) (okp rfl) rfl rfl ?_
  obtain ⟨a59, ea59, h⟩ := nm_s h
  obtain ⟨M60, eM60, h⟩ := nm_s h
  rw [← ea59, ← eM60]
  refine e_dup d_Q_init_179 rfl ?_
  obtain ⟨M61, hM61, h⟩ := bnd h
  refine e_cI (mt1 := m_Form_init) (As := []) (st := [.ref a59, .int 1, .ref v58]) (k2 := 462) (n2 := 6793) d_Q_init_180 ml_Q_104 mn_Form_init (t_Form_init n a59 M60 M61 hM61) rfl rfl (okp rfl) (okp rfl) (okp rfl) (okp rfl) (okp rfl) rfl rfl ?_
  obtain ⟨M62, hM62, h⟩ := bnd h
  refine e_aast (kd := 105) (ci := 4) d_Q_init_183 (by decide) hM62 ?_
  refine e_iinc (v := 2) (l2 := [some (.ref x0), some (.int 2)]) d_Q_init_184 rfl (by decide) rfl (okl rfl) rfl ?_
  refine e_goto 165 d_Q_init_187 (by decide) ?_
  refine e_iload_n d_Q_init_165 rfl ?_
  refine e_bipush (v := 6) d_Q_init_166 (by decide) ?_
  refine e_ic_ge 190 d_Q_init_168 (by decide) (fun c9 => absurd c9 (by decide)) (fun _ => ?_)
  refine e_aload_n d_Q_init_171 rfl ?_
  obtain ⟨v63, hv63, h⟩ := bnd h
  refine e_getR d_Q_init_172 fl_Q_60 (fun _ _ _ => rfl) hv63 ?_
  refine e_iload_n d_Q_init_175 rfl ?_
  refine e_newN (k2 := 463) (n2 := 6800) d_Q_init_176 ck_Form cl_Q_58 in_Form ini_Form (by decide) (okp rfl) (okp rfl) rfl rfl ?_
  obtain ⟨a64, ea64, h⟩ := nm_s h
  obtain ⟨M65, eM65, h⟩ := nm_s h
  rw [← ea64, ← eM65]
  refine e_dup d_Q_init_179 rfl ?_
  obtain ⟨M66, hM66, h⟩ := bnd h
  refine e_cI (mt1 := m_Form_init) (As := []) (st := [.ref a64, .int 2, .ref v63]) (k2 := 486) (n2 := 6921) d_Q_init_180 ml_Q_104 mn_Form_init (t_Form_init n a64 M65 M66 hM66) rfl rfl (okp rfl) (okp rfl) (okp rfl) (okp rfl) (okp rfl) rfl rfl ?_
  obtain ⟨M67, hM67, h⟩ := bnd h
  refine e_aast (kd := 105) (ci := 4) d_Q_init_183 (by decide) hM67 ?_
  refine e_iinc (v := 3) (l2 := [some (.ref x0), some (.int 3)]) d_Q_init_184 rfl (by decide) rfl (okl rfl) rfl ?_
  refine e_goto 165 d_Q_init_187 (by decide) ?_
  refine e_iload_n d_Q_init_165 rfl ?_
  refine e_bipush (v := 6) d_Q_init_166 (by decide) ?_
  refine e_ic_ge 190 d_Q_init_168 (by decide) (fun c9 => absurd c9 (by decide)) (fun _ => ?_)
  refine e_aload_n d_Q_init_171 rfl ?_
  obtain ⟨v68, hv68, h⟩ := bnd h
  refine e_getR d_Q_init_172 fl_Q_60 (fun _ _ _ => rfl) hv68 ?_
  refine e_iload_n d_Q_init_175 rfl ?_
  refine e_newN (k2 := 487) (n2 := 6928) d_Q_init_176 ck_Form cl_Q_58 in_Form ini_Form (by decide) (okp rfl) (okp rfl) rfl rfl ?_
  obtain ⟨a69, ea69, h⟩ := nm_s h
  obtain ⟨M70, eM70, h⟩ := nm_s h
  rw [← ea69, ← eM70]
  refine e_dup d_Q_init_179 rfl ?_
  obtain ⟨M71, hM71, h⟩ := bnd h
  refine e_cI (mt1 := m_Form_init) (As := []) (st := [.ref a69, .int 3, .ref v68]) (k2 := 510) (n2 := 7049) d_Q_init_180 ml_Q_104 mn_Form_init (t_Form_init n a69 M70 M71 hM71) rfl rfl (okp rfl) (okp rfl) (okp rfl) (okp rfl) (okp rfl) rfl rfl ?_
  obtain ⟨M72, hM72, h⟩ := bnd h
  refine e_aast (kd := 105) (ci := 4) d_Q_init_183 (by decide) hM72 ?_
  refine e_iinc (v := 4) (l2 := [some (.ref x0), some (.int 4)]) d_Q_init_184 rfl (by decide) rfl (okl rfl) rfl ?_
  refine e_goto 165 d_Q_init_187 (by decide) ?_
  refine e_iload_n d_Q_init_165 rfl ?_
  refine e_bipush (v := 6) d_Q_init_166 (by decide) ?_
  refine e_ic_ge 190 d_Q_init_168 (by decide) (fun c9 => absurd c9 (by decide)) (fun _ => ?_)
  refine e_aload_n d_Q_init_171 rfl ?_
  obtain ⟨v73, hv73, h⟩ := bnd h
  refine e_getR d_Q_init_172 fl_Q_60 (fun _ _ _ => rfl) hv73 ?_
  refine e_iload_n d_Q_init_175 rfl ?_
  refine e_newN (k2 := 511) (n2 := 7056) d_Q_init_176 ck_Form cl_Q_58 in_Form ini_Form (by decide) (okp rfl) (okp rfl) rfl rfl ?_
  obtain ⟨a74, ea74, h⟩ := nm_s h
  obtain ⟨M75, eM75, h⟩ := nm_s h
  rw [← ea74, ← eM75]
  refine e_dup d_Q_init_179 rfl ?_
  obtain ⟨M76, hM76, h⟩ := bnd h
  refine e_cI (mt1 := m_Form_init) (As := []) (st := [.ref a74, .int 4, .ref v73]) (k2 := 534) (n2 := 7177) d_Q_init_180 ml_Q_104 mn_Form_init (t_Form_init n a74 M75 M76 hM76) rfl rfl (okp rfl) (okp rfl) (okp rfl) (okp rfl) (okp rfl) rfl rfl ?_
  obtain ⟨M77, hM77, h⟩ := bnd h
  refine e_aast (kd := 105) (ci := 4) d_Q_init_183 (by decide) hM77 ?_
  refine e_iinc (v := 5) (l2 := [some (.ref x0), some (.int 5)]) d_Q_init_184 rfl (by decide) rfl (okl rfl) rfl ?_
  refine e_goto 165 d_Q_init_187 (by decide) ?_
  refine e_iload_n d_Q_init_165 rfl ?_
  refine e_bipush (v := 6) d_Q_init_166 (by decide) ?_
  refine e_ic_ge 190 d_Q_init_168 (by decide) (fun c9 => absurd c9 (by decide)) (fun _ => ?_)
  refine e_aload_n d_Q_init_171 rfl ?_
  obtain ⟨v78, hv78, h⟩ := bnd h
  refine e_getR d_Q_init_172 fl_Q_60 (fun _ _ _ => rfl) hv78 ?_
  refine e_iload_n d_Q_init_175 rfl ?_
  refine e_newN (k2 := 535) (n2 := 7184) d_Q_init_176 ck_Form cl_Q_58 in_Form ini_Form (by decide) (okp rfl) (okp rfl) rfl rfl ?_
  obtain ⟨a79, ea79, h⟩ := nm_s h
  obtain ⟨M80, eM80, h⟩ := nm_s h
  rw [← ea79, ← eM80]
  refine e_dup d_Q_init_179 rfl ?_
  obtain ⟨M81, hM81, h⟩ := bnd h
  refine e_cI (mt1 := m_Form_init) (As := []) (st := [.ref a79, .int 5, .ref v78]) (k2 := 558) (n2 := 7305) d_Q_init_180 ml_Q_104 mn_Form_init (t_Form_init n a79 M80 M81 hM81) rfl rfl (okp rfl) (okp rfl) (okp rfl) (okp rfl) (okp rfl) rfl rfl ?_
  obtain ⟨M82, hM82, h⟩ := bnd h
  refine e_aast (kd := 105) (ci := 4) d_Q_init_183 (by decide) hM82 ?_
  refine e_iinc (v := 6) (l2 := [some (.ref x0), some (.int 6)]) d_Q_init_184 rfl (by decide) rfl (okl rfl) rfl ?_
  refine e_goto 165 d_Q_init_187 (by decide) ?_
  refine e_iload_n d_Q_init_165 rfl ?_
  refine e_bipush (v := 6) d_Q_init_166 (by decide) ?_
  refine e_ic_ge 190 d_Q_init_168 (by decide) (fun _ => ?_) (fun c9 => absurd c9 (by decide))
  cases h
  exact e_vret d_Q_init_190 rfl (okp rfl) (okp rfl)
theorem d_Mo_init_0 : DC m_Mo_init 0 (.aload_n 0) 1 1 := ⟨by decide +kernel, rfl⟩
theorem d_Mo_init_1 : DC m_Mo_init 1 (.invokespecial 7) 3 4 := ⟨by decide +kernel, rfl⟩
theorem d_Mo_init_4 : DC m_Mo_init 4 (.aload_n 0) 1 5 := ⟨by decide +kernel, rfl⟩
theorem d_Mo_init_5 : DC m_Mo_init 5 (.sipush 2000) 3 8 := ⟨by decide +kernel, rfl⟩
theorem d_Mo_init_8 : DC m_Mo_init 8 (.newarray .byte) 2 10 := ⟨by decide +kernel, rfl⟩
theorem d_Mo_init_10 : DC m_Mo_init 10 (.putfield 13) 3 13 := ⟨by decide +kernel, rfl⟩
theorem d_Mo_init_13 : DC m_Mo_init 13 (.aload_n 0) 1 14 := ⟨by decide +kernel, rfl⟩
theorem d_Mo_init_14 : DC m_Mo_init 14 (.sipush 2000) 3 17 := ⟨by decide +kernel, rfl⟩
theorem d_Mo_init_17 : DC m_Mo_init 17 (.newarray .byte) 2 19 := ⟨by decide +kernel, rfl⟩
theorem d_Mo_init_19 : DC m_Mo_init 19 (.putfield 17) 3 22 := ⟨by decide +kernel, rfl⟩
theorem d_Mo_init_22 : DC m_Mo_init 22 (.aload_n 0) 1 23 := ⟨by decide +kernel, rfl⟩
theorem d_Mo_init_23 : DC m_Mo_init 23 (.sipush 403) 3 26 := ⟨by decide +kernel, rfl⟩
theorem d_Mo_init_26 : DC m_Mo_init 26 (.newarray .int) 2 28 := ⟨by decide +kernel, rfl⟩
theorem d_Mo_init_28 : DC m_Mo_init 28 (.putfield 20) 3 31 := ⟨by decide +kernel, rfl⟩
theorem d_Mo_init_31 : DC m_Mo_init 31 (.aload_n 0) 1 32 := ⟨by decide +kernel, rfl⟩
theorem d_Mo_init_32 : DC m_Mo_init 32 (.sipush 403) 3 35 := ⟨by decide +kernel, rfl⟩
theorem d_Mo_init_35 : DC m_Mo_init 35 (.newarray .int) 2 37 := ⟨by decide +kernel, rfl⟩
theorem d_Mo_init_37 : DC m_Mo_init 37 (.putfield 24) 3 40 := ⟨by decide +kernel, rfl⟩
theorem d_Mo_init_40 : DC m_Mo_init 40 (.aload_n 0) 1 41 := ⟨by decide +kernel, rfl⟩
theorem d_Mo_init_41 : DC m_Mo_init 41 (.sipush 403) 3 44 := ⟨by decide +kernel, rfl⟩
theorem d_Mo_init_44 : DC m_Mo_init 44 (.newarray .int) 2 46 := ⟨by decide +kernel, rfl⟩
theorem d_Mo_init_46 : DC m_Mo_init 46 (.putfield 27) 3 49 := ⟨by decide +kernel, rfl⟩
theorem d_Mo_init_49 : DC m_Mo_init 49 (.aload_n 0) 1 50 := ⟨by decide +kernel, rfl⟩
theorem d_Mo_init_50 : DC m_Mo_init 50 (.sipush 403) 3 53 := ⟨by decide +kernel, rfl⟩
theorem d_Mo_init_53 : DC m_Mo_init 53 (.newarray .long) 2 55 := ⟨by decide +kernel, rfl⟩
theorem d_Mo_init_55 : DC m_Mo_init 55 (.putfield 30) 3 58 := ⟨by decide +kernel, rfl⟩
theorem d_Mo_init_58 : DC m_Mo_init 58 (.aload_n 0) 1 59 := ⟨by decide +kernel, rfl⟩
theorem d_Mo_init_59 : DC m_Mo_init 59 (.bipush 10) 2 61 := ⟨by decide +kernel, rfl⟩
theorem d_Mo_init_61 : DC m_Mo_init 61 (.newarray .long) 2 63 := ⟨by decide +kernel, rfl⟩
theorem d_Mo_init_63 : DC m_Mo_init 63 (.putfield 34) 3 66 := ⟨by decide +kernel, rfl⟩
theorem d_Mo_init_66 : DC m_Mo_init 66 (.aload_n 0) 1 67 := ⟨by decide +kernel, rfl⟩
theorem d_Mo_init_67 : DC m_Mo_init 67 (.iconst (-1)) 1 68 := ⟨by decide +kernel, rfl⟩
theorem d_Mo_init_68 : DC m_Mo_init 68 (.putfield 37) 3 71 := ⟨by decide +kernel, rfl⟩
theorem d_Mo_init_71 : DC m_Mo_init 71 (.aload_n 0) 1 72 := ⟨by decide +kernel, rfl⟩
theorem d_Mo_init_72 : DC m_Mo_init 72 (.sipush 14336) 3 75 := ⟨by decide +kernel, rfl⟩
theorem d_Mo_init_75 : DC m_Mo_init 75 (.newarray .boolean) 2 77 := ⟨by decide +kernel, rfl⟩
theorem d_Mo_init_77 : DC m_Mo_init 77 (.putfield 40) 3 80 := ⟨by decide +kernel, rfl⟩
theorem d_Mo_init_80 : DC m_Mo_init 80 (.aload_n 0) 1 81 := ⟨by decide +kernel, rfl⟩
theorem d_Mo_init_81 : DC m_Mo_init 81 (.iconst 2) 1 82 := ⟨by decide +kernel, rfl⟩
theorem d_Mo_init_82 : DC m_Mo_init 82 (.newarray .int) 2 84 := ⟨by decide +kernel, rfl⟩
theorem d_Mo_init_84 : DC m_Mo_init 84 (.putfield 44) 3 87 := ⟨by decide +kernel, rfl⟩
theorem d_Mo_init_87 : DC m_Mo_init 87 (.aload_n 0) 1 88 := ⟨by decide +kernel, rfl⟩
theorem d_Mo_init_88 : DC m_Mo_init 88 (.iconst 2) 1 89 := ⟨by decide +kernel, rfl⟩
theorem d_Mo_init_89 : DC m_Mo_init 89 (.newarray .int) 2 91 := ⟨by decide +kernel, rfl⟩
theorem d_Mo_init_91 : DC m_Mo_init 91 (.putfield 47) 3 94 := ⟨by decide +kernel, rfl⟩
theorem d_Mo_init_94 : DC m_Mo_init 94 (.aload_n 0) 1 95 := ⟨by decide +kernel, rfl⟩
theorem d_Mo_init_95 : DC m_Mo_init 95 (.bipush 14) 2 97 := ⟨by decide +kernel, rfl⟩
theorem d_Mo_init_97 : DC m_Mo_init 97 (.newarray .long) 2 99 := ⟨by decide +kernel, rfl⟩
theorem d_Mo_init_99 : DC m_Mo_init 99 (.putfield 50) 3 102 := ⟨by decide +kernel, rfl⟩
theorem d_Mo_init_102 : DC m_Mo_init 102 (.aload_n 0) 1 103 := ⟨by decide +kernel, rfl⟩
theorem d_Mo_init_103 : DC m_Mo_init 103 (.bipush 14) 2 105 := ⟨by decide +kernel, rfl⟩
theorem d_Mo_init_105 : DC m_Mo_init 105 (.newarray .int) 2 107 := ⟨by decide +kernel, rfl⟩
theorem d_Mo_init_107 : DC m_Mo_init 107 (.putfield 53) 3 110 := ⟨by decide +kernel, rfl⟩
theorem d_Mo_init_110 : DC m_Mo_init 110 (.aload_n 0) 1 111 := ⟨by decide +kernel, rfl⟩
theorem d_Mo_init_111 : DC m_Mo_init 111 (.bipush 14) 2 113 := ⟨by decide +kernel, rfl⟩
theorem d_Mo_init_113 : DC m_Mo_init 113 (.newarray .boolean) 2 115 := ⟨by decide +kernel, rfl⟩
theorem d_Mo_init_115 : DC m_Mo_init 115 (.putfield 56) 3 118 := ⟨by decide +kernel, rfl⟩
theorem d_Mo_init_118 : DC m_Mo_init 118 (.aload_n 0) 1 119 := ⟨by decide +kernel, rfl⟩
theorem d_Mo_init_119 : DC m_Mo_init 119 (.bipush 14) 2 121 := ⟨by decide +kernel, rfl⟩
theorem d_Mo_init_121 : DC m_Mo_init 121 (.newarray .int) 2 123 := ⟨by decide +kernel, rfl⟩
theorem d_Mo_init_123 : DC m_Mo_init 123 (.putfield 59) 3 126 := ⟨by decide +kernel, rfl⟩
theorem d_Mo_init_126 : DC m_Mo_init 126 (.aload_n 0) 1 127 := ⟨by decide +kernel, rfl⟩
theorem d_Mo_init_127 : DC m_Mo_init 127 (.bipush 15) 2 129 := ⟨by decide +kernel, rfl⟩
theorem d_Mo_init_129 : DC m_Mo_init 129 (.newarray .int) 2 131 := ⟨by decide +kernel, rfl⟩
theorem d_Mo_init_131 : DC m_Mo_init 131 (.putfield 62) 3 134 := ⟨by decide +kernel, rfl⟩
theorem d_Mo_init_134 : DC m_Mo_init 134 (.aload_n 0) 1 135 := ⟨by decide +kernel, rfl⟩
theorem d_Mo_init_135 : DC m_Mo_init 135 (.sipush 500) 3 138 := ⟨by decide +kernel, rfl⟩
theorem d_Mo_init_138 : DC m_Mo_init 138 (.newarray .int) 2 140 := ⟨by decide +kernel, rfl⟩
theorem d_Mo_init_140 : DC m_Mo_init 140 (.putfield 65) 3 143 := ⟨by decide +kernel, rfl⟩
theorem d_Mo_init_143 : DC m_Mo_init 143 (.aload_n 0) 1 144 := ⟨by decide +kernel, rfl⟩
theorem d_Mo_init_144 : DC m_Mo_init 144 (.sipush 500) 3 147 := ⟨by decide +kernel, rfl⟩
theorem d_Mo_init_147 : DC m_Mo_init 147 (.newarray .int) 2 149 := ⟨by decide +kernel, rfl⟩
theorem d_Mo_init_149 : DC m_Mo_init 149 (.putfield 68) 3 152 := ⟨by decide +kernel, rfl⟩
theorem d_Mo_init_152 : DC m_Mo_init 152 (.aload_n 0) 1 153 := ⟨by decide +kernel, rfl⟩
theorem d_Mo_init_153 : DC m_Mo_init 153 (.sipush 500) 3 156 := ⟨by decide +kernel, rfl⟩
theorem d_Mo_init_156 : DC m_Mo_init 156 (.newarray .int) 2 158 := ⟨by decide +kernel, rfl⟩
theorem d_Mo_init_158 : DC m_Mo_init 158 (.putfield 71) 3 161 := ⟨by decide +kernel, rfl⟩
theorem d_Mo_init_161 : DC m_Mo_init 161 (.aload_n 0) 1 162 := ⟨by decide +kernel, rfl⟩
theorem d_Mo_init_162 : DC m_Mo_init 162 (.sipush 500) 3 165 := ⟨by decide +kernel, rfl⟩
theorem d_Mo_init_165 : DC m_Mo_init 165 (.newarray .int) 2 167 := ⟨by decide +kernel, rfl⟩
theorem d_Mo_init_167 : DC m_Mo_init 167 (.putfield 74) 3 170 := ⟨by decide +kernel, rfl⟩
theorem d_Mo_init_170 : DC m_Mo_init 170 (.aload_n 0) 1 171 := ⟨by decide +kernel, rfl⟩
theorem d_Mo_init_171 : DC m_Mo_init 171 (.sipush 500) 3 174 := ⟨by decide +kernel, rfl⟩
theorem d_Mo_init_174 : DC m_Mo_init 174 (.newarray .int) 2 176 := ⟨by decide +kernel, rfl⟩
theorem d_Mo_init_176 : DC m_Mo_init 176 (.putfield 77) 3 179 := ⟨by decide +kernel, rfl⟩
theorem d_Mo_init_179 : DC m_Mo_init 179 (.aload_n 0) 1 180 := ⟨by decide +kernel, rfl⟩
theorem d_Mo_init_180 : DC m_Mo_init 180 (.sipush 500) 3 183 := ⟨by decide +kernel, rfl⟩
theorem d_Mo_init_183 : DC m_Mo_init 183 (.newarray .int) 2 185 := ⟨by decide +kernel, rfl⟩
theorem d_Mo_init_185 : DC m_Mo_init 185 (.putfield 80) 3 188 := ⟨by decide +kernel, rfl⟩
theorem d_Mo_init_188 : DC m_Mo_init 188 (.aload_n 0) 1 189 := ⟨by decide +kernel, rfl⟩
theorem d_Mo_init_189 : DC m_Mo_init 189 (.sipush 420) 3 192 := ⟨by decide +kernel, rfl⟩
theorem d_Mo_init_192 : DC m_Mo_init 192 (.newarray .int) 2 194 := ⟨by decide +kernel, rfl⟩
theorem d_Mo_init_194 : DC m_Mo_init 194 (.putfield 83) 3 197 := ⟨by decide +kernel, rfl⟩
theorem d_Mo_init_197 : DC m_Mo_init 197 (.aload_n 0) 1 198 := ⟨by decide +kernel, rfl⟩
theorem d_Mo_init_198 : DC m_Mo_init 198 (.sipush 420) 3 201 := ⟨by decide +kernel, rfl⟩
theorem d_Mo_init_201 : DC m_Mo_init 201 (.newarray .int) 2 203 := ⟨by decide +kernel, rfl⟩
theorem d_Mo_init_203 : DC m_Mo_init 203 (.putfield 86) 3 206 := ⟨by decide +kernel, rfl⟩
theorem d_Mo_init_206 : DC m_Mo_init 206 (.aload_n 0) 1 207 := ⟨by decide +kernel, rfl⟩
theorem d_Mo_init_207 : DC m_Mo_init 207 (.sipush 420) 3 210 := ⟨by decide +kernel, rfl⟩
theorem d_Mo_init_210 : DC m_Mo_init 210 (.newarray .int) 2 212 := ⟨by decide +kernel, rfl⟩
theorem d_Mo_init_212 : DC m_Mo_init 212 (.putfield 89) 3 215 := ⟨by decide +kernel, rfl⟩
theorem d_Mo_init_215 : DC m_Mo_init 215 (.aload_n 0) 1 216 := ⟨by decide +kernel, rfl⟩
theorem d_Mo_init_216 : DC m_Mo_init 216 (.sipush 420) 3 219 := ⟨by decide +kernel, rfl⟩
theorem d_Mo_init_219 : DC m_Mo_init 219 (.newarray .int) 2 221 := ⟨by decide +kernel, rfl⟩
theorem d_Mo_init_221 : DC m_Mo_init 221 (.putfield 92) 3 224 := ⟨by decide +kernel, rfl⟩
theorem d_Mo_init_224 : DC m_Mo_init 224 (.aload_n 0) 1 225 := ⟨by decide +kernel, rfl⟩
theorem d_Mo_init_225 : DC m_Mo_init 225 (.sipush 256) 3 228 := ⟨by decide +kernel, rfl⟩
theorem d_Mo_init_228 : DC m_Mo_init 228 (.newarray .int) 2 230 := ⟨by decide +kernel, rfl⟩
theorem d_Mo_init_230 : DC m_Mo_init 230 (.putfield 95) 3 233 := ⟨by decide +kernel, rfl⟩
theorem d_Mo_init_233 : DC m_Mo_init 233 (.aload_n 0) 1 234 := ⟨by decide +kernel, rfl⟩
theorem d_Mo_init_234 : DC m_Mo_init 234 (.sipush 256) 3 237 := ⟨by decide +kernel, rfl⟩
theorem d_Mo_init_237 : DC m_Mo_init 237 (.newarray .boolean) 2 239 := ⟨by decide +kernel, rfl⟩
theorem d_Mo_init_239 : DC m_Mo_init 239 (.putfield 98) 3 242 := ⟨by decide +kernel, rfl⟩
theorem d_Mo_init_242 : DC m_Mo_init 242 (.aload_n 0) 1 243 := ⟨by decide +kernel, rfl⟩
theorem d_Mo_init_243 : DC m_Mo_init 243 (.bipush 8) 2 245 := ⟨by decide +kernel, rfl⟩
theorem d_Mo_init_245 : DC m_Mo_init 245 (.newarray .boolean) 2 247 := ⟨by decide +kernel, rfl⟩
theorem d_Mo_init_247 : DC m_Mo_init 247 (.putfield 101) 3 250 := ⟨by decide +kernel, rfl⟩
theorem d_Mo_init_250 : DC m_Mo_init 250 (.aload_n 0) 1 251 := ⟨by decide +kernel, rfl⟩
theorem d_Mo_init_251 : DC m_Mo_init 251 (.bipush 64) 2 253 := ⟨by decide +kernel, rfl⟩
theorem d_Mo_init_253 : DC m_Mo_init 253 (.newarray .int) 2 255 := ⟨by decide +kernel, rfl⟩
theorem d_Mo_init_255 : DC m_Mo_init 255 (.putfield 104) 3 258 := ⟨by decide +kernel, rfl⟩
theorem d_Mo_init_258 : DC m_Mo_init 258 (.aload_n 0) 1 259 := ⟨by decide +kernel, rfl⟩
theorem d_Mo_init_259 : DC m_Mo_init 259 (.sipush 16384) 3 262 := ⟨by decide +kernel, rfl⟩
theorem d_Mo_init_262 : DC m_Mo_init 262 (.newarray .int) 2 264 := ⟨by decide +kernel, rfl⟩
theorem d_Mo_init_264 : DC m_Mo_init 264 (.putfield 107) 3 267 := ⟨by decide +kernel, rfl⟩
theorem d_Mo_init_267 : DC m_Mo_init 267 (.aload_n 0) 1 268 := ⟨by decide +kernel, rfl⟩
theorem d_Mo_init_268 : DC m_Mo_init 268 (.bipush 64) 2 270 := ⟨by decide +kernel, rfl⟩
theorem d_Mo_init_270 : DC m_Mo_init 270 (.newarray .boolean) 2 272 := ⟨by decide +kernel, rfl⟩
theorem d_Mo_init_272 : DC m_Mo_init 272 (.putfield 110) 3 275 := ⟨by decide +kernel, rfl⟩
theorem d_Mo_init_275 : DC m_Mo_init 275 (.aload_n 0) 1 276 := ⟨by decide +kernel, rfl⟩
theorem d_Mo_init_276 : DC m_Mo_init 276 (.sipush 256) 3 279 := ⟨by decide +kernel, rfl⟩
theorem d_Mo_init_279 : DC m_Mo_init 279 (.newarray .boolean) 2 281 := ⟨by decide +kernel, rfl⟩
theorem d_Mo_init_281 : DC m_Mo_init 281 (.putfield 113) 3 284 := ⟨by decide +kernel, rfl⟩
theorem d_Mo_init_284 : DC m_Mo_init 284 (.aload_n 0) 1 285 := ⟨by decide +kernel, rfl⟩
theorem d_Mo_init_285 : DC m_Mo_init 285 (.bipush 9) 2 287 := ⟨by decide +kernel, rfl⟩
theorem d_Mo_init_287 : DC m_Mo_init 287 (.newarray .int) 2 289 := ⟨by decide +kernel, rfl⟩
theorem d_Mo_init_289 : DC m_Mo_init 289 (.putfield 116) 3 292 := ⟨by decide +kernel, rfl⟩
theorem d_Mo_init_292 : DC m_Mo_init 292 (.aload_n 0) 1 293 := ⟨by decide +kernel, rfl⟩
theorem d_Mo_init_293 : DC m_Mo_init 293 (.bipush 9) 2 295 := ⟨by decide +kernel, rfl⟩
theorem d_Mo_init_295 : DC m_Mo_init 295 (.newarray .int) 2 297 := ⟨by decide +kernel, rfl⟩
theorem d_Mo_init_297 : DC m_Mo_init 297 (.putfield 119) 3 300 := ⟨by decide +kernel, rfl⟩
theorem d_Mo_init_300 : DC m_Mo_init 300 (.aload_n 0) 1 301 := ⟨by decide +kernel, rfl⟩
theorem d_Mo_init_301 : DC m_Mo_init 301 (.bipush 9) 2 303 := ⟨by decide +kernel, rfl⟩
theorem d_Mo_init_303 : DC m_Mo_init 303 (.newarray .int) 2 305 := ⟨by decide +kernel, rfl⟩
theorem d_Mo_init_305 : DC m_Mo_init 305 (.putfield 122) 3 308 := ⟨by decide +kernel, rfl⟩
theorem d_Mo_init_308 : DC m_Mo_init 308 (.aload_n 0) 1 309 := ⟨by decide +kernel, rfl⟩
theorem d_Mo_init_309 : DC m_Mo_init 309 (.bipush 9) 2 311 := ⟨by decide +kernel, rfl⟩
theorem d_Mo_init_311 : DC m_Mo_init 311 (.newarray .int) 2 313 := ⟨by decide +kernel, rfl⟩
theorem d_Mo_init_313 : DC m_Mo_init 313 (.putfield 125) 3 316 := ⟨by decide +kernel, rfl⟩
theorem d_Mo_init_316 : DC m_Mo_init 316 (.aload_n 0) 1 317 := ⟨by decide +kernel, rfl⟩
theorem d_Mo_init_317 : DC m_Mo_init 317 (.bipush 8) 2 319 := ⟨by decide +kernel, rfl⟩
theorem d_Mo_init_319 : DC m_Mo_init 319 (.newarray .int) 2 321 := ⟨by decide +kernel, rfl⟩
theorem d_Mo_init_321 : DC m_Mo_init 321 (.putfield 128) 3 324 := ⟨by decide +kernel, rfl⟩
theorem d_Mo_init_324 : DC m_Mo_init 324 (.aload_n 0) 1 325 := ⟨by decide +kernel, rfl⟩
theorem d_Mo_init_325 : DC m_Mo_init 325 (.bipush 8) 2 327 := ⟨by decide +kernel, rfl⟩
theorem d_Mo_init_327 : DC m_Mo_init 327 (.newarray .int) 2 329 := ⟨by decide +kernel, rfl⟩
theorem d_Mo_init_329 : DC m_Mo_init 329 (.putfield 131) 3 332 := ⟨by decide +kernel, rfl⟩
theorem d_Mo_init_332 : DC m_Mo_init 332 (.aload_n 0) 1 333 := ⟨by decide +kernel, rfl⟩
theorem d_Mo_init_333 : DC m_Mo_init 333 (.bipush 8) 2 335 := ⟨by decide +kernel, rfl⟩
theorem d_Mo_init_335 : DC m_Mo_init 335 (.newarray .int) 2 337 := ⟨by decide +kernel, rfl⟩
theorem d_Mo_init_337 : DC m_Mo_init 337 (.putfield 134) 3 340 := ⟨by decide +kernel, rfl⟩
theorem d_Mo_init_340 : DC m_Mo_init 340 (.aload_n 0) 1 341 := ⟨by decide +kernel, rfl⟩
theorem d_Mo_init_341 : DC m_Mo_init 341 (.bipush 8) 2 343 := ⟨by decide +kernel, rfl⟩
theorem d_Mo_init_343 : DC m_Mo_init 343 (.newarray .int) 2 345 := ⟨by decide +kernel, rfl⟩
theorem d_Mo_init_345 : DC m_Mo_init 345 (.putfield 137) 3 348 := ⟨by decide +kernel, rfl⟩
theorem d_Mo_init_348 : DC m_Mo_init 348 (.aload_n 0) 1 349 := ⟨by decide +kernel, rfl⟩
theorem d_Mo_init_349 : DC m_Mo_init 349 (.bipush 8) 2 351 := ⟨by decide +kernel, rfl⟩
theorem d_Mo_init_351 : DC m_Mo_init 351 (.newarray .int) 2 353 := ⟨by decide +kernel, rfl⟩
theorem d_Mo_init_353 : DC m_Mo_init 353 (.putfield 140) 3 356 := ⟨by decide +kernel, rfl⟩
theorem d_Mo_init_356 : DC m_Mo_init 356 (.aload_n 0) 1 357 := ⟨by decide +kernel, rfl⟩
theorem d_Mo_init_357 : DC m_Mo_init 357 (.bipush 8) 2 359 := ⟨by decide +kernel, rfl⟩
theorem d_Mo_init_359 : DC m_Mo_init 359 (.newarray .int) 2 361 := ⟨by decide +kernel, rfl⟩
theorem d_Mo_init_361 : DC m_Mo_init 361 (.putfield 143) 3 364 := ⟨by decide +kernel, rfl⟩
theorem d_Mo_init_364 : DC m_Mo_init 364 (.aload_n 0) 1 365 := ⟨by decide +kernel, rfl⟩
theorem d_Mo_init_365 : DC m_Mo_init 365 (.bipush 8) 2 367 := ⟨by decide +kernel, rfl⟩
theorem d_Mo_init_367 : DC m_Mo_init 367 (.newarray .int) 2 369 := ⟨by decide +kernel, rfl⟩
theorem d_Mo_init_369 : DC m_Mo_init 369 (.putfield 146) 3 372 := ⟨by decide +kernel, rfl⟩
theorem d_Mo_init_372 : DC m_Mo_init 372 (.aload_n 0) 1 373 := ⟨by decide +kernel, rfl⟩
theorem d_Mo_init_373 : DC m_Mo_init 373 (.sipush 2048) 3 376 := ⟨by decide +kernel, rfl⟩
theorem d_Mo_init_376 : DC m_Mo_init 376 (.newarray .boolean) 2 378 := ⟨by decide +kernel, rfl⟩
theorem d_Mo_init_378 : DC m_Mo_init 378 (.putfield 149) 3 381 := ⟨by decide +kernel, rfl⟩
theorem d_Mo_init_381 : DC m_Mo_init 381 (.aload_n 0) 1 382 := ⟨by decide +kernel, rfl⟩
theorem d_Mo_init_382 : DC m_Mo_init 382 (.bipush 60) 2 384 := ⟨by decide +kernel, rfl⟩
theorem d_Mo_init_384 : DC m_Mo_init 384 (.newarray .int) 2 386 := ⟨by decide +kernel, rfl⟩
theorem d_Mo_init_386 : DC m_Mo_init 386 (.putfield 152) 3 389 := ⟨by decide +kernel, rfl⟩
theorem d_Mo_init_389 : DC m_Mo_init 389 (.aload_n 0) 1 390 := ⟨by decide +kernel, rfl⟩
theorem d_Mo_init_390 : DC m_Mo_init 390 (.bipush 60) 2 392 := ⟨by decide +kernel, rfl⟩
theorem d_Mo_init_392 : DC m_Mo_init 392 (.newarray .int) 2 394 := ⟨by decide +kernel, rfl⟩
theorem d_Mo_init_394 : DC m_Mo_init 394 (.putfield 155) 3 397 := ⟨by decide +kernel, rfl⟩
theorem d_Mo_init_397 : DC m_Mo_init 397 (.aload_n 0) 1 398 := ⟨by decide +kernel, rfl⟩
theorem d_Mo_init_398 : DC m_Mo_init 398 (.bipush 60) 2 400 := ⟨by decide +kernel, rfl⟩
theorem d_Mo_init_400 : DC m_Mo_init 400 (.newarray .int) 2 402 := ⟨by decide +kernel, rfl⟩
theorem d_Mo_init_402 : DC m_Mo_init 402 (.putfield 158) 3 405 := ⟨by decide +kernel, rfl⟩
theorem d_Mo_init_405 : DC m_Mo_init 405 (.aload_n 0) 1 406 := ⟨by decide +kernel, rfl⟩
theorem d_Mo_init_406 : DC m_Mo_init 406 (.bipush 60) 2 408 := ⟨by decide +kernel, rfl⟩
theorem d_Mo_init_408 : DC m_Mo_init 408 (.newarray .int) 2 410 := ⟨by decide +kernel, rfl⟩
theorem d_Mo_init_410 : DC m_Mo_init 410 (.putfield 161) 3 413 := ⟨by decide +kernel, rfl⟩
theorem d_Mo_init_413 : DC m_Mo_init 413 (.aload_n 0) 1 414 := ⟨by decide +kernel, rfl⟩
theorem d_Mo_init_414 : DC m_Mo_init 414 (.bipush 60) 2 416 := ⟨by decide +kernel, rfl⟩
theorem d_Mo_init_416 : DC m_Mo_init 416 (.newarray .int) 2 418 := ⟨by decide +kernel, rfl⟩
theorem d_Mo_init_418 : DC m_Mo_init 418 (.putfield 164) 3 421 := ⟨by decide +kernel, rfl⟩
theorem d_Mo_init_421 : DC m_Mo_init 421 (.aload_n 0) 1 422 := ⟨by decide +kernel, rfl⟩
theorem d_Mo_init_422 : DC m_Mo_init 422 (.ldc 167) 2 424 := ⟨by decide +kernel, rfl⟩
theorem d_Mo_init_424 : DC m_Mo_init 424 (.newarray .boolean) 2 426 := ⟨by decide +kernel, rfl⟩
theorem d_Mo_init_426 : DC m_Mo_init 426 (.putfield 168) 3 429 := ⟨by decide +kernel, rfl⟩
theorem d_Mo_init_429 : DC m_Mo_init 429 (.aload_n 0) 1 430 := ⟨by decide +kernel, rfl⟩
theorem d_Mo_init_430 : DC m_Mo_init 430 (.getfield 34) 3 433 := ⟨by decide +kernel, rfl⟩
theorem d_Mo_init_433 : DC m_Mo_init 433 (.iconst 0) 1 434 := ⟨by decide +kernel, rfl⟩
theorem d_Mo_init_434 : DC m_Mo_init 434 (.bipush 98) 2 436 := ⟨by decide +kernel, rfl⟩
theorem d_Mo_init_436 : DC m_Mo_init 436 (.bipush 111) 2 438 := ⟨by decide +kernel, rfl⟩
theorem d_Mo_init_438 : DC m_Mo_init 438 (.bipush 97) 2 440 := ⟨by decide +kernel, rfl⟩
theorem d_Mo_init_440 : DC m_Mo_init 440 (.bipush 114) 2 442 := ⟨by decide +kernel, rfl⟩
theorem d_Mo_init_442 : DC m_Mo_init 442 (.bipush 100) 2 444 := ⟨by decide +kernel, rfl⟩
theorem d_Mo_init_444 : DC m_Mo_init 444 (.iconst 0) 1 445 := ⟨by decide +kernel, rfl⟩
theorem d_Mo_init_445 : DC m_Mo_init 445 (.iconst 0) 1 446 := ⟨by decide +kernel, rfl⟩
theorem d_Mo_init_446 : DC m_Mo_init 446 (.invokestatic 171) 3 449 := ⟨by decide +kernel, rfl⟩
theorem d_Mo_init_449 : DC m_Mo_init 449 .lastore 1 450 := ⟨by decide +kernel, rfl⟩
theorem d_Mo_init_450 : DC m_Mo_init 450 (.aload_n 0) 1 451 := ⟨by decide +kernel, rfl⟩
theorem d_Mo_init_451 : DC m_Mo_init 451 (.getfield 34) 3 454 := ⟨by decide +kernel, rfl⟩
theorem d_Mo_init_454 : DC m_Mo_init 454 (.iconst 1) 1 455 := ⟨by decide +kernel, rfl⟩
theorem d_Mo_init_455 : DC m_Mo_init 455 (.bipush 111) 2 457 := ⟨by decide +kernel, rfl⟩
theorem d_Mo_init_457 : DC m_Mo_init 457 (.bipush 117) 2 459 := ⟨by decide +kernel, rfl⟩
theorem d_Mo_init_459 : DC m_Mo_init 459 (.bipush 116) 2 461 := ⟨by decide +kernel, rfl⟩
theorem d_Mo_init_461 : DC m_Mo_init 461 (.bipush 108) 2 463 := ⟨by decide +kernel, rfl⟩
theorem d_Mo_init_463 : DC m_Mo_init 463 (.bipush 105) 2 465 := ⟨by decide +kernel, rfl⟩
theorem d_Mo_init_465 : DC m_Mo_init 465 (.bipush 110) 2 467 := ⟨by decide +kernel, rfl⟩
theorem d_Mo_init_467 : DC m_Mo_init 467 (.bipush 101) 2 469 := ⟨by decide +kernel, rfl⟩
theorem d_Mo_init_469 : DC m_Mo_init 469 (.invokestatic 171) 3 472 := ⟨by decide +kernel, rfl⟩
theorem d_Mo_init_472 : DC m_Mo_init 472 .lastore 1 473 := ⟨by decide +kernel, rfl⟩
theorem d_Mo_init_473 : DC m_Mo_init 473 (.aload_n 0) 1 474 := ⟨by decide +kernel, rfl⟩
theorem d_Mo_init_474 : DC m_Mo_init 474 (.getfield 34) 3 477 := ⟨by decide +kernel, rfl⟩
theorem d_Mo_init_477 : DC m_Mo_init 477 (.iconst 2) 1 478 := ⟨by decide +kernel, rfl⟩
theorem d_Mo_init_478 : DC m_Mo_init 478 (.bipush 116) 2 480 := ⟨by decide +kernel, rfl⟩
theorem d_Mo_init_480 : DC m_Mo_init 480 (.bipush 117) 2 482 := ⟨by decide +kernel, rfl⟩
theorem d_Mo_init_482 : DC m_Mo_init 482 (.bipush 114) 2 484 := ⟨by decide +kernel, rfl⟩
theorem d_Mo_init_484 : DC m_Mo_init 484 (.bipush 110) 2 486 := ⟨by decide +kernel, rfl⟩
theorem d_Mo_init_486 : DC m_Mo_init 486 (.iconst 0) 1 487 := ⟨by decide +kernel, rfl⟩
theorem d_Mo_init_487 : DC m_Mo_init 487 (.iconst 0) 1 488 := ⟨by decide +kernel, rfl⟩
theorem d_Mo_init_488 : DC m_Mo_init 488 (.iconst 0) 1 489 := ⟨by decide +kernel, rfl⟩
theorem d_Mo_init_489 : DC m_Mo_init 489 (.invokestatic 171) 3 492 := ⟨by decide +kernel, rfl⟩
theorem d_Mo_init_492 : DC m_Mo_init 492 .lastore 1 493 := ⟨by decide +kernel, rfl⟩
theorem d_Mo_init_493 : DC m_Mo_init 493 (.aload_n 0) 1 494 := ⟨by decide +kernel, rfl⟩
theorem d_Mo_init_494 : DC m_Mo_init 494 (.getfield 34) 3 497 := ⟨by decide +kernel, rfl⟩
theorem d_Mo_init_497 : DC m_Mo_init 497 (.iconst 3) 1 498 := ⟨by decide +kernel, rfl⟩
theorem d_Mo_init_498 : DC m_Mo_init 498 (.bipush 102) 2 500 := ⟨by decide +kernel, rfl⟩
theorem d_Mo_init_500 : DC m_Mo_init 500 (.bipush 108) 2 502 := ⟨by decide +kernel, rfl⟩
theorem d_Mo_init_502 : DC m_Mo_init 502 (.bipush 105) 2 504 := ⟨by decide +kernel, rfl⟩
theorem d_Mo_init_504 : DC m_Mo_init 504 (.bipush 112) 2 506 := ⟨by decide +kernel, rfl⟩
theorem d_Mo_init_506 : DC m_Mo_init 506 (.iconst 0) 1 507 := ⟨by decide +kernel, rfl⟩
theorem d_Mo_init_507 : DC m_Mo_init 507 (.iconst 0) 1 508 := ⟨by decide +kernel, rfl⟩
theorem d_Mo_init_508 : DC m_Mo_init 508 (.iconst 0) 1 509 := ⟨by decide +kernel, rfl⟩
theorem d_Mo_init_509 : DC m_Mo_init 509 (.invokestatic 171) 3 512 := ⟨by decide +kernel, rfl⟩
theorem d_Mo_init_512 : DC m_Mo_init 512 .lastore 1 513 := ⟨by decide +kernel, rfl⟩
theorem d_Mo_init_513 : DC m_Mo_init 513 (.aload_n 0) 1 514 := ⟨by decide +kernel, rfl⟩
theorem d_Mo_init_514 : DC m_Mo_init 514 (.getfield 34) 3 517 := ⟨by decide +kernel, rfl⟩
theorem d_Mo_init_517 : DC m_Mo_init 517 (.iconst 4) 1 518 := ⟨by decide +kernel, rfl⟩
theorem d_Mo_init_518 : DC m_Mo_init 518 (.bipush 98) 2 520 := ⟨by decide +kernel, rfl⟩
theorem d_Mo_init_520 : DC m_Mo_init 520 (.bipush 97) 2 522 := ⟨by decide +kernel, rfl⟩
theorem d_Mo_init_522 : DC m_Mo_init 522 (.bipush 115) 2 524 := ⟨by decide +kernel, rfl⟩
theorem d_Mo_init_524 : DC m_Mo_init 524 (.bipush 101) 2 526 := ⟨by decide +kernel, rfl⟩
theorem d_Mo_init_526 : DC m_Mo_init 526 (.iconst 0) 1 527 := ⟨by decide +kernel, rfl⟩
theorem d_Mo_init_527 : DC m_Mo_init 527 (.iconst 0) 1 528 := ⟨by decide +kernel, rfl⟩
theorem d_Mo_init_528 : DC m_Mo_init 528 (.iconst 0) 1 529 := ⟨by decide +kernel, rfl⟩
theorem d_Mo_init_529 : DC m_Mo_init 529 (.invokestatic 171) 3 532 := ⟨by decide +kernel, rfl⟩
theorem d_Mo_init_532 : DC m_Mo_init 532 .lastore 1 533 := ⟨by decide +kernel, rfl⟩
theorem d_Mo_init_533 : DC m_Mo_init 533 (.aload_n 0) 1 534 := ⟨by decide +kernel, rfl⟩
theorem d_Mo_init_534 : DC m_Mo_init 534 (.getfield 34) 3 537 := ⟨by decide +kernel, rfl⟩
theorem d_Mo_init_537 : DC m_Mo_init 537 (.iconst 5) 1 538 := ⟨by decide +kernel, rfl⟩
theorem d_Mo_init_538 : DC m_Mo_init 538 (.bipush 115) 2 540 := ⟨by decide +kernel, rfl⟩
theorem d_Mo_init_540 : DC m_Mo_init 540 (.bipush 104) 2 542 := ⟨by decide +kernel, rfl⟩
theorem d_Mo_init_542 : DC m_Mo_init 542 (.bipush 105) 2 544 := ⟨by decide +kernel, rfl⟩
theorem d_Mo_init_544 : DC m_Mo_init 544 (.bipush 102) 2 546 := ⟨by decide +kernel, rfl⟩
theorem d_Mo_init_546 : DC m_Mo_init 546 (.bipush 116) 2 548 := ⟨by decide +kernel, rfl⟩
theorem d_Mo_init_548 : DC m_Mo_init 548 (.iconst 0) 1 549 := ⟨by decide +kernel, rfl⟩
theorem d_Mo_init_549 : DC m_Mo_init 549 (.iconst 0) 1 550 := ⟨by decide +kernel, rfl⟩
theorem d_Mo_init_550 : DC m_Mo_init 550 (.invokestatic 171) 3 553 := ⟨by decide +kernel, rfl⟩
theorem d_Mo_init_553 : DC m_Mo_init 553 .lastore 1 554 := ⟨by decide +kernel, rfl⟩
theorem d_Mo_init_554 : DC m_Mo_init 554 (.aload_n 0) 1 555 := ⟨by decide +kernel, rfl⟩
theorem d_Mo_init_555 : DC m_Mo_init 555 (.getfield 34) 3 558 := ⟨by decide +kernel, rfl⟩
theorem d_Mo_init_558 : DC m_Mo_init 558 (.bipush 6) 2 560 := ⟨by decide +kernel, rfl⟩
theorem d_Mo_init_560 : DC m_Mo_init 560 (.bipush 99) 2 562 := ⟨by decide +kernel, rfl⟩
theorem d_Mo_init_562 : DC m_Mo_init 562 (.bipush 101) 2 564 := ⟨by decide +kernel, rfl⟩
theorem d_Mo_init_564 : DC m_Mo_init 564 (.bipush 108) 2 566 := ⟨by decide +kernel, rfl⟩
theorem d_Mo_init_566 : DC m_Mo_init 566 (.bipush 108) 2 568 := ⟨by decide +kernel, rfl⟩
theorem d_Mo_init_568 : DC m_Mo_init 568 (.iconst 0) 1 569 := ⟨by decide +kernel, rfl⟩
theorem d_Mo_init_569 : DC m_Mo_init 569 (.iconst 0) 1 570 := ⟨by decide +kernel, rfl⟩
theorem d_Mo_init_570 : DC m_Mo_init 570 (.iconst 0) 1 571 := ⟨by decide +kernel, rfl⟩
theorem d_Mo_init_571 : DC m_Mo_init 571 (.invokestatic 171) 3 574 := ⟨by decide +kernel, rfl⟩
theorem d_Mo_init_574 : DC m_Mo_init 574 .lastore 1 575 := ⟨by decide +kernel, rfl⟩
theorem d_Mo_init_575 : DC m_Mo_init 575 (.aload_n 0) 1 576 := ⟨by decide +kernel, rfl⟩
theorem d_Mo_init_576 : DC m_Mo_init 576 (.getfield 34) 3 579 := ⟨by decide +kernel, rfl⟩
theorem d_Mo_init_579 : DC m_Mo_init 579 (.bipush 7) 2 581 := ⟨by decide +kernel, rfl⟩
theorem d_Mo_init_581 : DC m_Mo_init 581 (.bipush 98) 2 583 := ⟨by decide +kernel, rfl⟩
theorem d_Mo_init_583 : DC m_Mo_init 583 (.bipush 111) 2 585 := ⟨by decide +kernel, rfl⟩
theorem d_Mo_init_585 : DC m_Mo_init 585 (.bipush 120) 2 587 := ⟨by decide +kernel, rfl⟩
theorem d_Mo_init_587 : DC m_Mo_init 587 (.iconst 0) 1 588 := ⟨by decide +kernel, rfl⟩
theorem d_Mo_init_588 : DC m_Mo_init 588 (.iconst 0) 1 589 := ⟨by decide +kernel, rfl⟩
theorem d_Mo_init_589 : DC m_Mo_init 589 (.iconst 0) 1 590 := ⟨by decide +kernel, rfl⟩
theorem d_Mo_init_590 : DC m_Mo_init 590 (.iconst 0) 1 591 := ⟨by decide +kernel, rfl⟩
theorem d_Mo_init_591 : DC m_Mo_init 591 (.invokestatic 171) 3 594 := ⟨by decide +kernel, rfl⟩
theorem d_Mo_init_594 : DC m_Mo_init 594 .lastore 1 595 := ⟨by decide +kernel, rfl⟩
theorem d_Mo_init_595 : DC m_Mo_init 595 (.aload_n 0) 1 596 := ⟨by decide +kernel, rfl⟩
theorem d_Mo_init_596 : DC m_Mo_init 596 (.getfield 34) 3 599 := ⟨by decide +kernel, rfl⟩
theorem d_Mo_init_599 : DC m_Mo_init 599 (.bipush 8) 2 601 := ⟨by decide +kernel, rfl⟩
theorem d_Mo_init_601 : DC m_Mo_init 601 (.bipush 104) 2 603 := ⟨by decide +kernel, rfl⟩
theorem d_Mo_init_603 : DC m_Mo_init 603 (.bipush 97) 2 605 := ⟨by decide +kernel, rfl⟩
theorem d_Mo_init_605 : DC m_Mo_init 605 (.bipush 108) 2 607 := ⟨by decide +kernel, rfl⟩
theorem d_Mo_init_607 : DC m_Mo_init 607 (.bipush 102) 2 609 := ⟨by decide +kernel, rfl⟩
theorem d_Mo_init_609 : DC m_Mo_init 609 (.iconst 0) 1 610 := ⟨by decide +kernel, rfl⟩
theorem d_Mo_init_610 : DC m_Mo_init 610 (.iconst 0) 1 611 := ⟨by decide +kernel, rfl⟩
theorem d_Mo_init_611 : DC m_Mo_init 611 (.iconst 0) 1 612 := ⟨by decide +kernel, rfl⟩
theorem d_Mo_init_612 : DC m_Mo_init 612 (.invokestatic 171) 3 615 := ⟨by decide +kernel, rfl⟩
theorem d_Mo_init_615 : DC m_Mo_init 615 .lastore 1 616 := ⟨by decide +kernel, rfl⟩
theorem d_Mo_init_616 : DC m_Mo_init 616 (.aload_n 0) 1 617 := ⟨by decide +kernel, rfl⟩
theorem d_Mo_init_617 : DC m_Mo_init 617 (.getfield 34) 3 620 := ⟨by decide +kernel, rfl⟩
theorem d_Mo_init_620 : DC m_Mo_init 620 (.bipush 9) 2 622 := ⟨by decide +kernel, rfl⟩
theorem d_Mo_init_622 : DC m_Mo_init 622 (.bipush 113) 2 624 := ⟨by decide +kernel, rfl⟩
theorem d_Mo_init_624 : DC m_Mo_init 624 (.bipush 117) 2 626 := ⟨by decide +kernel, rfl⟩
theorem d_Mo_init_626 : DC m_Mo_init 626 (.bipush 97) 2 628 := ⟨by decide +kernel, rfl⟩
theorem d_Mo_init_628 : DC m_Mo_init 628 (.bipush 114) 2 630 := ⟨by decide +kernel, rfl⟩
theorem d_Mo_init_630 : DC m_Mo_init 630 (.bipush 116) 2 632 := ⟨by decide +kernel, rfl⟩
theorem d_Mo_init_632 : DC m_Mo_init 632 (.bipush 101) 2 634 := ⟨by decide +kernel, rfl⟩
theorem d_Mo_init_634 : DC m_Mo_init 634 (.bipush 114) 2 636 := ⟨by decide +kernel, rfl⟩
theorem d_Mo_init_636 : DC m_Mo_init 636 (.invokestatic 171) 3 639 := ⟨by decide +kernel, rfl⟩
theorem d_Mo_init_639 : DC m_Mo_init 639 .lastore 1 640 := ⟨by decide +kernel, rfl⟩
theorem d_Mo_init_640 : DC m_Mo_init 640 (.iconst 0) 1 641 := ⟨by decide +kernel, rfl⟩
theorem d_Mo_init_641 : DC m_Mo_init 641 (.istore_n 1) 1 642 := ⟨by decide +kernel, rfl⟩
theorem d_Mo_init_642 : DC m_Mo_init 642 (.iload_n 1) 1 643 := ⟨by decide +kernel, rfl⟩
theorem d_Mo_init_643 : DC m_Mo_init 643 (.bipush 8) 2 645 := ⟨by decide +kernel, rfl⟩
theorem d_Mo_init_645 : DC m_Mo_init 645 (.if_icmp .ge 16) 3 648 := ⟨by decide +kernel, rfl⟩
theorem d_Mo_init_648 : DC m_Mo_init 648 (.aload_n 0) 1 649 := ⟨by decide +kernel, rfl⟩
theorem d_Mo_init_649 : DC m_Mo_init 649 (.getfield 146) 3 652 := ⟨by decide +kernel, rfl⟩
theorem d_Mo_init_652 : DC m_Mo_init 652 (.iload_n 1) 1 653 := ⟨by decide +kernel, rfl⟩
theorem d_Mo_init_653 : DC m_Mo_init 653 (.iconst (-1)) 1 654 := ⟨by decide +kernel, rfl⟩
theorem d_Mo_init_654 : DC m_Mo_init 654 .iastore 1 655 := ⟨by decide +kernel, rfl⟩
theorem d_Mo_init_655 : DC m_Mo_init 655 (.iinc 1 1) 3 658 := ⟨by decide +kernel, rfl⟩
theorem d_Mo_init_658 : DC m_Mo_init 658 (.goto (-16)) 3 661 := ⟨by decide +kernel, rfl⟩
theorem d_Mo_init_661 : DC m_Mo_init 661 .return_ 1 662 := ⟨by decide +kernel, rfl⟩
set_option maxRecDepth 20000 in
def f_Mo_init (n : Nat) (x0 : Nat) (M : MM) : Option MM :=
  nm (rho M.1.1) fun a1 =>
  nm (nwC 101 2000 M) fun M2 =>
  (pR 12 1 x0 a1 M2).bind fun M3 =>
  nm (rho M3.1.1) fun a4 =>
  nm (nwC 101 2000 M3) fun M5 =>
  (pR 12 3 x0 a4 M5).bind fun M6 =>
  nm (rho M6.1.1) fun a7 =>
  nm (nwC 100 403 M6) fun M8 =>
  (pR 12 5 x0 a7 M8).bind fun M9 =>
  nm (rho M9.1.1) fun a10 =>
  nm (nwC 100 403 M9) fun M11 =>
  (pR 12 6 x0 a10 M11).bind fun M12 =>
  nm (rho M12.1.1) fun a13 =>
  nm (nwC 100 403 M12) fun M14 =>
  (pR 12 7 x0 a13 M14).bind fun M15 =>
  nm (rho M15.1.1) fun a16 =>
  nm (nwC 103 403 M15) fun M17 =>
  (pR 12 8 x0 a16 M17).bind fun M18 =>
  nm (rho M18.1.1) fun a19 =>
  nm (nwC 103 10 M18) fun M20 =>
  (pR 12 9 x0 a19 M20).bind fun M21 =>
  (pI 12 17 x0 (-1) M21).bind fun M22 =>
  nm (rho M22.1.1) fun a23 =>
  nm (nwC 102 14336 M22) fun M24 =>
  (pR 12 18 x0 a23 M24).bind fun M25 =>
  nm (rho M25.1.1) fun a26 =>
  nm (nwC 100 2 M25) fun M27 =>
  (pR 12 21 x0 a26 M27).bind fun M28 =>
  nm (rho M28.1.1) fun a29 =>
  nm (nwC 100 2 M28) fun M30 =>
  (pR 12 22 x0 a29 M30).bind fun M31 =>
  nm (rho M31.1.1) fun a32 =>
  nm (nwC 103 14 M31) fun M33 =>
  (pR 12 24 x0 a32 M33).bind fun M34 =>
  nm (rho M34.1.1) fun a35 =>
  nm (nwC 100 14 M34) fun M36 =>
  (pR 12 25 x0 a35 M36).bind fun M37 =>
  nm (rho M37.1.1) fun a38 =>
  nm (nwC 102 14 M37) fun M39 =>
  (pR 12 26 x0 a38 M39).bind fun M40 =>
  nm (rho M40.1.1) fun a41 =>
  nm (nwC 100 14 M40) fun M42 =>
  (pR 12 27 x0 a41 M42).bind fun M43 =>
  nm (rho M43.1.1) fun a44 =>
  nm (nwC 100 15 M43) fun M45 =>
  (pR 12 28 x0 a44 M45).bind fun M46 =>
  nm (rho M46.1.1) fun a47 =>
  nm (nwC 100 500 M46) fun M48 =>
  (pR 12 30 x0 a47 M48).bind fun M49 =>
  nm (rho M49.1.1) fun a50 =>
  nm (nwC 100 500 M49) fun M51 =>
  (pR 12 31 x0 a50 M51).bind fun M52 =>
  nm (rho M52.1.1) fun a53 =>
  nm (nwC 100 500 M52) fun M54 =>
  (pR 12 32 x0 a53 M54).bind fun M55 =>
  nm (rho M55.1.1) fun a56 =>
  nm (nwC 100 500 M55) fun M57 =>
  (pR 12 33 x0 a56 M57).bind fun M58 =>
  nm (rho M58.1.1) fun a59 =>
  nm (nwC 100 500 M58) fun M60 =>
  (pR 12 34 x0 a59 M60).bind fun M61 =>
  nm (rho M61.1.1) fun a62 =>
  nm (nwC 100 500 M61) fun M63 =>
  (pR 12 35 x0 a62 M63).bind fun M64 =>
  nm (rho M64.1.1) fun a65 =>
  nm (nwC 100 420 M64) fun M66 =>
  (pR 12 36 x0 a65 M66).bind fun M67 =>
  nm (rho M67.1.1) fun a68 =>
  nm (nwC 100 420 M67) fun M69 =>
  (pR 12 37 x0 a68 M69).bind fun M70 =>
  nm (rho M70.1.1) fun a71 =>
  nm (nwC 100 420 M70) fun M72 =>
  (pR 12 38 x0 a71 M72).bind fun M73 =>
  nm (rho M73.1.1) fun a74 =>
  nm (nwC 100 420 M73) fun M75 =>
  (pR 12 39 x0 a74 M75).bind fun M76 =>
  nm (rho M76.1.1) fun a77 =>
  nm (nwC 100 256 M76) fun M78 =>
  (pR 12 41 x0 a77 M78).bind fun M79 =>
  nm (rho M79.1.1) fun a80 =>
  nm (nwC 102 256 M79) fun M81 =>
  (pR 12 42 x0 a80 M81).bind fun M82 =>
  nm (rho M82.1.1) fun a83 =>
  nm (nwC 102 8 M82) fun M84 =>
  (pR 12 44 x0 a83 M84).bind fun M85 =>
  nm (rho M85.1.1) fun a86 =>
  nm (nwC 100 64 M85) fun M87 =>
  (pR 12 45 x0 a86 M87).bind fun M88 =>
  nm (rho M88.1.1) fun a89 =>
  nm (nwC 100 16384 M88) fun M90 =>
  (pR 12 46 x0 a89 M90).bind fun M91 =>
  nm (rho M91.1.1) fun a92 =>
  nm (nwC 102 64 M91) fun M93 =>
  (pR 12 47 x0 a92 M93).bind fun M94 =>
  nm (rho M94.1.1) fun a95 =>
  nm (nwC 102 256 M94) fun M96 =>
  (pR 12 49 x0 a95 M96).bind fun M97 =>
  nm (rho M97.1.1) fun a98 =>
  nm (nwC 100 9 M97) fun M99 =>
  (pR 12 54 x0 a98 M99).bind fun M100 =>
  nm (rho M100.1.1) fun a101 =>
  nm (nwC 100 9 M100) fun M102 =>
  (pR 12 55 x0 a101 M102).bind fun M103 =>
  nm (rho M103.1.1) fun a104 =>
  nm (nwC 100 9 M103) fun M105 =>
  (pR 12 56 x0 a104 M105).bind fun M106 =>
  nm (rho M106.1.1) fun a107 =>
  nm (nwC 100 9 M106) fun M108 =>
  (pR 12 57 x0 a107 M108).bind fun M109 =>
  nm (rho M109.1.1) fun a110 =>
  nm (nwC 100 8 M109) fun M111 =>
  (pR 12 59 x0 a110 M111).bind fun M112 =>
  nm (rho M112.1.1) fun a113 =>
  nm (nwC 100 8 M112) fun M114 =>
  (pR 12 60 x0 a113 M114).bind fun M115 =>
  nm (rho M115.1.1) fun a116 =>
  nm (nwC 100 8 M115) fun M117 =>
  (pR 12 61 x0 a116 M117).bind fun M118 =>
  nm (rho M118.1.1) fun a119 =>
  nm (nwC 100 8 M118) fun M120 =>
  (pR 12 62 x0 a119 M120).bind fun M121 =>
  nm (rho M121.1.1) fun a122 =>
  nm (nwC 100 8 M121) fun M123 =>
  (pR 12 63 x0 a122 M123).bind fun M124 =>
  nm (rho M124.1.1) fun a125 =>
  nm (nwC 100 8 M124) fun M126 =>
  (pR 12 64 x0 a125 M126).bind fun M127 =>
  nm (rho M127.1.1) fun a128 =>
  nm (nwC 100 8 M127) fun M129 =>
  (pR 12 71 x0 a128 M129).bind fun M130 =>
  nm (rho M130.1.1) fun a131 =>
  nm (nwC 102 2048 M130) fun M132 =>
  (pR 12 72 x0 a131 M132).bind fun M133 =>
  nm (rho M133.1.1) fun a134 =>
  nm (nwC 100 60 M133) fun M135 =>
  (pR 12 74 x0 a134 M135).bind fun M136 =>
  nm (rho M136.1.1) fun a137 =>
  nm (nwC 100 60 M136) fun M138 =>
  (pR 12 75 x0 a137 M138).bind fun M139 =>
  nm (rho M139.1.1) fun a140 =>
  nm (nwC 100 60 M139) fun M141 =>
  (pR 12 76 x0 a140 M141).bind fun M142 =>
  nm (rho M142.1.1) fun a143 =>
  nm (nwC 100 60 M142) fun M144 =>
  (pR 12 77 x0 a143 M144).bind fun M145 =>
  nm (rho M145.1.1) fun a146 =>
  nm (nwC 100 60 M145) fun M147 =>
  (pR 12 78 x0 a146 M147).bind fun M148 =>
  nm (rho M148.1.1) fun a149 =>
  nm (nwC 102 122880 M148) fun M150 =>
  (pR 12 79 x0 a149 M150).bind fun M151 =>
  (gR 12 9 x0 M151).bind fun v152 =>
  (f_Mo_word n 98 111 97 114 100 0 0 M151).bind fun p153 =>
  (sL v152 0 p153.1 p153.2).bind fun M154 =>
  (gR 12 9 x0 M154).bind fun v155 =>
  (f_Mo_word n 111 117 116 108 105 110 101 M154).bind fun p156 =>
  (sL v155 1 p156.1 p156.2).bind fun M157 =>
  (gR 12 9 x0 M157).bind fun v158 =>
  (f_Mo_word n 116 117 114 110 0 0 0 M157).bind fun p159 =>
  (sL v158 2 p159.1 p159.2).bind fun M160 =>
  (gR 12 9 x0 M160).bind fun v161 =>
  (f_Mo_word n 102 108 105 112 0 0 0 M160).bind fun p162 =>
  (sL v161 3 p162.1 p162.2).bind fun M163 =>
  (gR 12 9 x0 M163).bind fun v164 =>
  (f_Mo_word n 98 97 115 101 0 0 0 M163).bind fun p165 =>
  (sL v164 4 p165.1 p165.2).bind fun M166 =>
  (gR 12 9 x0 M166).bind fun v167 =>
  (f_Mo_word n 115 104 105 102 116 0 0 M166).bind fun p168 =>
  (sL v167 5 p168.1 p168.2).bind fun M169 =>
  (gR 12 9 x0 M169).bind fun v170 =>
  (f_Mo_word n 99 101 108 108 0 0 0 M169).bind fun p171 =>
  (sL v170 6 p171.1 p171.2).bind fun M172 =>
  (gR 12 9 x0 M172).bind fun v173 =>
  (f_Mo_word n 98 111 120 0 0 0 0 M172).bind fun p174 =>
  (sL v173 7 p174.1 p174.2).bind fun M175 =>
  (gR 12 9 x0 M175).bind fun v176 =>
  (f_Mo_word n 104 97 108 102 0 0 0 M175).bind fun p177 =>
  (sL v176 8 p177.1 p177.2).bind fun M178 =>
  (gR 12 9 x0 M178).bind fun v179 =>
  (f_Mo_word n 113 117 97 114 116 101 114 M178).bind fun p180 =>
  (sL v179 9 p180.1 p180.2).bind fun M181 =>
  (gR 12 71 x0 M181).bind fun v182 =>
  (sI 100 v182 0 (-1) M181).bind fun M183 =>
  (gR 12 71 x0 M183).bind fun v184 =>
  (sI 100 v184 1 (-1) M183).bind fun M185 =>
  (gR 12 71 x0 M185).bind fun v186 =>
  (sI 100 v186 2 (-1) M185).bind fun M187 =>
  (gR 12 71 x0 M187).bind fun v188 =>
  (sI 100 v188 3 (-1) M187).bind fun M189 =>
  (gR 12 71 x0 M189).bind fun v190 =>
  (sI 100 v190 4 (-1) M189).bind fun M191 =>
  (gR 12 71 x0 M191).bind fun v192 =>
  (sI 100 v192 5 (-1) M191).bind fun M193 =>
  (gR 12 71 x0 M193).bind fun v194 =>
  (sI 100 v194 6 (-1) M193).bind fun M195 =>
  (gR 12 71 x0 M195).bind fun v196 =>
  (sI 100 v196 7 (-1) M195).bind fun M197 =>
  some M197
set_option maxRecDepth 20000 in
theorem t_Mo_init (n : Nat) (x0 : Nat) (M : MM) (z : MM) (h : f_Mo_init n x0 M = some z) : CT m_Mo_init (rm 3 50 167321) [.ref x0] M none z := by
  unfold f_Mo_init at h
  refine CT.of (ls := [some (.ref x0), none]) rfl (okp rfl) rfl ?_
  refine e_aload_n d_Mo_init_0 rfl ?_
  refine e_objInit d_Mo_init_1 ml_Mo_7 oi_in oi_code (okp rfl) (okp rfl) (okp rfl) ?_
  refine e_aload_n d_Mo_init_4 rfl ?_
  refine e_sipush (v := 2000) d_Mo_init_5 (by decide) ?_
  refine e_newaN (kd := 101) (len := 2000) (ty := .byte) (k2 := 1) (n2 := 2000) d_Mo_init_8 rfl ac_byte (by decide) (by decide) (by decide) (okp rfl) (okp rfl) (okp rfl) rfl rfl ?_
  obtain ⟨a1, ea1, h⟩ := nm_s h
  obtain ⟨M2, eM2, h⟩ := nm_s h
  rw [← ea1, ← eM2]
  obtain ⟨M3, hM3, h⟩ := bnd h
  refine e_putR d_Mo_init_10 fl_Mo_13 (Or.inr ⟨rfl, _, rfl, rfl⟩) (fun _ _ _ => rfl) (fun _ => ⟨rfl, rfl⟩) hM3 ?_
  refine e_aload_n d_Mo_init_13 rfl ?_
  refine e_sipush (v := 2000) d_Mo_init_14 (by decide) ?_
  refine e_newaN (kd := 101) (len := 2000) (ty := .byte) (k2 := 2) (n2 := 4000) d_Mo_init_17 rfl ac_byte (by decide) (by decide) (by decide) (okp rfl) (okp rfl) (okp rfl) rfl rfl ?_
  obtain ⟨a4, ea4, h⟩ := nm_s h
  obtain ⟨M5, eM5, h⟩ := nm_s h
  rw [← ea4, ← eM5]
  obtain ⟨M6, hM6, h⟩ := bnd h
  refine e_putR d_Mo_init_19 fl_Mo_17 (Or.inr ⟨rfl, _, rfl, rfl⟩) (fun _ _ _ => rfl) (fun _ => ⟨rfl, rfl⟩) hM6 ?_
  refine e_aload_n d_Mo_init_22 rfl ?_
  refine e_sipush (v := 403) d_Mo_init_23 (by decide) ?_
  refine e_newaN (kd := 100) (len := 403) (ty := .int) (k2 := 3) (n2 := 4403) d_Mo_init_26 rfl ac_int (by decide) (by decide) (by decide) (okp rfl) (okp rfl) (okp rfl) rfl rfl ?_
  obtain ⟨a7, ea7, h⟩ := nm_s h
  obtain ⟨M8, eM8, h⟩ := nm_s h
  rw [← ea7, ← eM8]
  obtain ⟨M9, hM9, h⟩ := bnd h
  refine e_putR d_Mo_init_28 fl_Mo_20 (Or.inr ⟨rfl, _, rfl, rfl⟩) (fun _ _ _ => rfl) (fun _ => ⟨rfl, rfl⟩) hM9 ?_
  refine e_aload_n d_Mo_init_31 rfl ?_
  refine e_sipush (v := 403) d_Mo_init_32 (by decide) ?_
  refine e_newaN (kd := 100) (len := 403) (ty := .int) (k2 := 4) (n2 := 4806) d_Mo_init_35 rfl ac_int (by decide) (by decide) (by decide) (okp rfl) (okp rfl) (okp rfl) rfl rfl ?_
  obtain ⟨a10, ea10, h⟩ := nm_s h
  obtain ⟨M11, eM11, h⟩ := nm_s h
  rw [← ea10, ← eM11]
  obtain ⟨M12, hM12, h⟩ := bnd h
  refine e_putR d_Mo_init_37 fl_Mo_24 (Or.inr ⟨rfl, _, rfl, rfl⟩) (fun _ _ _ => rfl) (fun _ => ⟨rfl, rfl⟩) hM12 ?_
  refine e_aload_n d_Mo_init_40 rfl ?_
  refine e_sipush (v := 403) d_Mo_init_41 (by decide) ?_
  refine e_newaN (kd := 100) (len := 403) (ty := .int) (k2 := 5) (n2 := 5209) d_Mo_init_44 rfl ac_int (by decide) (by decide) (by decide) (okp rfl) (okp rfl) (okp rfl) rfl rfl ?_
  obtain ⟨a13, ea13, h⟩ := nm_s h
  obtain ⟨M14, eM14, h⟩ := nm_s h
  rw [← ea13, ← eM14]
  obtain ⟨M15, hM15, h⟩ := bnd h
  refine e_putR d_Mo_init_46 fl_Mo_27 (Or.inr ⟨rfl, _, rfl, rfl⟩) (fun _ _ _ => rfl) (fun _ => ⟨rfl, rfl⟩) hM15 ?_
  refine e_aload_n d_Mo_init_49 rfl ?_
  refine e_sipush (v := 403) d_Mo_init_50 (by decide) ?_
  refine e_newaN (kd := 103) (len := 403) (ty := .long) (k2 := 6) (n2 := 5612) d_Mo_init_53 rfl ac_long (by decide) (by decide) (by decide) (okp rfl) (okp rfl) (okp rfl) rfl rfl ?_
  obtain ⟨a16, ea16, h⟩ := nm_s h
  obtain ⟨M17, eM17, h⟩ := nm_s h
  rw [← ea16, ← eM17]
  obtain ⟨M18, hM18, h⟩ := bnd h
  refine e_putR d_Mo_init_55 fl_Mo_30 (Or.inr ⟨rfl, _, rfl, rfl⟩) (fun _ _ _ => rfl) (fun _ => ⟨rfl, rfl⟩) hM18 ?_
  refine e_aload_n d_Mo_init_58 rfl ?_
  refine e_bipush (v := 10) d_Mo_init_59 (by decide) ?_
  refine e_newaN (kd := 103) (len := 10) (ty := .long) (k2 := 7) (n2 := 5622) d_Mo_init_61 rfl ac_long (by decide) (by decide) (by decide) (okp rfl) (okp rfl) (okp rfl) rfl rfl ?_
  obtain ⟨a19, ea19, h⟩ := nm_s h
  obtain ⟨M20, eM20, h⟩ := nm_s h
  rw [← ea19, ← eM20]
  obtain ⟨M21, hM21, h⟩ := bnd h
  refine e_putR d_Mo_init_63 fl_Mo_34 (Or.inr ⟨rfl, _, rfl, rfl⟩) (fun _ _ _ => rfl) (fun _ => ⟨rfl, rfl⟩) hM21 ?_
  refine e_aload_n d_Mo_init_66 rfl ?_
  refine e_iconst (v := (-1)) d_Mo_init_67 (by decide) ?_
  obtain ⟨M22, hM22, h⟩ := bnd h
  refine e_putI d_Mo_init_68 fl_Mo_37 (Or.inl rfl) (fun _ _ _ => rfl) rfl hM22 ?_
  refine e_aload_n d_Mo_init_71 rfl ?_
  refine e_sipush (v := 14336) d_Mo_init_72 (by decide) ?_
  refine e_newaN (kd := 102) (len := 14336) (ty := .boolean) (k2 := 8) (n2 := 19958) d_Mo_init_75 rfl ac_boolean (by decide) (by decide) (by decide) (okp rfl) (okp rfl) (okp rfl) rfl rfl ?_
  obtain ⟨a23, ea23, h⟩ := nm_s h
  obtain ⟨M24, eM24, h⟩ := nm_s h
  rw [← ea23, ← eM24]
  obtain ⟨M25, hM25, h⟩ := bnd h
  refine e_putR d_Mo_init_77 fl_Mo_40 (Or.inr ⟨rfl, _, rfl, rfl⟩) (fun _ _ _ => rfl) (fun _ => ⟨rfl, rfl⟩) hM25 ?_
  refine e_aload_n d_Mo_init_80 rfl ?_
  refine e_iconst (v := 2) d_Mo_init_81 (by decide) ?_
  refine e_newaN (kd := 100) (len := 2) (ty := .int) (k2 := 9) (n2 := 19960) d_Mo_init_82 rfl ac_int (by decide) (by decide) (by decide) (okp rfl) (okp rfl) (okp rfl) rfl rfl ?_
  obtain ⟨a26, ea26, h⟩ := nm_s h
  obtain ⟨M27, eM27, h⟩ := nm_s h
  rw [← ea26, ← eM27]
  obtain ⟨M28, hM28, h⟩ := bnd h
  refine e_putR d_Mo_init_84 fl_Mo_44 (Or.inr ⟨rfl, _, rfl, rfl⟩) (fun _ _ _ => rfl) (fun _ => ⟨rfl, rfl⟩) hM28 ?_
  refine e_aload_n d_Mo_init_87 rfl ?_
  refine e_iconst (v := 2) d_Mo_init_88 (by decide) ?_
  refine e_newaN (kd := 100) (len := 2) (ty := .int) (k2 := 10) (n2 := 19962) d_Mo_init_89 rfl ac_int (by decide) (by decide) (by decide) (okp rfl) (okp rfl) (okp rfl) rfl rfl ?_
  obtain ⟨a29, ea29, h⟩ := nm_s h
  obtain ⟨M30, eM30, h⟩ := nm_s h
  rw [← ea29, ← eM30]
  obtain ⟨M31, hM31, h⟩ := bnd h
  refine e_putR d_Mo_init_91 fl_Mo_47 (Or.inr ⟨rfl, _, rfl, rfl⟩) (fun _ _ _ => rfl) (fun _ => ⟨rfl, rfl⟩) hM31 ?_
  refine e_aload_n d_Mo_init_94 rfl ?_
  refine e_bipush (v := 14) d_Mo_init_95 (by decide) ?_
  refine e_newaN (kd := 103) (len := 14) (ty := .long) (k2 := 11) (n2 := 19976) d_Mo_init_97 rfl ac_long (by decide) (by decide) (by decide) (okp rfl) (okp rfl) (okp rfl) rfl rfl ?_
  obtain ⟨a32, ea32, h⟩ := nm_s h
  obtain ⟨M33, eM33, h⟩ := nm_s h
  rw [← ea32, ← eM33]
  obtain ⟨M34, hM34, h⟩ := bnd h
  refine e_putR d_Mo_init_99 fl_Mo_50 (Or.inr ⟨rfl, _, rfl, rfl⟩) (fun _ _ _ => rfl) (fun _ => ⟨rfl, rfl⟩) hM34 ?_
  refine e_aload_n d_Mo_init_102 rfl ?_
  refine e_bipush (v := 14) d_Mo_init_103 (by decide) ?_
  refine e_newaN (kd := 100) (len := 14) (ty := .int) (k2 := 12) (n2 := 19990) d_Mo_init_105 rfl ac_int (by decide) (by decide) (by decide) (okp rfl) (okp rfl) (okp rfl) rfl rfl ?_
  obtain ⟨a35, ea35, h⟩ := nm_s h
  obtain ⟨M36, eM36, h⟩ := nm_s h
  rw [← ea35, ← eM36]
  obtain ⟨M37, hM37, h⟩ := bnd h
  refine e_putR d_Mo_init_107 fl_Mo_53 (Or.inr ⟨rfl, _, rfl, rfl⟩) (fun _ _ _ => rfl) (fun _ => ⟨rfl, rfl⟩) hM37 ?_
  refine e_aload_n d_Mo_init_110 rfl ?_
  refine e_bipush (v := 14) d_Mo_init_111 (by decide) ?_
  refine e_newaN (kd := 102) (len := 14) (ty := .boolean) (k2 := 13) (n2 := 20004) d_Mo_init_113 rfl ac_boolean (by decide) (by decide) (by decide) (okp rfl) (okp rfl) (okp rfl) rfl rfl ?_
  obtain ⟨a38, ea38, h⟩ := nm_s h
  obtain ⟨M39, eM39, h⟩ := nm_s h
  rw [← ea38, ← eM39]
  obtain ⟨M40, hM40, h⟩ := bnd h
  refine e_putR d_Mo_init_115 fl_Mo_56 (Or.inr ⟨rfl, _, rfl, rfl⟩) (fun _ _ _ => rfl) (fun _ => ⟨rfl, rfl⟩) hM40 ?_
  refine e_aload_n d_Mo_init_118 rfl ?_
  refine e_bipush (v := 14) d_Mo_init_119 (by decide) ?_
  refine e_newaN (kd := 100) (len := 14) (ty := .int) (k2 := 14) (n2 := 20018) d_Mo_init_121 rfl ac_int (by decide) (by decide) (by decide) (okp rfl) (okp rfl) (okp rfl) rfl rfl ?_
  obtain ⟨a41, ea41, h⟩ := nm_s h
  obtain ⟨M42, eM42, h⟩ := nm_s h
  rw [← ea41, ← eM42]
  obtain ⟨M43, hM43, h⟩ := bnd h
  refine e_putR d_Mo_init_123 fl_Mo_59 (Or.inr ⟨rfl, _, rfl, rfl⟩) (fun _ _ _ => rfl) (fun _ => ⟨rfl, rfl⟩) hM43 ?_
  refine e_aload_n d_Mo_init_126 rfl ?_
  refine e_bipush (v := 15) d_Mo_init_127 (by decide) ?_
  refine e_newaN (kd := 100) (len := 15) (ty := .int) (k2 := 15) (n2 := 20033) d_Mo_init_129 rfl ac_int (by decide) (by decide) (by decide) (okp rfl) (okp rfl) (okp rfl) rfl rfl ?_
  obtain ⟨a44, ea44, h⟩ := nm_s h
  obtain ⟨M45, eM45, h⟩ := nm_s h
  rw [← ea44, ← eM45]
  obtain ⟨M46, hM46, h⟩ := bnd h
  refine e_putR d_Mo_init_131 fl_Mo_62 (Or.inr ⟨rfl, _, rfl, rfl⟩) (fun _ _ _ => rfl) (fun _ => ⟨rfl, rfl⟩) hM46 ?_
  refine e_aload_n d_Mo_init_134 rfl ?_
  refine e_sipush (v := 500) d_Mo_init_135 (by decide) ?_
  refine e_newaN (kd := 100) (len := 500) (ty := .int) (k2 := 16) (n2 := 20533) d_Mo_init_138 rfl ac_int (by decide) (by decide) (by decide) (okp rfl) (okp rfl) (okp rfl) rfl rfl ?_
  obtain ⟨a47, ea47, h⟩ := nm_s h
  obtain ⟨M48, eM48, h⟩ := nm_s h
  rw [← ea47, ← eM48]
  obtain ⟨M49, hM49, h⟩ := bnd h
  refine e_putR d_Mo_init_140 fl_Mo_65 (Or.inr ⟨rfl, _, rfl, rfl⟩) (fun _ _ _ => rfl) (fun _ => ⟨rfl, rfl⟩) hM49 ?_
  refine e_aload_n d_Mo_init_143 rfl ?_
  refine e_sipush (v := 500) d_Mo_init_144 (by decide) ?_
  refine e_newaN (kd := 100) (len := 500) (ty := .int) (k2 := 17) (n2 := 21033) d_Mo_init_147 rfl ac_int (by decide) (by decide) (by decide) (okp rfl) (okp rfl) (okp rfl) rfl rfl ?_
  obtain ⟨a50, ea50, h⟩ := nm_s h
  obtain ⟨M51, eM51, h⟩ := nm_s h
  rw [← ea50, ← eM51]
  obtain ⟨M52, hM52, h⟩ := bnd h
  refine e_putR d_Mo_init_149 fl_Mo_68 (Or.inr ⟨rfl, _, rfl, rfl⟩) (fun _ _ _ => rfl) (fun _ => ⟨rfl, rfl⟩) hM52 ?_
  refine e_aload_n d_Mo_init_152 rfl ?_
  refine e_sipush (v := 500) d_Mo_init_153 (by decide) ?_
  refine e_newaN (kd := 100) (len := 500) (ty := .int) (k2 := 18) (n2 := 21533) d_Mo_init_156 rfl ac_int (by decide) (by decide) (by decide) (okp rfl) (okp rfl) (okp rfl) rfl rfl ?_
  obtain ⟨a53, ea53, h⟩ := nm_s h
  obtain ⟨M54, eM54, h⟩ := nm_s h
  rw [← ea53, ← eM54]
  obtain ⟨M55, hM55, h⟩ := bnd h
  refine e_putR d_Mo_init_158 fl_Mo_71 (Or.inr ⟨rfl, _, rfl, rfl⟩) (fun _ _ _ => rfl) (fun _ => ⟨rfl, rfl⟩) hM55 ?_
  refine e_aload_n d_Mo_init_161 rfl ?_
  refine e_sipush (v := 500) d_Mo_init_162 (by decide) ?_
  refine e_newaN (kd := 100) (len := 500) (ty := .int) (k2 := 19) (n2 := 22033) d_Mo_init_165 rfl ac_int (by decide) (by decide) (by decide) (okp rfl) (okp rfl) (okp rfl) rfl rfl ?_
  obtain ⟨a56, ea56, h⟩ := nm_s h
  obtain ⟨M57, eM57, h⟩ := nm_s h
  rw [← ea56, ← eM57]
  obtain ⟨M58, hM58, h⟩ := bnd h
  refine e_putR d_Mo_init_167 fl_Mo_74 (Or.inr ⟨rfl, _, rfl, rfl⟩) (fun _ _ _ => rfl) (fun _ => ⟨rfl, rfl⟩) hM58 ?_
  refine e_aload_n d_Mo_init_170 rfl ?_
  refine e_sipush (v := 500) d_Mo_init_171 (by decide) ?_
  refine e_newaN (kd := 100) (len := 500) (ty := .int) (k2 := 20) (n2 := 22533) d_Mo_init_174 rfl ac_int (by decide) (by decide) (by decide) (okp rfl) (okp rfl) (okp rfl) rfl rfl ?_
  obtain ⟨a59, ea59, h⟩ := nm_s h
  obtain ⟨M60, eM60, h⟩ := nm_s h
  rw [← ea59, ← eM60]
  obtain ⟨M61, hM61, h⟩ := bnd h
  refine e_putR d_Mo_init_176 fl_Mo_77 (Or.inr ⟨rfl, _, rfl, rfl⟩) (fun _ _ _ => rfl) (fun _ => ⟨rfl, rfl⟩) hM61 ?_
  refine e_aload_n d_Mo_init_179 rfl ?_
  refine e_sipush (v := 500) d_Mo_init_180 (by decide) ?_
  refine e_newaN (kd := 100) (len := 500) (ty := .int) (k2 := 21) (n2 := 23033) d_Mo_init_183 rfl ac_int (by decide) (by decide) (by decide) (okp rfl) (okp rfl) (okp rfl) rfl rfl ?_
  obtain ⟨a62, ea62, h⟩ := nm_s h
  obtain ⟨M63, eM63, h⟩ := nm_s h
  rw [← ea62, ← eM63]
  obtain ⟨M64, hM64, h⟩ := bnd h
  refine e_putR d_Mo_init_185 fl_Mo_80 (Or.inr ⟨rfl, _, rfl, rfl⟩) (fun _ _ _ => rfl) (fun _ => ⟨rfl, rfl⟩) hM64 ?_
  refine e_aload_n d_Mo_init_188 rfl ?_
  refine e_sipush (v := 420) d_Mo_init_189 (by decide) ?_
  refine e_newaN (kd := 100) (len := 420) (ty := .int) (k2 := 22) (n2 := 23453) d_Mo_init_192 rfl ac_int (by decide) (by decide) (by decide) (okp rfl) (okp rfl) (okp rfl) rfl rfl ?_
  obtain ⟨a65, ea65, h⟩ := nm_s h
  obtain ⟨M66, eM66, h⟩ := nm_s h
  rw [← ea65, ← eM66]
  obtain ⟨M67, hM67, h⟩ := bnd h
  refine e_putR d_Mo_init_194 fl_Mo_83 (Or.inr ⟨rfl, _, rfl, rfl⟩) (fun _ _ _ => rfl) (fun _ => ⟨rfl, rfl⟩) hM67 ?_
  refine e_aload_n d_Mo_init_197 rfl ?_
  refine e_sipush (v := 420) d_Mo_init_198 (by decide) ?_
  refine e_newaN (kd := 100) (len := 420) (ty := .int) (k2 := 23) (n2 := 23873) d_Mo_init_201 rfl ac_int (by decide) (by decide) (by decide) (okp rfl) (okp rfl) (okp rfl) rfl rfl ?_
  obtain ⟨a68, ea68, h⟩ := nm_s h
  obtain ⟨M69, eM69, h⟩ := nm_s h
  rw [← ea68, ← eM69]
  obtain ⟨M70, hM70, h⟩ := bnd h
  refine e_putR d_Mo_init_203 fl_Mo_86 (Or.inr ⟨rfl, _, rfl, rfl⟩) (fun _ _ _ => rfl) (fun _ => ⟨rfl, rfl⟩) hM70 ?_
  refine e_aload_n d_Mo_init_206 rfl ?_
  refine e_sipush (v := 420) d_Mo_init_207 (by decide) ?_
  refine e_newaN (kd := 100) (len := 420) (ty := .int) (k2 := 24) (n2 := 24293) d_Mo_init_210 rfl ac_int (by decide) (by decide) (by decide) (okp rfl) (okp rfl) (okp rfl) rfl rfl ?_
  obtain ⟨a71, ea71, h⟩ := nm_s h
  obtain ⟨M72, eM72, h⟩ := nm_s h
  rw [← ea71, ← eM72]
  obtain ⟨M73, hM73, h⟩ := bnd h
  refine e_putR d_Mo_init_212 fl_Mo_89 (Or.inr ⟨rfl, _, rfl, rfl⟩) (fun _ _ _ => rfl) (fun _ => ⟨rfl, rfl⟩) hM73 ?_
  refine e_aload_n d_Mo_init_215 rfl ?_
  refine e_sipush (v := 420) d_Mo_init_216 (by decide) ?_
  refine e_newaN (kd := 100) (len := 420) (ty := .int) (k2 := 25) (n2 := 24713) d_Mo_init_219 rfl ac_int (by decide) (by decide) (by decide) (okp rfl) (okp rfl) (okp rfl) rfl rfl ?_
  obtain ⟨a74, ea74, h⟩ := nm_s h
  obtain ⟨M75, eM75, h⟩ := nm_s h
  rw [← ea74, ← eM75]
  obtain ⟨M76, hM76, h⟩ := bnd h
  refine e_putR d_Mo_init_221 fl_Mo_92 (Or.inr ⟨rfl, _, rfl, rfl⟩) (fun _ _ _ => rfl) (fun _ => ⟨rfl, rfl⟩) hM76 ?_
  refine e_aload_n d_Mo_init_224 rfl ?_
  refine e_sipush (v := 256) d_Mo_init_225 (by decide) ?_
  refine e_newaN (kd := 100) (len := 256) (ty := .int) (k2 := 26) (n2 := 24969) d_Mo_init_228 rfl ac_int (by decide) (by decide) (by decide) (okp rfl) (okp rfl) (okp rfl) rfl rfl ?_
  obtain ⟨a77, ea77, h⟩ := nm_s h
  obtain ⟨M78, eM78, h⟩ := nm_s h
  rw [← ea77, ← eM78]
  obtain ⟨M79, hM79, h⟩ := bnd h
  refine e_putR d_Mo_init_230 fl_Mo_95 (Or.inr ⟨rfl, _, rfl, rfl⟩) (fun _ _ _ => rfl) (fun _ => ⟨rfl, rfl⟩) hM79 ?_
  refine e_aload_n d_Mo_init_233 rfl ?_
  refine e_sipush (v := 256) d_Mo_init_234 (by decide) ?_
  refine e_newaN (kd := 102) (len := 256) (ty := .boolean) (k2 := 27) (n2 := 25225) d_Mo_init_237 rfl ac_boolean (by decide) (by decide) (by decide) (okp rfl) (okp rfl) (okp rfl) rfl rfl ?_
  obtain ⟨a80, ea80, h⟩ := nm_s h
  obtain ⟨M81, eM81, h⟩ := nm_s h
  rw [← ea80, ← eM81]
  obtain ⟨M82, hM82, h⟩ := bnd h
  refine e_putR d_Mo_init_239 fl_Mo_98 (Or.inr ⟨rfl, _, rfl, rfl⟩) (fun _ _ _ => rfl) (fun _ => ⟨rfl, rfl⟩) hM82 ?_
  refine e_aload_n d_Mo_init_242 rfl ?_
  refine e_bipush (v := 8) d_Mo_init_243 (by decide) ?_
  refine e_newaN (kd := 102) (len := 8) (ty := .boolean) (k2 := 28) (n2 := 25233) d_Mo_init_245 rfl ac_boolean (by decide) (by decide) (by decide) (okp rfl) (okp rfl) (okp rfl) rfl rfl ?_
  obtain ⟨a83, ea83, h⟩ := nm_s h
  obtain ⟨M84, eM84, h⟩ := nm_s h
  rw [← ea83, ← eM84]
  obtain ⟨M85, hM85, h⟩ := bnd h
  refine e_putR d_Mo_init_247 fl_Mo_101 (Or.inr ⟨rfl, _, rfl, rfl⟩) (fun _ _ _ => rfl) (fun _ => ⟨rfl, rfl⟩) hM85 ?_
  refine e_aload_n d_Mo_init_250 rfl ?_
  refine e_bipush (v := 64) d_Mo_init_251 (by decide) ?_
  refine e_newaN (kd := 100) (len := 64) (ty := .int) (k2 := 29) (n2 := 25297) d_Mo_init_253 rfl ac_int (by decide) (by decide) (by decide) (okp rfl) (okp rfl) (okp rfl) rfl rfl ?_
  obtain ⟨a86, ea86, h⟩ := nm_s h
  obtain ⟨M87, eM87, h⟩ := nm_s h
  rw [← ea86, ← eM87]
  obtain ⟨M88, hM88, h⟩ := bnd h
  refine e_putR d_Mo_init_255 fl_Mo_104 (Or.inr ⟨rfl, _, rfl, rfl⟩) (fun _ _ _ => rfl) (fun _ => ⟨rfl, rfl⟩) hM88 ?_
  refine e_aload_n d_Mo_init_258 rfl ?_
  refine e_sipush (v := 16384) d_Mo_init_259 (by decide) ?_
  refine e_newaN (kd := 100) (len := 16384) (ty := .int) (k2 := 30) (n2 := 41681) d_Mo_init_262 rfl ac_int (by decide) (by decide) (by decide) (okp rfl) (okp rfl) (okp rfl) rfl rfl ?_
  obtain ⟨a89, ea89, h⟩ := nm_s h
  obtain ⟨M90, eM90, h⟩ := nm_s h
  rw [← ea89, ← eM90]
  obtain ⟨M91, hM91, h⟩ := bnd h
  refine e_putR d_Mo_init_264 fl_Mo_107 (Or.inr ⟨rfl, _, rfl, rfl⟩) (fun _ _ _ => rfl) (fun _ => ⟨rfl, rfl⟩) hM91 ?_
  refine e_aload_n d_Mo_init_267 rfl ?_
  refine e_bipush (v := 64) d_Mo_init_268 (by decide) ?_
  refine e_newaN (kd := 102) (len := 64) (ty := .boolean) (k2 := 31) (n2 := 41745) d_Mo_init_270 rfl ac_boolean (by decide) (by decide) (by decide) (okp rfl) (okp rfl) (okp rfl) rfl rfl ?_
  obtain ⟨a92, ea92, h⟩ := nm_s h
  obtain ⟨M93, eM93, h⟩ := nm_s h
  rw [← ea92, ← eM93]
  obtain ⟨M94, hM94, h⟩ := bnd h
  refine e_putR d_Mo_init_272 fl_Mo_110 (Or.inr ⟨rfl, _, rfl, rfl⟩) (fun _ _ _ => rfl) (fun _ => ⟨rfl, rfl⟩) hM94 ?_
  refine e_aload_n d_Mo_init_275 rfl ?_
  refine e_sipush (v := 256) d_Mo_init_276 (by decide) ?_
  refine e_newaN (kd := 102) (len := 256) (ty := .boolean) (k2 := 32) (n2 := 42001) d_Mo_init_279 rfl ac_boolean (by decide) (by decide) (by decide) (okp rfl) (okp rfl) (okp rfl) rfl rfl ?_
  obtain ⟨a95, ea95, h⟩ := nm_s h
  obtain ⟨M96, eM96, h⟩ := nm_s h
  rw [← ea95, ← eM96]
  obtain ⟨M97, hM97, h⟩ := bnd h
  refine e_putR d_Mo_init_281 fl_Mo_113 (Or.inr ⟨rfl, _, rfl, rfl⟩) (fun _ _ _ => rfl) (fun _ => ⟨rfl, rfl⟩) hM97 ?_
  refine e_aload_n d_Mo_init_284 rfl ?_
  refine e_bipush (v := 9) d_Mo_init_285 (by decide) ?_
  refine e_newaN (kd := 100) (len := 9) (ty := .int) (k2 := 33) (n2 := 42010) d_Mo_init_287 rfl ac_int (by decide) (by decide) (by decide) (okp rfl) (okp rfl) (okp rfl) rfl rfl ?_
  obtain ⟨a98, ea98, h⟩ := nm_s h
  obtain ⟨M99, eM99, h⟩ := nm_s h
  rw [← ea98, ← eM99]
  obtain ⟨M100, hM100, h⟩ := bnd h
  refine e_putR d_Mo_init_289 fl_Mo_116 (Or.inr ⟨rfl, _, rfl, rfl⟩) (fun _ _ _ => rfl) (fun _ => ⟨rfl, rfl⟩) hM100 ?_
  refine e_aload_n d_Mo_init_292 rfl ?_
  refine e_bipush (v := 9) d_Mo_init_293 (by decide) ?_
  refine e_newaN (kd := 100) (len := 9) (ty := .int) (k2 := 34) (n2 := 42019) d_Mo_init_295 rfl ac_int (by decide) (by decide) (by decide) (okp rfl) (okp rfl) (okp rfl) rfl rfl ?_
  obtain ⟨a101, ea101, h⟩ := nm_s h
  obtain ⟨M102, eM102, h⟩ := nm_s h
  rw [← ea101, ← eM102]
  obtain ⟨M103, hM103, h⟩ := bnd h
  refine e_putR d_Mo_init_297 fl_Mo_119 (Or.inr ⟨rfl, _, rfl, rfl⟩) (fun _ _ _ => rfl) (fun _ => ⟨rfl, rfl⟩) hM103 ?_
  refine e_aload_n d_Mo_init_300 rfl ?_
  refine e_bipush (v := 9) d_Mo_init_301 (by decide) ?_
  refine e_newaN (kd := 100) (len := 9) (ty := .int) (k2 := 35) (n2 := 42028) d_Mo_init_303 rfl ac_int (by decide) (by decide) (by decide) (okp rfl) (okp rfl) (okp rfl) rfl rfl ?_
  obtain ⟨a104, ea104, h⟩ := nm_s h
  obtain ⟨M105, eM105, h⟩ := nm_s h
  rw [← ea104, ← eM105]
  obtain ⟨M106, hM106, h⟩ := bnd h
  refine e_putR d_Mo_init_305 fl_Mo_122 (Or.inr ⟨rfl, _, rfl, rfl⟩) (fun _ _ _ => rfl) (fun _ => ⟨rfl, rfl⟩) hM106 ?_
  refine e_aload_n d_Mo_init_308 rfl ?_
  refine e_bipush (v := 9) d_Mo_init_309 (by decide) ?_
  refine e_newaN (kd := 100) (len := 9) (ty := .int) (k2 := 36) (n2 := 42037) d_Mo_init_311 rfl ac_int (by decide) (by decide) (by decide) (okp rfl) (okp rfl) (okp rfl) rfl rfl ?_
  obtain ⟨a107, ea107, h⟩ := nm_s h
  obtain ⟨M108, eM108, h⟩ := nm_s h
  rw [← ea107, ← eM108]
  obtain ⟨M109, hM109, h⟩ := bnd h
  refine e_putR d_Mo_init_313 fl_Mo_125 (Or.inr ⟨rfl, _, rfl, rfl⟩) (fun _ _ _ => rfl) (fun _ => ⟨rfl, rfl⟩) hM109 ?_
  refine e_aload_n d_Mo_init_316 rfl ?_
  refine e_bipush (v := 8) d_Mo_init_317 (by decide) ?_
  refine e_newaN (kd := 100) (len := 8) (ty := .int) (k2 := 37) (n2 := 42045) d_Mo_init_319 rfl ac_int (by decide) (by decide) (by decide) (okp rfl) (okp rfl) (okp rfl) rfl rfl ?_
  obtain ⟨a110, ea110, h⟩ := nm_s h
  obtain ⟨M111, eM111, h⟩ := nm_s h
  rw [← ea110, ← eM111]
  obtain ⟨M112, hM112, h⟩ := bnd h
  refine e_putR d_Mo_init_321 fl_Mo_128 (Or.inr ⟨rfl, _, rfl, rfl⟩) (fun _ _ _ => rfl) (fun _ => ⟨rfl, rfl⟩) hM112 ?_
  refine e_aload_n d_Mo_init_324 rfl ?_
  refine e_bipush (v := 8) d_Mo_init_325 (by decide) ?_
  refine e_newaN (kd := 100) (len := 8) (ty := .int) (k2 := 38) (n2 := 42053) d_Mo_init_327 rfl ac_int (by decide) (by decide) (by decide) (okp rfl) (okp rfl) (okp rfl) rfl rfl ?_
  obtain ⟨a113, ea113, h⟩ := nm_s h
  obtain ⟨M114, eM114, h⟩ := nm_s h
  rw [← ea113, ← eM114]
  obtain ⟨M115, hM115, h⟩ := bnd h
  refine e_putR d_Mo_init_329 fl_Mo_131 (Or.inr ⟨rfl, _, rfl, rfl⟩) (fun _ _ _ => rfl) (fun _ => ⟨rfl, rfl⟩) hM115 ?_
  refine e_aload_n d_Mo_init_332 rfl ?_
  refine e_bipush (v := 8) d_Mo_init_333 (by decide) ?_
  refine e_newaN (kd := 100) (len := 8) (ty := .int) (k2 := 39) (n2 := 42061) d_Mo_init_335 rfl ac_int (by decide) (by decide) (by decide) (okp rfl) (okp rfl) (okp rfl) rfl rfl ?_
  obtain ⟨a116, ea116, h⟩ := nm_s h
  obtain ⟨M117, eM117, h⟩ := nm_s h
  rw [← ea116, ← eM117]
  obtain ⟨M118, hM118, h⟩ := bnd h
  refine e_putR d_Mo_init_337 fl_Mo_134 (Or.inr ⟨rfl, _, rfl, rfl⟩) (fun _ _ _ => rfl) (fun _ => ⟨rfl, rfl⟩) hM118 ?_
  refine e_aload_n d_Mo_init_340 rfl ?_
  refine e_bipush (v := 8) d_Mo_init_341 (by decide) ?_
  refine e_newaN (kd := 100) (len := 8) (ty := .int) (k2 := 40) (n2 := 42069) d_Mo_init_343 rfl ac_int (by decide) (by decide) (by decide) (okp rfl) (okp rfl) (okp rfl) rfl rfl ?_
  obtain ⟨a119, ea119, h⟩ := nm_s h
  obtain ⟨M120, eM120, h⟩ := nm_s h
  rw [← ea119, ← eM120]
  obtain ⟨M121, hM121, h⟩ := bnd h
  refine e_putR d_Mo_init_345 fl_Mo_137 (Or.inr ⟨rfl, _, rfl, rfl⟩) (fun _ _ _ => rfl) (fun _ => ⟨rfl, rfl⟩) hM121 ?_
  refine e_aload_n d_Mo_init_348 rfl ?_
  refine e_bipush (v := 8) d_Mo_init_349 (by decide) ?_
  refine e_newaN (kd := 100) (len := 8) (ty := .int) (k2 := 41) (n2 := 42077) d_Mo_init_351 rfl ac_int (by decide) (by decide) (by decide) (okp rfl) (okp rfl) (okp rfl) rfl rfl ?_
  obtain ⟨a122, ea122, h⟩ := nm_s h
  obtain ⟨M123, eM123, h⟩ := nm_s h
  rw [← ea122, ← eM123]
  obtain ⟨M124, hM124, h⟩ := bnd h
  refine e_putR d_Mo_init_353 fl_Mo_140 (Or.inr ⟨rfl, _, rfl, rfl⟩) (fun _ _ _ => rfl) (fun _ => ⟨rfl, rfl⟩) hM124 ?_
  refine e_aload_n d_Mo_init_356 rfl ?_
  refine e_bipush (v := 8) d_Mo_init_357 (by decide) ?_
  refine e_newaN (kd := 100) (len := 8) (ty := .int) (k2 := 42) (n2 := 42085) d_Mo_init_359 rfl ac_int (by decide) (by decide) (by decide) (okp rfl) (okp rfl) (okp rfl) rfl rfl ?_
  obtain ⟨a125, ea125, h⟩ := nm_s h
  obtain ⟨M126, eM126, h⟩ := nm_s h
  rw [← ea125, ← eM126]
  obtain ⟨M127, hM127, h⟩ := bnd h
  refine e_putR d_Mo_init_361 fl_Mo_143 (Or.inr ⟨rfl, _, rfl, rfl⟩) (fun _ _ _ => rfl) (fun _ => ⟨rfl, rfl⟩) hM127 ?_
  refine e_aload_n d_Mo_init_364 rfl ?_
  refine e_bipush (v := 8) d_Mo_init_365 (by decide) ?_
  refine e_newaN (kd := 100) (len := 8) (ty := .int) (k2 := 43) (n2 := 42093) d_Mo_init_367 rfl ac_int (by decide) (by decide) (by decide) (okp rfl) (okp rfl) (okp rfl) rfl rfl ?_
  obtain ⟨a128, ea128, h⟩ := nm_s h
  obtain ⟨M129, eM129, h⟩ := nm_s h
  rw [← ea128, ← eM129]
  obtain ⟨M130, hM130, h⟩ := bnd h
  refine e_putR d_Mo_init_369 fl_Mo_146 (Or.inr ⟨rfl, _, rfl, rfl⟩) (fun _ _ _ => rfl) (fun _ => ⟨rfl, rfl⟩) hM130 ?_
  refine e_aload_n d_Mo_init_372 rfl ?_
  refine e_sipush (v := 2048) d_Mo_init_373 (by decide) ?_
  refine e_newaN (kd := 102) (len := 2048) (ty := .boolean) (k2 := 44) (n2 := 44141) d_Mo_init_376 rfl ac_boolean (by decide) (by decide) (by decide) (okp rfl) (okp rfl) (okp rfl) rfl rfl ?_
  obtain ⟨a131, ea131, h⟩ := nm_s h
  obtain ⟨M132, eM132, h⟩ := nm_s h
  rw [← ea131, ← eM132]
  obtain ⟨M133, hM133, h⟩ := bnd h
  refine e_putR d_Mo_init_378 fl_Mo_149 (Or.inr ⟨rfl, _, rfl, rfl⟩) (fun _ _ _ => rfl) (fun _ => ⟨rfl, rfl⟩) hM133 ?_
  refine e_aload_n d_Mo_init_381 rfl ?_
  refine e_bipush (v := 60) d_Mo_init_382 (by decide) ?_
  refine e_newaN (kd := 100) (len := 60) (ty := .int) (k2 := 45) (n2 := 44201) d_Mo_init_384 rfl ac_int (by decide) (by decide) (by decide) (okp rfl) (okp rfl) (okp rfl) rfl rfl ?_
  obtain ⟨a134, ea134, h⟩ := nm_s h
  obtain ⟨M135, eM135, h⟩ := nm_s h
  rw [← ea134, ← eM135]
  obtain ⟨M136, hM136, h⟩ := bnd h
  refine e_putR d_Mo_init_386 fl_Mo_152 (Or.inr ⟨rfl, _, rfl, rfl⟩) (fun _ _ _ => rfl) (fun _ => ⟨rfl, rfl⟩) hM136 ?_
  refine e_aload_n d_Mo_init_389 rfl ?_
  refine e_bipush (v := 60) d_Mo_init_390 (by decide) ?_
  refine e_newaN (kd := 100) (len := 60) (ty := .int) (k2 := 46) (n2 := 44261) d_Mo_init_392 rfl ac_int (by decide) (by decide) (by decide) (okp rfl) (okp rfl) (okp rfl) rfl rfl ?_
  obtain ⟨a137, ea137, h⟩ := nm_s h
  obtain ⟨M138, eM138, h⟩ := nm_s h
  rw [← ea137, ← eM138]
  obtain ⟨M139, hM139, h⟩ := bnd h
  refine e_putR d_Mo_init_394 fl_Mo_155 (Or.inr ⟨rfl, _, rfl, rfl⟩) (fun _ _ _ => rfl) (fun _ => ⟨rfl, rfl⟩) hM139 ?_
  refine e_aload_n d_Mo_init_397 rfl ?_
  refine e_bipush (v := 60) d_Mo_init_398 (by decide) ?_
  refine e_newaN (kd := 100) (len := 60) (ty := .int) (k2 := 47) (n2 := 44321) d_Mo_init_400 rfl ac_int (by decide) (by decide) (by decide) (okp rfl) (okp rfl) (okp rfl) rfl rfl ?_
  obtain ⟨a140, ea140, h⟩ := nm_s h
  obtain ⟨M141, eM141, h⟩ := nm_s h
  rw [← ea140, ← eM141]
  obtain ⟨M142, hM142, h⟩ := bnd h
  refine e_putR d_Mo_init_402 fl_Mo_158 (Or.inr ⟨rfl, _, rfl, rfl⟩) (fun _ _ _ => rfl) (fun _ => ⟨rfl, rfl⟩) hM142 ?_
  refine e_aload_n d_Mo_init_405 rfl ?_
  refine e_bipush (v := 60) d_Mo_init_406 (by decide) ?_
  refine e_newaN (kd := 100) (len := 60) (ty := .int) (k2 := 48) (n2 := 44381) d_Mo_init_408 rfl ac_int (by decide) (by decide) (by decide) (okp rfl) (okp rfl) (okp rfl) rfl rfl ?_
  obtain ⟨a143, ea143, h⟩ := nm_s h
  obtain ⟨M144, eM144, h⟩ := nm_s h
  rw [← ea143, ← eM144]
  obtain ⟨M145, hM145, h⟩ := bnd h
  refine e_putR d_Mo_init_410 fl_Mo_161 (Or.inr ⟨rfl, _, rfl, rfl⟩) (fun _ _ _ => rfl) (fun _ => ⟨rfl, rfl⟩) hM145 ?_
  refine e_aload_n d_Mo_init_413 rfl ?_
  refine e_bipush (v := 60) d_Mo_init_414 (by decide) ?_
  refine e_newaN (kd := 100) (len := 60) (ty := .int) (k2 := 49) (n2 := 44441) d_Mo_init_416 rfl ac_int (by decide) (by decide) (by decide) (okp rfl) (okp rfl) (okp rfl) rfl rfl ?_
  obtain ⟨a146, ea146, h⟩ := nm_s h
  obtain ⟨M147, eM147, h⟩ := nm_s h
  rw [← ea146, ← eM147]
  obtain ⟨M148, hM148, h⟩ := bnd h
  refine e_putR d_Mo_init_418 fl_Mo_164 (Or.inr ⟨rfl, _, rfl, rfl⟩) (fun _ _ _ => rfl) (fun _ => ⟨rfl, rfl⟩) hM148 ?_
  refine e_aload_n d_Mo_init_421 rfl ?_
  refine e_ldc (v := 122880) d_Mo_init_422 kc_Mo_167 ?_
  refine e_newaN (kd := 102) (len := 122880) (ty := .boolean) (k2 := 50) (n2 := 167321) d_Mo_init_424 rfl ac_boolean (by decide) (by decide) (by decide) (okp rfl) (okp rfl) (okp rfl) rfl rfl ?_
  obtain ⟨a149, ea149, h⟩ := nm_s h
  obtain ⟨M150, eM150, h⟩ := nm_s h
  rw [← ea149, ← eM150]
  obtain ⟨M151, hM151, h⟩ := bnd h
  refine e_putR d_Mo_init_426 fl_Mo_168 (Or.inr ⟨rfl, _, rfl, rfl⟩) (fun _ _ _ => rfl) (fun _ => ⟨rfl, rfl⟩) hM151 ?_
  refine e_aload_n d_Mo_init_429 rfl ?_
  obtain ⟨v152, hv152, h⟩ := bnd h
  refine e_getR d_Mo_init_430 fl_Mo_34 (fun _ _ _ => rfl) hv152 ?_
  refine e_iconst (v := 0) d_Mo_init_433 (by decide) ?_
  refine e_bipush (v := 98) d_Mo_init_434 (by decide) ?_
  refine e_bipush (v := 111) d_Mo_init_436 (by decide) ?_
  refine e_bipush (v := 97) d_Mo_init_438 (by decide) ?_
  refine e_bipush (v := 114) d_Mo_init_440 (by decide) ?_
  refine e_bipush (v := 100) d_Mo_init_442 (by decide) ?_
  refine e_iconst (v := 0) d_Mo_init_444 (by decide) ?_
  refine e_iconst (v := 0) d_Mo_init_445 (by decide) ?_
  obtain ⟨p153, hp153, h⟩ := bnd h
  refine e_cSl (mt1 := m_Mo_word) (As := [.int 98, .int 111, .int 97, .int 114, .int 100, .int 0, .int 0]) (st := [.int 0, .ref v152]) d_Mo_init_446 ml_Mo_171 ms_Mo_word (t_Mo_word n 98 111 97 114 100 0 0 M151 p153 hp153) rfl rfl (okp rfl) (okp rfl) (okp rfl) (okp rfl) (okp rfl) ?_
  obtain ⟨M154, hM154, h⟩ := bnd h
  refine e_last d_Mo_init_449 hM154 ?_
  refine e_aload_n d_Mo_init_450 rfl ?_
  obtain ⟨v155, hv155, h⟩ := bnd h
  refine e_getR d_Mo_init_451 fl_Mo_34 (fun _ _ _ => rfl) hv155 ?_
  refine e_iconst (v := 1) d_Mo_init_454 (by decide) ?_
  refine e_bipush (v := 111) d_Mo_init_455 (by decide) ?_
  refine e_bipush (v := 117) d_Mo_init_457 (by decide) ?_
  refine e_bipush (v := 116) d_Mo_init_459 (by decide) ?_
  refine e_bipush (v := 108) d_Mo_init_461 (by decide) ?_
  refine e_bipush (v := 105) d_Mo_init_463 (by decide) ?_
  refine e_bipush (v := 110) d_Mo_init_465 (by decide) ?_
  refine e_bipush (v := 101) d_Mo_init_467 (by decide) ?_
  obtain ⟨p156, hp156, h⟩ := bnd h
  refine e_cSl (mt1 := m_Mo_word) (As := [.int 111, .int 117, .int 116, .int 108, .int 105, .int 110, .int 101]) (st := [.int 1, .ref v155]) d_Mo_init_469 ml_Mo_171 ms_Mo_word (t_Mo_word n 111 117 116 108 105 110 101 M154 p156 hp156) rfl rfl (okp rfl) (okp rfl) (okp rfl) (okp rfl) (okp rfl) ?_
  obtain ⟨M157, hM157, h⟩ := bnd h
  refine e_last d_Mo_init_472 hM157 ?_
  refine e_aload_n d_Mo_init_473 rfl ?_
  obtain ⟨v158, hv158, h⟩ := bnd h
  refine e_getR d_Mo_init_474 fl_Mo_34 (fun _ _ _ => rfl) hv158 ?_
  refine e_iconst (v := 2) d_Mo_init_477 (by decide) ?_
  refine e_bipush (v := 116) d_Mo_init_478 (by decide) ?_
  refine e_bipush (v := 117) d_Mo_init_480 (by decide) ?_
  refine e_bipush (v := 114) d_Mo_init_482 (by decide) ?_
  refine e_bipush (v := 110) d_Mo_init_484 (by decide) ?_
  refine e_iconst (v := 0) d_Mo_init_486 (by decide) ?_
  refine e_iconst (v := 0) d_Mo_init_487 (by decide) ?_
  refine e_iconst (v := 0) d_Mo_init_488 (by decide) ?_
  obtain ⟨p159, hp159, h⟩ := bnd h
  refine e_cSl (mt1 := m_Mo_word) (As := [.int 116, .int 117, .int 114, .int 110, .int 0, .int 0, .int 0]) (st := [.int 2, .ref v158]) d_Mo_init_489 ml_Mo_171 ms_Mo_word (t_Mo_word n 116 117 114 110 0 0 0 M157 p159 hp159) rfl rfl (okp rfl) (okp rfl) (okp rfl) (okp rfl) (okp rfl) ?_
  obtain ⟨M160, hM160, h⟩ := bnd h
  refine e_last d_Mo_init_492 hM160 ?_
  refine e_aload_n d_Mo_init_493 rfl ?_
  obtain ⟨v161, hv161, h⟩ := bnd h
  refine e_getR d_Mo_init_494 fl_Mo_34 (fun _ _ _ => rfl) hv161 ?_
  refine e_iconst (v := 3) d_Mo_init_497 (by decide) ?_
  refine e_bipush (v := 102) d_Mo_init_498 (by decide) ?_
  refine e_bipush (v := 108) d_Mo_init_500 (by decide) ?_
  refine e_bipush (v := 105) d_Mo_init_502 (by decide) ?_
  refine e_bipush (v := 112) d_Mo_init_504 (by decide) ?_
  refine e_iconst (v := 0) d_Mo_init_506 (by decide) ?_
  refine e_iconst (v := 0) d_Mo_init_507 (by decide) ?_
  refine e_iconst (v := 0) d_Mo_init_508 (by decide) ?_
  obtain ⟨p162, hp162, h⟩ := bnd h
  refine e_cSl (mt1 := m_Mo_word) (As := [.int 102, .int 108, .int 105, .int 112, .int 0, .int 0, .int 0]) (st := [.int 3, .ref v161]) d_Mo_init_509 ml_Mo_171 ms_Mo_word (t_Mo_word n 102 108 105 112 0 0 0 M160 p162 hp162) rfl rfl (okp rfl) (okp rfl) (okp rfl) (okp rfl) (okp rfl) ?_
  obtain ⟨M163, hM163, h⟩ := bnd h
  refine e_last d_Mo_init_512 hM163 ?_
  refine e_aload_n d_Mo_init_513 rfl ?_
  obtain ⟨v164, hv164, h⟩ := bnd h
  refine e_getR d_Mo_init_514 fl_Mo_34 (fun _ _ _ => rfl) hv164 ?_
  refine e_iconst (v := 4) d_Mo_init_517 (by decide) ?_
  refine e_bipush (v := 98) d_Mo_init_518 (by decide) ?_
  refine e_bipush (v := 97) d_Mo_init_520 (by decide) ?_
  refine e_bipush (v := 115) d_Mo_init_522 (by decide) ?_
  refine e_bipush (v := 101) d_Mo_init_524 (by decide) ?_
  refine e_iconst (v := 0) d_Mo_init_526 (by decide) ?_
  refine e_iconst (v := 0) d_Mo_init_527 (by decide) ?_
  refine e_iconst (v := 0) d_Mo_init_528 (by decide) ?_
  obtain ⟨p165, hp165, h⟩ := bnd h
  refine e_cSl (mt1 := m_Mo_word) (As := [.int 98, .int 97, .int 115, .int 101, .int 0, .int 0, .int 0]) (st := [.int 4, .ref v164]) d_Mo_init_529 ml_Mo_171 ms_Mo_word (t_Mo_word n 98 97 115 101 0 0 0 M163 p165 hp165) rfl rfl (okp rfl) (okp rfl) (okp rfl) (okp rfl) (okp rfl) ?_
  obtain ⟨M166, hM166, h⟩ := bnd h
  refine e_last d_Mo_init_532 hM166 ?_
  refine e_aload_n d_Mo_init_533 rfl ?_
  obtain ⟨v167, hv167, h⟩ := bnd h
  refine e_getR d_Mo_init_534 fl_Mo_34 (fun _ _ _ => rfl) hv167 ?_
  refine e_iconst (v := 5) d_Mo_init_537 (by decide) ?_
  refine e_bipush (v := 115) d_Mo_init_538 (by decide) ?_
  refine e_bipush (v := 104) d_Mo_init_540 (by decide) ?_
  refine e_bipush (v := 105) d_Mo_init_542 (by decide) ?_
  refine e_bipush (v := 102) d_Mo_init_544 (by decide) ?_
  refine e_bipush (v := 116) d_Mo_init_546 (by decide) ?_
  refine e_iconst (v := 0) d_Mo_init_548 (by decide) ?_
  refine e_iconst (v := 0) d_Mo_init_549 (by decide) ?_
  obtain ⟨p168, hp168, h⟩ := bnd h
  refine e_cSl (mt1 := m_Mo_word) (As := [.int 115, .int 104, .int 105, .int 102, .int 116, .int 0, .int 0]) (st := [.int 5, .ref v167]) d_Mo_init_550 ml_Mo_171 ms_Mo_word (t_Mo_word n 115 104 105 102 116 0 0 M166 p168 hp168) rfl rfl (okp rfl) (okp rfl) (okp rfl) (okp rfl) (okp rfl) ?_
  obtain ⟨M169, hM169, h⟩ := bnd h
  refine e_last d_Mo_init_553 hM169 ?_
  refine e_aload_n d_Mo_init_554 rfl ?_
  obtain ⟨v170, hv170, h⟩ := bnd h
  refine e_getR d_Mo_init_555 fl_Mo_34 (fun _ _ _ => rfl) hv170 ?_
  refine e_bipush (v := 6) d_Mo_init_558 (by decide) ?_
  refine e_bipush (v := 99) d_Mo_init_560 (by decide) ?_
  refine e_bipush (v := 101) d_Mo_init_562 (by decide) ?_
  refine e_bipush (v := 108) d_Mo_init_564 (by decide) ?_
  refine e_bipush (v := 108) d_Mo_init_566 (by decide) ?_
  refine e_iconst (v := 0) d_Mo_init_568 (by decide) ?_
  refine e_iconst (v := 0) d_Mo_init_569 (by decide) ?_
  refine e_iconst (v := 0) d_Mo_init_570 (by decide) ?_
  obtain ⟨p171, hp171, h⟩ := bnd h
  refine e_cSl (mt1 := m_Mo_word) (As := [.int 99, .int 101, .int 108, .int 108, .int 0, .int 0, .int 0]) (st := [.int 6, .ref v170]) d_Mo_init_571 ml_Mo_171 ms_Mo_word (t_Mo_word n 99 101 108 108 0 0 0 M169 p171 hp171) rfl rfl (okp rfl) (okp rfl) (okp rfl) (okp rfl) (okp rfl) ?_
  obtain ⟨M172, hM172, h⟩ := bnd h
  refine e_last d_Mo_init_574 hM172 ?_
  refine e_aload_n d_Mo_init_575 rfl ?_
  obtain ⟨v173, hv173, h⟩ := bnd h
  refine e_getR d_Mo_init_576 fl_Mo_34 (fun _ _ _ => rfl) hv173 ?_
  refine e_bipush (v := 7) d_Mo_init_579 (by decide) ?_
  refine e_bipush (v := 98) d_Mo_init_581 (by decide) ?_
  refine e_bipush (v := 111) d_Mo_init_583 (by decide) ?_
  refine e_bipush (v := 120) d_Mo_init_585 (by decide) ?_
  refine e_iconst (v := 0) d_Mo_init_587 (by decide) ?_
  refine e_iconst (v := 0) d_Mo_init_588 (by decide) ?_
  refine e_iconst (v := 0) d_Mo_init_589 (by decide) ?_
  refine e_iconst (v := 0) d_Mo_init_590 (by decide) ?_
  obtain ⟨p174, hp174, h⟩ := bnd h
  refine e_cSl (mt1 := m_Mo_word) (As := [.int 98, .int 111, .int 120, .int 0, .int 0, .int 0, .int 0]) (st := [.int 7, .ref v173]) d_Mo_init_591 ml_Mo_171 ms_Mo_word (t_Mo_word n 98 111 120 0 0 0 0 M172 p174 hp174) rfl rfl (okp rfl) (okp rfl) (okp rfl) (okp rfl) (okp rfl) ?_
  obtain ⟨M175, hM175, h⟩ := bnd h
  refine e_last d_Mo_init_594 hM175 ?_
  refine e_aload_n d_Mo_init_595 rfl ?_
  obtain ⟨v176, hv176, h⟩ := bnd h
  refine e_getR d_Mo_init_596 fl_Mo_34 (fun _ _ _ => rfl) hv176 ?_
  refine e_bipush (v := 8) d_Mo_init_599 (by decide) ?_
  refine e_bipush (v := 104) d_Mo_init_601 (by decide) ?_
  refine e_bipush (v := 97) d_Mo_init_603 (by decide) ?_
  refine e_bipush (v := 108) d_Mo_init_605 (by decide) ?_
  refine e_bipush (v := 102) d_Mo_init_607 (by decide) ?_
  refine e_iconst (v := 0) d_Mo_init_609 (by decide) ?_
  refine e_iconst (v := 0) d_Mo_init_610 (by decide) ?_
  refine e_iconst (v := 0) d_Mo_init_611 (by decide) ?_
  obtain ⟨p177, hp177, h⟩ := bnd h
  refine e_cSl (mt1 := m_Mo_word) (As := [.int 104, .int 97, .int 108, .int 102, .int 0, .int 0, .int 0]) (st := [.int 8, .ref v176]) d_Mo_init_612 ml_Mo_171 ms_Mo_word (t_Mo_word n 104 97 108 102 0 0 0 M175 p177 hp177) rfl rfl (okp rfl) (okp rfl) (okp rfl) (okp rfl) (okp rfl) ?_
  obtain ⟨M178, hM178, h⟩ := bnd h
  refine e_last d_Mo_init_615 hM178 ?_
  refine e_aload_n d_Mo_init_616 rfl ?_
  obtain ⟨v179, hv179, h⟩ := bnd h
  refine e_getR d_Mo_init_617 fl_Mo_34 (fun _ _ _ => rfl) hv179 ?_
  refine e_bipush (v := 9) d_Mo_init_620 (by decide) ?_
  refine e_bipush (v := 113) d_Mo_init_622 (by decide) ?_
  refine e_bipush (v := 117) d_Mo_init_624 (by decide) ?_
  refine e_bipush (v := 97) d_Mo_init_626 (by decide) ?_
  refine e_bipush (v := 114) d_Mo_init_628 (by decide) ?_
  refine e_bipush (v := 116) d_Mo_init_630 (by decide) ?_
  refine e_bipush (v := 101) d_Mo_init_632 (by decide) ?_
  refine e_bipush (v := 114) d_Mo_init_634 (by decide) ?_
  obtain ⟨p180, hp180, h⟩ := bnd h
  refine e_cSl (mt1 := m_Mo_word) (As := [.int 113, .int 117, .int 97, .int 114, .int 116, .int 101, .int 114]) (st := [.int 9, .ref v179]) d_Mo_init_636 ml_Mo_171 ms_Mo_word (t_Mo_word n 113 117 97 114 116 101 114 M178 p180 hp180) rfl rfl (okp rfl) (okp rfl) (okp rfl) (okp rfl) (okp rfl) ?_
  obtain ⟨M181, hM181, h⟩ := bnd h
  refine e_last d_Mo_init_639 hM181 ?_
  refine e_iconst (v := 0) d_Mo_init_640 (by decide) ?_
  refine e_istore_n (l2 := [some (.ref x0), some (.int 0)]) d_Mo_init_641 rfl (okl rfl) rfl ?_
  refine e_iload_n d_Mo_init_642 rfl ?_
  refine e_bipush (v := 8) d_Mo_init_643 (by decide) ?_
  refine e_ic_ge 661 d_Mo_init_645 (by decide) (fun c9 => absurd c9 (by decide)) (fun _ => ?_)
  refine e_aload_n d_Mo_init_648 rfl ?_
  obtain ⟨v182, hv182, h⟩ := bnd h
  refine e_getR d_Mo_init_649 fl_Mo_146 (fun _ _ _ => rfl) hv182 ?_
  refine e_iload_n d_Mo_init_652 rfl ?_
  refine e_iconst (v := (-1)) d_Mo_init_653 (by decide) ?_
  obtain ⟨M183, hM183, h⟩ := bnd h
  refine e_iast d_Mo_init_654 hM183 ?_
  refine e_iinc (v := 1) (l2 := [some (.ref x0), some (.int 1)]) d_Mo_init_655 rfl (by decide) rfl (okl rfl) rfl ?_
  refine e_goto 642 d_Mo_init_658 (by decide) ?_
  refine e_iload_n d_Mo_init_642 rfl ?_
  refine e_bipush (v := 8) d_Mo_init_643 (by decide) ?_
  refine e_ic_ge 661 d_Mo_init_645 (by decide) (fun c9 => absurd c9 (by decide)) (fun _ => ?_)
  refine e_aload_n d_Mo_init_648 rfl ?_
  obtain ⟨v184, hv184, h⟩ := bnd h
  refine e_getR d_Mo_init_649 fl_Mo_146 (fun _ _ _ => rfl) hv184 ?_
  refine e_iload_n d_Mo_init_652 rfl ?_
  refine e_iconst (v := (-1)) d_Mo_init_653 (by decide) ?_
  obtain ⟨M185, hM185, h⟩ := bnd h
  refine e_iast d_Mo_init_654 hM185 ?_
  refine e_iinc (v := 2) (l2 := [some (.ref x0), some (.int 2)]) d_Mo_init_655 rfl (by decide) rfl (okl rfl) rfl ?_
  refine e_goto 642 d_Mo_init_658 (by decide) ?_
  refine e_iload_n d_Mo_init_642 rfl ?_
  refine e_bipush (v := 8) d_Mo_init_643 (by decide) ?_
  refine e_ic_ge 661 d_Mo_init_645 (by decide) (fun c9 => absurd c9 (by decide)) (fun _ => ?_)
  refine e_aload_n d_Mo_init_648 rfl ?_
  obtain ⟨v186, hv186, h⟩ := bnd h
  refine e_getR d_Mo_init_649 fl_Mo_146 (fun _ _ _ => rfl) hv186 ?_
  refine e_iload_n d_Mo_init_652 rfl ?_
  refine e_iconst (v := (-1)) d_Mo_init_653 (by decide) ?_
  obtain ⟨M187, hM187, h⟩ := bnd h
  refine e_iast d_Mo_init_654 hM187 ?_
  refine e_iinc (v := 3) (l2 := [some (.ref x0), some (.int 3)]) d_Mo_init_655 rfl (by decide) rfl (okl rfl) rfl ?_
  refine e_goto 642 d_Mo_init_658 (by decide) ?_
  refine e_iload_n d_Mo_init_642 rfl ?_
  refine e_bipush (v := 8) d_Mo_init_643 (by decide) ?_
  refine e_ic_ge 661 d_Mo_init_645 (by decide) (fun c9 => absurd c9 (by decide)) (fun _ => ?_)
  refine e_aload_n d_Mo_init_648 rfl ?_
  obtain ⟨v188, hv188, h⟩ := bnd h
  refine e_getR d_Mo_init_649 fl_Mo_146 (fun _ _ _ => rfl) hv188 ?_
  refine e_iload_n d_Mo_init_652 rfl ?_
  refine e_iconst (v := (-1)) d_Mo_init_653 (by decide) ?_
  obtain ⟨M189, hM189, h⟩ := bnd h
  refine e_iast d_Mo_init_654 hM189 ?_
  refine e_iinc (v := 4) (l2 := [some (.ref x0), some (.int 4)]) d_Mo_init_655 rfl (by decide) rfl (okl rfl) rfl ?_
  refine e_goto 642 d_Mo_init_658 (by decide) ?_
  refine e_iload_n d_Mo_init_642 rfl ?_
  refine e_bipush (v := 8) d_Mo_init_643 (by decide) ?_
  refine e_ic_ge 661 d_Mo_init_645 (by decide) (fun c9 => absurd c9 (by decide)) (fun _ => ?_)
  refine e_aload_n d_Mo_init_648 rfl ?_
  obtain ⟨v190, hv190, h⟩ := bnd h
  refine e_getR d_Mo_init_649 fl_Mo_146 (fun _ _ _ => rfl) hv190 ?_
  refine e_iload_n d_Mo_init_652 rfl ?_
  refine e_iconst (v := (-1)) d_Mo_init_653 (by decide) ?_
  obtain ⟨M191, hM191, h⟩ := bnd h
  refine e_iast d_Mo_init_654 hM191 ?_
  refine e_iinc (v := 5) (l2 := [some (.ref x0), some (.int 5)]) d_Mo_init_655 rfl (by decide) rfl (okl rfl) rfl ?_
  refine e_goto 642 d_Mo_init_658 (by decide) ?_
  refine e_iload_n d_Mo_init_642 rfl ?_
  refine e_bipush (v := 8) d_Mo_init_643 (by decide) ?_
  refine e_ic_ge 661 d_Mo_init_645 (by decide) (fun c9 => absurd c9 (by decide)) (fun _ => ?_)
  refine e_aload_n d_Mo_init_648 rfl ?_
  obtain ⟨v192, hv192, h⟩ := bnd h
  refine e_getR d_Mo_init_649 fl_Mo_146 (fun _ _ _ => rfl) hv192 ?_
  refine e_iload_n d_Mo_init_652 rfl ?_
  refine e_iconst (v := (-1)) d_Mo_init_653 (by decide) ?_
  obtain ⟨M193, hM193, h⟩ := bnd h
  refine e_iast d_Mo_init_654 hM193 ?_
  refine e_iinc (v := 6) (l2 := [some (.ref x0), some (.int 6)]) d_Mo_init_655 rfl (by decide) rfl (okl rfl) rfl ?_
  refine e_goto 642 d_Mo_init_658 (by decide) ?_
  refine e_iload_n d_Mo_init_642 rfl ?_
  refine e_bipush (v := 8) d_Mo_init_643 (by decide) ?_
  refine e_ic_ge 661 d_Mo_init_645 (by decide) (fun c9 => absurd c9 (by decide)) (fun _ => ?_)
  refine e_aload_n d_Mo_init_648 rfl ?_
  obtain ⟨v194, hv194, h⟩ := bnd h
  refine e_getR d_Mo_init_649 fl_Mo_146 (fun _ _ _ => rfl) hv194 ?_
  refine e_iload_n d_Mo_init_652 rfl ?_
  refine e_iconst (v := (-1)) d_Mo_init_653 (by decide) ?_
  obtain ⟨M195, hM195, h⟩ := bnd h
  refine e_iast d_Mo_init_654 hM195 ?_
  refine e_iinc (v := 7) (l2 := [some (.ref x0), some (.int 7)]) d_Mo_init_655 rfl (by decide) rfl (okl rfl) rfl ?_
  refine e_goto 642 d_Mo_init_658 (by decide) ?_
  refine e_iload_n d_Mo_init_642 rfl ?_
  refine e_bipush (v := 8) d_Mo_init_643 (by decide) ?_
  refine e_ic_ge 661 d_Mo_init_645 (by decide) (fun c9 => absurd c9 (by decide)) (fun _ => ?_)
  refine e_aload_n d_Mo_init_648 rfl ?_
  obtain ⟨v196, hv196, h⟩ := bnd h
  refine e_getR d_Mo_init_649 fl_Mo_146 (fun _ _ _ => rfl) hv196 ?_
  refine e_iload_n d_Mo_init_652 rfl ?_
  refine e_iconst (v := (-1)) d_Mo_init_653 (by decide) ?_
  obtain ⟨M197, hM197, h⟩ := bnd h
  refine e_iast d_Mo_init_654 hM197 ?_
  refine e_iinc (v := 8) (l2 := [some (.ref x0), some (.int 8)]) d_Mo_init_655 rfl (by decide) rfl (okl rfl) rfl ?_
  refine e_goto 642 d_Mo_init_658 (by decide) ?_
  refine e_iload_n d_Mo_init_642 rfl ?_
  refine e_bipush (v := 8) d_Mo_init_643 (by decide) ?_
  refine e_ic_ge 661 d_Mo_init_645 (by decide) (fun _ => ?_) (fun c9 => absurd c9 (by decide))
  cases h
  exact e_vret d_Mo_init_661 rfl (okp rfl) (okp rfl)
