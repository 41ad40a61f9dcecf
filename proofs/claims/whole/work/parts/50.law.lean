-- printed by wip/whole/gen/parts.py: the law
def f_law_c0 (xs : Nat → Int32) (L : Nat) (v3 : Int32) (s : pv_F) (T : pv_T) : Option ((Int32 × pv_F × pv_T) ⊕ ((Int32 × pv_F × pv_T) ⊕ (Int32 × pv_F × pv_T))) :=
  (pv_rds xs L (v3 + (1:Int32))).bind fun q5 =>
  (pv_rds xs L (v3 + (2:Int32))).bind fun q7 =>
  (f54_row q5 q7 s).bind fun (q10, s11) =>
  (pv_rds xs L (v3 + (1:Int32))).bind fun q12 =>
  (pv_rds xs L (v3 + (2:Int32))).bind fun q14 =>
  (f125_row q12 q14 T).bind fun (q17, T18) =>
  if q10 = q17 then
    some (.inl (v3 + (6:Int32), s11, T18))
  else
    some (.inr (.inr ((0:Int32), s11, T18)))
def f_law_c1 (xs : Nat → Int32) (L : Nat) (v3 : Int32) (s : pv_F) (T : pv_T) : Option ((Int32 × pv_F × pv_T) ⊕ ((Int32 × pv_F × pv_T) ⊕ (Int32 × pv_F × pv_T))) :=
  (pv_rds xs L (v3 + (1:Int32))).bind fun q21 =>
  (pv_rds xs L (v3 + (2:Int32))).bind fun q23 =>
  (pv_rds xs L (v3 + (3:Int32))).bind fun q25 =>
  (f55_lay q21 q23 q25 s).bind fun (q28, s29) =>
  (pv_rds xs L (v3 + (1:Int32))).bind fun q30 =>
  (pv_rds xs L (v3 + (2:Int32))).bind fun q32 =>
  (pv_rds xs L (v3 + (3:Int32))).bind fun q34 =>
  (f127_lay q30 q32 q34 T).bind fun (q37, T38) =>
  if q28 = q37 then
    some (.inl (v3 + (6:Int32), s29, T38))
  else
    some (.inr (.inr ((0:Int32), s29, T38)))
def f_law_c2 (xs : Nat → Int32) (L : Nat) (v3 : Int32) (s : pv_F) (T : pv_T) : Option ((Int32 × pv_F × pv_T) ⊕ ((Int32 × pv_F × pv_T) ⊕ (Int32 × pv_F × pv_T))) :=
  (pv_rds xs L (v3 + (1:Int32))).bind fun q41 =>
  (pv_rds xs L (v3 + (2:Int32))).bind fun q43 =>
  (f56_at q41 q43 s).bind fun (q46, s47) =>
  (pv_rds xs L (v3 + (1:Int32))).bind fun q48 =>
  (pv_rds xs L (v3 + (2:Int32))).bind fun q50 =>
  (f126_at q48 q50 T).bind fun (q53, T54) =>
  if q46 = q53 then
    some (.inl (v3 + (6:Int32), s47, T54))
  else
    some (.inr (.inr ((0:Int32), s47, T54)))
def f_law_c3 (xs : Nat → Int32) (L : Nat) (v3 : Int32) (s : pv_F) (T : pv_T) : Option ((Int32 × pv_F × pv_T) ⊕ ((Int32 × pv_F × pv_T) ⊕ (Int32 × pv_F × pv_T))) :=
  (pv_rds xs L (v3 + (1:Int32))).bind fun q57 =>
  (f57_tear q57 s).bind fun (q60, s61) =>
  (pv_rds xs L (v3 + (1:Int32))).bind fun q62 =>
  (f128_tear q62 T).bind fun (q65, T66) =>
  if q60 = q65 then
    some (.inl (v3 + (6:Int32), s61, T66))
  else
    some (.inr (.inr ((0:Int32), s61, T66)))
def f_law_c4 (xs : Nat → Int32) (L : Nat) (v3 : Int32) (s : pv_F) (T : pv_T) : Option ((Int32 × pv_F × pv_T) ⊕ ((Int32 × pv_F × pv_T) ⊕ (Int32 × pv_F × pv_T))) :=
  (pv_rds xs L (v3 + (1:Int32))).bind fun q69 =>
  (pv_rds xs L (v3 + (2:Int32))).bind fun q71 =>
  (pv_rds xs L (v3 + (3:Int32))).bind fun q73 =>
  (pv_rds xs L (v3 + (4:Int32))).bind fun q75 =>
  (pv_rds xs L (v3 + (5:Int32))).bind fun q77 =>
  (f58_copy q69 q71 q73 q75 q77 s).bind fun (q80, s81) =>
  (pv_rds xs L (v3 + (1:Int32))).bind fun q82 =>
  (pv_rds xs L (v3 + (2:Int32))).bind fun q84 =>
  (pv_rds xs L (v3 + (3:Int32))).bind fun q86 =>
  (pv_rds xs L (v3 + (4:Int32))).bind fun q88 =>
  (pv_rds xs L (v3 + (5:Int32))).bind fun q90 =>
  (f129_copy q82 q84 q86 q88 q90 T).bind fun (q93, T94) =>
  if q80 = q93 then
    some (.inl (v3 + (6:Int32), s81, T94))
  else
    some (.inr (.inr ((0:Int32), s81, T94)))
def f_law_c5 (xs : Nat → Int32) (L : Nat) (v3 : Int32) (s : pv_F) (T : pv_T) : Option ((Int32 × pv_F × pv_T) ⊕ ((Int32 × pv_F × pv_T) ⊕ (Int32 × pv_F × pv_T))) :=
  (pv_rds xs L (v3 + (1:Int32))).bind fun q97 =>
  (f59_mean q97 s).bind fun (q100, s101) =>
  (pv_rds xs L (v3 + (1:Int32))).bind fun q102 =>
  (f130_mean q102 T).bind fun (q105, T106) =>
  if q100 = q105 then
    some (.inl (v3 + (6:Int32), s101, T106))
  else
    some (.inr (.inr ((0:Int32), s101, T106)))
def f_law_c6 (xs : Nat → Int32) (L : Nat) (v3 : Int32) (s : pv_F) (T : pv_T) : Option ((Int32 × pv_F × pv_T) ⊕ ((Int32 × pv_F × pv_T) ⊕ (Int32 × pv_F × pv_T))) :=
  (pv_rds xs L (v3 + (1:Int32))).bind fun q109 =>
  (pv_rds xs L (v3 + (2:Int32))).bind fun q111 =>
  (f60_text q109 q111 s).bind fun (q114, s115) =>
  (pv_rds xs L (v3 + (1:Int32))).bind fun q116 =>
  (pv_rds xs L (v3 + (2:Int32))).bind fun q118 =>
  (f131_text q116 q118 T).bind fun (q121, T122) =>
  if q114 = q121 then
    some (.inl (v3 + (6:Int32), s115, T122))
  else
    some (.inr (.inr ((0:Int32), s115, T122)))
def f_law_c7 (xs : Nat → Int32) (L : Nat) (v3 : Int32) (s : pv_F) (T : pv_T) : Option ((Int32 × pv_F × pv_T) ⊕ ((Int32 × pv_F × pv_T) ⊕ (Int32 × pv_F × pv_T))) :=
  (pv_rds xs L (v3 + (1:Int32))).bind fun q125 =>
  (pv_rds xs L (v3 + (2:Int32))).bind fun q127 =>
  (pv_rds xs L (v3 + (3:Int32))).bind fun q129 =>
  (f61_put q125 q127 q129 s).bind fun (q132, s133) =>
  (pv_rds xs L (v3 + (1:Int32))).bind fun q134 =>
  (pv_rds xs L (v3 + (2:Int32))).bind fun q136 =>
  (pv_rds xs L (v3 + (3:Int32))).bind fun q138 =>
  (f132_put q134 q136 q138 T).bind fun (q141, T142) =>
  if q132 = q141 then
    some (.inl (v3 + (6:Int32), s133, T142))
  else
    some (.inr (.inr ((0:Int32), s133, T142)))
def f_law_c8 (xs : Nat → Int32) (L : Nat) (v3 : Int32) (s : pv_F) (T : pv_T) : Option ((Int32 × pv_F × pv_T) ⊕ ((Int32 × pv_F × pv_T) ⊕ (Int32 × pv_F × pv_T))) :=
  (pv_rds xs L (v3 + (1:Int32))).bind fun q145 =>
  (f62_fault q145 s).bind fun (q148, s149) =>
  (pv_rds xs L (v3 + (1:Int32))).bind fun q150 =>
  (f138_fault q150 T).bind fun (q153, T154) =>
  if q148 = q153 then
    some (.inl (v3 + (6:Int32), s149, T154))
  else
    some (.inr (.inr ((0:Int32), s149, T154)))
def f_law_c9 (xs : Nat → Int32) (L : Nat) (v3 : Int32) (s : pv_F) (T : pv_T) : Option ((Int32 × pv_F × pv_T) ⊕ ((Int32 × pv_F × pv_T) ⊕ (Int32 × pv_F × pv_T))) :=
  (pv_rds xs L (v3 + (1:Int32))).bind fun q157 =>
  (f63_town q157 s).bind fun (q160, s161) =>
  (pv_rds xs L (v3 + (1:Int32))).bind fun q162 =>
  (f139_town q162 T).bind fun (q165, T166) =>
  if q160 = q165 then
    some (.inl (v3 + (6:Int32), s161, T166))
  else
    some (.inr (.inr ((0:Int32), s161, T166)))
def f_law_c10 (xs : Nat → Int32) (L : Nat) (v3 : Int32) (s : pv_F) (T : pv_T) : Option ((Int32 × pv_F × pv_T) ⊕ ((Int32 × pv_F × pv_T) ⊕ (Int32 × pv_F × pv_T))) :=
  (pv_rds xs L (v3 + (1:Int32))).bind fun q169 =>
  (pv_rds xs L (v3 + (2:Int32))).bind fun q171 =>
  (f64_person q169 q171 s).bind fun (q174, s175) =>
  (pv_rds xs L (v3 + (1:Int32))).bind fun q176 =>
  (pv_rds xs L (v3 + (2:Int32))).bind fun q178 =>
  (f147_person q176 q178 T).bind fun (q181, T182) =>
  if q174 = q181 then
    some (.inl (v3 + (6:Int32), s175, T182))
  else
    some (.inr (.inr ((0:Int32), s175, T182)))
def f_law_c11 (xs : Nat → Int32) (L : Nat) (v3 : Int32) (s : pv_F) (T : pv_T) : Option ((Int32 × pv_F × pv_T) ⊕ ((Int32 × pv_F × pv_T) ⊕ (Int32 × pv_F × pv_T))) :=
  (pv_rds xs L (v3 + (1:Int32))).bind fun q185 =>
  (pv_rds xs L (v3 + (2:Int32))).bind fun q187 =>
  (f65_letter q185 q187 s).bind fun (q190, s191) =>
  (pv_rds xs L (v3 + (1:Int32))).bind fun q192 =>
  (pv_rds xs L (v3 + (2:Int32))).bind fun q194 =>
  (f148_letter q192 q194 T).bind fun (q197, T198) =>
  if q190 = q197 then
    some (.inl (v3 + (6:Int32), s191, T198))
  else
    some (.inr (.inr ((0:Int32), s191, T198)))
def f_law_c12 (xs : Nat → Int32) (L : Nat) (v3 : Int32) (s : pv_F) (T : pv_T) : Option ((Int32 × pv_F × pv_T) ⊕ ((Int32 × pv_F × pv_T) ⊕ (Int32 × pv_F × pv_T))) :=
  (pv_rds xs L (v3 + (1:Int32))).bind fun q201 =>
  (pv_rds xs L (v3 + (2:Int32))).bind fun q203 =>
  (f66_mark q201 q203 s).bind fun (q206, s207) =>
  (pv_rds xs L (v3 + (1:Int32))).bind fun q208 =>
  (pv_rds xs L (v3 + (2:Int32))).bind fun q210 =>
  (f149_mark q208 q210 T).bind fun (q213, T214) =>
  if q206 = q213 then
    some (.inl (v3 + (6:Int32), s207, T214))
  else
    some (.inr (.inr ((0:Int32), s207, T214)))
def f_law_c13 (xs : Nat → Int32) (L : Nat) (v3 : Int32) (s : pv_F) (T : pv_T) : Option ((Int32 × pv_F × pv_T) ⊕ ((Int32 × pv_F × pv_T) ⊕ (Int32 × pv_F × pv_T))) :=
  (pv_rds xs L (v3 + (1:Int32))).bind fun q217 =>
  (f67_way q217 s).bind fun (q220, s221) =>
  (pv_rds xs L (v3 + (1:Int32))).bind fun q222 =>
  (f150_way q222 T).bind fun (q225, T226) =>
  if q220 = q225 then
    some (.inl (v3 + (6:Int32), s221, T226))
  else
    some (.inr (.inr ((0:Int32), s221, T226)))
def f_law_c14 (xs : Nat → Int32) (L : Nat) (v3 : Int32) (s : pv_F) (T : pv_T) : Option ((Int32 × pv_F × pv_T) ⊕ ((Int32 × pv_F × pv_T) ⊕ (Int32 × pv_F × pv_T))) :=
  (pv_rds xs L (v3 + (1:Int32))).bind fun q229 =>
  (f68_price q229 s).bind fun (q232, s233) =>
  (pv_rds xs L (v3 + (1:Int32))).bind fun q234 =>
  (f151_price q234 T).bind fun (q237, T238) =>
  if q232 = q237 then
    some (.inl (v3 + (6:Int32), s233, T238))
  else
    some (.inr (.inr ((0:Int32), s233, T238)))
def f_law_c15 (xs : Nat → Int32) (L : Nat) (v3 : Int32) (s : pv_F) (T : pv_T) : Option ((Int32 × pv_F × pv_T) ⊕ ((Int32 × pv_F × pv_T) ⊕ (Int32 × pv_F × pv_T))) :=
  (pv_rds xs L (v3 + (1:Int32))).bind fun q241 =>
  (pv_rds xs L (v3 + (2:Int32))).bind fun q243 =>
  (f69_call q241 q243 s).bind fun (q246, s247) =>
  (pv_rds xs L (v3 + (1:Int32))).bind fun q248 =>
  (pv_rds xs L (v3 + (2:Int32))).bind fun q250 =>
  (f160_call q248 q250 T).bind fun (q253, T254) =>
  if q246 = q253 then
    some (.inl (v3 + (6:Int32), s247, T254))
  else
    some (.inr (.inr ((0:Int32), s247, T254)))
def f_law_c16 (xs : Nat → Int32) (L : Nat) (v3 : Int32) (s : pv_F) (T : pv_T) : Option ((Int32 × pv_F × pv_T) ⊕ ((Int32 × pv_F × pv_T) ⊕ (Int32 × pv_F × pv_T))) :=
  (pv_rds xs L (v3 + (1:Int32))).bind fun q257 =>
  (pv_rds xs L (v3 + (2:Int32))).bind fun q259 =>
  (pv_rds xs L (v3 + (3:Int32))).bind fun q261 =>
  (f70_mend q257 q259 q261 s).bind fun (q264, s265) =>
  (pv_rds xs L (v3 + (1:Int32))).bind fun q266 =>
  (pv_rds xs L (v3 + (2:Int32))).bind fun q268 =>
  (pv_rds xs L (v3 + (3:Int32))).bind fun q270 =>
  (f161_mend q266 q268 q270 T).bind fun (q273, T274) =>
  if q264 = q273 then
    some (.inl (v3 + (6:Int32), s265, T274))
  else
    some (.inr (.inr ((0:Int32), s265, T274)))
def f_law_c17 (xs : Nat → Int32) (L : Nat) (v3 : Int32) (s : pv_F) (T : pv_T) : Option ((Int32 × pv_F × pv_T) ⊕ ((Int32 × pv_F × pv_T) ⊕ (Int32 × pv_F × pv_T))) :=
  (pv_rds xs L (v3 + (1:Int32))).bind fun q277 =>
  (f71_undo q277 s).bind fun (q280, s281) =>
  (pv_rds xs L (v3 + (1:Int32))).bind fun q282 =>
  (f163_undo q282 T).bind fun (q285, T286) =>
  if q280 = q285 then
    some (.inl (v3 + (6:Int32), s281, T286))
  else
    some (.inr (.inr ((0:Int32), s281, T286)))
def f_law_c18 (xs : Nat → Int32) (L : Nat) (v3 : Int32) (s : pv_F) (T : pv_T) : Option ((Int32 × pv_F × pv_T) ⊕ ((Int32 × pv_F × pv_T) ⊕ (Int32 × pv_F × pv_T))) :=
  (pv_rds xs L (v3 + (1:Int32))).bind fun q289 =>
  (pv_rds xs L (v3 + (2:Int32))).bind fun q291 =>
  (f72_comes q289 q291 s).bind fun q294 =>
  (pv_rds xs L (v3 + (1:Int32))).bind fun q295 =>
  (pv_rds xs L (v3 + (2:Int32))).bind fun q297 =>
  (f164_comes q295 q297 T).bind fun q300 =>
  if q294 = q300 then
    some (.inl (v3 + (6:Int32), s, T))
  else
    some (.inr (.inr ((0:Int32), s, T)))
def f_law_c19 (xs : Nat → Int32) (L : Nat) (v3 : Int32) (s : pv_F) (T : pv_T) : Option ((Int32 × pv_F × pv_T) ⊕ ((Int32 × pv_F × pv_T) ⊕ (Int32 × pv_F × pv_T))) :=
  (pv_rds xs L (v3 + (1:Int32))).bind fun q303 =>
  (f73_alike q303 s).bind fun q306 =>
  (pv_rds xs L (v3 + (1:Int32))).bind fun q307 =>
  (f165_alike q307 T).bind fun q310 =>
  if q306 = q310 then
    some (.inl (v3 + (6:Int32), s, T))
  else
    some (.inr (.inr ((0:Int32), s, T)))
def f_law_c20 (xs : Nat → Int32) (L : Nat) (v3 : Int32) (s : pv_F) (T : pv_T) : Option ((Int32 × pv_F × pv_T) ⊕ ((Int32 × pv_F × pv_T) ⊕ (Int32 × pv_F × pv_T))) :=
  (pv_rds xs L (v3 + (1:Int32))).bind fun q313 =>
  (f74_keep q313 s).bind fun (q316, s317) =>
  (pv_rds xs L (v3 + (1:Int32))).bind fun q318 =>
  (f166_keep q318 T).bind fun (q321, T322) =>
  if q316 = q321 then
    some (.inl (v3 + (6:Int32), s317, T322))
  else
    some (.inr (.inr ((0:Int32), s317, T322)))
def f_law_c21 (xs : Nat → Int32) (L : Nat) (v3 : Int32) (s : pv_F) (T : pv_T) : Option ((Int32 × pv_F × pv_T) ⊕ ((Int32 × pv_F × pv_T) ⊕ (Int32 × pv_F × pv_T))) :=
  (pv_rds xs L (v3 + (1:Int32))).bind fun q325 =>
  (f75_on q325 s).bind fun (q328, s329) =>
  (pv_rds xs L (v3 + (1:Int32))).bind fun q330 =>
  (f167_on q330 T).bind fun (q333, T334) =>
  if q328 = q333 then
    some (.inl (v3 + (6:Int32), s329, T334))
  else
    some (.inr (.inr ((0:Int32), s329, T334)))
def f_law_c22 (xs : Nat → Int32) (L : Nat) (v3 : Int32) (s : pv_F) (T : pv_T) : Option ((Int32 × pv_F × pv_T) ⊕ ((Int32 × pv_F × pv_T) ⊕ (Int32 × pv_F × pv_T))) :=
  (pv_rds xs L (v3 + (1:Int32))).bind fun q337 =>
  (f76_lasts q337 s).bind fun (q340, s341) =>
  (pv_rds xs L (v3 + (1:Int32))).bind fun q342 =>
  (f170_lasts q342 T).bind fun (q345, T346) =>
  if q340 = q345 then
    some (.inl (v3 + (6:Int32), s341, T346))
  else
    some (.inr (.inr ((0:Int32), s341, T346)))
def f_law_c23 (xs : Nat → Int32) (L : Nat) (v3 : Int32) (s : pv_F) (T : pv_T) : Option ((Int32 × pv_F × pv_T) ⊕ ((Int32 × pv_F × pv_T) ⊕ (Int32 × pv_F × pv_T))) :=
  (pv_rds xs L (v3 + (1:Int32))).bind fun q349 =>
  (pv_rds xs L (v3 + (2:Int32))).bind fun q351 =>
  (f77_becomes q349 q351 s).bind fun (q354, s355) =>
  (pv_rds xs L (v3 + (1:Int32))).bind fun q356 =>
  (pv_rds xs L (v3 + (2:Int32))).bind fun q358 =>
  (f171_becomes q356 q358 T).bind fun (q361, T362) =>
  if q354 = q361 then
    some (.inl (v3 + (6:Int32), s355, T362))
  else
    some (.inr (.inr ((0:Int32), s355, T362)))
def f_law_c24 (xs : Nat → Int32) (L : Nat) (v3 : Int32) (s : pv_F) (T : pv_T) : Option ((Int32 × pv_F × pv_T) ⊕ ((Int32 × pv_F × pv_T) ⊕ (Int32 × pv_F × pv_T))) :=
  (pv_rds xs L (v3 + (1:Int32))).bind fun q365 =>
  (f78_unlike q365 s).bind fun (q368, s369) =>
  (pv_rds xs L (v3 + (1:Int32))).bind fun q370 =>
  (f174_unlike q370 T).bind fun (q373, T374) =>
  if q368 = q373 then
    some (.inl (v3 + (6:Int32), s369, T374))
  else
    some (.inr (.inr ((0:Int32), s369, T374)))
def f_law_c25 (xs : Nat → Int32) (L : Nat) (v3 : Int32) (s : pv_F) (T : pv_T) : Option ((Int32 × pv_F × pv_T) ⊕ ((Int32 × pv_F × pv_T) ⊕ (Int32 × pv_F × pv_T))) :=
  (f79_first s).bind fun (q378, s379) =>
  (f176_first T).bind fun (q381, T382) =>
  if q378 = q381 then
    some (.inl (v3 + (6:Int32), s379, T382))
  else
    some (.inr (.inr ((0:Int32), s379, T382)))
def f_law_c26 (xs : Nat → Int32) (L : Nat) (v3 : Int32) (s : pv_F) (T : pv_T) : Option ((Int32 × pv_F × pv_T) ⊕ ((Int32 × pv_F × pv_T) ⊕ (Int32 × pv_F × pv_T))) :=
  (pv_rds xs L (v3 + (1:Int32))).bind fun q385 =>
  (f80_name q385 s).bind fun (q388, s389) =>
  (pv_rds xs L (v3 + (1:Int32))).bind fun q390 =>
  (f180_name q390 T).bind fun (q393, T394) =>
  if q388 = q393 then
    some (.inl (v3 + (6:Int32), s389, T394))
  else
    some (.inr (.inr ((0:Int32), s389, T394)))
def f_law_c27 (xs : Nat → Int32) (L : Nat) (v3 : Int32) (s : pv_F) (T : pv_T) : Option ((Int32 × pv_F × pv_T) ⊕ ((Int32 × pv_F × pv_T) ⊕ (Int32 × pv_F × pv_T))) :=
  (pv_rds xs L (v3 + (1:Int32))).bind fun q397 =>
  (f81_best q397 s).bind fun (q400, s401) =>
  (pv_rds xs L (v3 + (1:Int32))).bind fun q402 =>
  (f181_best q402 T).bind fun (q405, T406) =>
  if q400 = q405 then
    some (.inl (v3 + (6:Int32), s401, T406))
  else
    some (.inr (.inr ((0:Int32), s401, T406)))
def f_law_c28 (xs : Nat → Int32) (L : Nat) (v3 : Int32) (s : pv_F) (T : pv_T) : Option ((Int32 × pv_F × pv_T) ⊕ ((Int32 × pv_F × pv_T) ⊕ (Int32 × pv_F × pv_T))) :=
  (pv_rds xs L (v3 + (1:Int32))).bind fun q409 =>
  (f82_judge q409 s).bind fun (q412, s413) =>
  (pv_rds xs L (v3 + (1:Int32))).bind fun q414 =>
  (f186_judge q414 T).bind fun (q417, T418) =>
  if q412 = q417 then
    some (.inl (v3 + (6:Int32), s413, T418))
  else
    some (.inr (.inr ((0:Int32), s413, T418)))
def f_law_c29 (xs : Nat → Int32) (L : Nat) (v3 : Int32) (s : pv_F) (T : pv_T) : Option ((Int32 × pv_F × pv_T) ⊕ ((Int32 × pv_F × pv_T) ⊕ (Int32 × pv_F × pv_T))) :=
  (pv_rds xs L (v3 + (1:Int32))).bind fun q421 =>
  (pv_rds xs L (v3 + (2:Int32))).bind fun q423 =>
  (f83_order q421 q423 s).bind fun (q426, s427) =>
  (pv_rds xs L (v3 + (1:Int32))).bind fun q428 =>
  (pv_rds xs L (v3 + (2:Int32))).bind fun q430 =>
  (f190_order q428 q430 T).bind fun (q433, T434) =>
  if q426 = q433 then
    some (.inl (v3 + (6:Int32), s427, T434))
  else
    some (.inr (.inr ((0:Int32), s427, T434)))
def f_law_c30 (xs : Nat → Int32) (L : Nat) (v3 : Int32) (s : pv_F) (T : pv_T) : Option ((Int32 × pv_F × pv_T) ⊕ ((Int32 × pv_F × pv_T) ⊕ (Int32 × pv_F × pv_T))) :=
  (pv_rds xs L (v3 + (1:Int32))).bind fun q437 =>
  (pv_rds xs L (v3 + (2:Int32))).bind fun q439 =>
  (f84_callers q437 q439 s).bind fun (q442, s443) =>
  (pv_rds xs L (v3 + (1:Int32))).bind fun q444 =>
  (pv_rds xs L (v3 + (2:Int32))).bind fun q446 =>
  (f192_callers q444 q446 T).bind fun (q449, T450) =>
  if q442 = q449 then
    some (.inl (v3 + (6:Int32), s443, T450))
  else
    some (.inr (.inr ((0:Int32), s443, T450)))
def f_law_c31 (xs : Nat → Int32) (L : Nat) (v3 : Int32) (s : pv_F) (T : pv_T) : Option ((Int32 × pv_F × pv_T) ⊕ ((Int32 × pv_F × pv_T) ⊕ (Int32 × pv_F × pv_T))) :=
  (pv_rds xs L (v3 + (1:Int32))).bind fun q453 =>
  (f85_spare q453 s).bind fun (q456, s457) =>
  (pv_rds xs L (v3 + (1:Int32))).bind fun q458 =>
  (f194_spare q458 T).bind fun (q461, T462) =>
  if q456 = q461 then
    some (.inl (v3 + (6:Int32), s457, T462))
  else
    some (.inr (.inr ((0:Int32), s457, T462)))
def f_law_c32 (xs : Nat → Int32) (L : Nat) (v3 : Int32) (s : pv_F) (T : pv_T) : Option ((Int32 × pv_F × pv_T) ⊕ ((Int32 × pv_F × pv_T) ⊕ (Int32 × pv_F × pv_T))) :=
  (pv_rds xs L (v3 + (1:Int32))).bind fun q465 =>
  (f86_whose q465 s).bind fun (q468, s469) =>
  (pv_rds xs L (v3 + (1:Int32))).bind fun q470 =>
  (f195_whose q470 T).bind fun (q473, T474) =>
  if q468 = q473 then
    some (.inl (v3 + (6:Int32), s469, T474))
  else
    some (.inr (.inr ((0:Int32), s469, T474)))
def f_law_c33 (xs : Nat → Int32) (L : Nat) (v3 : Int32) (s : pv_F) (T : pv_T) : Option ((Int32 × pv_F × pv_T) ⊕ ((Int32 × pv_F × pv_T) ⊕ (Int32 × pv_F × pv_T))) :=
  (pv_rds xs L (v3 + (1:Int32))).bind fun q477 =>
  (pv_rds xs L (v3 + (2:Int32))).bind fun q479 =>
  (f87_held q477 q479 s).bind fun (q482, s483) =>
  (pv_rds xs L (v3 + (1:Int32))).bind fun q484 =>
  (pv_rds xs L (v3 + (2:Int32))).bind fun q486 =>
  (f198_held q484 q486 T).bind fun (q489, T490) =>
  if q482 = q489 then
    some (.inl (v3 + (6:Int32), s483, T490))
  else
    some (.inr (.inr ((0:Int32), s483, T490)))
def f_law_c34 (xs : Nat → Int32) (L : Nat) (v3 : Int32) (s : pv_F) (T : pv_T) : Option ((Int32 × pv_F × pv_T) ⊕ ((Int32 × pv_F × pv_T) ⊕ (Int32 × pv_F × pv_T))) :=
  (pv_rds xs L (v3 + (1:Int32))).bind fun q493 =>
  (pv_rds xs L (v3 + (2:Int32))).bind fun q495 =>
  (pv_rds xs L (v3 + (3:Int32))).bind fun q497 =>
  (f88_could q493 q495 q497 s).bind fun (q500, s501) =>
  (pv_rds xs L (v3 + (1:Int32))).bind fun q502 =>
  (pv_rds xs L (v3 + (2:Int32))).bind fun q504 =>
  (pv_rds xs L (v3 + (3:Int32))).bind fun q506 =>
  (f199_could q502 q504 q506 T).bind fun (q509, T510) =>
  if q500 = q509 then
    some (.inl (v3 + (6:Int32), s501, T510))
  else
    some (.inr (.inr ((0:Int32), s501, T510)))
def f_law_c35 (xs : Nat → Int32) (L : Nat) (v3 : Int32) (s : pv_F) (T : pv_T) : Option ((Int32 × pv_F × pv_T) ⊕ ((Int32 × pv_F × pv_T) ⊕ (Int32 × pv_F × pv_T))) :=
  (pv_rds xs L (v3 + (1:Int32))).bind fun q513 =>
  (f89_crowd q513 s).bind fun (q516, s517) =>
  (pv_rds xs L (v3 + (1:Int32))).bind fun q518 =>
  (f201_crowd q518 T).bind fun (q521, T522) =>
  if q516 = q521 then
    some (.inl (v3 + (6:Int32), s517, T522))
  else
    some (.inr (.inr ((0:Int32), s517, T522)))
def f_law_c36 (xs : Nat → Int32) (L : Nat) (v3 : Int32) (s : pv_F) (T : pv_T) : Option ((Int32 × pv_F × pv_T) ⊕ ((Int32 × pv_F × pv_T) ⊕ (Int32 × pv_F × pv_T))) :=
  (pv_rds xs L (v3 + (1:Int32))).bind fun q525 =>
  (f90_shortest q525 s).bind fun q528 =>
  (pv_rds xs L (v3 + (1:Int32))).bind fun q529 =>
  (f202_shortest q529 T).bind fun (q532, T533) =>
  if q528 = q532 then
    some (.inl (v3 + (6:Int32), s, T533))
  else
    some (.inr (.inr ((0:Int32), s, T533)))
def f_law_c37 (xs : Nat → Int32) (L : Nat) (v3 : Int32) (s : pv_F) (T : pv_T) : Option ((Int32 × pv_F × pv_T) ⊕ ((Int32 × pv_F × pv_T) ⊕ (Int32 × pv_F × pv_T))) :=
  (pv_rds xs L (v3 + (1:Int32))).bind fun q536 =>
  (pv_rds xs L (v3 + (2:Int32))).bind fun q538 =>
  (f91_days q536 q538 s).bind fun (q541, s542) =>
  (pv_rds xs L (v3 + (1:Int32))).bind fun q543 =>
  (pv_rds xs L (v3 + (2:Int32))).bind fun q545 =>
  (f203_days q543 q545 T).bind fun (q548, T549) =>
  if q541 = q548 then
    some (.inl (v3 + (6:Int32), s542, T549))
  else
    some (.inr (.inr ((0:Int32), s542, T549)))
def f_law_c38 (xs : Nat → Int32) (L : Nat) (v3 : Int32) (s : pv_F) (T : pv_T) : Option ((Int32 × pv_F × pv_T) ⊕ ((Int32 × pv_F × pv_T) ⊕ (Int32 × pv_F × pv_T))) :=
  (f92_asked s).bind fun q553 =>
  (f204_asked T).bind fun q555 =>
  if q553 = q555 then
    some (.inl (v3 + (6:Int32), s, T))
  else
    some (.inr (.inr ((0:Int32), s, T)))
def f_law_c39 (xs : Nat → Int32) (L : Nat) (v3 : Int32) (s : pv_F) (T : pv_T) : Option ((Int32 × pv_F × pv_T) ⊕ ((Int32 × pv_F × pv_T) ⊕ (Int32 × pv_F × pv_T))) :=
  (f93_upper s).bind fun q559 =>
  (f207_upper T).bind fun q561 =>
  if (lg_cmp q559 q561) = 0 then
    some (.inl (v3 + (6:Int32), s, T))
  else
    some (.inr (.inr ((0:Int32), s, T)))
def f_law_c40 (xs : Nat → Int32) (L : Nat) (v3 : Int32) (s : pv_F) (T : pv_T) : Option ((Int32 × pv_F × pv_T) ⊕ ((Int32 × pv_F × pv_T) ⊕ (Int32 × pv_F × pv_T))) :=
  (f94_lower s).bind fun q565 =>
  (f208_lower T).bind fun q567 =>
  if (lg_cmp q565 q567) = 0 then
    some (.inl (v3 + (6:Int32), s, T))
  else
    some (.inr (.inr ((0:Int32), s, T)))
def f_law_c41 (xs : Nat → Int32) (L : Nat) (v3 : Int32) (s : pv_F) (T : pv_T) : Option ((Int32 × pv_F × pv_T) ⊕ ((Int32 × pv_F × pv_T) ⊕ (Int32 × pv_F × pv_T))) :=
  (pv_rds xs L (v3 + (1:Int32))).bind fun q570 =>
  (f95_count q570 s).bind fun q573 =>
  (pv_rds xs L (v3 + (1:Int32))).bind fun q574 =>
  (f210_count q574 T).bind fun q577 =>
  if q573 = q577 then
    some (.inl (v3 + (6:Int32), s, T))
  else
    some (.inr (.inr ((0:Int32), s, T)))
def f_law_c42 (xs : Nat → Int32) (L : Nat) (v3 : Int32) (s : pv_F) (T : pv_T) : Option ((Int32 × pv_F × pv_T) ⊕ ((Int32 × pv_F × pv_T) ⊕ (Int32 × pv_F × pv_T))) :=
  (f96_finding s).bind fun q581 =>
  (f211_finding T).bind fun q583 =>
  if q581 = q583 then
    some (.inl (v3 + (6:Int32), s, T))
  else
    some (.inr (.inr ((0:Int32), s, T)))
def f_law_c43 (xs : Nat → Int32) (L : Nat) (v3 : Int32) (s : pv_F) (T : pv_T) : Option ((Int32 × pv_F × pv_T) ⊕ ((Int32 × pv_F × pv_T) ⊕ (Int32 × pv_F × pv_T))) :=
  (pv_rds xs L (v3 + (1:Int32))).bind fun q586 =>
  (f97_findings q586 s).bind fun q589 =>
  (pv_rds xs L (v3 + (1:Int32))).bind fun q590 =>
  (f212_findings q590 T).bind fun q593 =>
  if q589 = q593 then
    some (.inl (v3 + (6:Int32), s, T))
  else
    some (.inr (.inr ((0:Int32), s, T)))
def f_law_c44 (xs : Nat → Int32) (L : Nat) (v3 : Int32) (s : pv_F) (T : pv_T) : Option ((Int32 × pv_F × pv_T) ⊕ ((Int32 × pv_F × pv_T) ⊕ (Int32 × pv_F × pv_T))) :=
  (f98_digest s).bind fun q597 =>
  (f215_digest T).bind fun (q599, T600) =>
  if (lg_cmp q597 q599) = 0 then
    some (.inl (v3 + (6:Int32), s, T600))
  else
    some (.inr (.inr ((0:Int32), s, T600)))
def f_law_b1 (xs : Nat → Int32) (L : Nat) (st : Int32 × pv_F × pv_T) : Option ((Int32 × pv_F × pv_T) ⊕ ((Int32 × pv_F × pv_T) ⊕ (Int32 × pv_F × pv_T))) := match st with
  | (v3, s, T) =>
    if ((Int32.ofNat L) - (6:Int32)) < v3 then
      some (.inr (.inl (v3, s, T)))
    else
      (pv_rds xs L v3).bind fun q2 =>
      if (q2 &&& (63:Int32)) = (0:Int32) then
        f_law_c0 xs L v3 s T
      else
        if (q2 &&& (63:Int32)) = (1:Int32) then
          f_law_c1 xs L v3 s T
        else
          if (q2 &&& (63:Int32)) = (2:Int32) then
            f_law_c2 xs L v3 s T
          else
            if (q2 &&& (63:Int32)) = (3:Int32) then
              f_law_c3 xs L v3 s T
            else
              if (q2 &&& (63:Int32)) = (4:Int32) then
                f_law_c4 xs L v3 s T
              else
                if (q2 &&& (63:Int32)) = (5:Int32) then
                  f_law_c5 xs L v3 s T
                else
                  if (q2 &&& (63:Int32)) = (6:Int32) then
                    f_law_c6 xs L v3 s T
                  else
                    if (q2 &&& (63:Int32)) = (7:Int32) then
                      f_law_c7 xs L v3 s T
                    else
                      if (q2 &&& (63:Int32)) = (8:Int32) then
                        f_law_c8 xs L v3 s T
                      else
                        if (q2 &&& (63:Int32)) = (9:Int32) then
                          f_law_c9 xs L v3 s T
                        else
                          if (q2 &&& (63:Int32)) = (10:Int32) then
                            f_law_c10 xs L v3 s T
                          else
                            if (q2 &&& (63:Int32)) = (11:Int32) then
                              f_law_c11 xs L v3 s T
                            else
                              if (q2 &&& (63:Int32)) = (12:Int32) then
                                f_law_c12 xs L v3 s T
                              else
                                if (q2 &&& (63:Int32)) = (13:Int32) then
                                  f_law_c13 xs L v3 s T
                                else
                                  if (q2 &&& (63:Int32)) = (14:Int32) then
                                    f_law_c14 xs L v3 s T
                                  else
                                    if (q2 &&& (63:Int32)) = (15:Int32) then
                                      f_law_c15 xs L v3 s T
                                    else
                                      if (q2 &&& (63:Int32)) = (16:Int32) then
                                        f_law_c16 xs L v3 s T
                                      else
                                        if (q2 &&& (63:Int32)) = (17:Int32) then
                                          f_law_c17 xs L v3 s T
                                        else
                                          if (q2 &&& (63:Int32)) = (18:Int32) then
                                            f_law_c18 xs L v3 s T
                                          else
                                            if (q2 &&& (63:Int32)) = (19:Int32) then
                                              f_law_c19 xs L v3 s T
                                            else
                                              if (q2 &&& (63:Int32)) = (20:Int32) then
                                                f_law_c20 xs L v3 s T
                                              else
                                                if (q2 &&& (63:Int32)) = (21:Int32) then
                                                  f_law_c21 xs L v3 s T
                                                else
                                                  if (q2 &&& (63:Int32)) = (22:Int32) then
                                                    f_law_c22 xs L v3 s T
                                                  else
                                                    if (q2 &&& (63:Int32)) = (23:Int32) then
                                                      f_law_c23 xs L v3 s T
                                                    else
                                                      if (q2 &&& (63:Int32)) = (24:Int32) then
                                                        f_law_c24 xs L v3 s T
                                                      else
                                                        if (q2 &&& (63:Int32)) = (25:Int32) then
                                                          f_law_c25 xs L v3 s T
                                                        else
                                                          if (q2 &&& (63:Int32)) = (26:Int32) then
                                                            f_law_c26 xs L v3 s T
                                                          else
                                                            if (q2 &&& (63:Int32)) = (27:Int32) then
                                                              f_law_c27 xs L v3 s T
                                                            else
                                                              if (q2 &&& (63:Int32)) = (28:Int32) then
                                                                f_law_c28 xs L v3 s T
                                                              else
                                                                if (q2 &&& (63:Int32)) = (29:Int32) then
                                                                  f_law_c29 xs L v3 s T
                                                                else
                                                                  if (q2 &&& (63:Int32)) = (30:Int32) then
                                                                    f_law_c30 xs L v3 s T
                                                                  else
                                                                    if (q2 &&& (63:Int32)) = (31:Int32) then
                                                                      f_law_c31 xs L v3 s T
                                                                    else
                                                                      if (q2 &&& (63:Int32)) = (32:Int32) then
                                                                        f_law_c32 xs L v3 s T
                                                                      else
                                                                        if (q2 &&& (63:Int32)) = (33:Int32) then
                                                                          f_law_c33 xs L v3 s T
                                                                        else
                                                                          if (q2 &&& (63:Int32)) = (34:Int32) then
                                                                            f_law_c34 xs L v3 s T
                                                                          else
                                                                            if (q2 &&& (63:Int32)) = (35:Int32) then
                                                                              f_law_c35 xs L v3 s T
                                                                            else
                                                                              if (q2 &&& (63:Int32)) = (36:Int32) then
                                                                                f_law_c36 xs L v3 s T
                                                                              else
                                                                                if (q2 &&& (63:Int32)) = (37:Int32) then
                                                                                  f_law_c37 xs L v3 s T
                                                                                else
                                                                                  if (q2 &&& (63:Int32)) = (38:Int32) then
                                                                                    f_law_c38 xs L v3 s T
                                                                                  else
                                                                                    if (q2 &&& (63:Int32)) = (39:Int32) then
                                                                                      f_law_c39 xs L v3 s T
                                                                                    else
                                                                                      if (q2 &&& (63:Int32)) = (40:Int32) then
                                                                                        f_law_c40 xs L v3 s T
                                                                                      else
                                                                                        if (q2 &&& (63:Int32)) = (41:Int32) then
                                                                                          f_law_c41 xs L v3 s T
                                                                                        else
                                                                                          if (q2 &&& (63:Int32)) = (42:Int32) then
                                                                                            f_law_c42 xs L v3 s T
                                                                                          else
                                                                                            if (q2 &&& (63:Int32)) = (43:Int32) then
                                                                                              f_law_c43 xs L v3 s T
                                                                                            else
                                                                                              if (q2 &&& (63:Int32)) = (44:Int32) then
                                                                                                f_law_c44 xs L v3 s T
                                                                                              else
                                                                                                some (.inl (v3 + (6:Int32), s, T))
def f_law_b1_H (xs : Nat → Int32) (L d : Nat) (r : Option Value × pv_M)  (st : Int32 × pv_F × pv_T) : Prop := match st with
  | (v3, s, T) => pv_Ev xs L (d + 16) 225 (116, 23246, 18, [some (.retAddr 0), some (.ref 0), some (.ref 94), some (.int v3)], [], pv_mm s T) r
def f_law_b1_X (xs : Nat → Int32) (L d : Nat) (r : Option Value × pv_M)  (st : Int32 × pv_F × pv_T) : Prop := match st with
  | (v3, s, T) => ∀ z3 : Option Value, pv_Ev xs L (d + 16) 225 (116, 23246, 1462, [some (.retAddr 0), some (.ref 0), some (.ref 94), z3], [], pv_mm s T) r
def f_law (xs : Nat → Int32) (L : Nat) (s : pv_F) (T : pv_T) : Option (Int32 × pv_F × pv_T) :=
  (pv_lp (f_law_b1 xs L) 20000 ((0:Int32), s, T)).bind fun o607 => match o607 with
    | .inl (w602, s603, T604) =>
      some ((1:Int32), s603, T604)
    | .inr q => some q
set_option maxHeartbeats 40000000 in
theorem f_law_b1_ok {xs : Nat → Int32} {L d : Nat} {r : Option Value × pv_M}  (st : Int32 × pv_F × pv_T) (o : (Int32 × pv_F × pv_T) ⊕ ((Int32 × pv_F × pv_T) ⊕ (Int32 × pv_F × pv_T))) (h : f_law_b1 xs L st = some o) (hK : pv_Kp (f_law_b1_H xs L d r  ) (f_law_b1_X xs L d r  ) (fun q => (some (.int q.1), pv_mm q.2.1 q.2.2) = r) o) : f_law_b1_H xs L d r   st := by
  obtain ⟨v3, s, T⟩ := st
  show pv_Ev xs L (d + 16) 225 (116, 23246, 18, [some (.retAddr 0), some (.ref 0), some (.ref 94), some (.int v3)], [], pv_mm s T) r
  unfold f_law_b1 at h
  dsimp only at h
  refine pv_e_bk (ps := [(18, .iload_n 3, 1), (19, .aload_n 0, 1)]) (t' := (116, 23246, 20, [some (.retAddr 0), some (.ref 0), some (.ref 94), some (.int v3)], [.retAddr 0, .int v3], pv_mm s T)) (by decide +kernel) rfl ?_
  refine pv_e_sl (pc' := 21) (by decide +kernel) rfl ?_
  refine pv_e_bk (ps := [(21, .bipush 6, 2), (23, .isub, 1)]) (t' := (116, 23246, 24, [some (.retAddr 0), some (.ref 0), some (.ref 94), some (.int v3)], [.int ((Int32.ofNat L) - (6:Int32)), .int v3], pv_mm s T)) (by decide +kernel) rfl ?_
  refine pv_e_icmpgt (off := 1438) (b := 1462) (pc' := 27) (by decide +kernel) (by decide +kernel) rfl (fun c1 => ?_) (fun c1 => ?_)
  · rw [if_pos c1] at h
    obtain rfl := Option.some.inj h
    exact hK _
  · rw [if_neg c1] at h
    refine pv_e_bk (ps := [(27, .aload_n 0, 1), (28, .iload_n 3, 1)]) (t' := (116, 23246, 29, [some (.retAddr 0), some (.ref 0), some (.ref 94), some (.int v3)], [.int v3, .retAddr 0], pv_mm s T)) (by decide +kernel) rfl ?_
    obtain ⟨q2, e3, h⟩ := Option.bind_eq_some_iff.mp h
    refine pv_e_sc (pc' := 30) (by decide +kernel) e3 rfl ?_
    refine pv_e_bk (ps := [(30, .bipush 63, 2), (32, .iand, 1)]) (t' := (116, 23246, 33, [some (.retAddr 0), some (.ref 0), some (.ref 94), some (.int v3)], [.int (q2 &&& (63:Int32))], pv_mm s T)) (by decide +kernel) rfl ?_
    by_cases c4 : (q2 &&& (63:Int32)) = (0:Int32)
    · rw [if_pos c4] at h
      refine pv_e_swin (dflt := 1423) (lo := 0) (hi := 44) (offs := #[195, 228, 271, 304, 327, 390, 413, 446, 489, 512, 535, 568, 601, 634, 657, 680, 713, 756, 779, 812, 835, 858, 881, 904, 937, 960, 973, 996, 1019, 1042, 1075, 1108, 1131, 1154, 1187, 1230, 1253, 1276, 1309, 1322, 1336, 1350, 1373, 1386, 1409]) (len := 195) (off := 195) (b := 228) (by decide +kernel) (by rw [c4]; decide +kernel) (by rw [c4]; decide +kernel) (by decide +kernel) ?_
      unfold f_law_c0 at h
      refine pv_e_bk (ps := [(228, .aload_n 1, 1), (229, .aload_n 0, 1), (230, .iload_n 3, 1), (231, .iconst 1, 1), (232, .iadd, 1)]) (t' := (116, 23246, 233, [some (.retAddr 0), some (.ref 0), some (.ref 94), some (.int v3)], [.int (v3 + (1:Int32)), .retAddr 0, .ref 0], pv_mm s T)) (by decide +kernel) rfl ?_
      obtain ⟨q5, e6, h⟩ := Option.bind_eq_some_iff.mp h
      refine pv_e_sc (pc' := 234) (by decide +kernel) e6 rfl ?_
      refine pv_e_bk (ps := [(234, .aload_n 0, 1), (235, .iload_n 3, 1), (236, .iconst 2, 1), (237, .iadd, 1)]) (t' := (116, 23246, 238, [some (.retAddr 0), some (.ref 0), some (.ref 94), some (.int v3)], [.int (v3 + (2:Int32)), .retAddr 0, .int q5, .ref 0], pv_mm s T)) (by decide +kernel) rfl ?_
      obtain ⟨q7, e8, h⟩ := Option.bind_eq_some_iff.mp h
      refine pv_e_sc (pc' := 239) (by decide +kernel) e8 rfl ?_
      obtain ⟨⟨q10, s11⟩, e9, h⟩ := Option.bind_eq_some_iff.mp h
      dsimp only at h
      refine pv_e_cvLi (d := d + 15) (i := 13) (z := 54) (np := 2) (ml := 3) (ci := 5) (As := [.int q5, .int q7]) (rs := []) (pc' := 242) (by decide +kernel) rfl rfl rfl rfl (Nat.le_of_ble_eq_true rfl) (Nat.le_of_ble_eq_true rfl) rfl (ee54 (d + 14) q5 q7 e9) ?_
      refine pv_e_bk (ps := [(242, .aload_n 2, 1), (243, .aload_n 0, 1), (244, .iload_n 3, 1), (245, .iconst 1, 1), (246, .iadd, 1)]) (t' := (116, 23246, 247, [some (.retAddr 0), some (.ref 0), some (.ref 94), some (.int v3)], [.int (v3 + (1:Int32)), .retAddr 0, .ref 94, .int q10], pv_mm s11 T)) (by decide +kernel) rfl ?_
      obtain ⟨q12, e13, h⟩ := Option.bind_eq_some_iff.mp h
      refine pv_e_sc (pc' := 248) (by decide +kernel) e13 rfl ?_
      refine pv_e_bk (ps := [(248, .aload_n 0, 1), (249, .iload_n 3, 1), (250, .iconst 2, 1), (251, .iadd, 1)]) (t' := (116, 23246, 252, [some (.retAddr 0), some (.ref 0), some (.ref 94), some (.int v3)], [.int (v3 + (2:Int32)), .retAddr 0, .int q12, .ref 94, .int q10], pv_mm s11 T)) (by decide +kernel) rfl ?_
      obtain ⟨q14, e15, h⟩ := Option.bind_eq_some_iff.mp h
      refine pv_e_sc (pc' := 253) (by decide +kernel) e15 rfl ?_
      obtain ⟨⟨q17, T18⟩, e16, h⟩ := Option.bind_eq_some_iff.mp h
      dsimp only at h
      refine pv_e_cvLi (d := d + 15) (i := 17) (z := 125) (np := 2) (ml := 4) (ci := 6) (As := [.int q12, .int q14]) (rs := [.int q10]) (pc' := 256) (by decide +kernel) rfl rfl rfl rfl (Nat.le_of_ble_eq_true rfl) (Nat.le_of_ble_eq_true rfl) rfl (ee125 (d + 13) q12 q14 e16) ?_
      refine pv_e_icmpeq (off := 1200) (b := 1456) (pc' := 259) (by decide +kernel) (by decide +kernel) rfl (fun c19 => ?_) (fun c19 => ?_)
      · rw [if_pos c19] at h
        refine pv_e_bk (ps := [(1456, .iinc 3 6, 3), (1459, .goto (-1441), 3)]) (t' := (116, 23246, 18, [some (.retAddr 0), some (.ref 0), some (.ref 94), some (.int (v3 + (6:Int32)))], [], pv_mm s11 T18)) (by decide +kernel) rfl ?_
        obtain rfl := Option.some.inj h
        exact hK
      · rw [if_neg c19] at h
        refine pv_e_bk (ps := [(259, .iconst 0, 1)]) (t' := (116, 23246, 260, [some (.retAddr 0), some (.ref 0), some (.ref 94), some (.int v3)], [.int (0:Int32)], pv_mm s11 T18)) (by decide +kernel) rfl ?_
        obtain rfl := Option.some.inj h
        cases hK
        exact pv_e_rL (by decide +kernel) pv_bl0
    · rw [if_neg c4] at h
      by_cases c20 : (q2 &&& (63:Int32)) = (1:Int32)
      · rw [if_pos c20] at h
        refine pv_e_swin (dflt := 1423) (lo := 0) (hi := 44) (offs := #[195, 228, 271, 304, 327, 390, 413, 446, 489, 512, 535, 568, 601, 634, 657, 680, 713, 756, 779, 812, 835, 858, 881, 904, 937, 960, 973, 996, 1019, 1042, 1075, 1108, 1131, 1154, 1187, 1230, 1253, 1276, 1309, 1322, 1336, 1350, 1373, 1386, 1409]) (len := 195) (off := 228) (b := 261) (by decide +kernel) (by rw [c20]; decide +kernel) (by rw [c20]; decide +kernel) (by decide +kernel) ?_
        unfold f_law_c1 at h
        refine pv_e_bk (ps := [(261, .aload_n 1, 1), (262, .aload_n 0, 1), (263, .iload_n 3, 1), (264, .iconst 1, 1), (265, .iadd, 1)]) (t' := (116, 23246, 266, [some (.retAddr 0), some (.ref 0), some (.ref 94), some (.int v3)], [.int (v3 + (1:Int32)), .retAddr 0, .ref 0], pv_mm s T)) (by decide +kernel) rfl ?_
        obtain ⟨q21, e22, h⟩ := Option.bind_eq_some_iff.mp h
        refine pv_e_sc (pc' := 267) (by decide +kernel) e22 rfl ?_
        refine pv_e_bk (ps := [(267, .aload_n 0, 1), (268, .iload_n 3, 1), (269, .iconst 2, 1), (270, .iadd, 1)]) (t' := (116, 23246, 271, [some (.retAddr 0), some (.ref 0), some (.ref 94), some (.int v3)], [.int (v3 + (2:Int32)), .retAddr 0, .int q21, .ref 0], pv_mm s T)) (by decide +kernel) rfl ?_
        obtain ⟨q23, e24, h⟩ := Option.bind_eq_some_iff.mp h
        refine pv_e_sc (pc' := 272) (by decide +kernel) e24 rfl ?_
        refine pv_e_bk (ps := [(272, .aload_n 0, 1), (273, .iload_n 3, 1), (274, .iconst 3, 1), (275, .iadd, 1)]) (t' := (116, 23246, 276, [some (.retAddr 0), some (.ref 0), some (.ref 94), some (.int v3)], [.int (v3 + (3:Int32)), .retAddr 0, .int q23, .int q21, .ref 0], pv_mm s T)) (by decide +kernel) rfl ?_
        obtain ⟨q25, e26, h⟩ := Option.bind_eq_some_iff.mp h
        refine pv_e_sc (pc' := 277) (by decide +kernel) e26 rfl ?_
        obtain ⟨⟨q28, s29⟩, e27, h⟩ := Option.bind_eq_some_iff.mp h
        dsimp only at h
        refine pv_e_cvLi (d := d + 15) (i := 18) (z := 55) (np := 3) (ml := 5) (ci := 5) (As := [.int q21, .int q23, .int q25]) (rs := []) (pc' := 280) (by decide +kernel) rfl rfl rfl rfl (Nat.le_of_ble_eq_true rfl) (Nat.le_of_ble_eq_true rfl) rfl (ee55 (d + 13) q21 q23 q25 e27) ?_
        refine pv_e_bk (ps := [(280, .aload_n 2, 1), (281, .aload_n 0, 1), (282, .iload_n 3, 1), (283, .iconst 1, 1), (284, .iadd, 1)]) (t' := (116, 23246, 285, [some (.retAddr 0), some (.ref 0), some (.ref 94), some (.int v3)], [.int (v3 + (1:Int32)), .retAddr 0, .ref 94, .int q28], pv_mm s29 T)) (by decide +kernel) rfl ?_
        obtain ⟨q30, e31, h⟩ := Option.bind_eq_some_iff.mp h
        refine pv_e_sc (pc' := 286) (by decide +kernel) e31 rfl ?_
        refine pv_e_bk (ps := [(286, .aload_n 0, 1), (287, .iload_n 3, 1), (288, .iconst 2, 1), (289, .iadd, 1)]) (t' := (116, 23246, 290, [some (.retAddr 0), some (.ref 0), some (.ref 94), some (.int v3)], [.int (v3 + (2:Int32)), .retAddr 0, .int q30, .ref 94, .int q28], pv_mm s29 T)) (by decide +kernel) rfl ?_
        obtain ⟨q32, e33, h⟩ := Option.bind_eq_some_iff.mp h
        refine pv_e_sc (pc' := 291) (by decide +kernel) e33 rfl ?_
        refine pv_e_bk (ps := [(291, .aload_n 0, 1), (292, .iload_n 3, 1), (293, .iconst 3, 1), (294, .iadd, 1)]) (t' := (116, 23246, 295, [some (.retAddr 0), some (.ref 0), some (.ref 94), some (.int v3)], [.int (v3 + (3:Int32)), .retAddr 0, .int q32, .int q30, .ref 94, .int q28], pv_mm s29 T)) (by decide +kernel) rfl ?_
        obtain ⟨q34, e35, h⟩ := Option.bind_eq_some_iff.mp h
        refine pv_e_sc (pc' := 296) (by decide +kernel) e35 rfl ?_
        obtain ⟨⟨q37, T38⟩, e36, h⟩ := Option.bind_eq_some_iff.mp h
        dsimp only at h
        refine pv_e_cvLi (d := d + 15) (i := 22) (z := 127) (np := 3) (ml := 5) (ci := 6) (As := [.int q30, .int q32, .int q34]) (rs := [.int q28]) (pc' := 299) (by decide +kernel) rfl rfl rfl rfl (Nat.le_of_ble_eq_true rfl) (Nat.le_of_ble_eq_true rfl) rfl (ee127 (d + 11) q30 q32 q34 e36) ?_
        refine pv_e_icmpeq (off := 1157) (b := 1456) (pc' := 302) (by decide +kernel) (by decide +kernel) rfl (fun c39 => ?_) (fun c39 => ?_)
        · rw [if_pos c39] at h
          refine pv_e_bk (ps := [(1456, .iinc 3 6, 3), (1459, .goto (-1441), 3)]) (t' := (116, 23246, 18, [some (.retAddr 0), some (.ref 0), some (.ref 94), some (.int (v3 + (6:Int32)))], [], pv_mm s29 T38)) (by decide +kernel) rfl ?_
          obtain rfl := Option.some.inj h
          exact hK
        · rw [if_neg c39] at h
          refine pv_e_bk (ps := [(302, .iconst 0, 1)]) (t' := (116, 23246, 303, [some (.retAddr 0), some (.ref 0), some (.ref 94), some (.int v3)], [.int (0:Int32)], pv_mm s29 T38)) (by decide +kernel) rfl ?_
          obtain rfl := Option.some.inj h
          cases hK
          exact pv_e_rL (by decide +kernel) pv_bl0
      · rw [if_neg c20] at h
        by_cases c40 : (q2 &&& (63:Int32)) = (2:Int32)
        · rw [if_pos c40] at h
          refine pv_e_swin (dflt := 1423) (lo := 0) (hi := 44) (offs := #[195, 228, 271, 304, 327, 390, 413, 446, 489, 512, 535, 568, 601, 634, 657, 680, 713, 756, 779, 812, 835, 858, 881, 904, 937, 960, 973, 996, 1019, 1042, 1075, 1108, 1131, 1154, 1187, 1230, 1253, 1276, 1309, 1322, 1336, 1350, 1373, 1386, 1409]) (len := 195) (off := 271) (b := 304) (by decide +kernel) (by rw [c40]; decide +kernel) (by rw [c40]; decide +kernel) (by decide +kernel) ?_
          unfold f_law_c2 at h
          refine pv_e_bk (ps := [(304, .aload_n 1, 1), (305, .aload_n 0, 1), (306, .iload_n 3, 1), (307, .iconst 1, 1), (308, .iadd, 1)]) (t' := (116, 23246, 309, [some (.retAddr 0), some (.ref 0), some (.ref 94), some (.int v3)], [.int (v3 + (1:Int32)), .retAddr 0, .ref 0], pv_mm s T)) (by decide +kernel) rfl ?_
          obtain ⟨q41, e42, h⟩ := Option.bind_eq_some_iff.mp h
          refine pv_e_sc (pc' := 310) (by decide +kernel) e42 rfl ?_
          refine pv_e_bk (ps := [(310, .aload_n 0, 1), (311, .iload_n 3, 1), (312, .iconst 2, 1), (313, .iadd, 1)]) (t' := (116, 23246, 314, [some (.retAddr 0), some (.ref 0), some (.ref 94), some (.int v3)], [.int (v3 + (2:Int32)), .retAddr 0, .int q41, .ref 0], pv_mm s T)) (by decide +kernel) rfl ?_
          obtain ⟨q43, e44, h⟩ := Option.bind_eq_some_iff.mp h
          refine pv_e_sc (pc' := 315) (by decide +kernel) e44 rfl ?_
          obtain ⟨⟨q46, s47⟩, e45, h⟩ := Option.bind_eq_some_iff.mp h
          dsimp only at h
          refine pv_e_cvLi (d := d + 15) (i := 23) (z := 56) (np := 2) (ml := 4) (ci := 5) (As := [.int q41, .int q43]) (rs := []) (pc' := 318) (by decide +kernel) rfl rfl rfl rfl (Nat.le_of_ble_eq_true rfl) (Nat.le_of_ble_eq_true rfl) rfl (ee56 (d + 13) q41 q43 e45) ?_
          refine pv_e_bk (ps := [(318, .aload_n 2, 1), (319, .aload_n 0, 1), (320, .iload_n 3, 1), (321, .iconst 1, 1), (322, .iadd, 1)]) (t' := (116, 23246, 323, [some (.retAddr 0), some (.ref 0), some (.ref 94), some (.int v3)], [.int (v3 + (1:Int32)), .retAddr 0, .ref 94, .int q46], pv_mm s47 T)) (by decide +kernel) rfl ?_
          obtain ⟨q48, e49, h⟩ := Option.bind_eq_some_iff.mp h
          refine pv_e_sc (pc' := 324) (by decide +kernel) e49 rfl ?_
          refine pv_e_bk (ps := [(324, .aload_n 0, 1), (325, .iload_n 3, 1), (326, .iconst 2, 1), (327, .iadd, 1)]) (t' := (116, 23246, 328, [some (.retAddr 0), some (.ref 0), some (.ref 94), some (.int v3)], [.int (v3 + (2:Int32)), .retAddr 0, .int q48, .ref 94, .int q46], pv_mm s47 T)) (by decide +kernel) rfl ?_
          obtain ⟨q50, e51, h⟩ := Option.bind_eq_some_iff.mp h
          refine pv_e_sc (pc' := 329) (by decide +kernel) e51 rfl ?_
          obtain ⟨⟨q53, T54⟩, e52, h⟩ := Option.bind_eq_some_iff.mp h
          dsimp only at h
          refine pv_e_cvLi (d := d + 15) (i := 26) (z := 126) (np := 2) (ml := 4) (ci := 6) (As := [.int q48, .int q50]) (rs := [.int q46]) (pc' := 332) (by decide +kernel) rfl rfl rfl rfl (Nat.le_of_ble_eq_true rfl) (Nat.le_of_ble_eq_true rfl) rfl (ee126 (d + 12) q48 q50 e52) ?_
          refine pv_e_icmpeq (off := 1124) (b := 1456) (pc' := 335) (by decide +kernel) (by decide +kernel) rfl (fun c55 => ?_) (fun c55 => ?_)
          · rw [if_pos c55] at h
            refine pv_e_bk (ps := [(1456, .iinc 3 6, 3), (1459, .goto (-1441), 3)]) (t' := (116, 23246, 18, [some (.retAddr 0), some (.ref 0), some (.ref 94), some (.int (v3 + (6:Int32)))], [], pv_mm s47 T54)) (by decide +kernel) rfl ?_
            obtain rfl := Option.some.inj h
            exact hK
          · rw [if_neg c55] at h
            refine pv_e_bk (ps := [(335, .iconst 0, 1)]) (t' := (116, 23246, 336, [some (.retAddr 0), some (.ref 0), some (.ref 94), some (.int v3)], [.int (0:Int32)], pv_mm s47 T54)) (by decide +kernel) rfl ?_
            obtain rfl := Option.some.inj h
            cases hK
            exact pv_e_rL (by decide +kernel) pv_bl0
        · rw [if_neg c40] at h
          by_cases c56 : (q2 &&& (63:Int32)) = (3:Int32)
          · rw [if_pos c56] at h
            refine pv_e_swin (dflt := 1423) (lo := 0) (hi := 44) (offs := #[195, 228, 271, 304, 327, 390, 413, 446, 489, 512, 535, 568, 601, 634, 657, 680, 713, 756, 779, 812, 835, 858, 881, 904, 937, 960, 973, 996, 1019, 1042, 1075, 1108, 1131, 1154, 1187, 1230, 1253, 1276, 1309, 1322, 1336, 1350, 1373, 1386, 1409]) (len := 195) (off := 304) (b := 337) (by decide +kernel) (by rw [c56]; decide +kernel) (by rw [c56]; decide +kernel) (by decide +kernel) ?_
            unfold f_law_c3 at h
            refine pv_e_bk (ps := [(337, .aload_n 1, 1), (338, .aload_n 0, 1), (339, .iload_n 3, 1), (340, .iconst 1, 1), (341, .iadd, 1)]) (t' := (116, 23246, 342, [some (.retAddr 0), some (.ref 0), some (.ref 94), some (.int v3)], [.int (v3 + (1:Int32)), .retAddr 0, .ref 0], pv_mm s T)) (by decide +kernel) rfl ?_
            obtain ⟨q57, e58, h⟩ := Option.bind_eq_some_iff.mp h
            refine pv_e_sc (pc' := 343) (by decide +kernel) e58 rfl ?_
            obtain ⟨⟨q60, s61⟩, e59, h⟩ := Option.bind_eq_some_iff.mp h
            dsimp only at h
            refine pv_e_cvLi (d := d + 15) (i := 27) (z := 57) (np := 1) (ml := 2) (ci := 5) (As := [.int q57]) (rs := []) (pc' := 346) (by decide +kernel) rfl rfl rfl rfl (Nat.le_of_ble_eq_true rfl) (Nat.le_of_ble_eq_true rfl) rfl (ee57 (d + 14) q57 e59) ?_
            refine pv_e_bk (ps := [(346, .aload_n 2, 1), (347, .aload_n 0, 1), (348, .iload_n 3, 1), (349, .iconst 1, 1), (350, .iadd, 1)]) (t' := (116, 23246, 351, [some (.retAddr 0), some (.ref 0), some (.ref 94), some (.int v3)], [.int (v3 + (1:Int32)), .retAddr 0, .ref 94, .int q60], pv_mm s61 T)) (by decide +kernel) rfl ?_
            obtain ⟨q62, e63, h⟩ := Option.bind_eq_some_iff.mp h
            refine pv_e_sc (pc' := 352) (by decide +kernel) e63 rfl ?_
            obtain ⟨⟨q65, T66⟩, e64, h⟩ := Option.bind_eq_some_iff.mp h
            dsimp only at h
            refine pv_e_cvLi (d := d + 15) (i := 31) (z := 128) (np := 1) (ml := 3) (ci := 6) (As := [.int q62]) (rs := [.int q60]) (pc' := 355) (by decide +kernel) rfl rfl rfl rfl (Nat.le_of_ble_eq_true rfl) (Nat.le_of_ble_eq_true rfl) rfl (ee128 (d + 12) q62 e64) ?_
            refine pv_e_icmpeq (off := 1101) (b := 1456) (pc' := 358) (by decide +kernel) (by decide +kernel) rfl (fun c67 => ?_) (fun c67 => ?_)
            · rw [if_pos c67] at h
              refine pv_e_bk (ps := [(1456, .iinc 3 6, 3), (1459, .goto (-1441), 3)]) (t' := (116, 23246, 18, [some (.retAddr 0), some (.ref 0), some (.ref 94), some (.int (v3 + (6:Int32)))], [], pv_mm s61 T66)) (by decide +kernel) rfl ?_
              obtain rfl := Option.some.inj h
              exact hK
            · rw [if_neg c67] at h
              refine pv_e_bk (ps := [(358, .iconst 0, 1)]) (t' := (116, 23246, 359, [some (.retAddr 0), some (.ref 0), some (.ref 94), some (.int v3)], [.int (0:Int32)], pv_mm s61 T66)) (by decide +kernel) rfl ?_
              obtain rfl := Option.some.inj h
              cases hK
              exact pv_e_rL (by decide +kernel) pv_bl0
          · rw [if_neg c56] at h
            by_cases c68 : (q2 &&& (63:Int32)) = (4:Int32)
            · rw [if_pos c68] at h
              refine pv_e_swin (dflt := 1423) (lo := 0) (hi := 44) (offs := #[195, 228, 271, 304, 327, 390, 413, 446, 489, 512, 535, 568, 601, 634, 657, 680, 713, 756, 779, 812, 835, 858, 881, 904, 937, 960, 973, 996, 1019, 1042, 1075, 1108, 1131, 1154, 1187, 1230, 1253, 1276, 1309, 1322, 1336, 1350, 1373, 1386, 1409]) (len := 195) (off := 327) (b := 360) (by decide +kernel) (by rw [c68]; decide +kernel) (by rw [c68]; decide +kernel) (by decide +kernel) ?_
              unfold f_law_c4 at h
              refine pv_e_bk (ps := [(360, .aload_n 1, 1), (361, .aload_n 0, 1), (362, .iload_n 3, 1), (363, .iconst 1, 1), (364, .iadd, 1)]) (t' := (116, 23246, 365, [some (.retAddr 0), some (.ref 0), some (.ref 94), some (.int v3)], [.int (v3 + (1:Int32)), .retAddr 0, .ref 0], pv_mm s T)) (by decide +kernel) rfl ?_
              obtain ⟨q69, e70, h⟩ := Option.bind_eq_some_iff.mp h
              refine pv_e_sc (pc' := 366) (by decide +kernel) e70 rfl ?_
              refine pv_e_bk (ps := [(366, .aload_n 0, 1), (367, .iload_n 3, 1), (368, .iconst 2, 1), (369, .iadd, 1)]) (t' := (116, 23246, 370, [some (.retAddr 0), some (.ref 0), some (.ref 94), some (.int v3)], [.int (v3 + (2:Int32)), .retAddr 0, .int q69, .ref 0], pv_mm s T)) (by decide +kernel) rfl ?_
              obtain ⟨q71, e72, h⟩ := Option.bind_eq_some_iff.mp h
              refine pv_e_sc (pc' := 371) (by decide +kernel) e72 rfl ?_
              refine pv_e_bk (ps := [(371, .aload_n 0, 1), (372, .iload_n 3, 1), (373, .iconst 3, 1), (374, .iadd, 1)]) (t' := (116, 23246, 375, [some (.retAddr 0), some (.ref 0), some (.ref 94), some (.int v3)], [.int (v3 + (3:Int32)), .retAddr 0, .int q71, .int q69, .ref 0], pv_mm s T)) (by decide +kernel) rfl ?_
              obtain ⟨q73, e74, h⟩ := Option.bind_eq_some_iff.mp h
              refine pv_e_sc (pc' := 376) (by decide +kernel) e74 rfl ?_
              refine pv_e_bk (ps := [(376, .aload_n 0, 1), (377, .iload_n 3, 1), (378, .iconst 4, 1), (379, .iadd, 1)]) (t' := (116, 23246, 380, [some (.retAddr 0), some (.ref 0), some (.ref 94), some (.int v3)], [.int (v3 + (4:Int32)), .retAddr 0, .int q73, .int q71, .int q69, .ref 0], pv_mm s T)) (by decide +kernel) rfl ?_
              obtain ⟨q75, e76, h⟩ := Option.bind_eq_some_iff.mp h
              refine pv_e_sc (pc' := 381) (by decide +kernel) e76 rfl ?_
              refine pv_e_bk (ps := [(381, .aload_n 0, 1), (382, .iload_n 3, 1), (383, .iconst 5, 1), (384, .iadd, 1)]) (t' := (116, 23246, 385, [some (.retAddr 0), some (.ref 0), some (.ref 94), some (.int v3)], [.int (v3 + (5:Int32)), .retAddr 0, .int q75, .int q73, .int q71, .int q69, .ref 0], pv_mm s T)) (by decide +kernel) rfl ?_
              obtain ⟨q77, e78, h⟩ := Option.bind_eq_some_iff.mp h
              refine pv_e_sc (pc' := 386) (by decide +kernel) e78 rfl ?_
              obtain ⟨⟨q80, s81⟩, e79, h⟩ := Option.bind_eq_some_iff.mp h
              dsimp only at h
              refine pv_e_cvLi (d := d + 15) (i := 32) (z := 58) (np := 5) (ml := 6) (ci := 5) (As := [.int q69, .int q71, .int q73, .int q75, .int q77]) (rs := []) (pc' := 389) (by decide +kernel) rfl rfl rfl rfl (Nat.le_of_ble_eq_true rfl) (Nat.le_of_ble_eq_true rfl) rfl (ee58 (d + 14) q69 q71 q73 q75 q77 e79) ?_
              refine pv_e_bk (ps := [(389, .aload_n 2, 1), (390, .aload_n 0, 1), (391, .iload_n 3, 1), (392, .iconst 1, 1), (393, .iadd, 1)]) (t' := (116, 23246, 394, [some (.retAddr 0), some (.ref 0), some (.ref 94), some (.int v3)], [.int (v3 + (1:Int32)), .retAddr 0, .ref 94, .int q80], pv_mm s81 T)) (by decide +kernel) rfl ?_
              obtain ⟨q82, e83, h⟩ := Option.bind_eq_some_iff.mp h
              refine pv_e_sc (pc' := 395) (by decide +kernel) e83 rfl ?_
              refine pv_e_bk (ps := [(395, .aload_n 0, 1), (396, .iload_n 3, 1), (397, .iconst 2, 1), (398, .iadd, 1)]) (t' := (116, 23246, 399, [some (.retAddr 0), some (.ref 0), some (.ref 94), some (.int v3)], [.int (v3 + (2:Int32)), .retAddr 0, .int q82, .ref 94, .int q80], pv_mm s81 T)) (by decide +kernel) rfl ?_
              obtain ⟨q84, e85, h⟩ := Option.bind_eq_some_iff.mp h
              refine pv_e_sc (pc' := 400) (by decide +kernel) e85 rfl ?_
              refine pv_e_bk (ps := [(400, .aload_n 0, 1), (401, .iload_n 3, 1), (402, .iconst 3, 1), (403, .iadd, 1)]) (t' := (116, 23246, 404, [some (.retAddr 0), some (.ref 0), some (.ref 94), some (.int v3)], [.int (v3 + (3:Int32)), .retAddr 0, .int q84, .int q82, .ref 94, .int q80], pv_mm s81 T)) (by decide +kernel) rfl ?_
              obtain ⟨q86, e87, h⟩ := Option.bind_eq_some_iff.mp h
              refine pv_e_sc (pc' := 405) (by decide +kernel) e87 rfl ?_
              refine pv_e_bk (ps := [(405, .aload_n 0, 1), (406, .iload_n 3, 1), (407, .iconst 4, 1), (408, .iadd, 1)]) (t' := (116, 23246, 409, [some (.retAddr 0), some (.ref 0), some (.ref 94), some (.int v3)], [.int (v3 + (4:Int32)), .retAddr 0, .int q86, .int q84, .int q82, .ref 94, .int q80], pv_mm s81 T)) (by decide +kernel) rfl ?_
              obtain ⟨q88, e89, h⟩ := Option.bind_eq_some_iff.mp h
              refine pv_e_sc (pc' := 410) (by decide +kernel) e89 rfl ?_
              refine pv_e_bk (ps := [(410, .aload_n 0, 1), (411, .iload_n 3, 1), (412, .iconst 5, 1), (413, .iadd, 1)]) (t' := (116, 23246, 414, [some (.retAddr 0), some (.ref 0), some (.ref 94), some (.int v3)], [.int (v3 + (5:Int32)), .retAddr 0, .int q88, .int q86, .int q84, .int q82, .ref 94, .int q80], pv_mm s81 T)) (by decide +kernel) rfl ?_
              obtain ⟨q90, e91, h⟩ := Option.bind_eq_some_iff.mp h
              refine pv_e_sc (pc' := 415) (by decide +kernel) e91 rfl ?_
              obtain ⟨⟨q93, T94⟩, e92, h⟩ := Option.bind_eq_some_iff.mp h
              dsimp only at h
              refine pv_e_cvLi (d := d + 15) (i := 36) (z := 129) (np := 5) (ml := 7) (ci := 6) (As := [.int q82, .int q84, .int q86, .int q88, .int q90]) (rs := [.int q80]) (pc' := 418) (by decide +kernel) rfl rfl rfl rfl (Nat.le_of_ble_eq_true rfl) (Nat.le_of_ble_eq_true rfl) rfl (ee129 (d + 13) q82 q84 q86 q88 q90 e92) ?_
              refine pv_e_icmpeq (off := 1038) (b := 1456) (pc' := 421) (by decide +kernel) (by decide +kernel) rfl (fun c95 => ?_) (fun c95 => ?_)
              · rw [if_pos c95] at h
                refine pv_e_bk (ps := [(1456, .iinc 3 6, 3), (1459, .goto (-1441), 3)]) (t' := (116, 23246, 18, [some (.retAddr 0), some (.ref 0), some (.ref 94), some (.int (v3 + (6:Int32)))], [], pv_mm s81 T94)) (by decide +kernel) rfl ?_
                obtain rfl := Option.some.inj h
                exact hK
              · rw [if_neg c95] at h
                refine pv_e_bk (ps := [(421, .iconst 0, 1)]) (t' := (116, 23246, 422, [some (.retAddr 0), some (.ref 0), some (.ref 94), some (.int v3)], [.int (0:Int32)], pv_mm s81 T94)) (by decide +kernel) rfl ?_
                obtain rfl := Option.some.inj h
                cases hK
                exact pv_e_rL (by decide +kernel) pv_bl0
            · rw [if_neg c68] at h
              by_cases c96 : (q2 &&& (63:Int32)) = (5:Int32)
              · rw [if_pos c96] at h
                refine pv_e_swin (dflt := 1423) (lo := 0) (hi := 44) (offs := #[195, 228, 271, 304, 327, 390, 413, 446, 489, 512, 535, 568, 601, 634, 657, 680, 713, 756, 779, 812, 835, 858, 881, 904, 937, 960, 973, 996, 1019, 1042, 1075, 1108, 1131, 1154, 1187, 1230, 1253, 1276, 1309, 1322, 1336, 1350, 1373, 1386, 1409]) (len := 195) (off := 390) (b := 423) (by decide +kernel) (by rw [c96]; decide +kernel) (by rw [c96]; decide +kernel) (by decide +kernel) ?_
                unfold f_law_c5 at h
                refine pv_e_bk (ps := [(423, .aload_n 1, 1), (424, .aload_n 0, 1), (425, .iload_n 3, 1), (426, .iconst 1, 1), (427, .iadd, 1)]) (t' := (116, 23246, 428, [some (.retAddr 0), some (.ref 0), some (.ref 94), some (.int v3)], [.int (v3 + (1:Int32)), .retAddr 0, .ref 0], pv_mm s T)) (by decide +kernel) rfl ?_
                obtain ⟨q97, e98, h⟩ := Option.bind_eq_some_iff.mp h
                refine pv_e_sc (pc' := 429) (by decide +kernel) e98 rfl ?_
                obtain ⟨⟨q100, s101⟩, e99, h⟩ := Option.bind_eq_some_iff.mp h
                dsimp only at h
                refine pv_e_cvLi (d := d + 15) (i := 37) (z := 59) (np := 1) (ml := 2) (ci := 5) (As := [.int q97]) (rs := []) (pc' := 432) (by decide +kernel) rfl rfl rfl rfl (Nat.le_of_ble_eq_true rfl) (Nat.le_of_ble_eq_true rfl) rfl (ee59 (d + 14) q97 e99) ?_
                refine pv_e_bk (ps := [(432, .aload_n 2, 1), (433, .aload_n 0, 1), (434, .iload_n 3, 1), (435, .iconst 1, 1), (436, .iadd, 1)]) (t' := (116, 23246, 437, [some (.retAddr 0), some (.ref 0), some (.ref 94), some (.int v3)], [.int (v3 + (1:Int32)), .retAddr 0, .ref 94, .int q100], pv_mm s101 T)) (by decide +kernel) rfl ?_
                obtain ⟨q102, e103, h⟩ := Option.bind_eq_some_iff.mp h
                refine pv_e_sc (pc' := 438) (by decide +kernel) e103 rfl ?_
                obtain ⟨⟨q105, T106⟩, e104, h⟩ := Option.bind_eq_some_iff.mp h
                dsimp only at h
                refine pv_e_cvLi (d := d + 15) (i := 40) (z := 130) (np := 1) (ml := 6) (ci := 6) (As := [.int q102]) (rs := [.int q100]) (pc' := 441) (by decide +kernel) rfl rfl rfl rfl (Nat.le_of_ble_eq_true rfl) (Nat.le_of_ble_eq_true rfl) rfl (ee130 (d + 12) q102 e104) ?_
                refine pv_e_icmpeq (off := 1015) (b := 1456) (pc' := 444) (by decide +kernel) (by decide +kernel) rfl (fun c107 => ?_) (fun c107 => ?_)
                · rw [if_pos c107] at h
                  refine pv_e_bk (ps := [(1456, .iinc 3 6, 3), (1459, .goto (-1441), 3)]) (t' := (116, 23246, 18, [some (.retAddr 0), some (.ref 0), some (.ref 94), some (.int (v3 + (6:Int32)))], [], pv_mm s101 T106)) (by decide +kernel) rfl ?_
                  obtain rfl := Option.some.inj h
                  exact hK
                · rw [if_neg c107] at h
                  refine pv_e_bk (ps := [(444, .iconst 0, 1)]) (t' := (116, 23246, 445, [some (.retAddr 0), some (.ref 0), some (.ref 94), some (.int v3)], [.int (0:Int32)], pv_mm s101 T106)) (by decide +kernel) rfl ?_
                  obtain rfl := Option.some.inj h
                  cases hK
                  exact pv_e_rL (by decide +kernel) pv_bl0
              · rw [if_neg c96] at h
                by_cases c108 : (q2 &&& (63:Int32)) = (6:Int32)
                · rw [if_pos c108] at h
                  refine pv_e_swin (dflt := 1423) (lo := 0) (hi := 44) (offs := #[195, 228, 271, 304, 327, 390, 413, 446, 489, 512, 535, 568, 601, 634, 657, 680, 713, 756, 779, 812, 835, 858, 881, 904, 937, 960, 973, 996, 1019, 1042, 1075, 1108, 1131, 1154, 1187, 1230, 1253, 1276, 1309, 1322, 1336, 1350, 1373, 1386, 1409]) (len := 195) (off := 413) (b := 446) (by decide +kernel) (by rw [c108]; decide +kernel) (by rw [c108]; decide +kernel) (by decide +kernel) ?_
                  unfold f_law_c6 at h
                  refine pv_e_bk (ps := [(446, .aload_n 1, 1), (447, .aload_n 0, 1), (448, .iload_n 3, 1), (449, .iconst 1, 1), (450, .iadd, 1)]) (t' := (116, 23246, 451, [some (.retAddr 0), some (.ref 0), some (.ref 94), some (.int v3)], [.int (v3 + (1:Int32)), .retAddr 0, .ref 0], pv_mm s T)) (by decide +kernel) rfl ?_
                  obtain ⟨q109, e110, h⟩ := Option.bind_eq_some_iff.mp h
                  refine pv_e_sc (pc' := 452) (by decide +kernel) e110 rfl ?_
                  refine pv_e_bk (ps := [(452, .aload_n 0, 1), (453, .iload_n 3, 1), (454, .iconst 2, 1), (455, .iadd, 1)]) (t' := (116, 23246, 456, [some (.retAddr 0), some (.ref 0), some (.ref 94), some (.int v3)], [.int (v3 + (2:Int32)), .retAddr 0, .int q109, .ref 0], pv_mm s T)) (by decide +kernel) rfl ?_
                  obtain ⟨q111, e112, h⟩ := Option.bind_eq_some_iff.mp h
                  refine pv_e_sc (pc' := 457) (by decide +kernel) e112 rfl ?_
                  obtain ⟨⟨q114, s115⟩, e113, h⟩ := Option.bind_eq_some_iff.mp h
                  dsimp only at h
                  refine pv_e_cvLi (d := d + 15) (i := 41) (z := 60) (np := 2) (ml := 3) (ci := 5) (As := [.int q109, .int q111]) (rs := []) (pc' := 460) (by decide +kernel) rfl rfl rfl rfl (Nat.le_of_ble_eq_true rfl) (Nat.le_of_ble_eq_true rfl) rfl (ee60 (d + 14) q109 q111 e113) ?_
                  refine pv_e_bk (ps := [(460, .aload_n 2, 1), (461, .aload_n 0, 1), (462, .iload_n 3, 1), (463, .iconst 1, 1), (464, .iadd, 1)]) (t' := (116, 23246, 465, [some (.retAddr 0), some (.ref 0), some (.ref 94), some (.int v3)], [.int (v3 + (1:Int32)), .retAddr 0, .ref 94, .int q114], pv_mm s115 T)) (by decide +kernel) rfl ?_
                  obtain ⟨q116, e117, h⟩ := Option.bind_eq_some_iff.mp h
                  refine pv_e_sc (pc' := 466) (by decide +kernel) e117 rfl ?_
                  refine pv_e_bk (ps := [(466, .aload_n 0, 1), (467, .iload_n 3, 1), (468, .iconst 2, 1), (469, .iadd, 1)]) (t' := (116, 23246, 470, [some (.retAddr 0), some (.ref 0), some (.ref 94), some (.int v3)], [.int (v3 + (2:Int32)), .retAddr 0, .int q116, .ref 94, .int q114], pv_mm s115 T)) (by decide +kernel) rfl ?_
                  obtain ⟨q118, e119, h⟩ := Option.bind_eq_some_iff.mp h
                  refine pv_e_sc (pc' := 471) (by decide +kernel) e119 rfl ?_
                  obtain ⟨⟨q121, T122⟩, e120, h⟩ := Option.bind_eq_some_iff.mp h
                  dsimp only at h
                  refine pv_e_cvLi (d := d + 15) (i := 44) (z := 131) (np := 2) (ml := 4) (ci := 6) (As := [.int q116, .int q118]) (rs := [.int q114]) (pc' := 474) (by decide +kernel) rfl rfl rfl rfl (Nat.le_of_ble_eq_true rfl) (Nat.le_of_ble_eq_true rfl) rfl (ee131 (d + 13) q116 q118 e120) ?_
                  refine pv_e_icmpeq (off := 982) (b := 1456) (pc' := 477) (by decide +kernel) (by decide +kernel) rfl (fun c123 => ?_) (fun c123 => ?_)
                  · rw [if_pos c123] at h
                    refine pv_e_bk (ps := [(1456, .iinc 3 6, 3), (1459, .goto (-1441), 3)]) (t' := (116, 23246, 18, [some (.retAddr 0), some (.ref 0), some (.ref 94), some (.int (v3 + (6:Int32)))], [], pv_mm s115 T122)) (by decide +kernel) rfl ?_
                    obtain rfl := Option.some.inj h
                    exact hK
                  · rw [if_neg c123] at h
                    refine pv_e_bk (ps := [(477, .iconst 0, 1)]) (t' := (116, 23246, 478, [some (.retAddr 0), some (.ref 0), some (.ref 94), some (.int v3)], [.int (0:Int32)], pv_mm s115 T122)) (by decide +kernel) rfl ?_
                    obtain rfl := Option.some.inj h
                    cases hK
                    exact pv_e_rL (by decide +kernel) pv_bl0
                · rw [if_neg c108] at h
                  by_cases c124 : (q2 &&& (63:Int32)) = (7:Int32)
                  · rw [if_pos c124] at h
                    refine pv_e_swin (dflt := 1423) (lo := 0) (hi := 44) (offs := #[195, 228, 271, 304, 327, 390, 413, 446, 489, 512, 535, 568, 601, 634, 657, 680, 713, 756, 779, 812, 835, 858, 881, 904, 937, 960, 973, 996, 1019, 1042, 1075, 1108, 1131, 1154, 1187, 1230, 1253, 1276, 1309, 1322, 1336, 1350, 1373, 1386, 1409]) (len := 195) (off := 446) (b := 479) (by decide +kernel) (by rw [c124]; decide +kernel) (by rw [c124]; decide +kernel) (by decide +kernel) ?_
                    unfold f_law_c7 at h
                    refine pv_e_bk (ps := [(479, .aload_n 1, 1), (480, .aload_n 0, 1), (481, .iload_n 3, 1), (482, .iconst 1, 1), (483, .iadd, 1)]) (t' := (116, 23246, 484, [some (.retAddr 0), some (.ref 0), some (.ref 94), some (.int v3)], [.int (v3 + (1:Int32)), .retAddr 0, .ref 0], pv_mm s T)) (by decide +kernel) rfl ?_
                    obtain ⟨q125, e126, h⟩ := Option.bind_eq_some_iff.mp h
                    refine pv_e_sc (pc' := 485) (by decide +kernel) e126 rfl ?_
                    refine pv_e_bk (ps := [(485, .aload_n 0, 1), (486, .iload_n 3, 1), (487, .iconst 2, 1), (488, .iadd, 1)]) (t' := (116, 23246, 489, [some (.retAddr 0), some (.ref 0), some (.ref 94), some (.int v3)], [.int (v3 + (2:Int32)), .retAddr 0, .int q125, .ref 0], pv_mm s T)) (by decide +kernel) rfl ?_
                    obtain ⟨q127, e128, h⟩ := Option.bind_eq_some_iff.mp h
                    refine pv_e_sc (pc' := 490) (by decide +kernel) e128 rfl ?_
                    refine pv_e_bk (ps := [(490, .aload_n 0, 1), (491, .iload_n 3, 1), (492, .iconst 3, 1), (493, .iadd, 1)]) (t' := (116, 23246, 494, [some (.retAddr 0), some (.ref 0), some (.ref 94), some (.int v3)], [.int (v3 + (3:Int32)), .retAddr 0, .int q127, .int q125, .ref 0], pv_mm s T)) (by decide +kernel) rfl ?_
                    obtain ⟨q129, e130, h⟩ := Option.bind_eq_some_iff.mp h
                    refine pv_e_sc (pc' := 495) (by decide +kernel) e130 rfl ?_
                    obtain ⟨⟨q132, s133⟩, e131, h⟩ := Option.bind_eq_some_iff.mp h
                    dsimp only at h
                    refine pv_e_cvLi (d := d + 15) (i := 45) (z := 61) (np := 3) (ml := 6) (ci := 5) (As := [.int q125, .int q127, .int q129]) (rs := []) (pc' := 498) (by decide +kernel) rfl rfl rfl rfl (Nat.le_of_ble_eq_true rfl) (Nat.le_of_ble_eq_true rfl) rfl (ee61 (d + 13) q125 q127 q129 e131) ?_
                    refine pv_e_bk (ps := [(498, .aload_n 2, 1), (499, .aload_n 0, 1), (500, .iload_n 3, 1), (501, .iconst 1, 1), (502, .iadd, 1)]) (t' := (116, 23246, 503, [some (.retAddr 0), some (.ref 0), some (.ref 94), some (.int v3)], [.int (v3 + (1:Int32)), .retAddr 0, .ref 94, .int q132], pv_mm s133 T)) (by decide +kernel) rfl ?_
                    obtain ⟨q134, e135, h⟩ := Option.bind_eq_some_iff.mp h
                    refine pv_e_sc (pc' := 504) (by decide +kernel) e135 rfl ?_
                    refine pv_e_bk (ps := [(504, .aload_n 0, 1), (505, .iload_n 3, 1), (506, .iconst 2, 1), (507, .iadd, 1)]) (t' := (116, 23246, 508, [some (.retAddr 0), some (.ref 0), some (.ref 94), some (.int v3)], [.int (v3 + (2:Int32)), .retAddr 0, .int q134, .ref 94, .int q132], pv_mm s133 T)) (by decide +kernel) rfl ?_
                    obtain ⟨q136, e137, h⟩ := Option.bind_eq_some_iff.mp h
                    refine pv_e_sc (pc' := 509) (by decide +kernel) e137 rfl ?_
                    refine pv_e_bk (ps := [(509, .aload_n 0, 1), (510, .iload_n 3, 1), (511, .iconst 3, 1), (512, .iadd, 1)]) (t' := (116, 23246, 513, [some (.retAddr 0), some (.ref 0), some (.ref 94), some (.int v3)], [.int (v3 + (3:Int32)), .retAddr 0, .int q136, .int q134, .ref 94, .int q132], pv_mm s133 T)) (by decide +kernel) rfl ?_
                    obtain ⟨q138, e139, h⟩ := Option.bind_eq_some_iff.mp h
                    refine pv_e_sc (pc' := 514) (by decide +kernel) e139 rfl ?_
                    obtain ⟨⟨q141, T142⟩, e140, h⟩ := Option.bind_eq_some_iff.mp h
                    dsimp only at h
                    refine pv_e_cvLi (d := d + 15) (i := 48) (z := 132) (np := 3) (ml := 6) (ci := 6) (As := [.int q134, .int q136, .int q138]) (rs := [.int q132]) (pc' := 517) (by decide +kernel) rfl rfl rfl rfl (Nat.le_of_ble_eq_true rfl) (Nat.le_of_ble_eq_true rfl) rfl (ee132 (d + 12) q134 q136 q138 e140) ?_
                    refine pv_e_icmpeq (off := 939) (b := 1456) (pc' := 520) (by decide +kernel) (by decide +kernel) rfl (fun c143 => ?_) (fun c143 => ?_)
                    · rw [if_pos c143] at h
                      refine pv_e_bk (ps := [(1456, .iinc 3 6, 3), (1459, .goto (-1441), 3)]) (t' := (116, 23246, 18, [some (.retAddr 0), some (.ref 0), some (.ref 94), some (.int (v3 + (6:Int32)))], [], pv_mm s133 T142)) (by decide +kernel) rfl ?_
                      obtain rfl := Option.some.inj h
                      exact hK
                    · rw [if_neg c143] at h
                      refine pv_e_bk (ps := [(520, .iconst 0, 1)]) (t' := (116, 23246, 521, [some (.retAddr 0), some (.ref 0), some (.ref 94), some (.int v3)], [.int (0:Int32)], pv_mm s133 T142)) (by decide +kernel) rfl ?_
                      obtain rfl := Option.some.inj h
                      cases hK
                      exact pv_e_rL (by decide +kernel) pv_bl0
                  · rw [if_neg c124] at h
                    by_cases c144 : (q2 &&& (63:Int32)) = (8:Int32)
                    · rw [if_pos c144] at h
                      refine pv_e_swin (dflt := 1423) (lo := 0) (hi := 44) (offs := #[195, 228, 271, 304, 327, 390, 413, 446, 489, 512, 535, 568, 601, 634, 657, 680, 713, 756, 779, 812, 835, 858, 881, 904, 937, 960, 973, 996, 1019, 1042, 1075, 1108, 1131, 1154, 1187, 1230, 1253, 1276, 1309, 1322, 1336, 1350, 1373, 1386, 1409]) (len := 195) (off := 489) (b := 522) (by decide +kernel) (by rw [c144]; decide +kernel) (by rw [c144]; decide +kernel) (by decide +kernel) ?_
                      unfold f_law_c8 at h
                      refine pv_e_bk (ps := [(522, .aload_n 1, 1), (523, .aload_n 0, 1), (524, .iload_n 3, 1), (525, .iconst 1, 1), (526, .iadd, 1)]) (t' := (116, 23246, 527, [some (.retAddr 0), some (.ref 0), some (.ref 94), some (.int v3)], [.int (v3 + (1:Int32)), .retAddr 0, .ref 0], pv_mm s T)) (by decide +kernel) rfl ?_
                      obtain ⟨q145, e146, h⟩ := Option.bind_eq_some_iff.mp h
                      refine pv_e_sc (pc' := 528) (by decide +kernel) e146 rfl ?_
                      obtain ⟨⟨q148, s149⟩, e147, h⟩ := Option.bind_eq_some_iff.mp h
                      dsimp only at h
                      refine pv_e_cvLi (d := d + 15) (i := 49) (z := 62) (np := 1) (ml := 2) (ci := 5) (As := [.int q145]) (rs := []) (pc' := 531) (by decide +kernel) rfl rfl rfl rfl (Nat.le_of_ble_eq_true rfl) (Nat.le_of_ble_eq_true rfl) rfl (ee62 (d + 12) q145 e147) ?_
                      refine pv_e_bk (ps := [(531, .aload_n 2, 1), (532, .aload_n 0, 1), (533, .iload_n 3, 1), (534, .iconst 1, 1), (535, .iadd, 1)]) (t' := (116, 23246, 536, [some (.retAddr 0), some (.ref 0), some (.ref 94), some (.int v3)], [.int (v3 + (1:Int32)), .retAddr 0, .ref 94, .int q148], pv_mm s149 T)) (by decide +kernel) rfl ?_
                      obtain ⟨q150, e151, h⟩ := Option.bind_eq_some_iff.mp h
                      refine pv_e_sc (pc' := 537) (by decide +kernel) e151 rfl ?_
                      obtain ⟨⟨q153, T154⟩, e152, h⟩ := Option.bind_eq_some_iff.mp h
                      dsimp only at h
                      refine pv_e_cvLi (d := d + 15) (i := 52) (z := 138) (np := 1) (ml := 3) (ci := 6) (As := [.int q150]) (rs := [.int q148]) (pc' := 540) (by decide +kernel) rfl rfl rfl rfl (Nat.le_of_ble_eq_true rfl) (Nat.le_of_ble_eq_true rfl) rfl (ee138 (d + 11) q150 e152) ?_
                      refine pv_e_icmpeq (off := 916) (b := 1456) (pc' := 543) (by decide +kernel) (by decide +kernel) rfl (fun c155 => ?_) (fun c155 => ?_)
                      · rw [if_pos c155] at h
                        refine pv_e_bk (ps := [(1456, .iinc 3 6, 3), (1459, .goto (-1441), 3)]) (t' := (116, 23246, 18, [some (.retAddr 0), some (.ref 0), some (.ref 94), some (.int (v3 + (6:Int32)))], [], pv_mm s149 T154)) (by decide +kernel) rfl ?_
                        obtain rfl := Option.some.inj h
                        exact hK
                      · rw [if_neg c155] at h
                        refine pv_e_bk (ps := [(543, .iconst 0, 1)]) (t' := (116, 23246, 544, [some (.retAddr 0), some (.ref 0), some (.ref 94), some (.int v3)], [.int (0:Int32)], pv_mm s149 T154)) (by decide +kernel) rfl ?_
                        obtain rfl := Option.some.inj h
                        cases hK
                        exact pv_e_rL (by decide +kernel) pv_bl0
                    · rw [if_neg c144] at h
                      by_cases c156 : (q2 &&& (63:Int32)) = (9:Int32)
                      · rw [if_pos c156] at h
                        refine pv_e_swin (dflt := 1423) (lo := 0) (hi := 44) (offs := #[195, 228, 271, 304, 327, 390, 413, 446, 489, 512, 535, 568, 601, 634, 657, 680, 713, 756, 779, 812, 835, 858, 881, 904, 937, 960, 973, 996, 1019, 1042, 1075, 1108, 1131, 1154, 1187, 1230, 1253, 1276, 1309, 1322, 1336, 1350, 1373, 1386, 1409]) (len := 195) (off := 512) (b := 545) (by decide +kernel) (by rw [c156]; decide +kernel) (by rw [c156]; decide +kernel) (by decide +kernel) ?_
                        unfold f_law_c9 at h
                        refine pv_e_bk (ps := [(545, .aload_n 1, 1), (546, .aload_n 0, 1), (547, .iload_n 3, 1), (548, .iconst 1, 1), (549, .iadd, 1)]) (t' := (116, 23246, 550, [some (.retAddr 0), some (.ref 0), some (.ref 94), some (.int v3)], [.int (v3 + (1:Int32)), .retAddr 0, .ref 0], pv_mm s T)) (by decide +kernel) rfl ?_
                        obtain ⟨q157, e158, h⟩ := Option.bind_eq_some_iff.mp h
                        refine pv_e_sc (pc' := 551) (by decide +kernel) e158 rfl ?_
                        obtain ⟨⟨q160, s161⟩, e159, h⟩ := Option.bind_eq_some_iff.mp h
                        dsimp only at h
                        refine pv_e_cvLi (d := d + 15) (i := 53) (z := 63) (np := 1) (ml := 2) (ci := 5) (As := [.int q157]) (rs := []) (pc' := 554) (by decide +kernel) rfl rfl rfl rfl (Nat.le_of_ble_eq_true rfl) (Nat.le_of_ble_eq_true rfl) rfl (ee63 (d + 11) q157 e159) ?_
                        refine pv_e_bk (ps := [(554, .aload_n 2, 1), (555, .aload_n 0, 1), (556, .iload_n 3, 1), (557, .iconst 1, 1), (558, .iadd, 1)]) (t' := (116, 23246, 559, [some (.retAddr 0), some (.ref 0), some (.ref 94), some (.int v3)], [.int (v3 + (1:Int32)), .retAddr 0, .ref 94, .int q160], pv_mm s161 T)) (by decide +kernel) rfl ?_
                        obtain ⟨q162, e163, h⟩ := Option.bind_eq_some_iff.mp h
                        refine pv_e_sc (pc' := 560) (by decide +kernel) e163 rfl ?_
                        obtain ⟨⟨q165, T166⟩, e164, h⟩ := Option.bind_eq_some_iff.mp h
                        dsimp only at h
                        refine pv_e_cvLi (d := d + 15) (i := 56) (z := 139) (np := 1) (ml := 5) (ci := 6) (As := [.int q162]) (rs := [.int q160]) (pc' := 563) (by decide +kernel) rfl rfl rfl rfl (Nat.le_of_ble_eq_true rfl) (Nat.le_of_ble_eq_true rfl) rfl (ee139 (d + 11) q162 e164) ?_
                        refine pv_e_icmpeq (off := 893) (b := 1456) (pc' := 566) (by decide +kernel) (by decide +kernel) rfl (fun c167 => ?_) (fun c167 => ?_)
                        · rw [if_pos c167] at h
                          refine pv_e_bk (ps := [(1456, .iinc 3 6, 3), (1459, .goto (-1441), 3)]) (t' := (116, 23246, 18, [some (.retAddr 0), some (.ref 0), some (.ref 94), some (.int (v3 + (6:Int32)))], [], pv_mm s161 T166)) (by decide +kernel) rfl ?_
                          obtain rfl := Option.some.inj h
                          exact hK
                        · rw [if_neg c167] at h
                          refine pv_e_bk (ps := [(566, .iconst 0, 1)]) (t' := (116, 23246, 567, [some (.retAddr 0), some (.ref 0), some (.ref 94), some (.int v3)], [.int (0:Int32)], pv_mm s161 T166)) (by decide +kernel) rfl ?_
                          obtain rfl := Option.some.inj h
                          cases hK
                          exact pv_e_rL (by decide +kernel) pv_bl0
                      · rw [if_neg c156] at h
                        by_cases c168 : (q2 &&& (63:Int32)) = (10:Int32)
                        · rw [if_pos c168] at h
                          refine pv_e_swin (dflt := 1423) (lo := 0) (hi := 44) (offs := #[195, 228, 271, 304, 327, 390, 413, 446, 489, 512, 535, 568, 601, 634, 657, 680, 713, 756, 779, 812, 835, 858, 881, 904, 937, 960, 973, 996, 1019, 1042, 1075, 1108, 1131, 1154, 1187, 1230, 1253, 1276, 1309, 1322, 1336, 1350, 1373, 1386, 1409]) (len := 195) (off := 535) (b := 568) (by decide +kernel) (by rw [c168]; decide +kernel) (by rw [c168]; decide +kernel) (by decide +kernel) ?_
                          unfold f_law_c10 at h
                          refine pv_e_bk (ps := [(568, .aload_n 1, 1), (569, .aload_n 0, 1), (570, .iload_n 3, 1), (571, .iconst 1, 1), (572, .iadd, 1)]) (t' := (116, 23246, 573, [some (.retAddr 0), some (.ref 0), some (.ref 94), some (.int v3)], [.int (v3 + (1:Int32)), .retAddr 0, .ref 0], pv_mm s T)) (by decide +kernel) rfl ?_
                          obtain ⟨q169, e170, h⟩ := Option.bind_eq_some_iff.mp h
                          refine pv_e_sc (pc' := 574) (by decide +kernel) e170 rfl ?_
                          refine pv_e_bk (ps := [(574, .aload_n 0, 1), (575, .iload_n 3, 1), (576, .iconst 2, 1), (577, .iadd, 1)]) (t' := (116, 23246, 578, [some (.retAddr 0), some (.ref 0), some (.ref 94), some (.int v3)], [.int (v3 + (2:Int32)), .retAddr 0, .int q169, .ref 0], pv_mm s T)) (by decide +kernel) rfl ?_
                          obtain ⟨q171, e172, h⟩ := Option.bind_eq_some_iff.mp h
                          refine pv_e_sc (pc' := 579) (by decide +kernel) e172 rfl ?_
                          obtain ⟨⟨q174, s175⟩, e173, h⟩ := Option.bind_eq_some_iff.mp h
                          dsimp only at h
                          refine pv_e_cvLi (d := d + 15) (i := 57) (z := 64) (np := 2) (ml := 3) (ci := 5) (As := [.int q169, .int q171]) (rs := []) (pc' := 582) (by decide +kernel) rfl rfl rfl rfl (Nat.le_of_ble_eq_true rfl) (Nat.le_of_ble_eq_true rfl) rfl (ee64 (d + 13) q169 q171 e173) ?_
                          refine pv_e_bk (ps := [(582, .aload_n 2, 1), (583, .aload_n 0, 1), (584, .iload_n 3, 1), (585, .iconst 1, 1), (586, .iadd, 1)]) (t' := (116, 23246, 587, [some (.retAddr 0), some (.ref 0), some (.ref 94), some (.int v3)], [.int (v3 + (1:Int32)), .retAddr 0, .ref 94, .int q174], pv_mm s175 T)) (by decide +kernel) rfl ?_
                          obtain ⟨q176, e177, h⟩ := Option.bind_eq_some_iff.mp h
                          refine pv_e_sc (pc' := 588) (by decide +kernel) e177 rfl ?_
                          refine pv_e_bk (ps := [(588, .aload_n 0, 1), (589, .iload_n 3, 1), (590, .iconst 2, 1), (591, .iadd, 1)]) (t' := (116, 23246, 592, [some (.retAddr 0), some (.ref 0), some (.ref 94), some (.int v3)], [.int (v3 + (2:Int32)), .retAddr 0, .int q176, .ref 94, .int q174], pv_mm s175 T)) (by decide +kernel) rfl ?_
                          obtain ⟨q178, e179, h⟩ := Option.bind_eq_some_iff.mp h
                          refine pv_e_sc (pc' := 593) (by decide +kernel) e179 rfl ?_
                          obtain ⟨⟨q181, T182⟩, e180, h⟩ := Option.bind_eq_some_iff.mp h
                          dsimp only at h
                          refine pv_e_cvLi (d := d + 15) (i := 60) (z := 147) (np := 2) (ml := 3) (ci := 6) (As := [.int q176, .int q178]) (rs := [.int q174]) (pc' := 596) (by decide +kernel) rfl rfl rfl rfl (Nat.le_of_ble_eq_true rfl) (Nat.le_of_ble_eq_true rfl) rfl (ee147 (d + 13) q176 q178 e180) ?_
                          refine pv_e_icmpeq (off := 860) (b := 1456) (pc' := 599) (by decide +kernel) (by decide +kernel) rfl (fun c183 => ?_) (fun c183 => ?_)
                          · rw [if_pos c183] at h
                            refine pv_e_bk (ps := [(1456, .iinc 3 6, 3), (1459, .goto (-1441), 3)]) (t' := (116, 23246, 18, [some (.retAddr 0), some (.ref 0), some (.ref 94), some (.int (v3 + (6:Int32)))], [], pv_mm s175 T182)) (by decide +kernel) rfl ?_
                            obtain rfl := Option.some.inj h
                            exact hK
                          · rw [if_neg c183] at h
                            refine pv_e_bk (ps := [(599, .iconst 0, 1)]) (t' := (116, 23246, 600, [some (.retAddr 0), some (.ref 0), some (.ref 94), some (.int v3)], [.int (0:Int32)], pv_mm s175 T182)) (by decide +kernel) rfl ?_
                            obtain rfl := Option.some.inj h
                            cases hK
                            exact pv_e_rL (by decide +kernel) pv_bl0
                        · rw [if_neg c168] at h
                          by_cases c184 : (q2 &&& (63:Int32)) = (11:Int32)
                          · rw [if_pos c184] at h
                            refine pv_e_swin (dflt := 1423) (lo := 0) (hi := 44) (offs := #[195, 228, 271, 304, 327, 390, 413, 446, 489, 512, 535, 568, 601, 634, 657, 680, 713, 756, 779, 812, 835, 858, 881, 904, 937, 960, 973, 996, 1019, 1042, 1075, 1108, 1131, 1154, 1187, 1230, 1253, 1276, 1309, 1322, 1336, 1350, 1373, 1386, 1409]) (len := 195) (off := 568) (b := 601) (by decide +kernel) (by rw [c184]; decide +kernel) (by rw [c184]; decide +kernel) (by decide +kernel) ?_
                            unfold f_law_c11 at h
                            refine pv_e_bk (ps := [(601, .aload_n 1, 1), (602, .aload_n 0, 1), (603, .iload_n 3, 1), (604, .iconst 1, 1), (605, .iadd, 1)]) (t' := (116, 23246, 606, [some (.retAddr 0), some (.ref 0), some (.ref 94), some (.int v3)], [.int (v3 + (1:Int32)), .retAddr 0, .ref 0], pv_mm s T)) (by decide +kernel) rfl ?_
                            obtain ⟨q185, e186, h⟩ := Option.bind_eq_some_iff.mp h
                            refine pv_e_sc (pc' := 607) (by decide +kernel) e186 rfl ?_
                            refine pv_e_bk (ps := [(607, .aload_n 0, 1), (608, .iload_n 3, 1), (609, .iconst 2, 1), (610, .iadd, 1)]) (t' := (116, 23246, 611, [some (.retAddr 0), some (.ref 0), some (.ref 94), some (.int v3)], [.int (v3 + (2:Int32)), .retAddr 0, .int q185, .ref 0], pv_mm s T)) (by decide +kernel) rfl ?_
                            obtain ⟨q187, e188, h⟩ := Option.bind_eq_some_iff.mp h
                            refine pv_e_sc (pc' := 612) (by decide +kernel) e188 rfl ?_
                            obtain ⟨⟨q190, s191⟩, e189, h⟩ := Option.bind_eq_some_iff.mp h
                            dsimp only at h
                            refine pv_e_cvLi (d := d + 15) (i := 61) (z := 65) (np := 2) (ml := 4) (ci := 5) (As := [.int q185, .int q187]) (rs := []) (pc' := 615) (by decide +kernel) rfl rfl rfl rfl (Nat.le_of_ble_eq_true rfl) (Nat.le_of_ble_eq_true rfl) rfl (ee65 (d + 14) q185 q187 e189) ?_
                            refine pv_e_bk (ps := [(615, .aload_n 2, 1), (616, .aload_n 0, 1), (617, .iload_n 3, 1), (618, .iconst 1, 1), (619, .iadd, 1)]) (t' := (116, 23246, 620, [some (.retAddr 0), some (.ref 0), some (.ref 94), some (.int v3)], [.int (v3 + (1:Int32)), .retAddr 0, .ref 94, .int q190], pv_mm s191 T)) (by decide +kernel) rfl ?_
                            obtain ⟨q192, e193, h⟩ := Option.bind_eq_some_iff.mp h
                            refine pv_e_sc (pc' := 621) (by decide +kernel) e193 rfl ?_
                            refine pv_e_bk (ps := [(621, .aload_n 0, 1), (622, .iload_n 3, 1), (623, .iconst 2, 1), (624, .iadd, 1)]) (t' := (116, 23246, 625, [some (.retAddr 0), some (.ref 0), some (.ref 94), some (.int v3)], [.int (v3 + (2:Int32)), .retAddr 0, .int q192, .ref 94, .int q190], pv_mm s191 T)) (by decide +kernel) rfl ?_
                            obtain ⟨q194, e195, h⟩ := Option.bind_eq_some_iff.mp h
                            refine pv_e_sc (pc' := 626) (by decide +kernel) e195 rfl ?_
                            obtain ⟨⟨q197, T198⟩, e196, h⟩ := Option.bind_eq_some_iff.mp h
                            dsimp only at h
                            refine pv_e_cvLi (d := d + 15) (i := 64) (z := 148) (np := 2) (ml := 3) (ci := 6) (As := [.int q192, .int q194]) (rs := [.int q190]) (pc' := 629) (by decide +kernel) rfl rfl rfl rfl (Nat.le_of_ble_eq_true rfl) (Nat.le_of_ble_eq_true rfl) rfl (ee148 (d + 13) q192 q194 e196) ?_
                            refine pv_e_icmpeq (off := 827) (b := 1456) (pc' := 632) (by decide +kernel) (by decide +kernel) rfl (fun c199 => ?_) (fun c199 => ?_)
                            · rw [if_pos c199] at h
                              refine pv_e_bk (ps := [(1456, .iinc 3 6, 3), (1459, .goto (-1441), 3)]) (t' := (116, 23246, 18, [some (.retAddr 0), some (.ref 0), some (.ref 94), some (.int (v3 + (6:Int32)))], [], pv_mm s191 T198)) (by decide +kernel) rfl ?_
                              obtain rfl := Option.some.inj h
                              exact hK
                            · rw [if_neg c199] at h
                              refine pv_e_bk (ps := [(632, .iconst 0, 1)]) (t' := (116, 23246, 633, [some (.retAddr 0), some (.ref 0), some (.ref 94), some (.int v3)], [.int (0:Int32)], pv_mm s191 T198)) (by decide +kernel) rfl ?_
                              obtain rfl := Option.some.inj h
                              cases hK
                              exact pv_e_rL (by decide +kernel) pv_bl0
                          · rw [if_neg c184] at h
                            by_cases c200 : (q2 &&& (63:Int32)) = (12:Int32)
                            · rw [if_pos c200] at h
                              refine pv_e_swin (dflt := 1423) (lo := 0) (hi := 44) (offs := #[195, 228, 271, 304, 327, 390, 413, 446, 489, 512, 535, 568, 601, 634, 657, 680, 713, 756, 779, 812, 835, 858, 881, 904, 937, 960, 973, 996, 1019, 1042, 1075, 1108, 1131, 1154, 1187, 1230, 1253, 1276, 1309, 1322, 1336, 1350, 1373, 1386, 1409]) (len := 195) (off := 601) (b := 634) (by decide +kernel) (by rw [c200]; decide +kernel) (by rw [c200]; decide +kernel) (by decide +kernel) ?_
                              unfold f_law_c12 at h
                              refine pv_e_bk (ps := [(634, .aload_n 1, 1), (635, .aload_n 0, 1), (636, .iload_n 3, 1), (637, .iconst 1, 1), (638, .iadd, 1)]) (t' := (116, 23246, 639, [some (.retAddr 0), some (.ref 0), some (.ref 94), some (.int v3)], [.int (v3 + (1:Int32)), .retAddr 0, .ref 0], pv_mm s T)) (by decide +kernel) rfl ?_
                              obtain ⟨q201, e202, h⟩ := Option.bind_eq_some_iff.mp h
                              refine pv_e_sc (pc' := 640) (by decide +kernel) e202 rfl ?_
                              refine pv_e_bk (ps := [(640, .aload_n 0, 1), (641, .iload_n 3, 1), (642, .iconst 2, 1), (643, .iadd, 1)]) (t' := (116, 23246, 644, [some (.retAddr 0), some (.ref 0), some (.ref 94), some (.int v3)], [.int (v3 + (2:Int32)), .retAddr 0, .int q201, .ref 0], pv_mm s T)) (by decide +kernel) rfl ?_
                              obtain ⟨q203, e204, h⟩ := Option.bind_eq_some_iff.mp h
                              refine pv_e_sc (pc' := 645) (by decide +kernel) e204 rfl ?_
                              obtain ⟨⟨q206, s207⟩, e205, h⟩ := Option.bind_eq_some_iff.mp h
                              dsimp only at h
                              refine pv_e_cvLi (d := d + 15) (i := 65) (z := 66) (np := 2) (ml := 3) (ci := 5) (As := [.int q201, .int q203]) (rs := []) (pc' := 648) (by decide +kernel) rfl rfl rfl rfl (Nat.le_of_ble_eq_true rfl) (Nat.le_of_ble_eq_true rfl) rfl (ee66 (d + 12) q201 q203 e205) ?_
                              refine pv_e_bk (ps := [(648, .aload_n 2, 1), (649, .aload_n 0, 1), (650, .iload_n 3, 1), (651, .iconst 1, 1), (652, .iadd, 1)]) (t' := (116, 23246, 653, [some (.retAddr 0), some (.ref 0), some (.ref 94), some (.int v3)], [.int (v3 + (1:Int32)), .retAddr 0, .ref 94, .int q206], pv_mm s207 T)) (by decide +kernel) rfl ?_
                              obtain ⟨q208, e209, h⟩ := Option.bind_eq_some_iff.mp h
                              refine pv_e_sc (pc' := 654) (by decide +kernel) e209 rfl ?_
                              refine pv_e_bk (ps := [(654, .aload_n 0, 1), (655, .iload_n 3, 1), (656, .iconst 2, 1), (657, .iadd, 1)]) (t' := (116, 23246, 658, [some (.retAddr 0), some (.ref 0), some (.ref 94), some (.int v3)], [.int (v3 + (2:Int32)), .retAddr 0, .int q208, .ref 94, .int q206], pv_mm s207 T)) (by decide +kernel) rfl ?_
                              obtain ⟨q210, e211, h⟩ := Option.bind_eq_some_iff.mp h
                              refine pv_e_sc (pc' := 659) (by decide +kernel) e211 rfl ?_
                              obtain ⟨⟨q213, T214⟩, e212, h⟩ := Option.bind_eq_some_iff.mp h
                              dsimp only at h
                              refine pv_e_cvLi (d := d + 15) (i := 68) (z := 149) (np := 2) (ml := 3) (ci := 6) (As := [.int q208, .int q210]) (rs := [.int q206]) (pc' := 662) (by decide +kernel) rfl rfl rfl rfl (Nat.le_of_ble_eq_true rfl) (Nat.le_of_ble_eq_true rfl) rfl (ee149 (d + 12) q208 q210 e212) ?_
                              refine pv_e_icmpeq (off := 794) (b := 1456) (pc' := 665) (by decide +kernel) (by decide +kernel) rfl (fun c215 => ?_) (fun c215 => ?_)
                              · rw [if_pos c215] at h
                                refine pv_e_bk (ps := [(1456, .iinc 3 6, 3), (1459, .goto (-1441), 3)]) (t' := (116, 23246, 18, [some (.retAddr 0), some (.ref 0), some (.ref 94), some (.int (v3 + (6:Int32)))], [], pv_mm s207 T214)) (by decide +kernel) rfl ?_
                                obtain rfl := Option.some.inj h
                                exact hK
                              · rw [if_neg c215] at h
                                refine pv_e_bk (ps := [(665, .iconst 0, 1)]) (t' := (116, 23246, 666, [some (.retAddr 0), some (.ref 0), some (.ref 94), some (.int v3)], [.int (0:Int32)], pv_mm s207 T214)) (by decide +kernel) rfl ?_
                                obtain rfl := Option.some.inj h
                                cases hK
                                exact pv_e_rL (by decide +kernel) pv_bl0
                            · rw [if_neg c200] at h
                              by_cases c216 : (q2 &&& (63:Int32)) = (13:Int32)
                              · rw [if_pos c216] at h
                                refine pv_e_swin (dflt := 1423) (lo := 0) (hi := 44) (offs := #[195, 228, 271, 304, 327, 390, 413, 446, 489, 512, 535, 568, 601, 634, 657, 680, 713, 756, 779, 812, 835, 858, 881, 904, 937, 960, 973, 996, 1019, 1042, 1075, 1108, 1131, 1154, 1187, 1230, 1253, 1276, 1309, 1322, 1336, 1350, 1373, 1386, 1409]) (len := 195) (off := 634) (b := 667) (by decide +kernel) (by rw [c216]; decide +kernel) (by rw [c216]; decide +kernel) (by decide +kernel) ?_
                                unfold f_law_c13 at h
                                refine pv_e_bk (ps := [(667, .aload_n 1, 1), (668, .aload_n 0, 1), (669, .iload_n 3, 1), (670, .iconst 1, 1), (671, .iadd, 1)]) (t' := (116, 23246, 672, [some (.retAddr 0), some (.ref 0), some (.ref 94), some (.int v3)], [.int (v3 + (1:Int32)), .retAddr 0, .ref 0], pv_mm s T)) (by decide +kernel) rfl ?_
                                obtain ⟨q217, e218, h⟩ := Option.bind_eq_some_iff.mp h
                                refine pv_e_sc (pc' := 673) (by decide +kernel) e218 rfl ?_
                                obtain ⟨⟨q220, s221⟩, e219, h⟩ := Option.bind_eq_some_iff.mp h
                                dsimp only at h
                                refine pv_e_cvLi (d := d + 15) (i := 69) (z := 67) (np := 1) (ml := 3) (ci := 5) (As := [.int q217]) (rs := []) (pc' := 676) (by decide +kernel) rfl rfl rfl rfl (Nat.le_of_ble_eq_true rfl) (Nat.le_of_ble_eq_true rfl) rfl (ee67 (d + 15) q217 e219) ?_
                                refine pv_e_bk (ps := [(676, .aload_n 2, 1), (677, .aload_n 0, 1), (678, .iload_n 3, 1), (679, .iconst 1, 1), (680, .iadd, 1)]) (t' := (116, 23246, 681, [some (.retAddr 0), some (.ref 0), some (.ref 94), some (.int v3)], [.int (v3 + (1:Int32)), .retAddr 0, .ref 94, .int q220], pv_mm s221 T)) (by decide +kernel) rfl ?_
                                obtain ⟨q222, e223, h⟩ := Option.bind_eq_some_iff.mp h
                                refine pv_e_sc (pc' := 682) (by decide +kernel) e223 rfl ?_
                                obtain ⟨⟨q225, T226⟩, e224, h⟩ := Option.bind_eq_some_iff.mp h
                                dsimp only at h
                                refine pv_e_cvLi (d := d + 15) (i := 72) (z := 150) (np := 1) (ml := 3) (ci := 6) (As := [.int q222]) (rs := [.int q220]) (pc' := 685) (by decide +kernel) rfl rfl rfl rfl (Nat.le_of_ble_eq_true rfl) (Nat.le_of_ble_eq_true rfl) rfl (ee150 (d + 14) q222 e224) ?_
                                refine pv_e_icmpeq (off := 771) (b := 1456) (pc' := 688) (by decide +kernel) (by decide +kernel) rfl (fun c227 => ?_) (fun c227 => ?_)
                                · rw [if_pos c227] at h
                                  refine pv_e_bk (ps := [(1456, .iinc 3 6, 3), (1459, .goto (-1441), 3)]) (t' := (116, 23246, 18, [some (.retAddr 0), some (.ref 0), some (.ref 94), some (.int (v3 + (6:Int32)))], [], pv_mm s221 T226)) (by decide +kernel) rfl ?_
                                  obtain rfl := Option.some.inj h
                                  exact hK
                                · rw [if_neg c227] at h
                                  refine pv_e_bk (ps := [(688, .iconst 0, 1)]) (t' := (116, 23246, 689, [some (.retAddr 0), some (.ref 0), some (.ref 94), some (.int v3)], [.int (0:Int32)], pv_mm s221 T226)) (by decide +kernel) rfl ?_
                                  obtain rfl := Option.some.inj h
                                  cases hK
                                  exact pv_e_rL (by decide +kernel) pv_bl0
                              · rw [if_neg c216] at h
                                by_cases c228 : (q2 &&& (63:Int32)) = (14:Int32)
                                · rw [if_pos c228] at h
                                  refine pv_e_swin (dflt := 1423) (lo := 0) (hi := 44) (offs := #[195, 228, 271, 304, 327, 390, 413, 446, 489, 512, 535, 568, 601, 634, 657, 680, 713, 756, 779, 812, 835, 858, 881, 904, 937, 960, 973, 996, 1019, 1042, 1075, 1108, 1131, 1154, 1187, 1230, 1253, 1276, 1309, 1322, 1336, 1350, 1373, 1386, 1409]) (len := 195) (off := 657) (b := 690) (by decide +kernel) (by rw [c228]; decide +kernel) (by rw [c228]; decide +kernel) (by decide +kernel) ?_
                                  unfold f_law_c14 at h
                                  refine pv_e_bk (ps := [(690, .aload_n 1, 1), (691, .aload_n 0, 1), (692, .iload_n 3, 1), (693, .iconst 1, 1), (694, .iadd, 1)]) (t' := (116, 23246, 695, [some (.retAddr 0), some (.ref 0), some (.ref 94), some (.int v3)], [.int (v3 + (1:Int32)), .retAddr 0, .ref 0], pv_mm s T)) (by decide +kernel) rfl ?_
                                  obtain ⟨q229, e230, h⟩ := Option.bind_eq_some_iff.mp h
                                  refine pv_e_sc (pc' := 696) (by decide +kernel) e230 rfl ?_
                                  obtain ⟨⟨q232, s233⟩, e231, h⟩ := Option.bind_eq_some_iff.mp h
                                  dsimp only at h
                                  refine pv_e_cvLi (d := d + 15) (i := 73) (z := 68) (np := 1) (ml := 3) (ci := 5) (As := [.int q229]) (rs := []) (pc' := 699) (by decide +kernel) rfl rfl rfl rfl (Nat.le_of_ble_eq_true rfl) (Nat.le_of_ble_eq_true rfl) rfl (ee68 (d + 15) q229 e231) ?_
                                  refine pv_e_bk (ps := [(699, .aload_n 2, 1), (700, .aload_n 0, 1), (701, .iload_n 3, 1), (702, .iconst 1, 1), (703, .iadd, 1)]) (t' := (116, 23246, 704, [some (.retAddr 0), some (.ref 0), some (.ref 94), some (.int v3)], [.int (v3 + (1:Int32)), .retAddr 0, .ref 94, .int q232], pv_mm s233 T)) (by decide +kernel) rfl ?_
                                  obtain ⟨q234, e235, h⟩ := Option.bind_eq_some_iff.mp h
                                  refine pv_e_sc (pc' := 705) (by decide +kernel) e235 rfl ?_
                                  obtain ⟨⟨q237, T238⟩, e236, h⟩ := Option.bind_eq_some_iff.mp h
                                  dsimp only at h
                                  refine pv_e_cvLi (d := d + 15) (i := 76) (z := 151) (np := 1) (ml := 3) (ci := 6) (As := [.int q234]) (rs := [.int q232]) (pc' := 708) (by decide +kernel) rfl rfl rfl rfl (Nat.le_of_ble_eq_true rfl) (Nat.le_of_ble_eq_true rfl) rfl (ee151 (d + 14) q234 e236) ?_
                                  refine pv_e_icmpeq (off := 748) (b := 1456) (pc' := 711) (by decide +kernel) (by decide +kernel) rfl (fun c239 => ?_) (fun c239 => ?_)
                                  · rw [if_pos c239] at h
                                    refine pv_e_bk (ps := [(1456, .iinc 3 6, 3), (1459, .goto (-1441), 3)]) (t' := (116, 23246, 18, [some (.retAddr 0), some (.ref 0), some (.ref 94), some (.int (v3 + (6:Int32)))], [], pv_mm s233 T238)) (by decide +kernel) rfl ?_
                                    obtain rfl := Option.some.inj h
                                    exact hK
                                  · rw [if_neg c239] at h
                                    refine pv_e_bk (ps := [(711, .iconst 0, 1)]) (t' := (116, 23246, 712, [some (.retAddr 0), some (.ref 0), some (.ref 94), some (.int v3)], [.int (0:Int32)], pv_mm s233 T238)) (by decide +kernel) rfl ?_
                                    obtain rfl := Option.some.inj h
                                    cases hK
                                    exact pv_e_rL (by decide +kernel) pv_bl0
                                · rw [if_neg c228] at h
                                  by_cases c240 : (q2 &&& (63:Int32)) = (15:Int32)
                                  · rw [if_pos c240] at h
                                    refine pv_e_swin (dflt := 1423) (lo := 0) (hi := 44) (offs := #[195, 228, 271, 304, 327, 390, 413, 446, 489, 512, 535, 568, 601, 634, 657, 680, 713, 756, 779, 812, 835, 858, 881, 904, 937, 960, 973, 996, 1019, 1042, 1075, 1108, 1131, 1154, 1187, 1230, 1253, 1276, 1309, 1322, 1336, 1350, 1373, 1386, 1409]) (len := 195) (off := 680) (b := 713) (by decide +kernel) (by rw [c240]; decide +kernel) (by rw [c240]; decide +kernel) (by decide +kernel) ?_
                                    unfold f_law_c15 at h
                                    refine pv_e_bk (ps := [(713, .aload_n 1, 1), (714, .aload_n 0, 1), (715, .iload_n 3, 1), (716, .iconst 1, 1), (717, .iadd, 1)]) (t' := (116, 23246, 718, [some (.retAddr 0), some (.ref 0), some (.ref 94), some (.int v3)], [.int (v3 + (1:Int32)), .retAddr 0, .ref 0], pv_mm s T)) (by decide +kernel) rfl ?_
                                    obtain ⟨q241, e242, h⟩ := Option.bind_eq_some_iff.mp h
                                    refine pv_e_sc (pc' := 719) (by decide +kernel) e242 rfl ?_
                                    refine pv_e_bk (ps := [(719, .aload_n 0, 1), (720, .iload_n 3, 1), (721, .iconst 2, 1), (722, .iadd, 1)]) (t' := (116, 23246, 723, [some (.retAddr 0), some (.ref 0), some (.ref 94), some (.int v3)], [.int (v3 + (2:Int32)), .retAddr 0, .int q241, .ref 0], pv_mm s T)) (by decide +kernel) rfl ?_
                                    obtain ⟨q243, e244, h⟩ := Option.bind_eq_some_iff.mp h
                                    refine pv_e_sc (pc' := 724) (by decide +kernel) e244 rfl ?_
                                    obtain ⟨⟨q246, s247⟩, e245, h⟩ := Option.bind_eq_some_iff.mp h
                                    dsimp only at h
                                    refine pv_e_cvLi (d := d + 15) (i := 77) (z := 69) (np := 2) (ml := 3) (ci := 5) (As := [.int q241, .int q243]) (rs := []) (pc' := 727) (by decide +kernel) rfl rfl rfl rfl (Nat.le_of_ble_eq_true rfl) (Nat.le_of_ble_eq_true rfl) rfl (ee69 (d + 9) q241 q243 e245) ?_
                                    refine pv_e_bk (ps := [(727, .aload_n 2, 1), (728, .aload_n 0, 1), (729, .iload_n 3, 1), (730, .iconst 1, 1), (731, .iadd, 1)]) (t' := (116, 23246, 732, [some (.retAddr 0), some (.ref 0), some (.ref 94), some (.int v3)], [.int (v3 + (1:Int32)), .retAddr 0, .ref 94, .int q246], pv_mm s247 T)) (by decide +kernel) rfl ?_
                                    obtain ⟨q248, e249, h⟩ := Option.bind_eq_some_iff.mp h
                                    refine pv_e_sc (pc' := 733) (by decide +kernel) e249 rfl ?_
                                    refine pv_e_bk (ps := [(733, .aload_n 0, 1), (734, .iload_n 3, 1), (735, .iconst 2, 1), (736, .iadd, 1)]) (t' := (116, 23246, 737, [some (.retAddr 0), some (.ref 0), some (.ref 94), some (.int v3)], [.int (v3 + (2:Int32)), .retAddr 0, .int q248, .ref 94, .int q246], pv_mm s247 T)) (by decide +kernel) rfl ?_
                                    obtain ⟨q250, e251, h⟩ := Option.bind_eq_some_iff.mp h
                                    refine pv_e_sc (pc' := 738) (by decide +kernel) e251 rfl ?_
                                    obtain ⟨⟨q253, T254⟩, e252, h⟩ := Option.bind_eq_some_iff.mp h
                                    dsimp only at h
                                    refine pv_e_cvLi (d := d + 15) (i := 80) (z := 160) (np := 2) (ml := 3) (ci := 6) (As := [.int q248, .int q250]) (rs := [.int q246]) (pc' := 741) (by decide +kernel) rfl rfl rfl rfl (Nat.le_of_ble_eq_true rfl) (Nat.le_of_ble_eq_true rfl) rfl (ee160 (d + 10) q248 q250 e252) ?_
                                    refine pv_e_icmpeq (off := 715) (b := 1456) (pc' := 744) (by decide +kernel) (by decide +kernel) rfl (fun c255 => ?_) (fun c255 => ?_)
                                    · rw [if_pos c255] at h
                                      refine pv_e_bk (ps := [(1456, .iinc 3 6, 3), (1459, .goto (-1441), 3)]) (t' := (116, 23246, 18, [some (.retAddr 0), some (.ref 0), some (.ref 94), some (.int (v3 + (6:Int32)))], [], pv_mm s247 T254)) (by decide +kernel) rfl ?_
                                      obtain rfl := Option.some.inj h
                                      exact hK
                                    · rw [if_neg c255] at h
                                      refine pv_e_bk (ps := [(744, .iconst 0, 1)]) (t' := (116, 23246, 745, [some (.retAddr 0), some (.ref 0), some (.ref 94), some (.int v3)], [.int (0:Int32)], pv_mm s247 T254)) (by decide +kernel) rfl ?_
                                      obtain rfl := Option.some.inj h
                                      cases hK
                                      exact pv_e_rL (by decide +kernel) pv_bl0
                                  · rw [if_neg c240] at h
                                    by_cases c256 : (q2 &&& (63:Int32)) = (16:Int32)
                                    · rw [if_pos c256] at h
                                      refine pv_e_swin (dflt := 1423) (lo := 0) (hi := 44) (offs := #[195, 228, 271, 304, 327, 390, 413, 446, 489, 512, 535, 568, 601, 634, 657, 680, 713, 756, 779, 812, 835, 858, 881, 904, 937, 960, 973, 996, 1019, 1042, 1075, 1108, 1131, 1154, 1187, 1230, 1253, 1276, 1309, 1322, 1336, 1350, 1373, 1386, 1409]) (len := 195) (off := 713) (b := 746) (by decide +kernel) (by rw [c256]; decide +kernel) (by rw [c256]; decide +kernel) (by decide +kernel) ?_
                                      unfold f_law_c16 at h
                                      refine pv_e_bk (ps := [(746, .aload_n 1, 1), (747, .aload_n 0, 1), (748, .iload_n 3, 1), (749, .iconst 1, 1), (750, .iadd, 1)]) (t' := (116, 23246, 751, [some (.retAddr 0), some (.ref 0), some (.ref 94), some (.int v3)], [.int (v3 + (1:Int32)), .retAddr 0, .ref 0], pv_mm s T)) (by decide +kernel) rfl ?_
                                      obtain ⟨q257, e258, h⟩ := Option.bind_eq_some_iff.mp h
                                      refine pv_e_sc (pc' := 752) (by decide +kernel) e258 rfl ?_
                                      refine pv_e_bk (ps := [(752, .aload_n 0, 1), (753, .iload_n 3, 1), (754, .iconst 2, 1), (755, .iadd, 1)]) (t' := (116, 23246, 756, [some (.retAddr 0), some (.ref 0), some (.ref 94), some (.int v3)], [.int (v3 + (2:Int32)), .retAddr 0, .int q257, .ref 0], pv_mm s T)) (by decide +kernel) rfl ?_
                                      obtain ⟨q259, e260, h⟩ := Option.bind_eq_some_iff.mp h
                                      refine pv_e_sc (pc' := 757) (by decide +kernel) e260 rfl ?_
                                      refine pv_e_bk (ps := [(757, .aload_n 0, 1), (758, .iload_n 3, 1), (759, .iconst 3, 1), (760, .iadd, 1)]) (t' := (116, 23246, 761, [some (.retAddr 0), some (.ref 0), some (.ref 94), some (.int v3)], [.int (v3 + (3:Int32)), .retAddr 0, .int q259, .int q257, .ref 0], pv_mm s T)) (by decide +kernel) rfl ?_
                                      obtain ⟨q261, e262, h⟩ := Option.bind_eq_some_iff.mp h
                                      refine pv_e_sc (pc' := 762) (by decide +kernel) e262 rfl ?_
                                      obtain ⟨⟨q264, s265⟩, e263, h⟩ := Option.bind_eq_some_iff.mp h
                                      dsimp only at h
                                      refine pv_e_cvLi (d := d + 15) (i := 81) (z := 70) (np := 3) (ml := 6) (ci := 5) (As := [.int q257, .int q259, .int q261]) (rs := []) (pc' := 765) (by decide +kernel) rfl rfl rfl rfl (Nat.le_of_ble_eq_true rfl) (Nat.le_of_ble_eq_true rfl) rfl (ee70 (d + 11) q257 q259 q261 e263) ?_
                                      refine pv_e_bk (ps := [(765, .aload_n 2, 1), (766, .aload_n 0, 1), (767, .iload_n 3, 1), (768, .iconst 1, 1), (769, .iadd, 1)]) (t' := (116, 23246, 770, [some (.retAddr 0), some (.ref 0), some (.ref 94), some (.int v3)], [.int (v3 + (1:Int32)), .retAddr 0, .ref 94, .int q264], pv_mm s265 T)) (by decide +kernel) rfl ?_
                                      obtain ⟨q266, e267, h⟩ := Option.bind_eq_some_iff.mp h
                                      refine pv_e_sc (pc' := 771) (by decide +kernel) e267 rfl ?_
                                      refine pv_e_bk (ps := [(771, .aload_n 0, 1), (772, .iload_n 3, 1), (773, .iconst 2, 1), (774, .iadd, 1)]) (t' := (116, 23246, 775, [some (.retAddr 0), some (.ref 0), some (.ref 94), some (.int v3)], [.int (v3 + (2:Int32)), .retAddr 0, .int q266, .ref 94, .int q264], pv_mm s265 T)) (by decide +kernel) rfl ?_
                                      obtain ⟨q268, e269, h⟩ := Option.bind_eq_some_iff.mp h
                                      refine pv_e_sc (pc' := 776) (by decide +kernel) e269 rfl ?_
                                      refine pv_e_bk (ps := [(776, .aload_n 0, 1), (777, .iload_n 3, 1), (778, .iconst 3, 1), (779, .iadd, 1)]) (t' := (116, 23246, 780, [some (.retAddr 0), some (.ref 0), some (.ref 94), some (.int v3)], [.int (v3 + (3:Int32)), .retAddr 0, .int q268, .int q266, .ref 94, .int q264], pv_mm s265 T)) (by decide +kernel) rfl ?_
                                      obtain ⟨q270, e271, h⟩ := Option.bind_eq_some_iff.mp h
                                      refine pv_e_sc (pc' := 781) (by decide +kernel) e271 rfl ?_
                                      obtain ⟨⟨q273, T274⟩, e272, h⟩ := Option.bind_eq_some_iff.mp h
                                      dsimp only at h
                                      refine pv_e_cvLi (d := d + 15) (i := 84) (z := 161) (np := 3) (ml := 5) (ci := 6) (As := [.int q266, .int q268, .int q270]) (rs := [.int q264]) (pc' := 784) (by decide +kernel) rfl rfl rfl rfl (Nat.le_of_ble_eq_true rfl) (Nat.le_of_ble_eq_true rfl) rfl (ee161 (d + 13) q266 q268 q270 e272) ?_
                                      refine pv_e_icmpeq (off := 672) (b := 1456) (pc' := 787) (by decide +kernel) (by decide +kernel) rfl (fun c275 => ?_) (fun c275 => ?_)
                                      · rw [if_pos c275] at h
                                        refine pv_e_bk (ps := [(1456, .iinc 3 6, 3), (1459, .goto (-1441), 3)]) (t' := (116, 23246, 18, [some (.retAddr 0), some (.ref 0), some (.ref 94), some (.int (v3 + (6:Int32)))], [], pv_mm s265 T274)) (by decide +kernel) rfl ?_
                                        obtain rfl := Option.some.inj h
                                        exact hK
                                      · rw [if_neg c275] at h
                                        refine pv_e_bk (ps := [(787, .iconst 0, 1)]) (t' := (116, 23246, 788, [some (.retAddr 0), some (.ref 0), some (.ref 94), some (.int v3)], [.int (0:Int32)], pv_mm s265 T274)) (by decide +kernel) rfl ?_
                                        obtain rfl := Option.some.inj h
                                        cases hK
                                        exact pv_e_rL (by decide +kernel) pv_bl0
                                    · rw [if_neg c256] at h
                                      by_cases c276 : (q2 &&& (63:Int32)) = (17:Int32)
                                      · rw [if_pos c276] at h
                                        refine pv_e_swin (dflt := 1423) (lo := 0) (hi := 44) (offs := #[195, 228, 271, 304, 327, 390, 413, 446, 489, 512, 535, 568, 601, 634, 657, 680, 713, 756, 779, 812, 835, 858, 881, 904, 937, 960, 973, 996, 1019, 1042, 1075, 1108, 1131, 1154, 1187, 1230, 1253, 1276, 1309, 1322, 1336, 1350, 1373, 1386, 1409]) (len := 195) (off := 756) (b := 789) (by decide +kernel) (by rw [c276]; decide +kernel) (by rw [c276]; decide +kernel) (by decide +kernel) ?_
                                        unfold f_law_c17 at h
                                        refine pv_e_bk (ps := [(789, .aload_n 1, 1), (790, .aload_n 0, 1), (791, .iload_n 3, 1), (792, .iconst 1, 1), (793, .iadd, 1)]) (t' := (116, 23246, 794, [some (.retAddr 0), some (.ref 0), some (.ref 94), some (.int v3)], [.int (v3 + (1:Int32)), .retAddr 0, .ref 0], pv_mm s T)) (by decide +kernel) rfl ?_
                                        obtain ⟨q277, e278, h⟩ := Option.bind_eq_some_iff.mp h
                                        refine pv_e_sc (pc' := 795) (by decide +kernel) e278 rfl ?_
                                        obtain ⟨⟨q280, s281⟩, e279, h⟩ := Option.bind_eq_some_iff.mp h
                                        dsimp only at h
                                        refine pv_e_cvLi (d := d + 15) (i := 85) (z := 71) (np := 1) (ml := 3) (ci := 5) (As := [.int q277]) (rs := []) (pc' := 798) (by decide +kernel) rfl rfl rfl rfl (Nat.le_of_ble_eq_true rfl) (Nat.le_of_ble_eq_true rfl) rfl (ee71 (d + 9) q277 e279) ?_
                                        refine pv_e_bk (ps := [(798, .aload_n 2, 1), (799, .aload_n 0, 1), (800, .iload_n 3, 1), (801, .iconst 1, 1), (802, .iadd, 1)]) (t' := (116, 23246, 803, [some (.retAddr 0), some (.ref 0), some (.ref 94), some (.int v3)], [.int (v3 + (1:Int32)), .retAddr 0, .ref 94, .int q280], pv_mm s281 T)) (by decide +kernel) rfl ?_
                                        obtain ⟨q282, e283, h⟩ := Option.bind_eq_some_iff.mp h
                                        refine pv_e_sc (pc' := 804) (by decide +kernel) e283 rfl ?_
                                        obtain ⟨⟨q285, T286⟩, e284, h⟩ := Option.bind_eq_some_iff.mp h
                                        dsimp only at h
                                        refine pv_e_cvLi (d := d + 15) (i := 88) (z := 163) (np := 1) (ml := 3) (ci := 6) (As := [.int q282]) (rs := [.int q280]) (pc' := 807) (by decide +kernel) rfl rfl rfl rfl (Nat.le_of_ble_eq_true rfl) (Nat.le_of_ble_eq_true rfl) rfl (ee163 (d + 14) q282 e284) ?_
                                        refine pv_e_icmpeq (off := 649) (b := 1456) (pc' := 810) (by decide +kernel) (by decide +kernel) rfl (fun c287 => ?_) (fun c287 => ?_)
                                        · rw [if_pos c287] at h
                                          refine pv_e_bk (ps := [(1456, .iinc 3 6, 3), (1459, .goto (-1441), 3)]) (t' := (116, 23246, 18, [some (.retAddr 0), some (.ref 0), some (.ref 94), some (.int (v3 + (6:Int32)))], [], pv_mm s281 T286)) (by decide +kernel) rfl ?_
                                          obtain rfl := Option.some.inj h
                                          exact hK
                                        · rw [if_neg c287] at h
                                          refine pv_e_bk (ps := [(810, .iconst 0, 1)]) (t' := (116, 23246, 811, [some (.retAddr 0), some (.ref 0), some (.ref 94), some (.int v3)], [.int (0:Int32)], pv_mm s281 T286)) (by decide +kernel) rfl ?_
                                          obtain rfl := Option.some.inj h
                                          cases hK
                                          exact pv_e_rL (by decide +kernel) pv_bl0
                                      · rw [if_neg c276] at h
                                        by_cases c288 : (q2 &&& (63:Int32)) = (18:Int32)
                                        · rw [if_pos c288] at h
                                          refine pv_e_swin (dflt := 1423) (lo := 0) (hi := 44) (offs := #[195, 228, 271, 304, 327, 390, 413, 446, 489, 512, 535, 568, 601, 634, 657, 680, 713, 756, 779, 812, 835, 858, 881, 904, 937, 960, 973, 996, 1019, 1042, 1075, 1108, 1131, 1154, 1187, 1230, 1253, 1276, 1309, 1322, 1336, 1350, 1373, 1386, 1409]) (len := 195) (off := 779) (b := 812) (by decide +kernel) (by rw [c288]; decide +kernel) (by rw [c288]; decide +kernel) (by decide +kernel) ?_
                                          unfold f_law_c18 at h
                                          refine pv_e_bk (ps := [(812, .aload_n 1, 1), (813, .aload_n 0, 1), (814, .iload_n 3, 1), (815, .iconst 1, 1), (816, .iadd, 1)]) (t' := (116, 23246, 817, [some (.retAddr 0), some (.ref 0), some (.ref 94), some (.int v3)], [.int (v3 + (1:Int32)), .retAddr 0, .ref 0], pv_mm s T)) (by decide +kernel) rfl ?_
                                          obtain ⟨q289, e290, h⟩ := Option.bind_eq_some_iff.mp h
                                          refine pv_e_sc (pc' := 818) (by decide +kernel) e290 rfl ?_
                                          refine pv_e_bk (ps := [(818, .aload_n 0, 1), (819, .iload_n 3, 1), (820, .iconst 2, 1), (821, .iadd, 1)]) (t' := (116, 23246, 822, [some (.retAddr 0), some (.ref 0), some (.ref 94), some (.int v3)], [.int (v3 + (2:Int32)), .retAddr 0, .int q289, .ref 0], pv_mm s T)) (by decide +kernel) rfl ?_
                                          obtain ⟨q291, e292, h⟩ := Option.bind_eq_some_iff.mp h
                                          refine pv_e_sc (pc' := 823) (by decide +kernel) e292 rfl ?_
                                          obtain ⟨q294, e293, h⟩ := Option.bind_eq_some_iff.mp h
                                          refine pv_e_cvLi (d := d + 15) (i := 89) (z := 72) (np := 2) (ml := 4) (ci := 5) (As := [.int q289, .int q291]) (rs := []) (pc' := 826) (by decide +kernel) rfl rfl rfl rfl (Nat.le_of_ble_eq_true rfl) (Nat.le_of_ble_eq_true rfl) rfl (ee72 (d + 12) q289 q291 e293) ?_
                                          refine pv_e_bk (ps := [(826, .aload_n 2, 1), (827, .aload_n 0, 1), (828, .iload_n 3, 1), (829, .iconst 1, 1), (830, .iadd, 1)]) (t' := (116, 23246, 831, [some (.retAddr 0), some (.ref 0), some (.ref 94), some (.int v3)], [.int (v3 + (1:Int32)), .retAddr 0, .ref 94, .int q294], pv_mm s T)) (by decide +kernel) rfl ?_
                                          obtain ⟨q295, e296, h⟩ := Option.bind_eq_some_iff.mp h
                                          refine pv_e_sc (pc' := 832) (by decide +kernel) e296 rfl ?_
                                          refine pv_e_bk (ps := [(832, .aload_n 0, 1), (833, .iload_n 3, 1), (834, .iconst 2, 1), (835, .iadd, 1)]) (t' := (116, 23246, 836, [some (.retAddr 0), some (.ref 0), some (.ref 94), some (.int v3)], [.int (v3 + (2:Int32)), .retAddr 0, .int q295, .ref 94, .int q294], pv_mm s T)) (by decide +kernel) rfl ?_
                                          obtain ⟨q297, e298, h⟩ := Option.bind_eq_some_iff.mp h
                                          refine pv_e_sc (pc' := 837) (by decide +kernel) e298 rfl ?_
                                          obtain ⟨q300, e299, h⟩ := Option.bind_eq_some_iff.mp h
                                          refine pv_e_cvLi (d := d + 15) (i := 92) (z := 164) (np := 2) (ml := 3) (ci := 6) (As := [.int q295, .int q297]) (rs := [.int q294]) (pc' := 840) (by decide +kernel) rfl rfl rfl rfl (Nat.le_of_ble_eq_true rfl) (Nat.le_of_ble_eq_true rfl) rfl (ee164 (d + 12) q295 q297 e299) ?_
                                          refine pv_e_icmpeq (off := 616) (b := 1456) (pc' := 843) (by decide +kernel) (by decide +kernel) rfl (fun c301 => ?_) (fun c301 => ?_)
                                          · rw [if_pos c301] at h
                                            refine pv_e_bk (ps := [(1456, .iinc 3 6, 3), (1459, .goto (-1441), 3)]) (t' := (116, 23246, 18, [some (.retAddr 0), some (.ref 0), some (.ref 94), some (.int (v3 + (6:Int32)))], [], pv_mm s T)) (by decide +kernel) rfl ?_
                                            obtain rfl := Option.some.inj h
                                            exact hK
                                          · rw [if_neg c301] at h
                                            refine pv_e_bk (ps := [(843, .iconst 0, 1)]) (t' := (116, 23246, 844, [some (.retAddr 0), some (.ref 0), some (.ref 94), some (.int v3)], [.int (0:Int32)], pv_mm s T)) (by decide +kernel) rfl ?_
                                            obtain rfl := Option.some.inj h
                                            cases hK
                                            exact pv_e_rL (by decide +kernel) pv_bl0
                                        · rw [if_neg c288] at h
                                          by_cases c302 : (q2 &&& (63:Int32)) = (19:Int32)
                                          · rw [if_pos c302] at h
                                            refine pv_e_swin (dflt := 1423) (lo := 0) (hi := 44) (offs := #[195, 228, 271, 304, 327, 390, 413, 446, 489, 512, 535, 568, 601, 634, 657, 680, 713, 756, 779, 812, 835, 858, 881, 904, 937, 960, 973, 996, 1019, 1042, 1075, 1108, 1131, 1154, 1187, 1230, 1253, 1276, 1309, 1322, 1336, 1350, 1373, 1386, 1409]) (len := 195) (off := 812) (b := 845) (by decide +kernel) (by rw [c302]; decide +kernel) (by rw [c302]; decide +kernel) (by decide +kernel) ?_
                                            unfold f_law_c19 at h
                                            refine pv_e_bk (ps := [(845, .aload_n 1, 1), (846, .aload_n 0, 1), (847, .iload_n 3, 1), (848, .iconst 1, 1), (849, .iadd, 1)]) (t' := (116, 23246, 850, [some (.retAddr 0), some (.ref 0), some (.ref 94), some (.int v3)], [.int (v3 + (1:Int32)), .retAddr 0, .ref 0], pv_mm s T)) (by decide +kernel) rfl ?_
                                            obtain ⟨q303, e304, h⟩ := Option.bind_eq_some_iff.mp h
                                            refine pv_e_sc (pc' := 851) (by decide +kernel) e304 rfl ?_
                                            obtain ⟨q306, e305, h⟩ := Option.bind_eq_some_iff.mp h
                                            refine pv_e_cvLi (d := d + 15) (i := 93) (z := 73) (np := 1) (ml := 2) (ci := 5) (As := [.int q303]) (rs := []) (pc' := 854) (by decide +kernel) rfl rfl rfl rfl (Nat.le_of_ble_eq_true rfl) (Nat.le_of_ble_eq_true rfl) rfl (ee73 (d + 13) q303 e305) ?_
                                            refine pv_e_bk (ps := [(854, .aload_n 2, 1), (855, .aload_n 0, 1), (856, .iload_n 3, 1), (857, .iconst 1, 1), (858, .iadd, 1)]) (t' := (116, 23246, 859, [some (.retAddr 0), some (.ref 0), some (.ref 94), some (.int v3)], [.int (v3 + (1:Int32)), .retAddr 0, .ref 94, .int q306], pv_mm s T)) (by decide +kernel) rfl ?_
                                            obtain ⟨q307, e308, h⟩ := Option.bind_eq_some_iff.mp h
                                            refine pv_e_sc (pc' := 860) (by decide +kernel) e308 rfl ?_
                                            obtain ⟨q310, e309, h⟩ := Option.bind_eq_some_iff.mp h
                                            refine pv_e_cvLi (d := d + 15) (i := 96) (z := 165) (np := 1) (ml := 2) (ci := 6) (As := [.int q307]) (rs := [.int q306]) (pc' := 863) (by decide +kernel) rfl rfl rfl rfl (Nat.le_of_ble_eq_true rfl) (Nat.le_of_ble_eq_true rfl) rfl (ee165 (d + 12) q307 e309) ?_
                                            refine pv_e_icmpeq (off := 593) (b := 1456) (pc' := 866) (by decide +kernel) (by decide +kernel) rfl (fun c311 => ?_) (fun c311 => ?_)
                                            · rw [if_pos c311] at h
                                              refine pv_e_bk (ps := [(1456, .iinc 3 6, 3), (1459, .goto (-1441), 3)]) (t' := (116, 23246, 18, [some (.retAddr 0), some (.ref 0), some (.ref 94), some (.int (v3 + (6:Int32)))], [], pv_mm s T)) (by decide +kernel) rfl ?_
                                              obtain rfl := Option.some.inj h
                                              exact hK
                                            · rw [if_neg c311] at h
                                              refine pv_e_bk (ps := [(866, .iconst 0, 1)]) (t' := (116, 23246, 867, [some (.retAddr 0), some (.ref 0), some (.ref 94), some (.int v3)], [.int (0:Int32)], pv_mm s T)) (by decide +kernel) rfl ?_
                                              obtain rfl := Option.some.inj h
                                              cases hK
                                              exact pv_e_rL (by decide +kernel) pv_bl0
                                          · rw [if_neg c302] at h
                                            by_cases c312 : (q2 &&& (63:Int32)) = (20:Int32)
                                            · rw [if_pos c312] at h
                                              refine pv_e_swin (dflt := 1423) (lo := 0) (hi := 44) (offs := #[195, 228, 271, 304, 327, 390, 413, 446, 489, 512, 535, 568, 601, 634, 657, 680, 713, 756, 779, 812, 835, 858, 881, 904, 937, 960, 973, 996, 1019, 1042, 1075, 1108, 1131, 1154, 1187, 1230, 1253, 1276, 1309, 1322, 1336, 1350, 1373, 1386, 1409]) (len := 195) (off := 835) (b := 868) (by decide +kernel) (by rw [c312]; decide +kernel) (by rw [c312]; decide +kernel) (by decide +kernel) ?_
                                              unfold f_law_c20 at h
                                              refine pv_e_bk (ps := [(868, .aload_n 1, 1), (869, .aload_n 0, 1), (870, .iload_n 3, 1), (871, .iconst 1, 1), (872, .iadd, 1)]) (t' := (116, 23246, 873, [some (.retAddr 0), some (.ref 0), some (.ref 94), some (.int v3)], [.int (v3 + (1:Int32)), .retAddr 0, .ref 0], pv_mm s T)) (by decide +kernel) rfl ?_
                                              obtain ⟨q313, e314, h⟩ := Option.bind_eq_some_iff.mp h
                                              refine pv_e_sc (pc' := 874) (by decide +kernel) e314 rfl ?_
                                              obtain ⟨⟨q316, s317⟩, e315, h⟩ := Option.bind_eq_some_iff.mp h
                                              dsimp only at h
                                              refine pv_e_cvLi (d := d + 15) (i := 97) (z := 74) (np := 1) (ml := 2) (ci := 5) (As := [.int q313]) (rs := []) (pc' := 877) (by decide +kernel) rfl rfl rfl rfl (Nat.le_of_ble_eq_true rfl) (Nat.le_of_ble_eq_true rfl) rfl (ee74 (d + 13) q313 e315) ?_
                                              refine pv_e_bk (ps := [(877, .aload_n 2, 1), (878, .aload_n 0, 1), (879, .iload_n 3, 1), (880, .iconst 1, 1), (881, .iadd, 1)]) (t' := (116, 23246, 882, [some (.retAddr 0), some (.ref 0), some (.ref 94), some (.int v3)], [.int (v3 + (1:Int32)), .retAddr 0, .ref 94, .int q316], pv_mm s317 T)) (by decide +kernel) rfl ?_
                                              obtain ⟨q318, e319, h⟩ := Option.bind_eq_some_iff.mp h
                                              refine pv_e_sc (pc' := 883) (by decide +kernel) e319 rfl ?_
                                              obtain ⟨⟨q321, T322⟩, e320, h⟩ := Option.bind_eq_some_iff.mp h
                                              dsimp only at h
                                              refine pv_e_cvLi (d := d + 15) (i := 100) (z := 166) (np := 1) (ml := 3) (ci := 6) (As := [.int q318]) (rs := [.int q316]) (pc' := 886) (by decide +kernel) rfl rfl rfl rfl (Nat.le_of_ble_eq_true rfl) (Nat.le_of_ble_eq_true rfl) rfl (ee166 (d + 14) q318 e320) ?_
                                              refine pv_e_icmpeq (off := 570) (b := 1456) (pc' := 889) (by decide +kernel) (by decide +kernel) rfl (fun c323 => ?_) (fun c323 => ?_)
                                              · rw [if_pos c323] at h
                                                refine pv_e_bk (ps := [(1456, .iinc 3 6, 3), (1459, .goto (-1441), 3)]) (t' := (116, 23246, 18, [some (.retAddr 0), some (.ref 0), some (.ref 94), some (.int (v3 + (6:Int32)))], [], pv_mm s317 T322)) (by decide +kernel) rfl ?_
                                                obtain rfl := Option.some.inj h
                                                exact hK
                                              · rw [if_neg c323] at h
                                                refine pv_e_bk (ps := [(889, .iconst 0, 1)]) (t' := (116, 23246, 890, [some (.retAddr 0), some (.ref 0), some (.ref 94), some (.int v3)], [.int (0:Int32)], pv_mm s317 T322)) (by decide +kernel) rfl ?_
                                                obtain rfl := Option.some.inj h
                                                cases hK
                                                exact pv_e_rL (by decide +kernel) pv_bl0
                                            · rw [if_neg c312] at h
                                              by_cases c324 : (q2 &&& (63:Int32)) = (21:Int32)
                                              · rw [if_pos c324] at h
                                                refine pv_e_swin (dflt := 1423) (lo := 0) (hi := 44) (offs := #[195, 228, 271, 304, 327, 390, 413, 446, 489, 512, 535, 568, 601, 634, 657, 680, 713, 756, 779, 812, 835, 858, 881, 904, 937, 960, 973, 996, 1019, 1042, 1075, 1108, 1131, 1154, 1187, 1230, 1253, 1276, 1309, 1322, 1336, 1350, 1373, 1386, 1409]) (len := 195) (off := 858) (b := 891) (by decide +kernel) (by rw [c324]; decide +kernel) (by rw [c324]; decide +kernel) (by decide +kernel) ?_
                                                unfold f_law_c21 at h
                                                refine pv_e_bk (ps := [(891, .aload_n 1, 1), (892, .aload_n 0, 1), (893, .iload_n 3, 1), (894, .iconst 1, 1), (895, .iadd, 1)]) (t' := (116, 23246, 896, [some (.retAddr 0), some (.ref 0), some (.ref 94), some (.int v3)], [.int (v3 + (1:Int32)), .retAddr 0, .ref 0], pv_mm s T)) (by decide +kernel) rfl ?_
                                                obtain ⟨q325, e326, h⟩ := Option.bind_eq_some_iff.mp h
                                                refine pv_e_sc (pc' := 897) (by decide +kernel) e326 rfl ?_
                                                obtain ⟨⟨q328, s329⟩, e327, h⟩ := Option.bind_eq_some_iff.mp h
                                                dsimp only at h
                                                refine pv_e_cvLi (d := d + 15) (i := 101) (z := 75) (np := 1) (ml := 2) (ci := 5) (As := [.int q325]) (rs := []) (pc' := 900) (by decide +kernel) rfl rfl rfl rfl (Nat.le_of_ble_eq_true rfl) (Nat.le_of_ble_eq_true rfl) rfl (ee75 (d + 9) q325 e327) ?_
                                                refine pv_e_bk (ps := [(900, .aload_n 2, 1), (901, .aload_n 0, 1), (902, .iload_n 3, 1), (903, .iconst 1, 1), (904, .iadd, 1)]) (t' := (116, 23246, 905, [some (.retAddr 0), some (.ref 0), some (.ref 94), some (.int v3)], [.int (v3 + (1:Int32)), .retAddr 0, .ref 94, .int q328], pv_mm s329 T)) (by decide +kernel) rfl ?_
                                                obtain ⟨q330, e331, h⟩ := Option.bind_eq_some_iff.mp h
                                                refine pv_e_sc (pc' := 906) (by decide +kernel) e331 rfl ?_
                                                obtain ⟨⟨q333, T334⟩, e332, h⟩ := Option.bind_eq_some_iff.mp h
                                                dsimp only at h
                                                refine pv_e_cvLi (d := d + 15) (i := 104) (z := 167) (np := 1) (ml := 3) (ci := 6) (As := [.int q330]) (rs := [.int q328]) (pc' := 909) (by decide +kernel) rfl rfl rfl rfl (Nat.le_of_ble_eq_true rfl) (Nat.le_of_ble_eq_true rfl) rfl (ee167 (d + 14) q330 e332) ?_
                                                refine pv_e_icmpeq (off := 547) (b := 1456) (pc' := 912) (by decide +kernel) (by decide +kernel) rfl (fun c335 => ?_) (fun c335 => ?_)
                                                · rw [if_pos c335] at h
                                                  refine pv_e_bk (ps := [(1456, .iinc 3 6, 3), (1459, .goto (-1441), 3)]) (t' := (116, 23246, 18, [some (.retAddr 0), some (.ref 0), some (.ref 94), some (.int (v3 + (6:Int32)))], [], pv_mm s329 T334)) (by decide +kernel) rfl ?_
                                                  obtain rfl := Option.some.inj h
                                                  exact hK
                                                · rw [if_neg c335] at h
                                                  refine pv_e_bk (ps := [(912, .iconst 0, 1)]) (t' := (116, 23246, 913, [some (.retAddr 0), some (.ref 0), some (.ref 94), some (.int v3)], [.int (0:Int32)], pv_mm s329 T334)) (by decide +kernel) rfl ?_
                                                  obtain rfl := Option.some.inj h
                                                  cases hK
                                                  exact pv_e_rL (by decide +kernel) pv_bl0
                                              · rw [if_neg c324] at h
                                                by_cases c336 : (q2 &&& (63:Int32)) = (22:Int32)
                                                · rw [if_pos c336] at h
                                                  refine pv_e_swin (dflt := 1423) (lo := 0) (hi := 44) (offs := #[195, 228, 271, 304, 327, 390, 413, 446, 489, 512, 535, 568, 601, 634, 657, 680, 713, 756, 779, 812, 835, 858, 881, 904, 937, 960, 973, 996, 1019, 1042, 1075, 1108, 1131, 1154, 1187, 1230, 1253, 1276, 1309, 1322, 1336, 1350, 1373, 1386, 1409]) (len := 195) (off := 881) (b := 914) (by decide +kernel) (by rw [c336]; decide +kernel) (by rw [c336]; decide +kernel) (by decide +kernel) ?_
                                                  unfold f_law_c22 at h
                                                  refine pv_e_bk (ps := [(914, .aload_n 1, 1), (915, .aload_n 0, 1), (916, .iload_n 3, 1), (917, .iconst 1, 1), (918, .iadd, 1)]) (t' := (116, 23246, 919, [some (.retAddr 0), some (.ref 0), some (.ref 94), some (.int v3)], [.int (v3 + (1:Int32)), .retAddr 0, .ref 0], pv_mm s T)) (by decide +kernel) rfl ?_
                                                  obtain ⟨q337, e338, h⟩ := Option.bind_eq_some_iff.mp h
                                                  refine pv_e_sc (pc' := 920) (by decide +kernel) e338 rfl ?_
                                                  obtain ⟨⟨q340, s341⟩, e339, h⟩ := Option.bind_eq_some_iff.mp h
                                                  dsimp only at h
                                                  refine pv_e_cvLi (d := d + 15) (i := 105) (z := 76) (np := 1) (ml := 2) (ci := 5) (As := [.int q337]) (rs := []) (pc' := 923) (by decide +kernel) rfl rfl rfl rfl (Nat.le_of_ble_eq_true rfl) (Nat.le_of_ble_eq_true rfl) rfl (ee76 (d + 12) q337 e339) ?_
                                                  refine pv_e_bk (ps := [(923, .aload_n 2, 1), (924, .aload_n 0, 1), (925, .iload_n 3, 1), (926, .iconst 1, 1), (927, .iadd, 1)]) (t' := (116, 23246, 928, [some (.retAddr 0), some (.ref 0), some (.ref 94), some (.int v3)], [.int (v3 + (1:Int32)), .retAddr 0, .ref 94, .int q340], pv_mm s341 T)) (by decide +kernel) rfl ?_
                                                  obtain ⟨q342, e343, h⟩ := Option.bind_eq_some_iff.mp h
                                                  refine pv_e_sc (pc' := 929) (by decide +kernel) e343 rfl ?_
                                                  obtain ⟨⟨q345, T346⟩, e344, h⟩ := Option.bind_eq_some_iff.mp h
                                                  dsimp only at h
                                                  refine pv_e_cvLi (d := d + 15) (i := 108) (z := 170) (np := 1) (ml := 3) (ci := 6) (As := [.int q342]) (rs := [.int q340]) (pc' := 932) (by decide +kernel) rfl rfl rfl rfl (Nat.le_of_ble_eq_true rfl) (Nat.le_of_ble_eq_true rfl) rfl (ee170 (d + 11) q342 e344) ?_
                                                  refine pv_e_icmpeq (off := 524) (b := 1456) (pc' := 935) (by decide +kernel) (by decide +kernel) rfl (fun c347 => ?_) (fun c347 => ?_)
                                                  · rw [if_pos c347] at h
                                                    refine pv_e_bk (ps := [(1456, .iinc 3 6, 3), (1459, .goto (-1441), 3)]) (t' := (116, 23246, 18, [some (.retAddr 0), some (.ref 0), some (.ref 94), some (.int (v3 + (6:Int32)))], [], pv_mm s341 T346)) (by decide +kernel) rfl ?_
                                                    obtain rfl := Option.some.inj h
                                                    exact hK
                                                  · rw [if_neg c347] at h
                                                    refine pv_e_bk (ps := [(935, .iconst 0, 1)]) (t' := (116, 23246, 936, [some (.retAddr 0), some (.ref 0), some (.ref 94), some (.int v3)], [.int (0:Int32)], pv_mm s341 T346)) (by decide +kernel) rfl ?_
                                                    obtain rfl := Option.some.inj h
                                                    cases hK
                                                    exact pv_e_rL (by decide +kernel) pv_bl0
                                                · rw [if_neg c336] at h
                                                  by_cases c348 : (q2 &&& (63:Int32)) = (23:Int32)
                                                  · rw [if_pos c348] at h
                                                    refine pv_e_swin (dflt := 1423) (lo := 0) (hi := 44) (offs := #[195, 228, 271, 304, 327, 390, 413, 446, 489, 512, 535, 568, 601, 634, 657, 680, 713, 756, 779, 812, 835, 858, 881, 904, 937, 960, 973, 996, 1019, 1042, 1075, 1108, 1131, 1154, 1187, 1230, 1253, 1276, 1309, 1322, 1336, 1350, 1373, 1386, 1409]) (len := 195) (off := 904) (b := 937) (by decide +kernel) (by rw [c348]; decide +kernel) (by rw [c348]; decide +kernel) (by decide +kernel) ?_
                                                    unfold f_law_c23 at h
                                                    refine pv_e_bk (ps := [(937, .aload_n 1, 1), (938, .aload_n 0, 1), (939, .iload_n 3, 1), (940, .iconst 1, 1), (941, .iadd, 1)]) (t' := (116, 23246, 942, [some (.retAddr 0), some (.ref 0), some (.ref 94), some (.int v3)], [.int (v3 + (1:Int32)), .retAddr 0, .ref 0], pv_mm s T)) (by decide +kernel) rfl ?_
                                                    obtain ⟨q349, e350, h⟩ := Option.bind_eq_some_iff.mp h
                                                    refine pv_e_sc (pc' := 943) (by decide +kernel) e350 rfl ?_
                                                    refine pv_e_bk (ps := [(943, .aload_n 0, 1), (944, .iload_n 3, 1), (945, .iconst 2, 1), (946, .iadd, 1)]) (t' := (116, 23246, 947, [some (.retAddr 0), some (.ref 0), some (.ref 94), some (.int v3)], [.int (v3 + (2:Int32)), .retAddr 0, .int q349, .ref 0], pv_mm s T)) (by decide +kernel) rfl ?_
                                                    obtain ⟨q351, e352, h⟩ := Option.bind_eq_some_iff.mp h
                                                    refine pv_e_sc (pc' := 948) (by decide +kernel) e352 rfl ?_
                                                    obtain ⟨⟨q354, s355⟩, e353, h⟩ := Option.bind_eq_some_iff.mp h
                                                    dsimp only at h
                                                    refine pv_e_cvLi (d := d + 15) (i := 109) (z := 77) (np := 2) (ml := 3) (ci := 5) (As := [.int q349, .int q351]) (rs := []) (pc' := 951) (by decide +kernel) rfl rfl rfl rfl (Nat.le_of_ble_eq_true rfl) (Nat.le_of_ble_eq_true rfl) rfl (ee77 (d + 12) q349 q351 e353) ?_
                                                    refine pv_e_bk (ps := [(951, .aload_n 2, 1), (952, .aload_n 0, 1), (953, .iload_n 3, 1), (954, .iconst 1, 1), (955, .iadd, 1)]) (t' := (116, 23246, 956, [some (.retAddr 0), some (.ref 0), some (.ref 94), some (.int v3)], [.int (v3 + (1:Int32)), .retAddr 0, .ref 94, .int q354], pv_mm s355 T)) (by decide +kernel) rfl ?_
                                                    obtain ⟨q356, e357, h⟩ := Option.bind_eq_some_iff.mp h
                                                    refine pv_e_sc (pc' := 957) (by decide +kernel) e357 rfl ?_
                                                    refine pv_e_bk (ps := [(957, .aload_n 0, 1), (958, .iload_n 3, 1), (959, .iconst 2, 1), (960, .iadd, 1)]) (t' := (116, 23246, 961, [some (.retAddr 0), some (.ref 0), some (.ref 94), some (.int v3)], [.int (v3 + (2:Int32)), .retAddr 0, .int q356, .ref 94, .int q354], pv_mm s355 T)) (by decide +kernel) rfl ?_
                                                    obtain ⟨q358, e359, h⟩ := Option.bind_eq_some_iff.mp h
                                                    refine pv_e_sc (pc' := 962) (by decide +kernel) e359 rfl ?_
                                                    obtain ⟨⟨q361, T362⟩, e360, h⟩ := Option.bind_eq_some_iff.mp h
                                                    dsimp only at h
                                                    refine pv_e_cvLi (d := d + 15) (i := 112) (z := 171) (np := 2) (ml := 5) (ci := 6) (As := [.int q356, .int q358]) (rs := [.int q354]) (pc' := 965) (by decide +kernel) rfl rfl rfl rfl (Nat.le_of_ble_eq_true rfl) (Nat.le_of_ble_eq_true rfl) rfl (ee171 (d + 11) q356 q358 e360) ?_
                                                    refine pv_e_icmpeq (off := 491) (b := 1456) (pc' := 968) (by decide +kernel) (by decide +kernel) rfl (fun c363 => ?_) (fun c363 => ?_)
                                                    · rw [if_pos c363] at h
                                                      refine pv_e_bk (ps := [(1456, .iinc 3 6, 3), (1459, .goto (-1441), 3)]) (t' := (116, 23246, 18, [some (.retAddr 0), some (.ref 0), some (.ref 94), some (.int (v3 + (6:Int32)))], [], pv_mm s355 T362)) (by decide +kernel) rfl ?_
                                                      obtain rfl := Option.some.inj h
                                                      exact hK
                                                    · rw [if_neg c363] at h
                                                      refine pv_e_bk (ps := [(968, .iconst 0, 1)]) (t' := (116, 23246, 969, [some (.retAddr 0), some (.ref 0), some (.ref 94), some (.int v3)], [.int (0:Int32)], pv_mm s355 T362)) (by decide +kernel) rfl ?_
                                                      obtain rfl := Option.some.inj h
                                                      cases hK
                                                      exact pv_e_rL (by decide +kernel) pv_bl0
                                                  · rw [if_neg c348] at h
                                                    by_cases c364 : (q2 &&& (63:Int32)) = (24:Int32)
                                                    · rw [if_pos c364] at h
                                                      refine pv_e_swin (dflt := 1423) (lo := 0) (hi := 44) (offs := #[195, 228, 271, 304, 327, 390, 413, 446, 489, 512, 535, 568, 601, 634, 657, 680, 713, 756, 779, 812, 835, 858, 881, 904, 937, 960, 973, 996, 1019, 1042, 1075, 1108, 1131, 1154, 1187, 1230, 1253, 1276, 1309, 1322, 1336, 1350, 1373, 1386, 1409]) (len := 195) (off := 937) (b := 970) (by decide +kernel) (by rw [c364]; decide +kernel) (by rw [c364]; decide +kernel) (by decide +kernel) ?_
                                                      unfold f_law_c24 at h
                                                      refine pv_e_bk (ps := [(970, .aload_n 1, 1), (971, .aload_n 0, 1), (972, .iload_n 3, 1), (973, .iconst 1, 1), (974, .iadd, 1)]) (t' := (116, 23246, 975, [some (.retAddr 0), some (.ref 0), some (.ref 94), some (.int v3)], [.int (v3 + (1:Int32)), .retAddr 0, .ref 0], pv_mm s T)) (by decide +kernel) rfl ?_
                                                      obtain ⟨q365, e366, h⟩ := Option.bind_eq_some_iff.mp h
                                                      refine pv_e_sc (pc' := 976) (by decide +kernel) e366 rfl ?_
                                                      obtain ⟨⟨q368, s369⟩, e367, h⟩ := Option.bind_eq_some_iff.mp h
                                                      dsimp only at h
                                                      refine pv_e_cvLi (d := d + 15) (i := 113) (z := 78) (np := 1) (ml := 3) (ci := 5) (As := [.int q365]) (rs := []) (pc' := 979) (by decide +kernel) rfl rfl rfl rfl (Nat.le_of_ble_eq_true rfl) (Nat.le_of_ble_eq_true rfl) rfl (ee78 (d + 11) q365 e367) ?_
                                                      refine pv_e_bk (ps := [(979, .aload_n 2, 1), (980, .aload_n 0, 1), (981, .iload_n 3, 1), (982, .iconst 1, 1), (983, .iadd, 1)]) (t' := (116, 23246, 984, [some (.retAddr 0), some (.ref 0), some (.ref 94), some (.int v3)], [.int (v3 + (1:Int32)), .retAddr 0, .ref 94, .int q368], pv_mm s369 T)) (by decide +kernel) rfl ?_
                                                      obtain ⟨q370, e371, h⟩ := Option.bind_eq_some_iff.mp h
                                                      refine pv_e_sc (pc' := 985) (by decide +kernel) e371 rfl ?_
                                                      obtain ⟨⟨q373, T374⟩, e372, h⟩ := Option.bind_eq_some_iff.mp h
                                                      dsimp only at h
                                                      refine pv_e_cvLi (d := d + 15) (i := 116) (z := 174) (np := 1) (ml := 3) (ci := 6) (As := [.int q370]) (rs := [.int q368]) (pc' := 988) (by decide +kernel) rfl rfl rfl rfl (Nat.le_of_ble_eq_true rfl) (Nat.le_of_ble_eq_true rfl) rfl (ee174 (d + 10) q370 e372) ?_
                                                      refine pv_e_icmpeq (off := 468) (b := 1456) (pc' := 991) (by decide +kernel) (by decide +kernel) rfl (fun c375 => ?_) (fun c375 => ?_)
                                                      · rw [if_pos c375] at h
                                                        refine pv_e_bk (ps := [(1456, .iinc 3 6, 3), (1459, .goto (-1441), 3)]) (t' := (116, 23246, 18, [some (.retAddr 0), some (.ref 0), some (.ref 94), some (.int (v3 + (6:Int32)))], [], pv_mm s369 T374)) (by decide +kernel) rfl ?_
                                                        obtain rfl := Option.some.inj h
                                                        exact hK
                                                      · rw [if_neg c375] at h
                                                        refine pv_e_bk (ps := [(991, .iconst 0, 1)]) (t' := (116, 23246, 992, [some (.retAddr 0), some (.ref 0), some (.ref 94), some (.int v3)], [.int (0:Int32)], pv_mm s369 T374)) (by decide +kernel) rfl ?_
                                                        obtain rfl := Option.some.inj h
                                                        cases hK
                                                        exact pv_e_rL (by decide +kernel) pv_bl0
                                                    · rw [if_neg c364] at h
                                                      by_cases c376 : (q2 &&& (63:Int32)) = (25:Int32)
                                                      · rw [if_pos c376] at h
                                                        refine pv_e_swin (dflt := 1423) (lo := 0) (hi := 44) (offs := #[195, 228, 271, 304, 327, 390, 413, 446, 489, 512, 535, 568, 601, 634, 657, 680, 713, 756, 779, 812, 835, 858, 881, 904, 937, 960, 973, 996, 1019, 1042, 1075, 1108, 1131, 1154, 1187, 1230, 1253, 1276, 1309, 1322, 1336, 1350, 1373, 1386, 1409]) (len := 195) (off := 960) (b := 993) (by decide +kernel) (by rw [c376]; decide +kernel) (by rw [c376]; decide +kernel) (by decide +kernel) ?_
                                                        unfold f_law_c25 at h
                                                        refine pv_e_bk (ps := [(993, .aload_n 1, 1)]) (t' := (116, 23246, 994, [some (.retAddr 0), some (.ref 0), some (.ref 94), some (.int v3)], [.ref 0], pv_mm s T)) (by decide +kernel) rfl ?_
                                                        obtain ⟨⟨q378, s379⟩, e377, h⟩ := Option.bind_eq_some_iff.mp h
                                                        dsimp only at h
                                                        refine pv_e_cvLi (d := d + 15) (i := 117) (z := 79) (np := 0) (ml := 3) (ci := 5) (As := []) (rs := []) (pc' := 997) (by decide +kernel) rfl rfl rfl rfl (Nat.le_of_ble_eq_true rfl) (Nat.le_of_ble_eq_true rfl) rfl (ee79 (d + 11) e377) ?_
                                                        refine pv_e_bk (ps := [(997, .aload_n 2, 1)]) (t' := (116, 23246, 998, [some (.retAddr 0), some (.ref 0), some (.ref 94), some (.int v3)], [.ref 94, .int q378], pv_mm s379 T)) (by decide +kernel) rfl ?_
                                                        obtain ⟨⟨q381, T382⟩, e380, h⟩ := Option.bind_eq_some_iff.mp h
                                                        dsimp only at h
                                                        refine pv_e_cvLi (d := d + 15) (i := 121) (z := 176) (np := 0) (ml := 4) (ci := 6) (As := []) (rs := [.int q378]) (pc' := 1001) (by decide +kernel) rfl rfl rfl rfl (Nat.le_of_ble_eq_true rfl) (Nat.le_of_ble_eq_true rfl) rfl (ee176 (d + 10) e380) ?_
                                                        refine pv_e_icmpeq (off := 455) (b := 1456) (pc' := 1004) (by decide +kernel) (by decide +kernel) rfl (fun c383 => ?_) (fun c383 => ?_)
                                                        · rw [if_pos c383] at h
                                                          refine pv_e_bk (ps := [(1456, .iinc 3 6, 3), (1459, .goto (-1441), 3)]) (t' := (116, 23246, 18, [some (.retAddr 0), some (.ref 0), some (.ref 94), some (.int (v3 + (6:Int32)))], [], pv_mm s379 T382)) (by decide +kernel) rfl ?_
                                                          obtain rfl := Option.some.inj h
                                                          exact hK
                                                        · rw [if_neg c383] at h
                                                          refine pv_e_bk (ps := [(1004, .iconst 0, 1)]) (t' := (116, 23246, 1005, [some (.retAddr 0), some (.ref 0), some (.ref 94), some (.int v3)], [.int (0:Int32)], pv_mm s379 T382)) (by decide +kernel) rfl ?_
                                                          obtain rfl := Option.some.inj h
                                                          cases hK
                                                          exact pv_e_rL (by decide +kernel) pv_bl0
                                                      · rw [if_neg c376] at h
                                                        by_cases c384 : (q2 &&& (63:Int32)) = (26:Int32)
                                                        · rw [if_pos c384] at h
                                                          refine pv_e_swin (dflt := 1423) (lo := 0) (hi := 44) (offs := #[195, 228, 271, 304, 327, 390, 413, 446, 489, 512, 535, 568, 601, 634, 657, 680, 713, 756, 779, 812, 835, 858, 881, 904, 937, 960, 973, 996, 1019, 1042, 1075, 1108, 1131, 1154, 1187, 1230, 1253, 1276, 1309, 1322, 1336, 1350, 1373, 1386, 1409]) (len := 195) (off := 973) (b := 1006) (by decide +kernel) (by rw [c384]; decide +kernel) (by rw [c384]; decide +kernel) (by decide +kernel) ?_
                                                          unfold f_law_c26 at h
                                                          refine pv_e_bk (ps := [(1006, .aload_n 1, 1), (1007, .aload_n 0, 1), (1008, .iload_n 3, 1), (1009, .iconst 1, 1), (1010, .iadd, 1)]) (t' := (116, 23246, 1011, [some (.retAddr 0), some (.ref 0), some (.ref 94), some (.int v3)], [.int (v3 + (1:Int32)), .retAddr 0, .ref 0], pv_mm s T)) (by decide +kernel) rfl ?_
                                                          obtain ⟨q385, e386, h⟩ := Option.bind_eq_some_iff.mp h
                                                          refine pv_e_sc (pc' := 1012) (by decide +kernel) e386 rfl ?_
                                                          obtain ⟨⟨q388, s389⟩, e387, h⟩ := Option.bind_eq_some_iff.mp h
                                                          dsimp only at h
                                                          refine pv_e_cvLi (d := d + 15) (i := 122) (z := 80) (np := 1) (ml := 3) (ci := 5) (As := [.int q385]) (rs := []) (pc' := 1015) (by decide +kernel) rfl rfl rfl rfl (Nat.le_of_ble_eq_true rfl) (Nat.le_of_ble_eq_true rfl) rfl (ee80 (d + 12) q385 e387) ?_
                                                          refine pv_e_bk (ps := [(1015, .aload_n 2, 1), (1016, .aload_n 0, 1), (1017, .iload_n 3, 1), (1018, .iconst 1, 1), (1019, .iadd, 1)]) (t' := (116, 23246, 1020, [some (.retAddr 0), some (.ref 0), some (.ref 94), some (.int v3)], [.int (v3 + (1:Int32)), .retAddr 0, .ref 94, .int q388], pv_mm s389 T)) (by decide +kernel) rfl ?_
                                                          obtain ⟨q390, e391, h⟩ := Option.bind_eq_some_iff.mp h
                                                          refine pv_e_sc (pc' := 1021) (by decide +kernel) e391 rfl ?_
                                                          obtain ⟨⟨q393, T394⟩, e392, h⟩ := Option.bind_eq_some_iff.mp h
                                                          dsimp only at h
                                                          refine pv_e_cvLi (d := d + 15) (i := 125) (z := 180) (np := 1) (ml := 3) (ci := 6) (As := [.int q390]) (rs := [.int q388]) (pc' := 1024) (by decide +kernel) rfl rfl rfl rfl (Nat.le_of_ble_eq_true rfl) (Nat.le_of_ble_eq_true rfl) rfl (ee180 (d + 11) q390 e392) ?_
                                                          refine pv_e_icmpeq (off := 432) (b := 1456) (pc' := 1027) (by decide +kernel) (by decide +kernel) rfl (fun c395 => ?_) (fun c395 => ?_)
                                                          · rw [if_pos c395] at h
                                                            refine pv_e_bk (ps := [(1456, .iinc 3 6, 3), (1459, .goto (-1441), 3)]) (t' := (116, 23246, 18, [some (.retAddr 0), some (.ref 0), some (.ref 94), some (.int (v3 + (6:Int32)))], [], pv_mm s389 T394)) (by decide +kernel) rfl ?_
                                                            obtain rfl := Option.some.inj h
                                                            exact hK
                                                          · rw [if_neg c395] at h
                                                            refine pv_e_bk (ps := [(1027, .iconst 0, 1)]) (t' := (116, 23246, 1028, [some (.retAddr 0), some (.ref 0), some (.ref 94), some (.int v3)], [.int (0:Int32)], pv_mm s389 T394)) (by decide +kernel) rfl ?_
                                                            obtain rfl := Option.some.inj h
                                                            cases hK
                                                            exact pv_e_rL (by decide +kernel) pv_bl0
                                                        · rw [if_neg c384] at h
                                                          by_cases c396 : (q2 &&& (63:Int32)) = (27:Int32)
                                                          · rw [if_pos c396] at h
                                                            refine pv_e_swin (dflt := 1423) (lo := 0) (hi := 44) (offs := #[195, 228, 271, 304, 327, 390, 413, 446, 489, 512, 535, 568, 601, 634, 657, 680, 713, 756, 779, 812, 835, 858, 881, 904, 937, 960, 973, 996, 1019, 1042, 1075, 1108, 1131, 1154, 1187, 1230, 1253, 1276, 1309, 1322, 1336, 1350, 1373, 1386, 1409]) (len := 195) (off := 996) (b := 1029) (by decide +kernel) (by rw [c396]; decide +kernel) (by rw [c396]; decide +kernel) (by decide +kernel) ?_
                                                            unfold f_law_c27 at h
                                                            refine pv_e_bk (ps := [(1029, .aload_n 1, 1), (1030, .aload_n 0, 1), (1031, .iload_n 3, 1), (1032, .iconst 1, 1), (1033, .iadd, 1)]) (t' := (116, 23246, 1034, [some (.retAddr 0), some (.ref 0), some (.ref 94), some (.int v3)], [.int (v3 + (1:Int32)), .retAddr 0, .ref 0], pv_mm s T)) (by decide +kernel) rfl ?_
                                                            obtain ⟨q397, e398, h⟩ := Option.bind_eq_some_iff.mp h
                                                            refine pv_e_sc (pc' := 1035) (by decide +kernel) e398 rfl ?_
                                                            obtain ⟨⟨q400, s401⟩, e399, h⟩ := Option.bind_eq_some_iff.mp h
                                                            dsimp only at h
                                                            refine pv_e_cvLi (d := d + 15) (i := 126) (z := 81) (np := 1) (ml := 6) (ci := 5) (As := [.int q397]) (rs := []) (pc' := 1038) (by decide +kernel) rfl rfl rfl rfl (Nat.le_of_ble_eq_true rfl) (Nat.le_of_ble_eq_true rfl) rfl (ee81 (d + 12) q397 e399) ?_
                                                            refine pv_e_bk (ps := [(1038, .aload_n 2, 1), (1039, .aload_n 0, 1), (1040, .iload_n 3, 1), (1041, .iconst 1, 1), (1042, .iadd, 1)]) (t' := (116, 23246, 1043, [some (.retAddr 0), some (.ref 0), some (.ref 94), some (.int v3)], [.int (v3 + (1:Int32)), .retAddr 0, .ref 94, .int q400], pv_mm s401 T)) (by decide +kernel) rfl ?_
                                                            obtain ⟨q402, e403, h⟩ := Option.bind_eq_some_iff.mp h
                                                            refine pv_e_sc (pc' := 1044) (by decide +kernel) e403 rfl ?_
                                                            obtain ⟨⟨q405, T406⟩, e404, h⟩ := Option.bind_eq_some_iff.mp h
                                                            dsimp only at h
                                                            refine pv_e_cvLi (d := d + 15) (i := 129) (z := 181) (np := 1) (ml := 6) (ci := 6) (As := [.int q402]) (rs := [.int q400]) (pc' := 1047) (by decide +kernel) rfl rfl rfl rfl (Nat.le_of_ble_eq_true rfl) (Nat.le_of_ble_eq_true rfl) rfl (ee181 (d + 11) q402 e404) ?_
                                                            refine pv_e_icmpeq (off := 409) (b := 1456) (pc' := 1050) (by decide +kernel) (by decide +kernel) rfl (fun c407 => ?_) (fun c407 => ?_)
                                                            · rw [if_pos c407] at h
                                                              refine pv_e_bk (ps := [(1456, .iinc 3 6, 3), (1459, .goto (-1441), 3)]) (t' := (116, 23246, 18, [some (.retAddr 0), some (.ref 0), some (.ref 94), some (.int (v3 + (6:Int32)))], [], pv_mm s401 T406)) (by decide +kernel) rfl ?_
                                                              obtain rfl := Option.some.inj h
                                                              exact hK
                                                            · rw [if_neg c407] at h
                                                              refine pv_e_bk (ps := [(1050, .iconst 0, 1)]) (t' := (116, 23246, 1051, [some (.retAddr 0), some (.ref 0), some (.ref 94), some (.int v3)], [.int (0:Int32)], pv_mm s401 T406)) (by decide +kernel) rfl ?_
                                                              obtain rfl := Option.some.inj h
                                                              cases hK
                                                              exact pv_e_rL (by decide +kernel) pv_bl0
                                                          · rw [if_neg c396] at h
                                                            by_cases c408 : (q2 &&& (63:Int32)) = (28:Int32)
                                                            · rw [if_pos c408] at h
                                                              refine pv_e_swin (dflt := 1423) (lo := 0) (hi := 44) (offs := #[195, 228, 271, 304, 327, 390, 413, 446, 489, 512, 535, 568, 601, 634, 657, 680, 713, 756, 779, 812, 835, 858, 881, 904, 937, 960, 973, 996, 1019, 1042, 1075, 1108, 1131, 1154, 1187, 1230, 1253, 1276, 1309, 1322, 1336, 1350, 1373, 1386, 1409]) (len := 195) (off := 1019) (b := 1052) (by decide +kernel) (by rw [c408]; decide +kernel) (by rw [c408]; decide +kernel) (by decide +kernel) ?_
                                                              unfold f_law_c28 at h
                                                              refine pv_e_bk (ps := [(1052, .aload_n 1, 1), (1053, .aload_n 0, 1), (1054, .iload_n 3, 1), (1055, .iconst 1, 1), (1056, .iadd, 1)]) (t' := (116, 23246, 1057, [some (.retAddr 0), some (.ref 0), some (.ref 94), some (.int v3)], [.int (v3 + (1:Int32)), .retAddr 0, .ref 0], pv_mm s T)) (by decide +kernel) rfl ?_
                                                              obtain ⟨q409, e410, h⟩ := Option.bind_eq_some_iff.mp h
                                                              refine pv_e_sc (pc' := 1058) (by decide +kernel) e410 rfl ?_
                                                              obtain ⟨⟨q412, s413⟩, e411, h⟩ := Option.bind_eq_some_iff.mp h
                                                              dsimp only at h
                                                              refine pv_e_cvLi (d := d + 15) (i := 130) (z := 82) (np := 1) (ml := 4) (ci := 5) (As := [.int q409]) (rs := []) (pc' := 1061) (by decide +kernel) rfl rfl rfl rfl (Nat.le_of_ble_eq_true rfl) (Nat.le_of_ble_eq_true rfl) rfl (ee82 (d + 10) q409 e411) ?_
                                                              refine pv_e_bk (ps := [(1061, .aload_n 2, 1), (1062, .aload_n 0, 1), (1063, .iload_n 3, 1), (1064, .iconst 1, 1), (1065, .iadd, 1)]) (t' := (116, 23246, 1066, [some (.retAddr 0), some (.ref 0), some (.ref 94), some (.int v3)], [.int (v3 + (1:Int32)), .retAddr 0, .ref 94, .int q412], pv_mm s413 T)) (by decide +kernel) rfl ?_
                                                              obtain ⟨q414, e415, h⟩ := Option.bind_eq_some_iff.mp h
                                                              refine pv_e_sc (pc' := 1067) (by decide +kernel) e415 rfl ?_
                                                              obtain ⟨⟨q417, T418⟩, e416, h⟩ := Option.bind_eq_some_iff.mp h
                                                              dsimp only at h
                                                              refine pv_e_cvLi (d := d + 15) (i := 133) (z := 186) (np := 1) (ml := 6) (ci := 6) (As := [.int q414]) (rs := [.int q412]) (pc' := 1070) (by decide +kernel) rfl rfl rfl rfl (Nat.le_of_ble_eq_true rfl) (Nat.le_of_ble_eq_true rfl) rfl (ee186 (d + 9) q414 e416) ?_
                                                              refine pv_e_icmpeq (off := 386) (b := 1456) (pc' := 1073) (by decide +kernel) (by decide +kernel) rfl (fun c419 => ?_) (fun c419 => ?_)
                                                              · rw [if_pos c419] at h
                                                                refine pv_e_bk (ps := [(1456, .iinc 3 6, 3), (1459, .goto (-1441), 3)]) (t' := (116, 23246, 18, [some (.retAddr 0), some (.ref 0), some (.ref 94), some (.int (v3 + (6:Int32)))], [], pv_mm s413 T418)) (by decide +kernel) rfl ?_
                                                                obtain rfl := Option.some.inj h
                                                                exact hK
                                                              · rw [if_neg c419] at h
                                                                refine pv_e_bk (ps := [(1073, .iconst 0, 1)]) (t' := (116, 23246, 1074, [some (.retAddr 0), some (.ref 0), some (.ref 94), some (.int v3)], [.int (0:Int32)], pv_mm s413 T418)) (by decide +kernel) rfl ?_
                                                                obtain rfl := Option.some.inj h
                                                                cases hK
                                                                exact pv_e_rL (by decide +kernel) pv_bl0
                                                            · rw [if_neg c408] at h
                                                              by_cases c420 : (q2 &&& (63:Int32)) = (29:Int32)
                                                              · rw [if_pos c420] at h
                                                                refine pv_e_swin (dflt := 1423) (lo := 0) (hi := 44) (offs := #[195, 228, 271, 304, 327, 390, 413, 446, 489, 512, 535, 568, 601, 634, 657, 680, 713, 756, 779, 812, 835, 858, 881, 904, 937, 960, 973, 996, 1019, 1042, 1075, 1108, 1131, 1154, 1187, 1230, 1253, 1276, 1309, 1322, 1336, 1350, 1373, 1386, 1409]) (len := 195) (off := 1042) (b := 1075) (by decide +kernel) (by rw [c420]; decide +kernel) (by rw [c420]; decide +kernel) (by decide +kernel) ?_
                                                                unfold f_law_c29 at h
                                                                refine pv_e_bk (ps := [(1075, .aload_n 1, 1), (1076, .aload_n 0, 1), (1077, .iload_n 3, 1), (1078, .iconst 1, 1), (1079, .iadd, 1)]) (t' := (116, 23246, 1080, [some (.retAddr 0), some (.ref 0), some (.ref 94), some (.int v3)], [.int (v3 + (1:Int32)), .retAddr 0, .ref 0], pv_mm s T)) (by decide +kernel) rfl ?_
                                                                obtain ⟨q421, e422, h⟩ := Option.bind_eq_some_iff.mp h
                                                                refine pv_e_sc (pc' := 1081) (by decide +kernel) e422 rfl ?_
                                                                refine pv_e_bk (ps := [(1081, .aload_n 0, 1), (1082, .iload_n 3, 1), (1083, .iconst 2, 1), (1084, .iadd, 1)]) (t' := (116, 23246, 1085, [some (.retAddr 0), some (.ref 0), some (.ref 94), some (.int v3)], [.int (v3 + (2:Int32)), .retAddr 0, .int q421, .ref 0], pv_mm s T)) (by decide +kernel) rfl ?_
                                                                obtain ⟨q423, e424, h⟩ := Option.bind_eq_some_iff.mp h
                                                                refine pv_e_sc (pc' := 1086) (by decide +kernel) e424 rfl ?_
                                                                obtain ⟨⟨q426, s427⟩, e425, h⟩ := Option.bind_eq_some_iff.mp h
                                                                dsimp only at h
                                                                refine pv_e_cvLi (d := d + 15) (i := 134) (z := 83) (np := 2) (ml := 4) (ci := 5) (As := [.int q421, .int q423]) (rs := []) (pc' := 1089) (by decide +kernel) rfl rfl rfl rfl (Nat.le_of_ble_eq_true rfl) (Nat.le_of_ble_eq_true rfl) rfl (ee83 (d + 1) q421 q423 e425) ?_
                                                                refine pv_e_bk (ps := [(1089, .aload_n 2, 1), (1090, .aload_n 0, 1), (1091, .iload_n 3, 1), (1092, .iconst 1, 1), (1093, .iadd, 1)]) (t' := (116, 23246, 1094, [some (.retAddr 0), some (.ref 0), some (.ref 94), some (.int v3)], [.int (v3 + (1:Int32)), .retAddr 0, .ref 94, .int q426], pv_mm s427 T)) (by decide +kernel) rfl ?_
                                                                obtain ⟨q428, e429, h⟩ := Option.bind_eq_some_iff.mp h
                                                                refine pv_e_sc (pc' := 1095) (by decide +kernel) e429 rfl ?_
                                                                refine pv_e_bk (ps := [(1095, .aload_n 0, 1), (1096, .iload_n 3, 1), (1097, .iconst 2, 1), (1098, .iadd, 1)]) (t' := (116, 23246, 1099, [some (.retAddr 0), some (.ref 0), some (.ref 94), some (.int v3)], [.int (v3 + (2:Int32)), .retAddr 0, .int q428, .ref 94, .int q426], pv_mm s427 T)) (by decide +kernel) rfl ?_
                                                                obtain ⟨q430, e431, h⟩ := Option.bind_eq_some_iff.mp h
                                                                refine pv_e_sc (pc' := 1100) (by decide +kernel) e431 rfl ?_
                                                                obtain ⟨⟨q433, T434⟩, e432, h⟩ := Option.bind_eq_some_iff.mp h
                                                                dsimp only at h
                                                                refine pv_e_cvLi (d := d + 15) (i := 137) (z := 190) (np := 2) (ml := 4) (ci := 6) (As := [.int q428, .int q430]) (rs := [.int q426]) (pc' := 1103) (by decide +kernel) rfl rfl rfl rfl (Nat.le_of_ble_eq_true rfl) (Nat.le_of_ble_eq_true rfl) rfl (ee190 (d + 1) q428 q430 e432) ?_
                                                                refine pv_e_icmpeq (off := 353) (b := 1456) (pc' := 1106) (by decide +kernel) (by decide +kernel) rfl (fun c435 => ?_) (fun c435 => ?_)
                                                                · rw [if_pos c435] at h
                                                                  refine pv_e_bk (ps := [(1456, .iinc 3 6, 3), (1459, .goto (-1441), 3)]) (t' := (116, 23246, 18, [some (.retAddr 0), some (.ref 0), some (.ref 94), some (.int (v3 + (6:Int32)))], [], pv_mm s427 T434)) (by decide +kernel) rfl ?_
                                                                  obtain rfl := Option.some.inj h
                                                                  exact hK
                                                                · rw [if_neg c435] at h
                                                                  refine pv_e_bk (ps := [(1106, .iconst 0, 1)]) (t' := (116, 23246, 1107, [some (.retAddr 0), some (.ref 0), some (.ref 94), some (.int v3)], [.int (0:Int32)], pv_mm s427 T434)) (by decide +kernel) rfl ?_
                                                                  obtain rfl := Option.some.inj h
                                                                  cases hK
                                                                  exact pv_e_rL (by decide +kernel) pv_bl0
                                                              · rw [if_neg c420] at h
                                                                by_cases c436 : (q2 &&& (63:Int32)) = (30:Int32)
                                                                · rw [if_pos c436] at h
                                                                  refine pv_e_swin (dflt := 1423) (lo := 0) (hi := 44) (offs := #[195, 228, 271, 304, 327, 390, 413, 446, 489, 512, 535, 568, 601, 634, 657, 680, 713, 756, 779, 812, 835, 858, 881, 904, 937, 960, 973, 996, 1019, 1042, 1075, 1108, 1131, 1154, 1187, 1230, 1253, 1276, 1309, 1322, 1336, 1350, 1373, 1386, 1409]) (len := 195) (off := 1075) (b := 1108) (by decide +kernel) (by rw [c436]; decide +kernel) (by rw [c436]; decide +kernel) (by decide +kernel) ?_
                                                                  unfold f_law_c30 at h
                                                                  refine pv_e_bk (ps := [(1108, .aload_n 1, 1), (1109, .aload_n 0, 1), (1110, .iload_n 3, 1), (1111, .iconst 1, 1), (1112, .iadd, 1)]) (t' := (116, 23246, 1113, [some (.retAddr 0), some (.ref 0), some (.ref 94), some (.int v3)], [.int (v3 + (1:Int32)), .retAddr 0, .ref 0], pv_mm s T)) (by decide +kernel) rfl ?_
                                                                  obtain ⟨q437, e438, h⟩ := Option.bind_eq_some_iff.mp h
                                                                  refine pv_e_sc (pc' := 1114) (by decide +kernel) e438 rfl ?_
                                                                  refine pv_e_bk (ps := [(1114, .aload_n 0, 1), (1115, .iload_n 3, 1), (1116, .iconst 2, 1), (1117, .iadd, 1)]) (t' := (116, 23246, 1118, [some (.retAddr 0), some (.ref 0), some (.ref 94), some (.int v3)], [.int (v3 + (2:Int32)), .retAddr 0, .int q437, .ref 0], pv_mm s T)) (by decide +kernel) rfl ?_
                                                                  obtain ⟨q439, e440, h⟩ := Option.bind_eq_some_iff.mp h
                                                                  refine pv_e_sc (pc' := 1119) (by decide +kernel) e440 rfl ?_
                                                                  obtain ⟨⟨q442, s443⟩, e441, h⟩ := Option.bind_eq_some_iff.mp h
                                                                  dsimp only at h
                                                                  refine pv_e_cvLi (d := d + 15) (i := 138) (z := 84) (np := 2) (ml := 4) (ci := 5) (As := [.int q437, .int q439]) (rs := []) (pc' := 1122) (by decide +kernel) rfl rfl rfl rfl (Nat.le_of_ble_eq_true rfl) (Nat.le_of_ble_eq_true rfl) rfl (ee84 (d + 1) q437 q439 e441) ?_
                                                                  refine pv_e_bk (ps := [(1122, .aload_n 2, 1), (1123, .aload_n 0, 1), (1124, .iload_n 3, 1), (1125, .iconst 1, 1), (1126, .iadd, 1)]) (t' := (116, 23246, 1127, [some (.retAddr 0), some (.ref 0), some (.ref 94), some (.int v3)], [.int (v3 + (1:Int32)), .retAddr 0, .ref 94, .int q442], pv_mm s443 T)) (by decide +kernel) rfl ?_
                                                                  obtain ⟨q444, e445, h⟩ := Option.bind_eq_some_iff.mp h
                                                                  refine pv_e_sc (pc' := 1128) (by decide +kernel) e445 rfl ?_
                                                                  refine pv_e_bk (ps := [(1128, .aload_n 0, 1), (1129, .iload_n 3, 1), (1130, .iconst 2, 1), (1131, .iadd, 1)]) (t' := (116, 23246, 1132, [some (.retAddr 0), some (.ref 0), some (.ref 94), some (.int v3)], [.int (v3 + (2:Int32)), .retAddr 0, .int q444, .ref 94, .int q442], pv_mm s443 T)) (by decide +kernel) rfl ?_
                                                                  obtain ⟨q446, e447, h⟩ := Option.bind_eq_some_iff.mp h
                                                                  refine pv_e_sc (pc' := 1133) (by decide +kernel) e447 rfl ?_
                                                                  obtain ⟨⟨q449, T450⟩, e448, h⟩ := Option.bind_eq_some_iff.mp h
                                                                  dsimp only at h
                                                                  refine pv_e_cvLi (d := d + 15) (i := 141) (z := 192) (np := 2) (ml := 5) (ci := 6) (As := [.int q444, .int q446]) (rs := [.int q442]) (pc' := 1136) (by decide +kernel) rfl rfl rfl rfl (Nat.le_of_ble_eq_true rfl) (Nat.le_of_ble_eq_true rfl) rfl (ee192 (d + 1) q444 q446 e448) ?_
                                                                  refine pv_e_icmpeq (off := 320) (b := 1456) (pc' := 1139) (by decide +kernel) (by decide +kernel) rfl (fun c451 => ?_) (fun c451 => ?_)
                                                                  · rw [if_pos c451] at h
                                                                    refine pv_e_bk (ps := [(1456, .iinc 3 6, 3), (1459, .goto (-1441), 3)]) (t' := (116, 23246, 18, [some (.retAddr 0), some (.ref 0), some (.ref 94), some (.int (v3 + (6:Int32)))], [], pv_mm s443 T450)) (by decide +kernel) rfl ?_
                                                                    obtain rfl := Option.some.inj h
                                                                    exact hK
                                                                  · rw [if_neg c451] at h
                                                                    refine pv_e_bk (ps := [(1139, .iconst 0, 1)]) (t' := (116, 23246, 1140, [some (.retAddr 0), some (.ref 0), some (.ref 94), some (.int v3)], [.int (0:Int32)], pv_mm s443 T450)) (by decide +kernel) rfl ?_
                                                                    obtain rfl := Option.some.inj h
                                                                    cases hK
                                                                    exact pv_e_rL (by decide +kernel) pv_bl0
                                                                · rw [if_neg c436] at h
                                                                  by_cases c452 : (q2 &&& (63:Int32)) = (31:Int32)
                                                                  · rw [if_pos c452] at h
                                                                    refine pv_e_swin (dflt := 1423) (lo := 0) (hi := 44) (offs := #[195, 228, 271, 304, 327, 390, 413, 446, 489, 512, 535, 568, 601, 634, 657, 680, 713, 756, 779, 812, 835, 858, 881, 904, 937, 960, 973, 996, 1019, 1042, 1075, 1108, 1131, 1154, 1187, 1230, 1253, 1276, 1309, 1322, 1336, 1350, 1373, 1386, 1409]) (len := 195) (off := 1108) (b := 1141) (by decide +kernel) (by rw [c452]; decide +kernel) (by rw [c452]; decide +kernel) (by decide +kernel) ?_
                                                                    unfold f_law_c31 at h
                                                                    refine pv_e_bk (ps := [(1141, .aload_n 1, 1), (1142, .aload_n 0, 1), (1143, .iload_n 3, 1), (1144, .iconst 1, 1), (1145, .iadd, 1)]) (t' := (116, 23246, 1146, [some (.retAddr 0), some (.ref 0), some (.ref 94), some (.int v3)], [.int (v3 + (1:Int32)), .retAddr 0, .ref 0], pv_mm s T)) (by decide +kernel) rfl ?_
                                                                    obtain ⟨q453, e454, h⟩ := Option.bind_eq_some_iff.mp h
                                                                    refine pv_e_sc (pc' := 1147) (by decide +kernel) e454 rfl ?_
                                                                    obtain ⟨⟨q456, s457⟩, e455, h⟩ := Option.bind_eq_some_iff.mp h
                                                                    dsimp only at h
                                                                    refine pv_e_cvLi (d := d + 15) (i := 142) (z := 85) (np := 1) (ml := 5) (ci := 5) (As := [.int q453]) (rs := []) (pc' := 1150) (by decide +kernel) rfl rfl rfl rfl (Nat.le_of_ble_eq_true rfl) (Nat.le_of_ble_eq_true rfl) rfl (ee85 (d + 9) q453 e455) ?_
                                                                    refine pv_e_bk (ps := [(1150, .aload_n 2, 1), (1151, .aload_n 0, 1), (1152, .iload_n 3, 1), (1153, .iconst 1, 1), (1154, .iadd, 1)]) (t' := (116, 23246, 1155, [some (.retAddr 0), some (.ref 0), some (.ref 94), some (.int v3)], [.int (v3 + (1:Int32)), .retAddr 0, .ref 94, .int q456], pv_mm s457 T)) (by decide +kernel) rfl ?_
                                                                    obtain ⟨q458, e459, h⟩ := Option.bind_eq_some_iff.mp h
                                                                    refine pv_e_sc (pc' := 1156) (by decide +kernel) e459 rfl ?_
                                                                    obtain ⟨⟨q461, T462⟩, e460, h⟩ := Option.bind_eq_some_iff.mp h
                                                                    dsimp only at h
                                                                    refine pv_e_cvLi (d := d + 15) (i := 145) (z := 194) (np := 1) (ml := 5) (ci := 6) (As := [.int q458]) (rs := [.int q456]) (pc' := 1159) (by decide +kernel) rfl rfl rfl rfl (Nat.le_of_ble_eq_true rfl) (Nat.le_of_ble_eq_true rfl) rfl (ee194 (d + 8) q458 e460) ?_
                                                                    refine pv_e_icmpeq (off := 297) (b := 1456) (pc' := 1162) (by decide +kernel) (by decide +kernel) rfl (fun c463 => ?_) (fun c463 => ?_)
                                                                    · rw [if_pos c463] at h
                                                                      refine pv_e_bk (ps := [(1456, .iinc 3 6, 3), (1459, .goto (-1441), 3)]) (t' := (116, 23246, 18, [some (.retAddr 0), some (.ref 0), some (.ref 94), some (.int (v3 + (6:Int32)))], [], pv_mm s457 T462)) (by decide +kernel) rfl ?_
                                                                      obtain rfl := Option.some.inj h
                                                                      exact hK
                                                                    · rw [if_neg c463] at h
                                                                      refine pv_e_bk (ps := [(1162, .iconst 0, 1)]) (t' := (116, 23246, 1163, [some (.retAddr 0), some (.ref 0), some (.ref 94), some (.int v3)], [.int (0:Int32)], pv_mm s457 T462)) (by decide +kernel) rfl ?_
                                                                      obtain rfl := Option.some.inj h
                                                                      cases hK
                                                                      exact pv_e_rL (by decide +kernel) pv_bl0
                                                                  · rw [if_neg c452] at h
                                                                    by_cases c464 : (q2 &&& (63:Int32)) = (32:Int32)
                                                                    · rw [if_pos c464] at h
                                                                      refine pv_e_swin (dflt := 1423) (lo := 0) (hi := 44) (offs := #[195, 228, 271, 304, 327, 390, 413, 446, 489, 512, 535, 568, 601, 634, 657, 680, 713, 756, 779, 812, 835, 858, 881, 904, 937, 960, 973, 996, 1019, 1042, 1075, 1108, 1131, 1154, 1187, 1230, 1253, 1276, 1309, 1322, 1336, 1350, 1373, 1386, 1409]) (len := 195) (off := 1131) (b := 1164) (by decide +kernel) (by rw [c464]; decide +kernel) (by rw [c464]; decide +kernel) (by decide +kernel) ?_
                                                                      unfold f_law_c32 at h
                                                                      refine pv_e_bk (ps := [(1164, .aload_n 1, 1), (1165, .aload_n 0, 1), (1166, .iload_n 3, 1), (1167, .iconst 1, 1), (1168, .iadd, 1)]) (t' := (116, 23246, 1169, [some (.retAddr 0), some (.ref 0), some (.ref 94), some (.int v3)], [.int (v3 + (1:Int32)), .retAddr 0, .ref 0], pv_mm s T)) (by decide +kernel) rfl ?_
                                                                      obtain ⟨q465, e466, h⟩ := Option.bind_eq_some_iff.mp h
                                                                      refine pv_e_sc (pc' := 1170) (by decide +kernel) e466 rfl ?_
                                                                      obtain ⟨⟨q468, s469⟩, e467, h⟩ := Option.bind_eq_some_iff.mp h
                                                                      dsimp only at h
                                                                      refine pv_e_cvLi (d := d + 15) (i := 146) (z := 86) (np := 1) (ml := 7) (ci := 5) (As := [.int q465]) (rs := []) (pc' := 1173) (by decide +kernel) rfl rfl rfl rfl (Nat.le_of_ble_eq_true rfl) (Nat.le_of_ble_eq_true rfl) rfl (ee86 (d + 12) q465 e467) ?_
                                                                      refine pv_e_bk (ps := [(1173, .aload_n 2, 1), (1174, .aload_n 0, 1), (1175, .iload_n 3, 1), (1176, .iconst 1, 1), (1177, .iadd, 1)]) (t' := (116, 23246, 1178, [some (.retAddr 0), some (.ref 0), some (.ref 94), some (.int v3)], [.int (v3 + (1:Int32)), .retAddr 0, .ref 94, .int q468], pv_mm s469 T)) (by decide +kernel) rfl ?_
                                                                      obtain ⟨q470, e471, h⟩ := Option.bind_eq_some_iff.mp h
                                                                      refine pv_e_sc (pc' := 1179) (by decide +kernel) e471 rfl ?_
                                                                      obtain ⟨⟨q473, T474⟩, e472, h⟩ := Option.bind_eq_some_iff.mp h
                                                                      dsimp only at h
                                                                      refine pv_e_cvLi (d := d + 15) (i := 149) (z := 195) (np := 1) (ml := 7) (ci := 6) (As := [.int q470]) (rs := [.int q468]) (pc' := 1182) (by decide +kernel) rfl rfl rfl rfl (Nat.le_of_ble_eq_true rfl) (Nat.le_of_ble_eq_true rfl) rfl (ee195 (d + 10) q470 e472) ?_
                                                                      refine pv_e_icmpeq (off := 274) (b := 1456) (pc' := 1185) (by decide +kernel) (by decide +kernel) rfl (fun c475 => ?_) (fun c475 => ?_)
                                                                      · rw [if_pos c475] at h
                                                                        refine pv_e_bk (ps := [(1456, .iinc 3 6, 3), (1459, .goto (-1441), 3)]) (t' := (116, 23246, 18, [some (.retAddr 0), some (.ref 0), some (.ref 94), some (.int (v3 + (6:Int32)))], [], pv_mm s469 T474)) (by decide +kernel) rfl ?_
                                                                        obtain rfl := Option.some.inj h
                                                                        exact hK
                                                                      · rw [if_neg c475] at h
                                                                        refine pv_e_bk (ps := [(1185, .iconst 0, 1)]) (t' := (116, 23246, 1186, [some (.retAddr 0), some (.ref 0), some (.ref 94), some (.int v3)], [.int (0:Int32)], pv_mm s469 T474)) (by decide +kernel) rfl ?_
                                                                        obtain rfl := Option.some.inj h
                                                                        cases hK
                                                                        exact pv_e_rL (by decide +kernel) pv_bl0
                                                                    · rw [if_neg c464] at h
                                                                      by_cases c476 : (q2 &&& (63:Int32)) = (33:Int32)
                                                                      · rw [if_pos c476] at h
                                                                        refine pv_e_swin (dflt := 1423) (lo := 0) (hi := 44) (offs := #[195, 228, 271, 304, 327, 390, 413, 446, 489, 512, 535, 568, 601, 634, 657, 680, 713, 756, 779, 812, 835, 858, 881, 904, 937, 960, 973, 996, 1019, 1042, 1075, 1108, 1131, 1154, 1187, 1230, 1253, 1276, 1309, 1322, 1336, 1350, 1373, 1386, 1409]) (len := 195) (off := 1154) (b := 1187) (by decide +kernel) (by rw [c476]; decide +kernel) (by rw [c476]; decide +kernel) (by decide +kernel) ?_
                                                                        unfold f_law_c33 at h
                                                                        refine pv_e_bk (ps := [(1187, .aload_n 1, 1), (1188, .aload_n 0, 1), (1189, .iload_n 3, 1), (1190, .iconst 1, 1), (1191, .iadd, 1)]) (t' := (116, 23246, 1192, [some (.retAddr 0), some (.ref 0), some (.ref 94), some (.int v3)], [.int (v3 + (1:Int32)), .retAddr 0, .ref 0], pv_mm s T)) (by decide +kernel) rfl ?_
                                                                        obtain ⟨q477, e478, h⟩ := Option.bind_eq_some_iff.mp h
                                                                        refine pv_e_sc (pc' := 1193) (by decide +kernel) e478 rfl ?_
                                                                        refine pv_e_bk (ps := [(1193, .aload_n 0, 1), (1194, .iload_n 3, 1), (1195, .iconst 2, 1), (1196, .iadd, 1)]) (t' := (116, 23246, 1197, [some (.retAddr 0), some (.ref 0), some (.ref 94), some (.int v3)], [.int (v3 + (2:Int32)), .retAddr 0, .int q477, .ref 0], pv_mm s T)) (by decide +kernel) rfl ?_
                                                                        obtain ⟨q479, e480, h⟩ := Option.bind_eq_some_iff.mp h
                                                                        refine pv_e_sc (pc' := 1198) (by decide +kernel) e480 rfl ?_
                                                                        obtain ⟨⟨q482, s483⟩, e481, h⟩ := Option.bind_eq_some_iff.mp h
                                                                        dsimp only at h
                                                                        refine pv_e_cvLi (d := d + 15) (i := 150) (z := 87) (np := 2) (ml := 4) (ci := 5) (As := [.int q477, .int q479]) (rs := []) (pc' := 1201) (by decide +kernel) rfl rfl rfl rfl (Nat.le_of_ble_eq_true rfl) (Nat.le_of_ble_eq_true rfl) rfl (ee87 (d + 1) q477 q479 e481) ?_
                                                                        refine pv_e_bk (ps := [(1201, .aload_n 2, 1), (1202, .aload_n 0, 1), (1203, .iload_n 3, 1), (1204, .iconst 1, 1), (1205, .iadd, 1)]) (t' := (116, 23246, 1206, [some (.retAddr 0), some (.ref 0), some (.ref 94), some (.int v3)], [.int (v3 + (1:Int32)), .retAddr 0, .ref 94, .int q482], pv_mm s483 T)) (by decide +kernel) rfl ?_
                                                                        obtain ⟨q484, e485, h⟩ := Option.bind_eq_some_iff.mp h
                                                                        refine pv_e_sc (pc' := 1207) (by decide +kernel) e485 rfl ?_
                                                                        refine pv_e_bk (ps := [(1207, .aload_n 0, 1), (1208, .iload_n 3, 1), (1209, .iconst 2, 1), (1210, .iadd, 1)]) (t' := (116, 23246, 1211, [some (.retAddr 0), some (.ref 0), some (.ref 94), some (.int v3)], [.int (v3 + (2:Int32)), .retAddr 0, .int q484, .ref 94, .int q482], pv_mm s483 T)) (by decide +kernel) rfl ?_
                                                                        obtain ⟨q486, e487, h⟩ := Option.bind_eq_some_iff.mp h
                                                                        refine pv_e_sc (pc' := 1212) (by decide +kernel) e487 rfl ?_
                                                                        obtain ⟨⟨q489, T490⟩, e488, h⟩ := Option.bind_eq_some_iff.mp h
                                                                        dsimp only at h
                                                                        refine pv_e_cvLi (d := d + 15) (i := 153) (z := 198) (np := 2) (ml := 4) (ci := 6) (As := [.int q484, .int q486]) (rs := [.int q482]) (pc' := 1215) (by decide +kernel) rfl rfl rfl rfl (Nat.le_of_ble_eq_true rfl) (Nat.le_of_ble_eq_true rfl) rfl (ee198 (d + 0) q484 q486 e488) ?_
                                                                        refine pv_e_icmpeq (off := 241) (b := 1456) (pc' := 1218) (by decide +kernel) (by decide +kernel) rfl (fun c491 => ?_) (fun c491 => ?_)
                                                                        · rw [if_pos c491] at h
                                                                          refine pv_e_bk (ps := [(1456, .iinc 3 6, 3), (1459, .goto (-1441), 3)]) (t' := (116, 23246, 18, [some (.retAddr 0), some (.ref 0), some (.ref 94), some (.int (v3 + (6:Int32)))], [], pv_mm s483 T490)) (by decide +kernel) rfl ?_
                                                                          obtain rfl := Option.some.inj h
                                                                          exact hK
                                                                        · rw [if_neg c491] at h
                                                                          refine pv_e_bk (ps := [(1218, .iconst 0, 1)]) (t' := (116, 23246, 1219, [some (.retAddr 0), some (.ref 0), some (.ref 94), some (.int v3)], [.int (0:Int32)], pv_mm s483 T490)) (by decide +kernel) rfl ?_
                                                                          obtain rfl := Option.some.inj h
                                                                          cases hK
                                                                          exact pv_e_rL (by decide +kernel) pv_bl0
                                                                      · rw [if_neg c476] at h
                                                                        by_cases c492 : (q2 &&& (63:Int32)) = (34:Int32)
                                                                        · rw [if_pos c492] at h
                                                                          refine pv_e_swin (dflt := 1423) (lo := 0) (hi := 44) (offs := #[195, 228, 271, 304, 327, 390, 413, 446, 489, 512, 535, 568, 601, 634, 657, 680, 713, 756, 779, 812, 835, 858, 881, 904, 937, 960, 973, 996, 1019, 1042, 1075, 1108, 1131, 1154, 1187, 1230, 1253, 1276, 1309, 1322, 1336, 1350, 1373, 1386, 1409]) (len := 195) (off := 1187) (b := 1220) (by decide +kernel) (by rw [c492]; decide +kernel) (by rw [c492]; decide +kernel) (by decide +kernel) ?_
                                                                          unfold f_law_c34 at h
                                                                          refine pv_e_bk (ps := [(1220, .aload_n 1, 1), (1221, .aload_n 0, 1), (1222, .iload_n 3, 1), (1223, .iconst 1, 1), (1224, .iadd, 1)]) (t' := (116, 23246, 1225, [some (.retAddr 0), some (.ref 0), some (.ref 94), some (.int v3)], [.int (v3 + (1:Int32)), .retAddr 0, .ref 0], pv_mm s T)) (by decide +kernel) rfl ?_
                                                                          obtain ⟨q493, e494, h⟩ := Option.bind_eq_some_iff.mp h
                                                                          refine pv_e_sc (pc' := 1226) (by decide +kernel) e494 rfl ?_
                                                                          refine pv_e_bk (ps := [(1226, .aload_n 0, 1), (1227, .iload_n 3, 1), (1228, .iconst 2, 1), (1229, .iadd, 1)]) (t' := (116, 23246, 1230, [some (.retAddr 0), some (.ref 0), some (.ref 94), some (.int v3)], [.int (v3 + (2:Int32)), .retAddr 0, .int q493, .ref 0], pv_mm s T)) (by decide +kernel) rfl ?_
                                                                          obtain ⟨q495, e496, h⟩ := Option.bind_eq_some_iff.mp h
                                                                          refine pv_e_sc (pc' := 1231) (by decide +kernel) e496 rfl ?_
                                                                          refine pv_e_bk (ps := [(1231, .aload_n 0, 1), (1232, .iload_n 3, 1), (1233, .iconst 3, 1), (1234, .iadd, 1)]) (t' := (116, 23246, 1235, [some (.retAddr 0), some (.ref 0), some (.ref 94), some (.int v3)], [.int (v3 + (3:Int32)), .retAddr 0, .int q495, .int q493, .ref 0], pv_mm s T)) (by decide +kernel) rfl ?_
                                                                          obtain ⟨q497, e498, h⟩ := Option.bind_eq_some_iff.mp h
                                                                          refine pv_e_sc (pc' := 1236) (by decide +kernel) e498 rfl ?_
                                                                          obtain ⟨⟨q500, s501⟩, e499, h⟩ := Option.bind_eq_some_iff.mp h
                                                                          dsimp only at h
                                                                          refine pv_e_cvLi (d := d + 15) (i := 154) (z := 88) (np := 3) (ml := 5) (ci := 5) (As := [.int q493, .int q495, .int q497]) (rs := []) (pc' := 1239) (by decide +kernel) rfl rfl rfl rfl (Nat.le_of_ble_eq_true rfl) (Nat.le_of_ble_eq_true rfl) rfl (ee88 (d + 1) q493 q495 q497 e499) ?_
                                                                          refine pv_e_bk (ps := [(1239, .aload_n 2, 1), (1240, .aload_n 0, 1), (1241, .iload_n 3, 1), (1242, .iconst 1, 1), (1243, .iadd, 1)]) (t' := (116, 23246, 1244, [some (.retAddr 0), some (.ref 0), some (.ref 94), some (.int v3)], [.int (v3 + (1:Int32)), .retAddr 0, .ref 94, .int q500], pv_mm s501 T)) (by decide +kernel) rfl ?_
                                                                          obtain ⟨q502, e503, h⟩ := Option.bind_eq_some_iff.mp h
                                                                          refine pv_e_sc (pc' := 1245) (by decide +kernel) e503 rfl ?_
                                                                          refine pv_e_bk (ps := [(1245, .aload_n 0, 1), (1246, .iload_n 3, 1), (1247, .iconst 2, 1), (1248, .iadd, 1)]) (t' := (116, 23246, 1249, [some (.retAddr 0), some (.ref 0), some (.ref 94), some (.int v3)], [.int (v3 + (2:Int32)), .retAddr 0, .int q502, .ref 94, .int q500], pv_mm s501 T)) (by decide +kernel) rfl ?_
                                                                          obtain ⟨q504, e505, h⟩ := Option.bind_eq_some_iff.mp h
                                                                          refine pv_e_sc (pc' := 1250) (by decide +kernel) e505 rfl ?_
                                                                          refine pv_e_bk (ps := [(1250, .aload_n 0, 1), (1251, .iload_n 3, 1), (1252, .iconst 3, 1), (1253, .iadd, 1)]) (t' := (116, 23246, 1254, [some (.retAddr 0), some (.ref 0), some (.ref 94), some (.int v3)], [.int (v3 + (3:Int32)), .retAddr 0, .int q504, .int q502, .ref 94, .int q500], pv_mm s501 T)) (by decide +kernel) rfl ?_
                                                                          obtain ⟨q506, e507, h⟩ := Option.bind_eq_some_iff.mp h
                                                                          refine pv_e_sc (pc' := 1255) (by decide +kernel) e507 rfl ?_
                                                                          obtain ⟨⟨q509, T510⟩, e508, h⟩ := Option.bind_eq_some_iff.mp h
                                                                          dsimp only at h
                                                                          refine pv_e_cvLi (d := d + 15) (i := 157) (z := 199) (np := 3) (ml := 5) (ci := 6) (As := [.int q502, .int q504, .int q506]) (rs := [.int q500]) (pc' := 1258) (by decide +kernel) rfl rfl rfl rfl (Nat.le_of_ble_eq_true rfl) (Nat.le_of_ble_eq_true rfl) rfl (ee199 (d + 0) q502 q504 q506 e508) ?_
                                                                          refine pv_e_icmpeq (off := 198) (b := 1456) (pc' := 1261) (by decide +kernel) (by decide +kernel) rfl (fun c511 => ?_) (fun c511 => ?_)
                                                                          · rw [if_pos c511] at h
                                                                            refine pv_e_bk (ps := [(1456, .iinc 3 6, 3), (1459, .goto (-1441), 3)]) (t' := (116, 23246, 18, [some (.retAddr 0), some (.ref 0), some (.ref 94), some (.int (v3 + (6:Int32)))], [], pv_mm s501 T510)) (by decide +kernel) rfl ?_
                                                                            obtain rfl := Option.some.inj h
                                                                            exact hK
                                                                          · rw [if_neg c511] at h
                                                                            refine pv_e_bk (ps := [(1261, .iconst 0, 1)]) (t' := (116, 23246, 1262, [some (.retAddr 0), some (.ref 0), some (.ref 94), some (.int v3)], [.int (0:Int32)], pv_mm s501 T510)) (by decide +kernel) rfl ?_
                                                                            obtain rfl := Option.some.inj h
                                                                            cases hK
                                                                            exact pv_e_rL (by decide +kernel) pv_bl0
                                                                        · rw [if_neg c492] at h
                                                                          by_cases c512 : (q2 &&& (63:Int32)) = (35:Int32)
                                                                          · rw [if_pos c512] at h
                                                                            refine pv_e_swin (dflt := 1423) (lo := 0) (hi := 44) (offs := #[195, 228, 271, 304, 327, 390, 413, 446, 489, 512, 535, 568, 601, 634, 657, 680, 713, 756, 779, 812, 835, 858, 881, 904, 937, 960, 973, 996, 1019, 1042, 1075, 1108, 1131, 1154, 1187, 1230, 1253, 1276, 1309, 1322, 1336, 1350, 1373, 1386, 1409]) (len := 195) (off := 1230) (b := 1263) (by decide +kernel) (by rw [c512]; decide +kernel) (by rw [c512]; decide +kernel) (by decide +kernel) ?_
                                                                            unfold f_law_c35 at h
                                                                            refine pv_e_bk (ps := [(1263, .aload_n 1, 1), (1264, .aload_n 0, 1), (1265, .iload_n 3, 1), (1266, .iconst 1, 1), (1267, .iadd, 1)]) (t' := (116, 23246, 1268, [some (.retAddr 0), some (.ref 0), some (.ref 94), some (.int v3)], [.int (v3 + (1:Int32)), .retAddr 0, .ref 0], pv_mm s T)) (by decide +kernel) rfl ?_
                                                                            obtain ⟨q513, e514, h⟩ := Option.bind_eq_some_iff.mp h
                                                                            refine pv_e_sc (pc' := 1269) (by decide +kernel) e514 rfl ?_
                                                                            obtain ⟨⟨q516, s517⟩, e515, h⟩ := Option.bind_eq_some_iff.mp h
                                                                            dsimp only at h
                                                                            refine pv_e_cvLi (d := d + 15) (i := 158) (z := 89) (np := 1) (ml := 4) (ci := 5) (As := [.int q513]) (rs := []) (pc' := 1272) (by decide +kernel) rfl rfl rfl rfl (Nat.le_of_ble_eq_true rfl) (Nat.le_of_ble_eq_true rfl) rfl (ee89 (d + 12) q513 e515) ?_
                                                                            refine pv_e_bk (ps := [(1272, .aload_n 2, 1), (1273, .aload_n 0, 1), (1274, .iload_n 3, 1), (1275, .iconst 1, 1), (1276, .iadd, 1)]) (t' := (116, 23246, 1277, [some (.retAddr 0), some (.ref 0), some (.ref 94), some (.int v3)], [.int (v3 + (1:Int32)), .retAddr 0, .ref 94, .int q516], pv_mm s517 T)) (by decide +kernel) rfl ?_
                                                                            obtain ⟨q518, e519, h⟩ := Option.bind_eq_some_iff.mp h
                                                                            refine pv_e_sc (pc' := 1278) (by decide +kernel) e519 rfl ?_
                                                                            obtain ⟨⟨q521, T522⟩, e520, h⟩ := Option.bind_eq_some_iff.mp h
                                                                            dsimp only at h
                                                                            refine pv_e_cvLi (d := d + 15) (i := 161) (z := 201) (np := 1) (ml := 3) (ci := 6) (As := [.int q518]) (rs := [.int q516]) (pc' := 1281) (by decide +kernel) rfl rfl rfl rfl (Nat.le_of_ble_eq_true rfl) (Nat.le_of_ble_eq_true rfl) rfl (ee201 (d + 11) q518 e520) ?_
                                                                            refine pv_e_icmpeq (off := 175) (b := 1456) (pc' := 1284) (by decide +kernel) (by decide +kernel) rfl (fun c523 => ?_) (fun c523 => ?_)
                                                                            · rw [if_pos c523] at h
                                                                              refine pv_e_bk (ps := [(1456, .iinc 3 6, 3), (1459, .goto (-1441), 3)]) (t' := (116, 23246, 18, [some (.retAddr 0), some (.ref 0), some (.ref 94), some (.int (v3 + (6:Int32)))], [], pv_mm s517 T522)) (by decide +kernel) rfl ?_
                                                                              obtain rfl := Option.some.inj h
                                                                              exact hK
                                                                            · rw [if_neg c523] at h
                                                                              refine pv_e_bk (ps := [(1284, .iconst 0, 1)]) (t' := (116, 23246, 1285, [some (.retAddr 0), some (.ref 0), some (.ref 94), some (.int v3)], [.int (0:Int32)], pv_mm s517 T522)) (by decide +kernel) rfl ?_
                                                                              obtain rfl := Option.some.inj h
                                                                              cases hK
                                                                              exact pv_e_rL (by decide +kernel) pv_bl0
                                                                          · rw [if_neg c512] at h
                                                                            by_cases c524 : (q2 &&& (63:Int32)) = (36:Int32)
                                                                            · rw [if_pos c524] at h
                                                                              refine pv_e_swin (dflt := 1423) (lo := 0) (hi := 44) (offs := #[195, 228, 271, 304, 327, 390, 413, 446, 489, 512, 535, 568, 601, 634, 657, 680, 713, 756, 779, 812, 835, 858, 881, 904, 937, 960, 973, 996, 1019, 1042, 1075, 1108, 1131, 1154, 1187, 1230, 1253, 1276, 1309, 1322, 1336, 1350, 1373, 1386, 1409]) (len := 195) (off := 1253) (b := 1286) (by decide +kernel) (by rw [c524]; decide +kernel) (by rw [c524]; decide +kernel) (by decide +kernel) ?_
                                                                              unfold f_law_c36 at h
                                                                              refine pv_e_bk (ps := [(1286, .aload_n 1, 1), (1287, .aload_n 0, 1), (1288, .iload_n 3, 1), (1289, .iconst 1, 1), (1290, .iadd, 1)]) (t' := (116, 23246, 1291, [some (.retAddr 0), some (.ref 0), some (.ref 94), some (.int v3)], [.int (v3 + (1:Int32)), .retAddr 0, .ref 0], pv_mm s T)) (by decide +kernel) rfl ?_
                                                                              obtain ⟨q525, e526, h⟩ := Option.bind_eq_some_iff.mp h
                                                                              refine pv_e_sc (pc' := 1292) (by decide +kernel) e526 rfl ?_
                                                                              obtain ⟨q528, e527, h⟩ := Option.bind_eq_some_iff.mp h
                                                                              refine pv_e_cvLi (d := d + 15) (i := 162) (z := 90) (np := 1) (ml := 4) (ci := 5) (As := [.int q525]) (rs := []) (pc' := 1295) (by decide +kernel) rfl rfl rfl rfl (Nat.le_of_ble_eq_true rfl) (Nat.le_of_ble_eq_true rfl) rfl (ee90 (d + 13) q525 e527) ?_
                                                                              refine pv_e_bk (ps := [(1295, .aload_n 2, 1), (1296, .aload_n 0, 1), (1297, .iload_n 3, 1), (1298, .iconst 1, 1), (1299, .iadd, 1)]) (t' := (116, 23246, 1300, [some (.retAddr 0), some (.ref 0), some (.ref 94), some (.int v3)], [.int (v3 + (1:Int32)), .retAddr 0, .ref 94, .int q528], pv_mm s T)) (by decide +kernel) rfl ?_
                                                                              obtain ⟨q529, e530, h⟩ := Option.bind_eq_some_iff.mp h
                                                                              refine pv_e_sc (pc' := 1301) (by decide +kernel) e530 rfl ?_
                                                                              obtain ⟨⟨q532, T533⟩, e531, h⟩ := Option.bind_eq_some_iff.mp h
                                                                              dsimp only at h
                                                                              refine pv_e_cvLi (d := d + 15) (i := 165) (z := 202) (np := 1) (ml := 3) (ci := 6) (As := [.int q529]) (rs := [.int q528]) (pc' := 1304) (by decide +kernel) rfl rfl rfl rfl (Nat.le_of_ble_eq_true rfl) (Nat.le_of_ble_eq_true rfl) rfl (ee202 (d + 13) q529 e531) ?_
                                                                              refine pv_e_icmpeq (off := 152) (b := 1456) (pc' := 1307) (by decide +kernel) (by decide +kernel) rfl (fun c534 => ?_) (fun c534 => ?_)
                                                                              · rw [if_pos c534] at h
                                                                                refine pv_e_bk (ps := [(1456, .iinc 3 6, 3), (1459, .goto (-1441), 3)]) (t' := (116, 23246, 18, [some (.retAddr 0), some (.ref 0), some (.ref 94), some (.int (v3 + (6:Int32)))], [], pv_mm s T533)) (by decide +kernel) rfl ?_
                                                                                obtain rfl := Option.some.inj h
                                                                                exact hK
                                                                              · rw [if_neg c534] at h
                                                                                refine pv_e_bk (ps := [(1307, .iconst 0, 1)]) (t' := (116, 23246, 1308, [some (.retAddr 0), some (.ref 0), some (.ref 94), some (.int v3)], [.int (0:Int32)], pv_mm s T533)) (by decide +kernel) rfl ?_
                                                                                obtain rfl := Option.some.inj h
                                                                                cases hK
                                                                                exact pv_e_rL (by decide +kernel) pv_bl0
                                                                            · rw [if_neg c524] at h
                                                                              by_cases c535 : (q2 &&& (63:Int32)) = (37:Int32)
                                                                              · rw [if_pos c535] at h
                                                                                refine pv_e_swin (dflt := 1423) (lo := 0) (hi := 44) (offs := #[195, 228, 271, 304, 327, 390, 413, 446, 489, 512, 535, 568, 601, 634, 657, 680, 713, 756, 779, 812, 835, 858, 881, 904, 937, 960, 973, 996, 1019, 1042, 1075, 1108, 1131, 1154, 1187, 1230, 1253, 1276, 1309, 1322, 1336, 1350, 1373, 1386, 1409]) (len := 195) (off := 1276) (b := 1309) (by decide +kernel) (by rw [c535]; decide +kernel) (by rw [c535]; decide +kernel) (by decide +kernel) ?_
                                                                                unfold f_law_c37 at h
                                                                                refine pv_e_bk (ps := [(1309, .aload_n 1, 1), (1310, .aload_n 0, 1), (1311, .iload_n 3, 1), (1312, .iconst 1, 1), (1313, .iadd, 1)]) (t' := (116, 23246, 1314, [some (.retAddr 0), some (.ref 0), some (.ref 94), some (.int v3)], [.int (v3 + (1:Int32)), .retAddr 0, .ref 0], pv_mm s T)) (by decide +kernel) rfl ?_
                                                                                obtain ⟨q536, e537, h⟩ := Option.bind_eq_some_iff.mp h
                                                                                refine pv_e_sc (pc' := 1315) (by decide +kernel) e537 rfl ?_
                                                                                refine pv_e_bk (ps := [(1315, .aload_n 0, 1), (1316, .iload_n 3, 1), (1317, .iconst 2, 1), (1318, .iadd, 1)]) (t' := (116, 23246, 1319, [some (.retAddr 0), some (.ref 0), some (.ref 94), some (.int v3)], [.int (v3 + (2:Int32)), .retAddr 0, .int q536, .ref 0], pv_mm s T)) (by decide +kernel) rfl ?_
                                                                                obtain ⟨q538, e539, h⟩ := Option.bind_eq_some_iff.mp h
                                                                                refine pv_e_sc (pc' := 1320) (by decide +kernel) e539 rfl ?_
                                                                                obtain ⟨⟨q541, s542⟩, e540, h⟩ := Option.bind_eq_some_iff.mp h
                                                                                dsimp only at h
                                                                                refine pv_e_cvLi (d := d + 15) (i := 166) (z := 91) (np := 2) (ml := 9) (ci := 5) (As := [.int q536, .int q538]) (rs := []) (pc' := 1323) (by decide +kernel) rfl rfl rfl rfl (Nat.le_of_ble_eq_true rfl) (Nat.le_of_ble_eq_true rfl) rfl (ee91 (d + 9) q536 q538 e540) ?_
                                                                                refine pv_e_bk (ps := [(1323, .aload_n 2, 1), (1324, .aload_n 0, 1), (1325, .iload_n 3, 1), (1326, .iconst 1, 1), (1327, .iadd, 1)]) (t' := (116, 23246, 1328, [some (.retAddr 0), some (.ref 0), some (.ref 94), some (.int v3)], [.int (v3 + (1:Int32)), .retAddr 0, .ref 94, .int q541], pv_mm s542 T)) (by decide +kernel) rfl ?_
                                                                                obtain ⟨q543, e544, h⟩ := Option.bind_eq_some_iff.mp h
                                                                                refine pv_e_sc (pc' := 1329) (by decide +kernel) e544 rfl ?_
                                                                                refine pv_e_bk (ps := [(1329, .aload_n 0, 1), (1330, .iload_n 3, 1), (1331, .iconst 2, 1), (1332, .iadd, 1)]) (t' := (116, 23246, 1333, [some (.retAddr 0), some (.ref 0), some (.ref 94), some (.int v3)], [.int (v3 + (2:Int32)), .retAddr 0, .int q543, .ref 94, .int q541], pv_mm s542 T)) (by decide +kernel) rfl ?_
                                                                                obtain ⟨q545, e546, h⟩ := Option.bind_eq_some_iff.mp h
                                                                                refine pv_e_sc (pc' := 1334) (by decide +kernel) e546 rfl ?_
                                                                                obtain ⟨⟨q548, T549⟩, e547, h⟩ := Option.bind_eq_some_iff.mp h
                                                                                dsimp only at h
                                                                                refine pv_e_cvLi (d := d + 15) (i := 169) (z := 203) (np := 2) (ml := 9) (ci := 6) (As := [.int q543, .int q545]) (rs := [.int q541]) (pc' := 1337) (by decide +kernel) rfl rfl rfl rfl (Nat.le_of_ble_eq_true rfl) (Nat.le_of_ble_eq_true rfl) rfl (ee203 (d + 10) q543 q545 e547) ?_
                                                                                refine pv_e_icmpeq (off := 119) (b := 1456) (pc' := 1340) (by decide +kernel) (by decide +kernel) rfl (fun c550 => ?_) (fun c550 => ?_)
                                                                                · rw [if_pos c550] at h
                                                                                  refine pv_e_bk (ps := [(1456, .iinc 3 6, 3), (1459, .goto (-1441), 3)]) (t' := (116, 23246, 18, [some (.retAddr 0), some (.ref 0), some (.ref 94), some (.int (v3 + (6:Int32)))], [], pv_mm s542 T549)) (by decide +kernel) rfl ?_
                                                                                  obtain rfl := Option.some.inj h
                                                                                  exact hK
                                                                                · rw [if_neg c550] at h
                                                                                  refine pv_e_bk (ps := [(1340, .iconst 0, 1)]) (t' := (116, 23246, 1341, [some (.retAddr 0), some (.ref 0), some (.ref 94), some (.int v3)], [.int (0:Int32)], pv_mm s542 T549)) (by decide +kernel) rfl ?_
                                                                                  obtain rfl := Option.some.inj h
                                                                                  cases hK
                                                                                  exact pv_e_rL (by decide +kernel) pv_bl0
                                                                              · rw [if_neg c535] at h
                                                                                by_cases c551 : (q2 &&& (63:Int32)) = (38:Int32)
                                                                                · rw [if_pos c551] at h
                                                                                  refine pv_e_swin (dflt := 1423) (lo := 0) (hi := 44) (offs := #[195, 228, 271, 304, 327, 390, 413, 446, 489, 512, 535, 568, 601, 634, 657, 680, 713, 756, 779, 812, 835, 858, 881, 904, 937, 960, 973, 996, 1019, 1042, 1075, 1108, 1131, 1154, 1187, 1230, 1253, 1276, 1309, 1322, 1336, 1350, 1373, 1386, 1409]) (len := 195) (off := 1309) (b := 1342) (by decide +kernel) (by rw [c551]; decide +kernel) (by rw [c551]; decide +kernel) (by decide +kernel) ?_
                                                                                  unfold f_law_c38 at h
                                                                                  refine pv_e_bk (ps := [(1342, .aload_n 1, 1)]) (t' := (116, 23246, 1343, [some (.retAddr 0), some (.ref 0), some (.ref 94), some (.int v3)], [.ref 0], pv_mm s T)) (by decide +kernel) rfl ?_
                                                                                  obtain ⟨q553, e552, h⟩ := Option.bind_eq_some_iff.mp h
                                                                                  refine pv_e_cvLi (d := d + 15) (i := 170) (z := 92) (np := 0) (ml := 1) (ci := 5) (As := []) (rs := []) (pc' := 1346) (by decide +kernel) rfl rfl rfl rfl (Nat.le_of_ble_eq_true rfl) (Nat.le_of_ble_eq_true rfl) rfl (ee92 (d + 15) e552) ?_
                                                                                  refine pv_e_bk (ps := [(1346, .aload_n 2, 1)]) (t' := (116, 23246, 1347, [some (.retAddr 0), some (.ref 0), some (.ref 94), some (.int v3)], [.ref 94, .int q553], pv_mm s T)) (by decide +kernel) rfl ?_
                                                                                  obtain ⟨q555, e554, h⟩ := Option.bind_eq_some_iff.mp h
                                                                                  refine pv_e_cvLi (d := d + 15) (i := 173) (z := 204) (np := 0) (ml := 1) (ci := 6) (As := []) (rs := [.int q553]) (pc' := 1350) (by decide +kernel) rfl rfl rfl rfl (Nat.le_of_ble_eq_true rfl) (Nat.le_of_ble_eq_true rfl) rfl (ee204 (d + 15) e554) ?_
                                                                                  refine pv_e_icmpeq (off := 106) (b := 1456) (pc' := 1353) (by decide +kernel) (by decide +kernel) rfl (fun c556 => ?_) (fun c556 => ?_)
                                                                                  · rw [if_pos c556] at h
                                                                                    refine pv_e_bk (ps := [(1456, .iinc 3 6, 3), (1459, .goto (-1441), 3)]) (t' := (116, 23246, 18, [some (.retAddr 0), some (.ref 0), some (.ref 94), some (.int (v3 + (6:Int32)))], [], pv_mm s T)) (by decide +kernel) rfl ?_
                                                                                    obtain rfl := Option.some.inj h
                                                                                    exact hK
                                                                                  · rw [if_neg c556] at h
                                                                                    refine pv_e_bk (ps := [(1353, .iconst 0, 1)]) (t' := (116, 23246, 1354, [some (.retAddr 0), some (.ref 0), some (.ref 94), some (.int v3)], [.int (0:Int32)], pv_mm s T)) (by decide +kernel) rfl ?_
                                                                                    obtain rfl := Option.some.inj h
                                                                                    cases hK
                                                                                    exact pv_e_rL (by decide +kernel) pv_bl0
                                                                                · rw [if_neg c551] at h
                                                                                  by_cases c557 : (q2 &&& (63:Int32)) = (39:Int32)
                                                                                  · rw [if_pos c557] at h
                                                                                    refine pv_e_swin (dflt := 1423) (lo := 0) (hi := 44) (offs := #[195, 228, 271, 304, 327, 390, 413, 446, 489, 512, 535, 568, 601, 634, 657, 680, 713, 756, 779, 812, 835, 858, 881, 904, 937, 960, 973, 996, 1019, 1042, 1075, 1108, 1131, 1154, 1187, 1230, 1253, 1276, 1309, 1322, 1336, 1350, 1373, 1386, 1409]) (len := 195) (off := 1322) (b := 1355) (by decide +kernel) (by rw [c557]; decide +kernel) (by rw [c557]; decide +kernel) (by decide +kernel) ?_
                                                                                    unfold f_law_c39 at h
                                                                                    refine pv_e_bk (ps := [(1355, .aload_n 1, 1)]) (t' := (116, 23246, 1356, [some (.retAddr 0), some (.ref 0), some (.ref 94), some (.int v3)], [.ref 0], pv_mm s T)) (by decide +kernel) rfl ?_
                                                                                    obtain ⟨q559, e558, h⟩ := Option.bind_eq_some_iff.mp h
                                                                                    refine pv_e_cvLl (d := d + 15) (i := 174) (z := 93) (np := 0) (ml := 2) (ci := 5) (As := []) (rs := []) (pc' := 1359) (by decide +kernel) rfl rfl rfl rfl (Nat.le_of_ble_eq_true rfl) (Nat.le_of_ble_eq_true rfl) rfl (ee93 (d + 14) e558) ?_
                                                                                    refine pv_e_bk (ps := [(1359, .aload_n 2, 1)]) (t' := (116, 23246, 1360, [some (.retAddr 0), some (.ref 0), some (.ref 94), some (.int v3)], [.ref 94, .long q559], pv_mm s T)) (by decide +kernel) rfl ?_
                                                                                    obtain ⟨q561, e560, h⟩ := Option.bind_eq_some_iff.mp h
                                                                                    refine pv_e_cvLl (d := d + 15) (i := 178) (z := 207) (np := 0) (ml := 2) (ci := 6) (As := []) (rs := [.long q559]) (pc' := 1363) (by decide +kernel) rfl rfl rfl rfl (Nat.le_of_ble_eq_true rfl) (Nat.le_of_ble_eq_true rfl) rfl (ee207 (d + 14) e560) ?_
                                                                                    refine pv_e_bk (ps := [(1363, .lcmp, 1)]) (t' := (116, 23246, 1364, [some (.retAddr 0), some (.ref 0), some (.ref 94), some (.int v3)], [.int (lg_cmp q559 q561)], pv_mm s T)) (by decide +kernel) rfl ?_
                                                                                    refine pv_e_ifeq (off := 92) (b := 1456) (pc' := 1367) (by decide +kernel) (by decide +kernel) rfl (fun c562 => ?_) (fun c562 => ?_)
                                                                                    · rw [if_pos c562] at h
                                                                                      refine pv_e_bk (ps := [(1456, .iinc 3 6, 3), (1459, .goto (-1441), 3)]) (t' := (116, 23246, 18, [some (.retAddr 0), some (.ref 0), some (.ref 94), some (.int (v3 + (6:Int32)))], [], pv_mm s T)) (by decide +kernel) rfl ?_
                                                                                      obtain rfl := Option.some.inj h
                                                                                      exact hK
                                                                                    · rw [if_neg c562] at h
                                                                                      refine pv_e_bk (ps := [(1367, .iconst 0, 1)]) (t' := (116, 23246, 1368, [some (.retAddr 0), some (.ref 0), some (.ref 94), some (.int v3)], [.int (0:Int32)], pv_mm s T)) (by decide +kernel) rfl ?_
                                                                                      obtain rfl := Option.some.inj h
                                                                                      cases hK
                                                                                      exact pv_e_rL (by decide +kernel) pv_bl0
                                                                                  · rw [if_neg c557] at h
                                                                                    by_cases c563 : (q2 &&& (63:Int32)) = (40:Int32)
                                                                                    · rw [if_pos c563] at h
                                                                                      refine pv_e_swin (dflt := 1423) (lo := 0) (hi := 44) (offs := #[195, 228, 271, 304, 327, 390, 413, 446, 489, 512, 535, 568, 601, 634, 657, 680, 713, 756, 779, 812, 835, 858, 881, 904, 937, 960, 973, 996, 1019, 1042, 1075, 1108, 1131, 1154, 1187, 1230, 1253, 1276, 1309, 1322, 1336, 1350, 1373, 1386, 1409]) (len := 195) (off := 1336) (b := 1369) (by decide +kernel) (by rw [c563]; decide +kernel) (by rw [c563]; decide +kernel) (by decide +kernel) ?_
                                                                                      unfold f_law_c40 at h
                                                                                      refine pv_e_bk (ps := [(1369, .aload_n 1, 1)]) (t' := (116, 23246, 1370, [some (.retAddr 0), some (.ref 0), some (.ref 94), some (.int v3)], [.ref 0], pv_mm s T)) (by decide +kernel) rfl ?_
                                                                                      obtain ⟨q565, e564, h⟩ := Option.bind_eq_some_iff.mp h
                                                                                      refine pv_e_cvLl (d := d + 15) (i := 179) (z := 94) (np := 0) (ml := 2) (ci := 5) (As := []) (rs := []) (pc' := 1373) (by decide +kernel) rfl rfl rfl rfl (Nat.le_of_ble_eq_true rfl) (Nat.le_of_ble_eq_true rfl) rfl (ee94 (d + 14) e564) ?_
                                                                                      refine pv_e_bk (ps := [(1373, .aload_n 2, 1)]) (t' := (116, 23246, 1374, [some (.retAddr 0), some (.ref 0), some (.ref 94), some (.int v3)], [.ref 94, .long q565], pv_mm s T)) (by decide +kernel) rfl ?_
                                                                                      obtain ⟨q567, e566, h⟩ := Option.bind_eq_some_iff.mp h
                                                                                      refine pv_e_cvLl (d := d + 15) (i := 182) (z := 208) (np := 0) (ml := 2) (ci := 6) (As := []) (rs := [.long q565]) (pc' := 1377) (by decide +kernel) rfl rfl rfl rfl (Nat.le_of_ble_eq_true rfl) (Nat.le_of_ble_eq_true rfl) rfl (ee208 (d + 14) e566) ?_
                                                                                      refine pv_e_bk (ps := [(1377, .lcmp, 1)]) (t' := (116, 23246, 1378, [some (.retAddr 0), some (.ref 0), some (.ref 94), some (.int v3)], [.int (lg_cmp q565 q567)], pv_mm s T)) (by decide +kernel) rfl ?_
                                                                                      refine pv_e_ifeq (off := 78) (b := 1456) (pc' := 1381) (by decide +kernel) (by decide +kernel) rfl (fun c568 => ?_) (fun c568 => ?_)
                                                                                      · rw [if_pos c568] at h
                                                                                        refine pv_e_bk (ps := [(1456, .iinc 3 6, 3), (1459, .goto (-1441), 3)]) (t' := (116, 23246, 18, [some (.retAddr 0), some (.ref 0), some (.ref 94), some (.int (v3 + (6:Int32)))], [], pv_mm s T)) (by decide +kernel) rfl ?_
                                                                                        obtain rfl := Option.some.inj h
                                                                                        exact hK
                                                                                      · rw [if_neg c568] at h
                                                                                        refine pv_e_bk (ps := [(1381, .iconst 0, 1)]) (t' := (116, 23246, 1382, [some (.retAddr 0), some (.ref 0), some (.ref 94), some (.int v3)], [.int (0:Int32)], pv_mm s T)) (by decide +kernel) rfl ?_
                                                                                        obtain rfl := Option.some.inj h
                                                                                        cases hK
                                                                                        exact pv_e_rL (by decide +kernel) pv_bl0
                                                                                    · rw [if_neg c563] at h
                                                                                      by_cases c569 : (q2 &&& (63:Int32)) = (41:Int32)
                                                                                      · rw [if_pos c569] at h
                                                                                        refine pv_e_swin (dflt := 1423) (lo := 0) (hi := 44) (offs := #[195, 228, 271, 304, 327, 390, 413, 446, 489, 512, 535, 568, 601, 634, 657, 680, 713, 756, 779, 812, 835, 858, 881, 904, 937, 960, 973, 996, 1019, 1042, 1075, 1108, 1131, 1154, 1187, 1230, 1253, 1276, 1309, 1322, 1336, 1350, 1373, 1386, 1409]) (len := 195) (off := 1350) (b := 1383) (by decide +kernel) (by rw [c569]; decide +kernel) (by rw [c569]; decide +kernel) (by decide +kernel) ?_
                                                                                        unfold f_law_c41 at h
                                                                                        refine pv_e_bk (ps := [(1383, .aload_n 1, 1), (1384, .aload_n 0, 1), (1385, .iload_n 3, 1), (1386, .iconst 1, 1), (1387, .iadd, 1)]) (t' := (116, 23246, 1388, [some (.retAddr 0), some (.ref 0), some (.ref 94), some (.int v3)], [.int (v3 + (1:Int32)), .retAddr 0, .ref 0], pv_mm s T)) (by decide +kernel) rfl ?_
                                                                                        obtain ⟨q570, e571, h⟩ := Option.bind_eq_some_iff.mp h
                                                                                        refine pv_e_sc (pc' := 1389) (by decide +kernel) e571 rfl ?_
                                                                                        obtain ⟨q573, e572, h⟩ := Option.bind_eq_some_iff.mp h
                                                                                        refine pv_e_cvLi (d := d + 15) (i := 183) (z := 95) (np := 1) (ml := 2) (ci := 5) (As := [.int q570]) (rs := []) (pc' := 1392) (by decide +kernel) rfl rfl rfl rfl (Nat.le_of_ble_eq_true rfl) (Nat.le_of_ble_eq_true rfl) rfl (ee95 (d + 12) q570 e572) ?_
                                                                                        refine pv_e_bk (ps := [(1392, .aload_n 2, 1), (1393, .aload_n 0, 1), (1394, .iload_n 3, 1), (1395, .iconst 1, 1), (1396, .iadd, 1)]) (t' := (116, 23246, 1397, [some (.retAddr 0), some (.ref 0), some (.ref 94), some (.int v3)], [.int (v3 + (1:Int32)), .retAddr 0, .ref 94, .int q573], pv_mm s T)) (by decide +kernel) rfl ?_
                                                                                        obtain ⟨q574, e575, h⟩ := Option.bind_eq_some_iff.mp h
                                                                                        refine pv_e_sc (pc' := 1398) (by decide +kernel) e575 rfl ?_
                                                                                        obtain ⟨q577, e576, h⟩ := Option.bind_eq_some_iff.mp h
                                                                                        refine pv_e_cvLi (d := d + 15) (i := 186) (z := 210) (np := 1) (ml := 2) (ci := 6) (As := [.int q574]) (rs := [.int q573]) (pc' := 1401) (by decide +kernel) rfl rfl rfl rfl (Nat.le_of_ble_eq_true rfl) (Nat.le_of_ble_eq_true rfl) rfl (ee210 (d + 13) q574 e576) ?_
                                                                                        refine pv_e_icmpeq (off := 55) (b := 1456) (pc' := 1404) (by decide +kernel) (by decide +kernel) rfl (fun c578 => ?_) (fun c578 => ?_)
                                                                                        · rw [if_pos c578] at h
                                                                                          refine pv_e_bk (ps := [(1456, .iinc 3 6, 3), (1459, .goto (-1441), 3)]) (t' := (116, 23246, 18, [some (.retAddr 0), some (.ref 0), some (.ref 94), some (.int (v3 + (6:Int32)))], [], pv_mm s T)) (by decide +kernel) rfl ?_
                                                                                          obtain rfl := Option.some.inj h
                                                                                          exact hK
                                                                                        · rw [if_neg c578] at h
                                                                                          refine pv_e_bk (ps := [(1404, .iconst 0, 1)]) (t' := (116, 23246, 1405, [some (.retAddr 0), some (.ref 0), some (.ref 94), some (.int v3)], [.int (0:Int32)], pv_mm s T)) (by decide +kernel) rfl ?_
                                                                                          obtain rfl := Option.some.inj h
                                                                                          cases hK
                                                                                          exact pv_e_rL (by decide +kernel) pv_bl0
                                                                                      · rw [if_neg c569] at h
                                                                                        by_cases c579 : (q2 &&& (63:Int32)) = (42:Int32)
                                                                                        · rw [if_pos c579] at h
                                                                                          refine pv_e_swin (dflt := 1423) (lo := 0) (hi := 44) (offs := #[195, 228, 271, 304, 327, 390, 413, 446, 489, 512, 535, 568, 601, 634, 657, 680, 713, 756, 779, 812, 835, 858, 881, 904, 937, 960, 973, 996, 1019, 1042, 1075, 1108, 1131, 1154, 1187, 1230, 1253, 1276, 1309, 1322, 1336, 1350, 1373, 1386, 1409]) (len := 195) (off := 1373) (b := 1406) (by decide +kernel) (by rw [c579]; decide +kernel) (by rw [c579]; decide +kernel) (by decide +kernel) ?_
                                                                                          unfold f_law_c42 at h
                                                                                          refine pv_e_bk (ps := [(1406, .aload_n 1, 1)]) (t' := (116, 23246, 1407, [some (.retAddr 0), some (.ref 0), some (.ref 94), some (.int v3)], [.ref 0], pv_mm s T)) (by decide +kernel) rfl ?_
                                                                                          obtain ⟨q581, e580, h⟩ := Option.bind_eq_some_iff.mp h
                                                                                          refine pv_e_cvLi (d := d + 15) (i := 187) (z := 96) (np := 0) (ml := 1) (ci := 5) (As := []) (rs := []) (pc' := 1410) (by decide +kernel) rfl rfl rfl rfl (Nat.le_of_ble_eq_true rfl) (Nat.le_of_ble_eq_true rfl) rfl (ee96 (d + 15) e580) ?_
                                                                                          refine pv_e_bk (ps := [(1410, .aload_n 2, 1)]) (t' := (116, 23246, 1411, [some (.retAddr 0), some (.ref 0), some (.ref 94), some (.int v3)], [.ref 94, .int q581], pv_mm s T)) (by decide +kernel) rfl ?_
                                                                                          obtain ⟨q583, e582, h⟩ := Option.bind_eq_some_iff.mp h
                                                                                          refine pv_e_cvLi (d := d + 15) (i := 190) (z := 211) (np := 0) (ml := 1) (ci := 6) (As := []) (rs := [.int q581]) (pc' := 1414) (by decide +kernel) rfl rfl rfl rfl (Nat.le_of_ble_eq_true rfl) (Nat.le_of_ble_eq_true rfl) rfl (ee211 (d + 15) e582) ?_
                                                                                          refine pv_e_icmpeq (off := 42) (b := 1456) (pc' := 1417) (by decide +kernel) (by decide +kernel) rfl (fun c584 => ?_) (fun c584 => ?_)
                                                                                          · rw [if_pos c584] at h
                                                                                            refine pv_e_bk (ps := [(1456, .iinc 3 6, 3), (1459, .goto (-1441), 3)]) (t' := (116, 23246, 18, [some (.retAddr 0), some (.ref 0), some (.ref 94), some (.int (v3 + (6:Int32)))], [], pv_mm s T)) (by decide +kernel) rfl ?_
                                                                                            obtain rfl := Option.some.inj h
                                                                                            exact hK
                                                                                          · rw [if_neg c584] at h
                                                                                            refine pv_e_bk (ps := [(1417, .iconst 0, 1)]) (t' := (116, 23246, 1418, [some (.retAddr 0), some (.ref 0), some (.ref 94), some (.int v3)], [.int (0:Int32)], pv_mm s T)) (by decide +kernel) rfl ?_
                                                                                            obtain rfl := Option.some.inj h
                                                                                            cases hK
                                                                                            exact pv_e_rL (by decide +kernel) pv_bl0
                                                                                        · rw [if_neg c579] at h
                                                                                          by_cases c585 : (q2 &&& (63:Int32)) = (43:Int32)
                                                                                          · rw [if_pos c585] at h
                                                                                            refine pv_e_swin (dflt := 1423) (lo := 0) (hi := 44) (offs := #[195, 228, 271, 304, 327, 390, 413, 446, 489, 512, 535, 568, 601, 634, 657, 680, 713, 756, 779, 812, 835, 858, 881, 904, 937, 960, 973, 996, 1019, 1042, 1075, 1108, 1131, 1154, 1187, 1230, 1253, 1276, 1309, 1322, 1336, 1350, 1373, 1386, 1409]) (len := 195) (off := 1386) (b := 1419) (by decide +kernel) (by rw [c585]; decide +kernel) (by rw [c585]; decide +kernel) (by decide +kernel) ?_
                                                                                            unfold f_law_c43 at h
                                                                                            refine pv_e_bk (ps := [(1419, .aload_n 1, 1), (1420, .aload_n 0, 1), (1421, .iload_n 3, 1), (1422, .iconst 1, 1), (1423, .iadd, 1)]) (t' := (116, 23246, 1424, [some (.retAddr 0), some (.ref 0), some (.ref 94), some (.int v3)], [.int (v3 + (1:Int32)), .retAddr 0, .ref 0], pv_mm s T)) (by decide +kernel) rfl ?_
                                                                                            obtain ⟨q586, e587, h⟩ := Option.bind_eq_some_iff.mp h
                                                                                            refine pv_e_sc (pc' := 1425) (by decide +kernel) e587 rfl ?_
                                                                                            obtain ⟨q589, e588, h⟩ := Option.bind_eq_some_iff.mp h
                                                                                            refine pv_e_cvLi (d := d + 15) (i := 191) (z := 97) (np := 1) (ml := 2) (ci := 5) (As := [.int q586]) (rs := []) (pc' := 1428) (by decide +kernel) rfl rfl rfl rfl (Nat.le_of_ble_eq_true rfl) (Nat.le_of_ble_eq_true rfl) rfl (ee97 (d + 15) q586 e588) ?_
                                                                                            refine pv_e_bk (ps := [(1428, .aload_n 2, 1), (1429, .aload_n 0, 1), (1430, .iload_n 3, 1), (1431, .iconst 1, 1), (1432, .iadd, 1)]) (t' := (116, 23246, 1433, [some (.retAddr 0), some (.ref 0), some (.ref 94), some (.int v3)], [.int (v3 + (1:Int32)), .retAddr 0, .ref 94, .int q589], pv_mm s T)) (by decide +kernel) rfl ?_
                                                                                            obtain ⟨q590, e591, h⟩ := Option.bind_eq_some_iff.mp h
                                                                                            refine pv_e_sc (pc' := 1434) (by decide +kernel) e591 rfl ?_
                                                                                            obtain ⟨q593, e592, h⟩ := Option.bind_eq_some_iff.mp h
                                                                                            refine pv_e_cvLi (d := d + 15) (i := 194) (z := 212) (np := 1) (ml := 2) (ci := 6) (As := [.int q590]) (rs := [.int q589]) (pc' := 1437) (by decide +kernel) rfl rfl rfl rfl (Nat.le_of_ble_eq_true rfl) (Nat.le_of_ble_eq_true rfl) rfl (ee212 (d + 14) q590 e592) ?_
                                                                                            refine pv_e_icmpeq (off := 19) (b := 1456) (pc' := 1440) (by decide +kernel) (by decide +kernel) rfl (fun c594 => ?_) (fun c594 => ?_)
                                                                                            · rw [if_pos c594] at h
                                                                                              refine pv_e_bk (ps := [(1456, .iinc 3 6, 3), (1459, .goto (-1441), 3)]) (t' := (116, 23246, 18, [some (.retAddr 0), some (.ref 0), some (.ref 94), some (.int (v3 + (6:Int32)))], [], pv_mm s T)) (by decide +kernel) rfl ?_
                                                                                              obtain rfl := Option.some.inj h
                                                                                              exact hK
                                                                                            · rw [if_neg c594] at h
                                                                                              refine pv_e_bk (ps := [(1440, .iconst 0, 1)]) (t' := (116, 23246, 1441, [some (.retAddr 0), some (.ref 0), some (.ref 94), some (.int v3)], [.int (0:Int32)], pv_mm s T)) (by decide +kernel) rfl ?_
                                                                                              obtain rfl := Option.some.inj h
                                                                                              cases hK
                                                                                              exact pv_e_rL (by decide +kernel) pv_bl0
                                                                                          · rw [if_neg c585] at h
                                                                                            by_cases c595 : (q2 &&& (63:Int32)) = (44:Int32)
                                                                                            · rw [if_pos c595] at h
                                                                                              refine pv_e_swin (dflt := 1423) (lo := 0) (hi := 44) (offs := #[195, 228, 271, 304, 327, 390, 413, 446, 489, 512, 535, 568, 601, 634, 657, 680, 713, 756, 779, 812, 835, 858, 881, 904, 937, 960, 973, 996, 1019, 1042, 1075, 1108, 1131, 1154, 1187, 1230, 1253, 1276, 1309, 1322, 1336, 1350, 1373, 1386, 1409]) (len := 195) (off := 1409) (b := 1442) (by decide +kernel) (by rw [c595]; decide +kernel) (by rw [c595]; decide +kernel) (by decide +kernel) ?_
                                                                                              unfold f_law_c44 at h
                                                                                              refine pv_e_bk (ps := [(1442, .aload_n 1, 1)]) (t' := (116, 23246, 1443, [some (.retAddr 0), some (.ref 0), some (.ref 94), some (.int v3)], [.ref 0], pv_mm s T)) (by decide +kernel) rfl ?_
                                                                                              obtain ⟨q597, e596, h⟩ := Option.bind_eq_some_iff.mp h
                                                                                              refine pv_e_cvLl (d := d + 15) (i := 195) (z := 98) (np := 0) (ml := 4) (ci := 5) (As := []) (rs := []) (pc' := 1446) (by decide +kernel) rfl rfl rfl rfl (Nat.le_of_ble_eq_true rfl) (Nat.le_of_ble_eq_true rfl) rfl (ee98 (d + 11) e596) ?_
                                                                                              refine pv_e_bk (ps := [(1446, .aload_n 2, 1)]) (t' := (116, 23246, 1447, [some (.retAddr 0), some (.ref 0), some (.ref 94), some (.int v3)], [.ref 94, .long q597], pv_mm s T)) (by decide +kernel) rfl ?_
                                                                                              obtain ⟨⟨q599, T600⟩, e598, h⟩ := Option.bind_eq_some_iff.mp h
                                                                                              dsimp only at h
                                                                                              refine pv_e_cvLl (d := d + 15) (i := 198) (z := 215) (np := 0) (ml := 3) (ci := 6) (As := []) (rs := [.long q597]) (pc' := 1450) (by decide +kernel) rfl rfl rfl rfl (Nat.le_of_ble_eq_true rfl) (Nat.le_of_ble_eq_true rfl) rfl (ee215 (d + 12) e598) ?_
                                                                                              refine pv_e_bk (ps := [(1450, .lcmp, 1)]) (t' := (116, 23246, 1451, [some (.retAddr 0), some (.ref 0), some (.ref 94), some (.int v3)], [.int (lg_cmp q597 q599)], pv_mm s T600)) (by decide +kernel) rfl ?_
                                                                                              refine pv_e_ifeq (off := 5) (b := 1456) (pc' := 1454) (by decide +kernel) (by decide +kernel) rfl (fun c601 => ?_) (fun c601 => ?_)
                                                                                              · rw [if_pos c601] at h
                                                                                                refine pv_e_bk (ps := [(1456, .iinc 3 6, 3), (1459, .goto (-1441), 3)]) (t' := (116, 23246, 18, [some (.retAddr 0), some (.ref 0), some (.ref 94), some (.int (v3 + (6:Int32)))], [], pv_mm s T600)) (by decide +kernel) rfl ?_
                                                                                                obtain rfl := Option.some.inj h
                                                                                                exact hK
                                                                                              · rw [if_neg c601] at h
                                                                                                refine pv_e_bk (ps := [(1454, .iconst 0, 1)]) (t' := (116, 23246, 1455, [some (.retAddr 0), some (.ref 0), some (.ref 94), some (.int v3)], [.int (0:Int32)], pv_mm s T600)) (by decide +kernel) rfl ?_
                                                                                                obtain rfl := Option.some.inj h
                                                                                                cases hK
                                                                                                exact pv_e_rL (by decide +kernel) pv_bl0
                                                                                            · rw [if_neg c595] at h
                                                                                              refine pv_e_swout (dflt := 1423) (lo := 0) (hi := 44) (offs := #[195, 228, 271, 304, 327, 390, 413, 446, 489, 512, 535, 568, 601, 634, 657, 680, 713, 756, 779, 812, 835, 858, 881, 904, 937, 960, 973, 996, 1019, 1042, 1075, 1108, 1131, 1154, 1187, 1230, 1253, 1276, 1309, 1322, 1336, 1350, 1373, 1386, 1409]) (len := 195) (b := 1456) (by decide +kernel) ?_ (by decide +kernel) ?_
                                                                                              · have nc4 : (q2 &&& (63:Int32)).toInt ≠ (0 : Int) := fun e9 => c4 (Int32.toInt_inj.mp (e9.trans (by decide +kernel)))
                                                                                                have nc20 : (q2 &&& (63:Int32)).toInt ≠ (1 : Int) := fun e9 => c20 (Int32.toInt_inj.mp (e9.trans (by decide +kernel)))
                                                                                                have nc40 : (q2 &&& (63:Int32)).toInt ≠ (2 : Int) := fun e9 => c40 (Int32.toInt_inj.mp (e9.trans (by decide +kernel)))
                                                                                                have nc56 : (q2 &&& (63:Int32)).toInt ≠ (3 : Int) := fun e9 => c56 (Int32.toInt_inj.mp (e9.trans (by decide +kernel)))
                                                                                                have nc68 : (q2 &&& (63:Int32)).toInt ≠ (4 : Int) := fun e9 => c68 (Int32.toInt_inj.mp (e9.trans (by decide +kernel)))
                                                                                                have nc96 : (q2 &&& (63:Int32)).toInt ≠ (5 : Int) := fun e9 => c96 (Int32.toInt_inj.mp (e9.trans (by decide +kernel)))
                                                                                                have nc108 : (q2 &&& (63:Int32)).toInt ≠ (6 : Int) := fun e9 => c108 (Int32.toInt_inj.mp (e9.trans (by decide +kernel)))
                                                                                                have nc124 : (q2 &&& (63:Int32)).toInt ≠ (7 : Int) := fun e9 => c124 (Int32.toInt_inj.mp (e9.trans (by decide +kernel)))
                                                                                                have nc144 : (q2 &&& (63:Int32)).toInt ≠ (8 : Int) := fun e9 => c144 (Int32.toInt_inj.mp (e9.trans (by decide +kernel)))
                                                                                                have nc156 : (q2 &&& (63:Int32)).toInt ≠ (9 : Int) := fun e9 => c156 (Int32.toInt_inj.mp (e9.trans (by decide +kernel)))
                                                                                                have nc168 : (q2 &&& (63:Int32)).toInt ≠ (10 : Int) := fun e9 => c168 (Int32.toInt_inj.mp (e9.trans (by decide +kernel)))
                                                                                                have nc184 : (q2 &&& (63:Int32)).toInt ≠ (11 : Int) := fun e9 => c184 (Int32.toInt_inj.mp (e9.trans (by decide +kernel)))
                                                                                                have nc200 : (q2 &&& (63:Int32)).toInt ≠ (12 : Int) := fun e9 => c200 (Int32.toInt_inj.mp (e9.trans (by decide +kernel)))
                                                                                                have nc216 : (q2 &&& (63:Int32)).toInt ≠ (13 : Int) := fun e9 => c216 (Int32.toInt_inj.mp (e9.trans (by decide +kernel)))
                                                                                                have nc228 : (q2 &&& (63:Int32)).toInt ≠ (14 : Int) := fun e9 => c228 (Int32.toInt_inj.mp (e9.trans (by decide +kernel)))
                                                                                                have nc240 : (q2 &&& (63:Int32)).toInt ≠ (15 : Int) := fun e9 => c240 (Int32.toInt_inj.mp (e9.trans (by decide +kernel)))
                                                                                                have nc256 : (q2 &&& (63:Int32)).toInt ≠ (16 : Int) := fun e9 => c256 (Int32.toInt_inj.mp (e9.trans (by decide +kernel)))
                                                                                                have nc276 : (q2 &&& (63:Int32)).toInt ≠ (17 : Int) := fun e9 => c276 (Int32.toInt_inj.mp (e9.trans (by decide +kernel)))
                                                                                                have nc288 : (q2 &&& (63:Int32)).toInt ≠ (18 : Int) := fun e9 => c288 (Int32.toInt_inj.mp (e9.trans (by decide +kernel)))
                                                                                                have nc302 : (q2 &&& (63:Int32)).toInt ≠ (19 : Int) := fun e9 => c302 (Int32.toInt_inj.mp (e9.trans (by decide +kernel)))
                                                                                                have nc312 : (q2 &&& (63:Int32)).toInt ≠ (20 : Int) := fun e9 => c312 (Int32.toInt_inj.mp (e9.trans (by decide +kernel)))
                                                                                                have nc324 : (q2 &&& (63:Int32)).toInt ≠ (21 : Int) := fun e9 => c324 (Int32.toInt_inj.mp (e9.trans (by decide +kernel)))
                                                                                                have nc336 : (q2 &&& (63:Int32)).toInt ≠ (22 : Int) := fun e9 => c336 (Int32.toInt_inj.mp (e9.trans (by decide +kernel)))
                                                                                                have nc348 : (q2 &&& (63:Int32)).toInt ≠ (23 : Int) := fun e9 => c348 (Int32.toInt_inj.mp (e9.trans (by decide +kernel)))
                                                                                                have nc364 : (q2 &&& (63:Int32)).toInt ≠ (24 : Int) := fun e9 => c364 (Int32.toInt_inj.mp (e9.trans (by decide +kernel)))
                                                                                                have nc376 : (q2 &&& (63:Int32)).toInt ≠ (25 : Int) := fun e9 => c376 (Int32.toInt_inj.mp (e9.trans (by decide +kernel)))
                                                                                                have nc384 : (q2 &&& (63:Int32)).toInt ≠ (26 : Int) := fun e9 => c384 (Int32.toInt_inj.mp (e9.trans (by decide +kernel)))
                                                                                                have nc396 : (q2 &&& (63:Int32)).toInt ≠ (27 : Int) := fun e9 => c396 (Int32.toInt_inj.mp (e9.trans (by decide +kernel)))
                                                                                                have nc408 : (q2 &&& (63:Int32)).toInt ≠ (28 : Int) := fun e9 => c408 (Int32.toInt_inj.mp (e9.trans (by decide +kernel)))
                                                                                                have nc420 : (q2 &&& (63:Int32)).toInt ≠ (29 : Int) := fun e9 => c420 (Int32.toInt_inj.mp (e9.trans (by decide +kernel)))
                                                                                                have nc436 : (q2 &&& (63:Int32)).toInt ≠ (30 : Int) := fun e9 => c436 (Int32.toInt_inj.mp (e9.trans (by decide +kernel)))
                                                                                                have nc452 : (q2 &&& (63:Int32)).toInt ≠ (31 : Int) := fun e9 => c452 (Int32.toInt_inj.mp (e9.trans (by decide +kernel)))
                                                                                                have nc464 : (q2 &&& (63:Int32)).toInt ≠ (32 : Int) := fun e9 => c464 (Int32.toInt_inj.mp (e9.trans (by decide +kernel)))
                                                                                                have nc476 : (q2 &&& (63:Int32)).toInt ≠ (33 : Int) := fun e9 => c476 (Int32.toInt_inj.mp (e9.trans (by decide +kernel)))
                                                                                                have nc492 : (q2 &&& (63:Int32)).toInt ≠ (34 : Int) := fun e9 => c492 (Int32.toInt_inj.mp (e9.trans (by decide +kernel)))
                                                                                                have nc512 : (q2 &&& (63:Int32)).toInt ≠ (35 : Int) := fun e9 => c512 (Int32.toInt_inj.mp (e9.trans (by decide +kernel)))
                                                                                                have nc524 : (q2 &&& (63:Int32)).toInt ≠ (36 : Int) := fun e9 => c524 (Int32.toInt_inj.mp (e9.trans (by decide +kernel)))
                                                                                                have nc535 : (q2 &&& (63:Int32)).toInt ≠ (37 : Int) := fun e9 => c535 (Int32.toInt_inj.mp (e9.trans (by decide +kernel)))
                                                                                                have nc551 : (q2 &&& (63:Int32)).toInt ≠ (38 : Int) := fun e9 => c551 (Int32.toInt_inj.mp (e9.trans (by decide +kernel)))
                                                                                                have nc557 : (q2 &&& (63:Int32)).toInt ≠ (39 : Int) := fun e9 => c557 (Int32.toInt_inj.mp (e9.trans (by decide +kernel)))
                                                                                                have nc563 : (q2 &&& (63:Int32)).toInt ≠ (40 : Int) := fun e9 => c563 (Int32.toInt_inj.mp (e9.trans (by decide +kernel)))
                                                                                                have nc569 : (q2 &&& (63:Int32)).toInt ≠ (41 : Int) := fun e9 => c569 (Int32.toInt_inj.mp (e9.trans (by decide +kernel)))
                                                                                                have nc579 : (q2 &&& (63:Int32)).toInt ≠ (42 : Int) := fun e9 => c579 (Int32.toInt_inj.mp (e9.trans (by decide +kernel)))
                                                                                                have nc585 : (q2 &&& (63:Int32)).toInt ≠ (43 : Int) := fun e9 => c585 (Int32.toInt_inj.mp (e9.trans (by decide +kernel)))
                                                                                                have nc595 : (q2 &&& (63:Int32)).toInt ≠ (44 : Int) := fun e9 => c595 (Int32.toInt_inj.mp (e9.trans (by decide +kernel)))
                                                                                                omega
                                                                                              · refine pv_e_bk (ps := [(1456, .iinc 3 6, 3), (1459, .goto (-1441), 3)]) (t' := (116, 23246, 18, [some (.retAddr 0), some (.ref 0), some (.ref 94), some (.int (v3 + (6:Int32)))], [], pv_mm s T)) (by decide +kernel) rfl ?_
                                                                                                obtain rfl := Option.some.inj h
                                                                                                exact hK
theorem ee_law {xs : Nat → Int32} {L : Nat} (d : Nat) {s : pv_F} {T : pv_T} {q : Int32 × pv_F × pv_T} (h : f_law xs L s T = some q) : pv_Ev xs L (d + 16) 225 (116, 23246, 18, [some (.retAddr 0), some (.ref 0), some (.ref 94), some (.int (0:Int32))], [], pv_mm s T) (some (.int q.1), pv_mm q.2.1 q.2.2) := by
  generalize hr : ((some (.int q.1), pv_mm q.2.1 q.2.2) : Option Value × pv_M) = r
  unfold f_law at h
  obtain ⟨o607, e606, h⟩ := Option.bind_eq_some_iff.mp h
  refine pv_lp_ok (H := f_law_b1_H xs L d r ) (X := f_law_b1_X xs L d r ) (Z := (fun q => (some (.int q.1), pv_mm q.2.1 q.2.2) = r)) (f_law_b1_ok (xs := xs) (L := L) (d := d) (r := r) ) 20000 _ _ e606 ?_
  rcases o607 with ⟨w602, s603, T604⟩ | q
  · dsimp only at h ⊢
    show ∀ z3 : Option Value, pv_Ev xs L (d + 16) 225 (116, 23246, 1462, [some (.retAddr 0), some (.ref 0), some (.ref 94), z3], [], pv_mm s603 T604) r
    intro z3
    refine pv_e_bk (ps := [(1462, .iconst 1, 1)]) (t' := (116, 23246, 1463, [some (.retAddr 0), some (.ref 0), some (.ref 94), z3], [.int (1:Int32)], pv_mm s603 T604)) (by decide +kernel) rfl ?_
    obtain rfl := Option.some.inj h
    cases hr
    exact pv_e_rL (by decide +kernel) pv_bl1
  · dsimp only at h ⊢
    obtain rfl := Option.some.inj h
    exact hr
