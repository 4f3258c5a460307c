/-! words of the tables by their places. By program. -/
theorem qw_84 : (Jvm.Cond.lays "SkyStones$Code" "SkyStones$Code" "used" "I" : Cond) ∈ wAll := wAll_of (List.mem_append_right _ (List.mem_of_getElem? (i := 84) (by decide +kernel))) (by decide +kernel)
theorem qw_86 : (Jvm.Cond.laysFinal "SkyStones$Code" "SkyStones$Code" "sign" "[I" : Cond) ∈ wAll := wAll_of (List.mem_append_right _ (List.mem_of_getElem? (i := 86) (by decide +kernel))) (by decide +kernel)
theorem qw_88 : (Jvm.Cond.laysFinal "SkyStones$Code" "SkyStones$Code" "number" "[I" : Cond) ∈ wAll := wAll_of (List.mem_append_right _ (List.mem_of_getElem? (i := 88) (by decide +kernel))) (by decide +kernel)
theorem qw_90 : (Jvm.Cond.laysFinal "SkyStones$Code" "SkyStones$Code" "from" "[I" : Cond) ∈ wAll := wAll_of (List.mem_append_right _ (List.mem_of_getElem? (i := 90) (by decide +kernel))) (by decide +kernel)
theorem qw_92 : (Jvm.Cond.laysFinal "SkyStones$Code" "SkyStones$Code" "to" "[I" : Cond) ∈ wAll := wAll_of (List.mem_append_right _ (List.mem_of_getElem? (i := 92) (by decide +kernel))) (by decide +kernel)
theorem qw_94 : (Jvm.Cond.laysFinal "SkyStones$Code" "SkyStones$Code" "stack" "[I" : Cond) ∈ wAll := wAll_of (List.mem_append_right _ (List.mem_of_getElem? (i := 94) (by decide +kernel))) (by decide +kernel)
theorem qw_96 : (Jvm.Cond.lays "SkyStones$Code" "SkyStones$Code" "broken" "Z" : Cond) ∈ wAll := wAll_of (List.mem_append_right _ (List.mem_of_getElem? (i := 96) (by decide +kernel))) (by decide +kernel)
theorem qi_0 : ∀ w ∈ u_ws RX0 TX0 7, w ∈ wAll := by
  intro w hw
  obtain ⟨k, hk, rfl⟩ := List.mem_map.mp hw
  have hk := List.mem_range.mp hk
  match k, hk with
  | 0, _ => exact qw_84
  | 1, _ => exact qw_86
  | 2, _ => exact qw_88
  | 3, _ => exact qw_90
  | 4, _ => exact qw_92
  | 5, _ => exact qw_94
  | 6, _ => exact qw_96
  | k + 7, hk => exact absurd hk (by omega)
theorem qw_285 : (Jvm.Cond.lays "SkyStones$Ground" "SkyStones$Ground" "things" "I" : Cond) ∈ wAll := wAll_of (List.mem_append_right _ (List.mem_of_getElem? (i := 285) (by decide +kernel))) (by decide +kernel)
theorem qw_287 : (Jvm.Cond.laysFinal "SkyStones$Ground" "SkyStones$Ground" "east" "[I" : Cond) ∈ wAll := wAll_of (List.mem_append_right _ (List.mem_of_getElem? (i := 287) (by decide +kernel))) (by decide +kernel)
theorem qw_289 : (Jvm.Cond.laysFinal "SkyStones$Ground" "SkyStones$Ground" "north" "[I" : Cond) ∈ wAll := wAll_of (List.mem_append_right _ (List.mem_of_getElem? (i := 289) (by decide +kernel))) (by decide +kernel)
theorem qw_291 : (Jvm.Cond.laysFinal "SkyStones$Ground" "SkyStones$Ground" "age" "[I" : Cond) ∈ wAll := wAll_of (List.mem_append_right _ (List.mem_of_getElem? (i := 291) (by decide +kernel))) (by decide +kernel)
theorem qw_293 : (Jvm.Cond.laysFinal "SkyStones$Ground" "SkyStones$Ground" "stone" "[I" : Cond) ∈ wAll := wAll_of (List.mem_append_right _ (List.mem_of_getElem? (i := 293) (by decide +kernel))) (by decide +kernel)
theorem qw_295 : (Jvm.Cond.laysFinal "SkyStones$Ground" "SkyStones$Ground" "lost" "[Z" : Cond) ∈ wAll := wAll_of (List.mem_append_right _ (List.mem_of_getElem? (i := 295) (by decide +kernel))) (by decide +kernel)
theorem qw_297 : (Jvm.Cond.laysFinal "SkyStones$Ground" "SkyStones$Ground" "isVoid" "[Z" : Cond) ∈ wAll := wAll_of (List.mem_append_right _ (List.mem_of_getElem? (i := 297) (by decide +kernel))) (by decide +kernel)
theorem qw_299 : (Jvm.Cond.laysFinal "SkyStones$Ground" "SkyStones$Ground" "traits" "[I" : Cond) ∈ wAll := wAll_of (List.mem_append_right _ (List.mem_of_getElem? (i := 299) (by decide +kernel))) (by decide +kernel)
theorem qw_301 : (Jvm.Cond.lays "SkyStones$Ground" "SkyStones$Ground" "chosen" "I" : Cond) ∈ wAll := wAll_of (List.mem_append_right _ (List.mem_of_getElem? (i := 301) (by decide +kernel))) (by decide +kernel)
theorem qw_303 : (Jvm.Cond.laysFinal "SkyStones$Ground" "SkyStones$Ground" "number" "[I" : Cond) ∈ wAll := wAll_of (List.mem_append_right _ (List.mem_of_getElem? (i := 303) (by decide +kernel))) (by decide +kernel)
theorem qw_305 : (Jvm.Cond.laysFinal "SkyStones$Ground" "SkyStones$Ground" "way" "[I" : Cond) ∈ wAll := wAll_of (List.mem_append_right _ (List.mem_of_getElem? (i := 305) (by decide +kernel))) (by decide +kernel)
theorem qi_2 : ∀ w ∈ u_ws RX2 TX2 11, w ∈ wAll := by
  intro w hw
  obtain ⟨k, hk, rfl⟩ := List.mem_map.mp hw
  have hk := List.mem_range.mp hk
  match k, hk with
  | 0, _ => exact qw_285
  | 1, _ => exact qw_287
  | 2, _ => exact qw_289
  | 3, _ => exact qw_291
  | 4, _ => exact qw_293
  | 5, _ => exact qw_295
  | 6, _ => exact qw_297
  | 7, _ => exact qw_299
  | 8, _ => exact qw_301
  | 9, _ => exact qw_303
  | 10, _ => exact qw_305
  | k + 11, hk => exact absurd hk (by omega)
theorem qw_387 : (Jvm.Cond.laysFinal "SkyStones$Maker" "SkyStones$Maker" "east" "[I" : Cond) ∈ wAll := wAll_of (List.mem_append_right _ (List.mem_of_getElem? (i := 387) (by decide +kernel))) (by decide +kernel)
theorem qw_389 : (Jvm.Cond.laysFinal "SkyStones$Maker" "SkyStones$Maker" "north" "[I" : Cond) ∈ wAll := wAll_of (List.mem_append_right _ (List.mem_of_getElem? (i := 389) (by decide +kernel))) (by decide +kernel)
theorem qi_3 : ∀ w ∈ u_ws RX3 TX3 2, w ∈ wAll := by
  intro w hw
  obtain ⟨k, hk, rfl⟩ := List.mem_map.mp hw
  have hk := List.mem_range.mp hk
  match k, hk with
  | 0, _ => exact qw_387
  | 1, _ => exact qw_389
  | k + 2, hk => exact absurd hk (by omega)
theorem qw_372 : (Jvm.Cond.laysFinal "SkyStones$Pairing" "SkyStones$Pairing" "joined" "[I" : Cond) ∈ wAll := wAll_of (List.mem_append_right _ (List.mem_of_getElem? (i := 372) (by decide +kernel))) (by decide +kernel)
theorem qw_374 : (Jvm.Cond.laysFinal "SkyStones$Pairing" "SkyStones$Pairing" "best" "[I" : Cond) ∈ wAll := wAll_of (List.mem_append_right _ (List.mem_of_getElem? (i := 374) (by decide +kernel))) (by decide +kernel)
theorem qi_4 : ∀ w ∈ u_ws RX4 TX4 2, w ∈ wAll := by
  intro w hw
  obtain ⟨k, hk, rfl⟩ := List.mem_map.mp hw
  have hk := List.mem_range.mp hk
  match k, hk with
  | 0, _ => exact qw_372
  | 1, _ => exact qw_374
  | k + 2, hk => exact absurd hk (by omega)
theorem qw_198 : (Jvm.Cond.lays "SkyStones$Reader" "SkyStones$Reader" "fault" "I" : Cond) ∈ wAll := wAll_of (List.mem_append_right _ (List.mem_of_getElem? (i := 198) (by decide +kernel))) (by decide +kernel)
theorem qw_200 : (Jvm.Cond.lays "SkyStones$Reader" "SkyStones$Reader" "where" "I" : Cond) ∈ wAll := wAll_of (List.mem_append_right _ (List.mem_of_getElem? (i := 200) (by decide +kernel))) (by decide +kernel)
theorem qw_202 : (Jvm.Cond.laysFinal "SkyStones$Reader" "SkyStones$Reader" "tape" "LSkyStones$Tape;" : Cond) ∈ wAll := wAll_of (List.mem_append_right _ (List.mem_of_getElem? (i := 202) (by decide +kernel))) (by decide +kernel)
theorem qw_204 : (Jvm.Cond.lays "SkyStones$Reader" "SkyStones$Reader" "told" "LSkyStones$Told;" : Cond) ∈ wAll := wAll_of (List.mem_append_right _ (List.mem_of_getElem? (i := 204) (by decide +kernel))) (by decide +kernel)
theorem qw_206 : (Jvm.Cond.lays "SkyStones$Reader" "SkyStones$Reader" "at" "I" : Cond) ∈ wAll := wAll_of (List.mem_append_right _ (List.mem_of_getElem? (i := 206) (by decide +kernel))) (by decide +kernel)
theorem qw_208 : (Jvm.Cond.lays "SkyStones$Reader" "SkyStones$Reader" "laterFault" "I" : Cond) ∈ wAll := wAll_of (List.mem_append_right _ (List.mem_of_getElem? (i := 208) (by decide +kernel))) (by decide +kernel)
theorem qw_210 : (Jvm.Cond.lays "SkyStones$Reader" "SkyStones$Reader" "laterWhere" "I" : Cond) ∈ wAll := wAll_of (List.mem_append_right _ (List.mem_of_getElem? (i := 210) (by decide +kernel))) (by decide +kernel)
theorem qw_212 : (Jvm.Cond.laysFinal "SkyStones$Reader" "SkyStones$Reader" "thingName" "[J" : Cond) ∈ wAll := wAll_of (List.mem_append_right _ (List.mem_of_getElem? (i := 212) (by decide +kernel))) (by decide +kernel)
theorem qw_214 : (Jvm.Cond.laysFinal "SkyStones$Reader" "SkyStones$Reader" "skyName" "[J" : Cond) ∈ wAll := wAll_of (List.mem_append_right _ (List.mem_of_getElem? (i := 214) (by decide +kernel))) (by decide +kernel)
theorem qi_5 : ∀ w ∈ u_ws RX5 TX5 9, w ∈ wAll := by
  intro w hw
  obtain ⟨k, hk, rfl⟩ := List.mem_map.mp hw
  have hk := List.mem_range.mp hk
  match k, hk with
  | 0, _ => exact qw_198
  | 1, _ => exact qw_200
  | 2, _ => exact qw_202
  | 3, _ => exact qw_204
  | 4, _ => exact qw_206
  | 5, _ => exact qw_208
  | 6, _ => exact qw_210
  | 7, _ => exact qw_212
  | 8, _ => exact qw_214
  | k + 9, hk => exact absurd hk (by omega)
theorem qw_322 : (Jvm.Cond.lays "SkyStones$Sky" "SkyStones$Sky" "places" "I" : Cond) ∈ wAll := wAll_of (List.mem_append_right _ (List.mem_of_getElem? (i := 322) (by decide +kernel))) (by decide +kernel)
theorem qw_324 : (Jvm.Cond.laysFinal "SkyStones$Sky" "SkyStones$Sky" "degree" "[I" : Cond) ∈ wAll := wAll_of (List.mem_append_right _ (List.mem_of_getElem? (i := 324) (by decide +kernel))) (by decide +kernel)
theorem qw_326 : (Jvm.Cond.laysFinal "SkyStones$Sky" "SkyStones$Sky" "span" "[I" : Cond) ∈ wAll := wAll_of (List.mem_append_right _ (List.mem_of_getElem? (i := 326) (by decide +kernel))) (by decide +kernel)
theorem qw_328 : (Jvm.Cond.laysFinal "SkyStones$Sky" "SkyStones$Sky" "vars" "[I" : Cond) ∈ wAll := wAll_of (List.mem_append_right _ (List.mem_of_getElem? (i := 328) (by decide +kernel))) (by decide +kernel)
theorem qi_6 : ∀ w ∈ u_ws RX6 TX6 4, w ∈ wAll := by
  intro w hw
  obtain ⟨k, hk, rfl⟩ := List.mem_map.mp hw
  have hk := List.mem_range.mp hk
  match k, hk with
  | 0, _ => exact qw_322
  | 1, _ => exact qw_324
  | 2, _ => exact qw_326
  | 3, _ => exact qw_328
  | k + 4, hk => exact absurd hk (by omega)
theorem qw_239 : (Jvm.Cond.lays "SkyStones$Survey" "SkyStones$Survey" "facts" "I" : Cond) ∈ wAll := wAll_of (List.mem_append_right _ (List.mem_of_getElem? (i := 239) (by decide +kernel))) (by decide +kernel)
theorem qw_241 : (Jvm.Cond.lays "SkyStones$Survey" "SkyStones$Survey" "finds" "I" : Cond) ∈ wAll := wAll_of (List.mem_append_right _ (List.mem_of_getElem? (i := 241) (by decide +kernel))) (by decide +kernel)
theorem qw_243 : (Jvm.Cond.laysFinal "SkyStones$Survey" "SkyStones$Survey" "kind" "[I" : Cond) ∈ wAll := wAll_of (List.mem_append_right _ (List.mem_of_getElem? (i := 243) (by decide +kernel))) (by decide +kernel)
theorem qw_245 : (Jvm.Cond.laysFinal "SkyStones$Survey" "SkyStones$Survey" "about" "[I" : Cond) ∈ wAll := wAll_of (List.mem_append_right _ (List.mem_of_getElem? (i := 245) (by decide +kernel))) (by decide +kernel)
theorem qw_247 : (Jvm.Cond.laysFinal "SkyStones$Survey" "SkyStones$Survey" "east" "[I" : Cond) ∈ wAll := wAll_of (List.mem_append_right _ (List.mem_of_getElem? (i := 247) (by decide +kernel))) (by decide +kernel)
theorem qw_249 : (Jvm.Cond.laysFinal "SkyStones$Survey" "SkyStones$Survey" "north" "[I" : Cond) ∈ wAll := wAll_of (List.mem_append_right _ (List.mem_of_getElem? (i := 249) (by decide +kernel))) (by decide +kernel)
theorem qw_251 : (Jvm.Cond.laysFinal "SkyStones$Survey" "SkyStones$Survey" "age" "[I" : Cond) ∈ wAll := wAll_of (List.mem_append_right _ (List.mem_of_getElem? (i := 251) (by decide +kernel))) (by decide +kernel)
theorem qi_7 : ∀ w ∈ u_ws RX7 TX7 7, w ∈ wAll := by
  intro w hw
  obtain ⟨k, hk, rfl⟩ := List.mem_map.mp hw
  have hk := List.mem_range.mp hk
  match k, hk with
  | 0, _ => exact qw_239
  | 1, _ => exact qw_241
  | 2, _ => exact qw_243
  | 3, _ => exact qw_245
  | 4, _ => exact qw_247
  | 5, _ => exact qw_249
  | 6, _ => exact qw_251
  | k + 7, hk => exact absurd hk (by omega)
theorem qw_47 : (Jvm.Cond.lays "SkyStones$Tape" "SkyStones$Tape" "bytes" "I" : Cond) ∈ wAll := wAll_of (List.mem_append_right _ (List.mem_of_getElem? (i := 47) (by decide +kernel))) (by decide +kernel)
theorem qw_49 : (Jvm.Cond.laysFinal "SkyStones$Tape" "SkyStones$Tape" "row" "[B" : Cond) ∈ wAll := wAll_of (List.mem_append_right _ (List.mem_of_getElem? (i := 49) (by decide +kernel))) (by decide +kernel)
theorem qw_51 : (Jvm.Cond.lays "SkyStones$Tape" "SkyStones$Tape" "tokens" "I" : Cond) ∈ wAll := wAll_of (List.mem_append_right _ (List.mem_of_getElem? (i := 51) (by decide +kernel))) (by decide +kernel)
theorem qw_53 : (Jvm.Cond.laysFinal "SkyStones$Tape" "SkyStones$Tape" "kind" "[I" : Cond) ∈ wAll := wAll_of (List.mem_append_right _ (List.mem_of_getElem? (i := 53) (by decide +kernel))) (by decide +kernel)
theorem qw_55 : (Jvm.Cond.laysFinal "SkyStones$Tape" "SkyStones$Tape" "start" "[I" : Cond) ∈ wAll := wAll_of (List.mem_append_right _ (List.mem_of_getElem? (i := 55) (by decide +kernel))) (by decide +kernel)
theorem qw_57 : (Jvm.Cond.laysFinal "SkyStones$Tape" "SkyStones$Tape" "number" "[I" : Cond) ∈ wAll := wAll_of (List.mem_append_right _ (List.mem_of_getElem? (i := 57) (by decide +kernel))) (by decide +kernel)
theorem qw_59 : (Jvm.Cond.laysFinal "SkyStones$Tape" "SkyStones$Tape" "name" "[J" : Cond) ∈ wAll := wAll_of (List.mem_append_right _ (List.mem_of_getElem? (i := 59) (by decide +kernel))) (by decide +kernel)
theorem qi_8 : ∀ w ∈ u_ws RX8 TX8 7, w ∈ wAll := by
  intro w hw
  obtain ⟨k, hk, rfl⟩ := List.mem_map.mp hw
  have hk := List.mem_range.mp hk
  match k, hk with
  | 0, _ => exact qw_47
  | 1, _ => exact qw_49
  | 2, _ => exact qw_51
  | 3, _ => exact qw_53
  | 4, _ => exact qw_55
  | 5, _ => exact qw_57
  | 6, _ => exact qw_59
  | k + 7, hk => exact absurd hk (by omega)
theorem qw_148 : (Jvm.Cond.lays "SkyStones$Told" "SkyStones$Told" "near" "I" : Cond) ∈ wAll := wAll_of (List.mem_append_right _ (List.mem_of_getElem? (i := 148) (by decide +kernel))) (by decide +kernel)
theorem qw_150 : (Jvm.Cond.lays "SkyStones$Told" "SkyStones$Told" "things" "I" : Cond) ∈ wAll := wAll_of (List.mem_append_right _ (List.mem_of_getElem? (i := 150) (by decide +kernel))) (by decide +kernel)
theorem qw_152 : (Jvm.Cond.laysFinal "SkyStones$Told" "SkyStones$Told" "east" "[I" : Cond) ∈ wAll := wAll_of (List.mem_append_right _ (List.mem_of_getElem? (i := 152) (by decide +kernel))) (by decide +kernel)
theorem qw_154 : (Jvm.Cond.laysFinal "SkyStones$Told" "SkyStones$Told" "north" "[I" : Cond) ∈ wAll := wAll_of (List.mem_append_right _ (List.mem_of_getElem? (i := 154) (by decide +kernel))) (by decide +kernel)
theorem qw_156 : (Jvm.Cond.laysFinal "SkyStones$Told" "SkyStones$Told" "age" "[I" : Cond) ∈ wAll := wAll_of (List.mem_append_right _ (List.mem_of_getElem? (i := 156) (by decide +kernel))) (by decide +kernel)
theorem qw_158 : (Jvm.Cond.laysFinal "SkyStones$Told" "SkyStones$Told" "stone" "[I" : Cond) ∈ wAll := wAll_of (List.mem_append_right _ (List.mem_of_getElem? (i := 158) (by decide +kernel))) (by decide +kernel)
theorem qw_160 : (Jvm.Cond.lays "SkyStones$Told" "SkyStones$Told" "doors" "I" : Cond) ∈ wAll := wAll_of (List.mem_append_right _ (List.mem_of_getElem? (i := 160) (by decide +kernel))) (by decide +kernel)
theorem qw_162 : (Jvm.Cond.laysFinal "SkyStones$Told" "SkyStones$Told" "doorsFrom" "[I" : Cond) ∈ wAll := wAll_of (List.mem_append_right _ (List.mem_of_getElem? (i := 162) (by decide +kernel))) (by decide +kernel)
theorem qw_164 : (Jvm.Cond.lays "SkyStones$Told" "SkyStones$Told" "hills" "I" : Cond) ∈ wAll := wAll_of (List.mem_append_right _ (List.mem_of_getElem? (i := 164) (by decide +kernel))) (by decide +kernel)
theorem qw_166 : (Jvm.Cond.laysFinal "SkyStones$Told" "SkyStones$Told" "hillFrom" "[I" : Cond) ∈ wAll := wAll_of (List.mem_append_right _ (List.mem_of_getElem? (i := 166) (by decide +kernel))) (by decide +kernel)
theorem qw_168 : (Jvm.Cond.laysFinal "SkyStones$Told" "SkyStones$Told" "hillTo" "[I" : Cond) ∈ wAll := wAll_of (List.mem_append_right _ (List.mem_of_getElem? (i := 168) (by decide +kernel))) (by decide +kernel)
theorem qw_170 : (Jvm.Cond.laysFinal "SkyStones$Told" "SkyStones$Told" "hillHeight" "[I" : Cond) ∈ wAll := wAll_of (List.mem_append_right _ (List.mem_of_getElem? (i := 170) (by decide +kernel))) (by decide +kernel)
theorem qw_172 : (Jvm.Cond.lays "SkyStones$Told" "SkyStones$Told" "places" "I" : Cond) ∈ wAll := wAll_of (List.mem_append_right _ (List.mem_of_getElem? (i := 172) (by decide +kernel))) (by decide +kernel)
theorem qw_174 : (Jvm.Cond.laysFinal "SkyStones$Told" "SkyStones$Told" "span" "[I" : Cond) ∈ wAll := wAll_of (List.mem_append_right _ (List.mem_of_getElem? (i := 174) (by decide +kernel))) (by decide +kernel)
theorem qw_176 : (Jvm.Cond.lays "SkyStones$Told" "SkyStones$Told" "rules" "I" : Cond) ∈ wAll := wAll_of (List.mem_append_right _ (List.mem_of_getElem? (i := 176) (by decide +kernel))) (by decide +kernel)
theorem qw_178 : (Jvm.Cond.laysFinal "SkyStones$Told" "SkyStones$Told" "code" "LSkyStones$Code;" : Cond) ∈ wAll := wAll_of (List.mem_append_right _ (List.mem_of_getElem? (i := 178) (by decide +kernel))) (by decide +kernel)
theorem qi_9 : ∀ w ∈ u_ws RX9 TX9 16, w ∈ wAll := by
  intro w hw
  obtain ⟨k, hk, rfl⟩ := List.mem_map.mp hw
  have hk := List.mem_range.mp hk
  match k, hk with
  | 0, _ => exact qw_148
  | 1, _ => exact qw_150
  | 2, _ => exact qw_152
  | 3, _ => exact qw_154
  | 4, _ => exact qw_156
  | 5, _ => exact qw_158
  | 6, _ => exact qw_160
  | 7, _ => exact qw_162
  | 8, _ => exact qw_164
  | 9, _ => exact qw_166
  | 10, _ => exact qw_168
  | 11, _ => exact qw_170
  | 12, _ => exact qw_172
  | 13, _ => exact qw_174
  | 14, _ => exact qw_176
  | 15, _ => exact qw_178
  | k + 16, hk => exact absurd hk (by omega)
theorem qw_347 : (Jvm.Cond.laysFinal "SkyStones$Turns" "SkyStones$Turns" "looking" "[I" : Cond) ∈ wAll := wAll_of (List.mem_append_right _ (List.mem_of_getElem? (i := 347) (by decide +kernel))) (by decide +kernel)
theorem qw_349 : (Jvm.Cond.laysFinal "SkyStones$Turns" "SkyStones$Turns" "struck" "[I" : Cond) ∈ wAll := wAll_of (List.mem_append_right _ (List.mem_of_getElem? (i := 349) (by decide +kernel))) (by decide +kernel)
theorem qw_351 : (Jvm.Cond.laysFinal "SkyStones$Turns" "SkyStones$Turns" "hitsBy" "[I" : Cond) ∈ wAll := wAll_of (List.mem_append_right _ (List.mem_of_getElem? (i := 351) (by decide +kernel))) (by decide +kernel)
theorem qw_353 : (Jvm.Cond.laysFinal "SkyStones$Turns" "SkyStones$Turns" "least" "[I" : Cond) ∈ wAll := wAll_of (List.mem_append_right _ (List.mem_of_getElem? (i := 353) (by decide +kernel))) (by decide +kernel)
theorem qw_355 : (Jvm.Cond.laysFinal "SkyStones$Turns" "SkyStones$Turns" "tally" "[I" : Cond) ∈ wAll := wAll_of (List.mem_append_right _ (List.mem_of_getElem? (i := 355) (by decide +kernel))) (by decide +kernel)
theorem qw_357 : (Jvm.Cond.lays "SkyStones$Turns" "SkyStones$Turns" "edges" "I" : Cond) ∈ wAll := wAll_of (List.mem_append_right _ (List.mem_of_getElem? (i := 357) (by decide +kernel))) (by decide +kernel)
theorem qw_359 : (Jvm.Cond.laysFinal "SkyStones$Turns" "SkyStones$Turns" "edge" "[I" : Cond) ∈ wAll := wAll_of (List.mem_append_right _ (List.mem_of_getElem? (i := 359) (by decide +kernel))) (by decide +kernel)
theorem qw_361 : (Jvm.Cond.laysFinal "SkyStones$Turns" "SkyStones$Turns" "step" "[I" : Cond) ∈ wAll := wAll_of (List.mem_append_right _ (List.mem_of_getElem? (i := 361) (by decide +kernel))) (by decide +kernel)
theorem qi_10 : ∀ w ∈ u_ws RX10 TX10 8, w ∈ wAll := by
  intro w hw
  obtain ⟨k, hk, rfl⟩ := List.mem_map.mp hw
  have hk := List.mem_range.mp hk
  match k, hk with
  | 0, _ => exact qw_347
  | 1, _ => exact qw_349
  | 2, _ => exact qw_351
  | 3, _ => exact qw_353
  | 4, _ => exact qw_355
  | 5, _ => exact qw_357
  | 6, _ => exact qw_359
  | 7, _ => exact qw_361
  | k + 8, hk => exact absurd hk (by omega)
theorem qw_408 : (Jvm.Cond.laysFinal "SkyStones" "SkyStones" "tape" "LSkyStones$Tape;" : Cond) ∈ wAll := wAll_of (List.mem_append_right _ (List.mem_of_getElem? (i := 408) (by decide +kernel))) (by decide +kernel)
theorem qw_410 : (Jvm.Cond.lays "SkyStones" "SkyStones" "told" "LSkyStones$Told;" : Cond) ∈ wAll := wAll_of (List.mem_append_right _ (List.mem_of_getElem? (i := 410) (by decide +kernel))) (by decide +kernel)
theorem qw_412 : (Jvm.Cond.lays "SkyStones" "SkyStones" "spare" "LSkyStones$Told;" : Cond) ∈ wAll := wAll_of (List.mem_append_right _ (List.mem_of_getElem? (i := 412) (by decide +kernel))) (by decide +kernel)
theorem qw_414 : (Jvm.Cond.laysFinal "SkyStones" "SkyStones" "reader" "LSkyStones$Reader;" : Cond) ∈ wAll := wAll_of (List.mem_append_right _ (List.mem_of_getElem? (i := 414) (by decide +kernel))) (by decide +kernel)
theorem qw_416 : (Jvm.Cond.laysFinal "SkyStones" "SkyStones" "survey" "LSkyStones$Survey;" : Cond) ∈ wAll := wAll_of (List.mem_append_right _ (List.mem_of_getElem? (i := 416) (by decide +kernel))) (by decide +kernel)
theorem qw_418 : (Jvm.Cond.laysFinal "SkyStones" "SkyStones" "heldTold" "[LSkyStones$Told;" : Cond) ∈ wAll := wAll_of (List.mem_append_right _ (List.mem_of_getElem? (i := 418) (by decide +kernel))) (by decide +kernel)
theorem qw_420 : (Jvm.Cond.laysFinal "SkyStones" "SkyStones" "heldSurvey" "[LSkyStones$Survey;" : Cond) ∈ wAll := wAll_of (List.mem_append_right _ (List.mem_of_getElem? (i := 420) (by decide +kernel))) (by decide +kernel)
theorem qw_422 : (Jvm.Cond.laysFinal "SkyStones" "SkyStones" "ground" "LSkyStones$Ground;" : Cond) ∈ wAll := wAll_of (List.mem_append_right _ (List.mem_of_getElem? (i := 422) (by decide +kernel))) (by decide +kernel)
theorem qw_424 : (Jvm.Cond.laysFinal "SkyStones" "SkyStones" "sky" "LSkyStones$Sky;" : Cond) ∈ wAll := wAll_of (List.mem_append_right _ (List.mem_of_getElem? (i := 424) (by decide +kernel))) (by decide +kernel)
theorem qw_426 : (Jvm.Cond.laysFinal "SkyStones" "SkyStones" "turns" "LSkyStones$Turns;" : Cond) ∈ wAll := wAll_of (List.mem_append_right _ (List.mem_of_getElem? (i := 426) (by decide +kernel))) (by decide +kernel)
theorem qw_428 : (Jvm.Cond.laysFinal "SkyStones" "SkyStones" "pairing" "LSkyStones$Pairing;" : Cond) ∈ wAll := wAll_of (List.mem_append_right _ (List.mem_of_getElem? (i := 428) (by decide +kernel))) (by decide +kernel)
theorem qw_430 : (Jvm.Cond.laysFinal "SkyStones" "SkyStones" "maker" "LSkyStones$Maker;" : Cond) ∈ wAll := wAll_of (List.mem_append_right _ (List.mem_of_getElem? (i := 430) (by decide +kernel))) (by decide +kernel)
theorem qw_432 : (Jvm.Cond.lays "SkyStones" "SkyStones" "sites" "I" : Cond) ∈ wAll := wAll_of (List.mem_append_right _ (List.mem_of_getElem? (i := 432) (by decide +kernel))) (by decide +kernel)
theorem qw_434 : (Jvm.Cond.laysFinal "SkyStones" "SkyStones" "siteWay" "[I" : Cond) ∈ wAll := wAll_of (List.mem_append_right _ (List.mem_of_getElem? (i := 434) (by decide +kernel))) (by decide +kernel)
theorem qw_436 : (Jvm.Cond.laysFinal "SkyStones" "SkyStones" "siteLand" "[I" : Cond) ∈ wAll := wAll_of (List.mem_append_right _ (List.mem_of_getElem? (i := 436) (by decide +kernel))) (by decide +kernel)
theorem qw_438 : (Jvm.Cond.laysFinal "SkyStones" "SkyStones" "marked" "[Z" : Cond) ∈ wAll := wAll_of (List.mem_append_right _ (List.mem_of_getElem? (i := 438) (by decide +kernel))) (by decide +kernel)
theorem qi_11 : ∀ w ∈ u_ws RX11 TX11 16, w ∈ wAll := by
  intro w hw
  obtain ⟨k, hk, rfl⟩ := List.mem_map.mp hw
  have hk := List.mem_range.mp hk
  match k, hk with
  | 0, _ => exact qw_408
  | 1, _ => exact qw_410
  | 2, _ => exact qw_412
  | 3, _ => exact qw_414
  | 4, _ => exact qw_416
  | 5, _ => exact qw_418
  | 6, _ => exact qw_420
  | 7, _ => exact qw_422
  | 8, _ => exact qw_424
  | 9, _ => exact qw_426
  | 10, _ => exact qw_428
  | 11, _ => exact qw_430
  | 12, _ => exact qw_432
  | 13, _ => exact qw_434
  | 14, _ => exact qw_436
  | 15, _ => exact qw_438
  | k + 16, hk => exact absurd hk (by omega)
theorem qw_1215 : (Jvm.Cond.lays "SkyStonesModel" "SkyStonesModel" "taped" "I" : Cond) ∈ wAll := wAll_of (List.mem_append_right _ (List.mem_of_getElem? (i := 1215) (by decide +kernel))) (by decide +kernel)
theorem qw_1217 : (Jvm.Cond.laysFinal "SkyStonesModel" "SkyStonesModel" "tape" "[I" : Cond) ∈ wAll := wAll_of (List.mem_append_right _ (List.mem_of_getElem? (i := 1217) (by decide +kernel))) (by decide +kernel)
theorem qw_1219 : (Jvm.Cond.lays "SkyStonesModel" "SkyStonesModel" "tokens" "I" : Cond) ∈ wAll := wAll_of (List.mem_append_right _ (List.mem_of_getElem? (i := 1219) (by decide +kernel))) (by decide +kernel)
theorem qw_1221 : (Jvm.Cond.laysFinal "SkyStonesModel" "SkyStonesModel" "tokenSort" "[I" : Cond) ∈ wAll := wAll_of (List.mem_append_right _ (List.mem_of_getElem? (i := 1221) (by decide +kernel))) (by decide +kernel)
theorem qw_1223 : (Jvm.Cond.laysFinal "SkyStonesModel" "SkyStonesModel" "tokenFrom" "[I" : Cond) ∈ wAll := wAll_of (List.mem_append_right _ (List.mem_of_getElem? (i := 1223) (by decide +kernel))) (by decide +kernel)
theorem qw_1225 : (Jvm.Cond.laysFinal "SkyStonesModel" "SkyStonesModel" "tokenWhat" "[I" : Cond) ∈ wAll := wAll_of (List.mem_append_right _ (List.mem_of_getElem? (i := 1225) (by decide +kernel))) (by decide +kernel)
theorem qw_1227 : (Jvm.Cond.laysFinal "SkyStonesModel" "SkyStonesModel" "tokenName" "[J" : Cond) ∈ wAll := wAll_of (List.mem_append_right _ (List.mem_of_getElem? (i := 1227) (by decide +kernel))) (by decide +kernel)
theorem qw_1229 : (Jvm.Cond.lays "SkyStonesModel" "SkyStonesModel" "head" "I" : Cond) ∈ wAll := wAll_of (List.mem_append_right _ (List.mem_of_getElem? (i := 1229) (by decide +kernel))) (by decide +kernel)
theorem qw_1231 : (Jvm.Cond.lays "SkyStonesModel" "SkyStonesModel" "fault" "I" : Cond) ∈ wAll := wAll_of (List.mem_append_right _ (List.mem_of_getElem? (i := 1231) (by decide +kernel))) (by decide +kernel)
theorem qw_1233 : (Jvm.Cond.lays "SkyStonesModel" "SkyStonesModel" "faultPlace" "I" : Cond) ∈ wAll := wAll_of (List.mem_append_right _ (List.mem_of_getElem? (i := 1233) (by decide +kernel))) (by decide +kernel)
theorem qw_1235 : (Jvm.Cond.lays "SkyStonesModel" "SkyStonesModel" "worst" "I" : Cond) ∈ wAll := wAll_of (List.mem_append_right _ (List.mem_of_getElem? (i := 1235) (by decide +kernel))) (by decide +kernel)
theorem qw_1237 : (Jvm.Cond.lays "SkyStonesModel" "SkyStonesModel" "worstPlace" "I" : Cond) ∈ wAll := wAll_of (List.mem_append_right _ (List.mem_of_getElem? (i := 1237) (by decide +kernel))) (by decide +kernel)
theorem qw_1239 : (Jvm.Cond.laysFinal "SkyStonesModel" "SkyStonesModel" "held" "[Z" : Cond) ∈ wAll := wAll_of (List.mem_append_right _ (List.mem_of_getElem? (i := 1239) (by decide +kernel))) (by decide +kernel)
theorem qw_1241 : (Jvm.Cond.laysFinal "SkyStonesModel" "SkyStonesModel" "near" "[I" : Cond) ∈ wAll := wAll_of (List.mem_append_right _ (List.mem_of_getElem? (i := 1241) (by decide +kernel))) (by decide +kernel)
theorem qw_1243 : (Jvm.Cond.laysFinal "SkyStonesModel" "SkyStonesModel" "things" "[I" : Cond) ∈ wAll := wAll_of (List.mem_append_right _ (List.mem_of_getElem? (i := 1243) (by decide +kernel))) (by decide +kernel)
theorem qw_1245 : (Jvm.Cond.laysFinal "SkyStonesModel" "SkyStonesModel" "isStone" "[Z" : Cond) ∈ wAll := wAll_of (List.mem_append_right _ (List.mem_of_getElem? (i := 1245) (by decide +kernel))) (by decide +kernel)
theorem qw_1247 : (Jvm.Cond.laysFinal "SkyStonesModel" "SkyStonesModel" "east" "[I" : Cond) ∈ wAll := wAll_of (List.mem_append_right _ (List.mem_of_getElem? (i := 1247) (by decide +kernel))) (by decide +kernel)
theorem qw_1249 : (Jvm.Cond.laysFinal "SkyStonesModel" "SkyStonesModel" "north" "[I" : Cond) ∈ wAll := wAll_of (List.mem_append_right _ (List.mem_of_getElem? (i := 1249) (by decide +kernel))) (by decide +kernel)
theorem qw_1251 : (Jvm.Cond.laysFinal "SkyStonesModel" "SkyStonesModel" "age" "[I" : Cond) ∈ wAll := wAll_of (List.mem_append_right _ (List.mem_of_getElem? (i := 1251) (by decide +kernel))) (by decide +kernel)
theorem qw_1253 : (Jvm.Cond.laysFinal "SkyStonesModel" "SkyStonesModel" "foundBy" "[I" : Cond) ∈ wAll := wAll_of (List.mem_append_right _ (List.mem_of_getElem? (i := 1253) (by decide +kernel))) (by decide +kernel)
theorem qw_1255 : (Jvm.Cond.laysFinal "SkyStonesModel" "SkyStonesModel" "doors" "[I" : Cond) ∈ wAll := wAll_of (List.mem_append_right _ (List.mem_of_getElem? (i := 1255) (by decide +kernel))) (by decide +kernel)
theorem qw_1257 : (Jvm.Cond.laysFinal "SkyStonesModel" "SkyStonesModel" "doorA" "[I" : Cond) ∈ wAll := wAll_of (List.mem_append_right _ (List.mem_of_getElem? (i := 1257) (by decide +kernel))) (by decide +kernel)
theorem qw_1259 : (Jvm.Cond.laysFinal "SkyStonesModel" "SkyStonesModel" "doorB" "[I" : Cond) ∈ wAll := wAll_of (List.mem_append_right _ (List.mem_of_getElem? (i := 1259) (by decide +kernel))) (by decide +kernel)
theorem qw_1261 : (Jvm.Cond.laysFinal "SkyStonesModel" "SkyStonesModel" "hills" "[I" : Cond) ∈ wAll := wAll_of (List.mem_append_right _ (List.mem_of_getElem? (i := 1261) (by decide +kernel))) (by decide +kernel)
theorem qw_1263 : (Jvm.Cond.laysFinal "SkyStonesModel" "SkyStonesModel" "hillA" "[I" : Cond) ∈ wAll := wAll_of (List.mem_append_right _ (List.mem_of_getElem? (i := 1263) (by decide +kernel))) (by decide +kernel)
theorem qw_1265 : (Jvm.Cond.laysFinal "SkyStonesModel" "SkyStonesModel" "hillB" "[I" : Cond) ∈ wAll := wAll_of (List.mem_append_right _ (List.mem_of_getElem? (i := 1265) (by decide +kernel))) (by decide +kernel)
theorem qw_1267 : (Jvm.Cond.laysFinal "SkyStonesModel" "SkyStonesModel" "hillHeight" "[I" : Cond) ∈ wAll := wAll_of (List.mem_append_right _ (List.mem_of_getElem? (i := 1267) (by decide +kernel))) (by decide +kernel)
theorem qw_1269 : (Jvm.Cond.laysFinal "SkyStonesModel" "SkyStonesModel" "skies" "[I" : Cond) ∈ wAll := wAll_of (List.mem_append_right _ (List.mem_of_getElem? (i := 1269) (by decide +kernel))) (by decide +kernel)
theorem qw_1271 : (Jvm.Cond.laysFinal "SkyStonesModel" "SkyStonesModel" "span" "[I" : Cond) ∈ wAll := wAll_of (List.mem_append_right _ (List.mem_of_getElem? (i := 1271) (by decide +kernel))) (by decide +kernel)
theorem qw_1273 : (Jvm.Cond.laysFinal "SkyStonesModel" "SkyStonesModel" "skyFrom" "[I" : Cond) ∈ wAll := wAll_of (List.mem_append_right _ (List.mem_of_getElem? (i := 1273) (by decide +kernel))) (by decide +kernel)
theorem qw_1275 : (Jvm.Cond.laysFinal "SkyStonesModel" "SkyStonesModel" "skyTo" "[I" : Cond) ∈ wAll := wAll_of (List.mem_append_right _ (List.mem_of_getElem? (i := 1275) (by decide +kernel))) (by decide +kernel)
theorem qw_1277 : (Jvm.Cond.laysFinal "SkyStonesModel" "SkyStonesModel" "rules" "[I" : Cond) ∈ wAll := wAll_of (List.mem_append_right _ (List.mem_of_getElem? (i := 1277) (by decide +kernel))) (by decide +kernel)
theorem qw_1279 : (Jvm.Cond.laysFinal "SkyStonesModel" "SkyStonesModel" "ruleFrom" "[I" : Cond) ∈ wAll := wAll_of (List.mem_append_right _ (List.mem_of_getElem? (i := 1279) (by decide +kernel))) (by decide +kernel)
theorem qw_1281 : (Jvm.Cond.laysFinal "SkyStonesModel" "SkyStonesModel" "ruleTo" "[I" : Cond) ∈ wAll := wAll_of (List.mem_append_right _ (List.mem_of_getElem? (i := 1281) (by decide +kernel))) (by decide +kernel)
theorem qw_1283 : (Jvm.Cond.laysFinal "SkyStonesModel" "SkyStonesModel" "codes" "[I" : Cond) ∈ wAll := wAll_of (List.mem_append_right _ (List.mem_of_getElem? (i := 1283) (by decide +kernel))) (by decide +kernel)
theorem qw_1285 : (Jvm.Cond.laysFinal "SkyStonesModel" "SkyStonesModel" "codeOp" "[I" : Cond) ∈ wAll := wAll_of (List.mem_append_right _ (List.mem_of_getElem? (i := 1285) (by decide +kernel))) (by decide +kernel)
theorem qw_1287 : (Jvm.Cond.laysFinal "SkyStonesModel" "SkyStonesModel" "codeValue" "[I" : Cond) ∈ wAll := wAll_of (List.mem_append_right _ (List.mem_of_getElem? (i := 1287) (by decide +kernel))) (by decide +kernel)
theorem qw_1289 : (Jvm.Cond.laysFinal "SkyStonesModel" "SkyStonesModel" "lits" "[I" : Cond) ∈ wAll := wAll_of (List.mem_append_right _ (List.mem_of_getElem? (i := 1289) (by decide +kernel))) (by decide +kernel)
theorem qw_1291 : (Jvm.Cond.laysFinal "SkyStonesModel" "SkyStonesModel" "litNot" "[Z" : Cond) ∈ wAll := wAll_of (List.mem_append_right _ (List.mem_of_getElem? (i := 1291) (by decide +kernel))) (by decide +kernel)
theorem qw_1293 : (Jvm.Cond.laysFinal "SkyStonesModel" "SkyStonesModel" "litOp" "[I" : Cond) ∈ wAll := wAll_of (List.mem_append_right _ (List.mem_of_getElem? (i := 1293) (by decide +kernel))) (by decide +kernel)
theorem qw_1295 : (Jvm.Cond.laysFinal "SkyStonesModel" "SkyStonesModel" "litA" "[I" : Cond) ∈ wAll := wAll_of (List.mem_append_right _ (List.mem_of_getElem? (i := 1295) (by decide +kernel))) (by decide +kernel)
theorem qw_1297 : (Jvm.Cond.laysFinal "SkyStonesModel" "SkyStonesModel" "litB" "[I" : Cond) ∈ wAll := wAll_of (List.mem_append_right _ (List.mem_of_getElem? (i := 1297) (by decide +kernel))) (by decide +kernel)
theorem qw_1299 : (Jvm.Cond.laysFinal "SkyStonesModel" "SkyStonesModel" "litC" "[I" : Cond) ∈ wAll := wAll_of (List.mem_append_right _ (List.mem_of_getElem? (i := 1299) (by decide +kernel))) (by decide +kernel)
theorem qw_1301 : (Jvm.Cond.laysFinal "SkyStonesModel" "SkyStonesModel" "litRow" "[I" : Cond) ∈ wAll := wAll_of (List.mem_append_right _ (List.mem_of_getElem? (i := 1301) (by decide +kernel))) (by decide +kernel)
theorem qw_1303 : (Jvm.Cond.laysFinal "SkyStonesModel" "SkyStonesModel" "facts" "[I" : Cond) ∈ wAll := wAll_of (List.mem_append_right _ (List.mem_of_getElem? (i := 1303) (by decide +kernel))) (by decide +kernel)
theorem qw_1305 : (Jvm.Cond.laysFinal "SkyStonesModel" "SkyStonesModel" "factKind" "[I" : Cond) ∈ wAll := wAll_of (List.mem_append_right _ (List.mem_of_getElem? (i := 1305) (by decide +kernel))) (by decide +kernel)
theorem qw_1307 : (Jvm.Cond.laysFinal "SkyStonesModel" "SkyStonesModel" "factThing" "[I" : Cond) ∈ wAll := wAll_of (List.mem_append_right _ (List.mem_of_getElem? (i := 1307) (by decide +kernel))) (by decide +kernel)
theorem qw_1309 : (Jvm.Cond.laysFinal "SkyStonesModel" "SkyStonesModel" "factA" "[I" : Cond) ∈ wAll := wAll_of (List.mem_append_right _ (List.mem_of_getElem? (i := 1309) (by decide +kernel))) (by decide +kernel)
theorem qw_1311 : (Jvm.Cond.laysFinal "SkyStonesModel" "SkyStonesModel" "factB" "[I" : Cond) ∈ wAll := wAll_of (List.mem_append_right _ (List.mem_of_getElem? (i := 1311) (by decide +kernel))) (by decide +kernel)
theorem qw_1313 : (Jvm.Cond.lays "SkyStonesModel" "SkyStonesModel" "names" "I" : Cond) ∈ wAll := wAll_of (List.mem_append_right _ (List.mem_of_getElem? (i := 1313) (by decide +kernel))) (by decide +kernel)
theorem qw_1315 : (Jvm.Cond.laysFinal "SkyStonesModel" "SkyStonesModel" "named" "[J" : Cond) ∈ wAll := wAll_of (List.mem_append_right _ (List.mem_of_getElem? (i := 1315) (by decide +kernel))) (by decide +kernel)
theorem qw_1317 : (Jvm.Cond.laysFinal "SkyStonesModel" "SkyStonesModel" "namedThing" "[I" : Cond) ∈ wAll := wAll_of (List.mem_append_right _ (List.mem_of_getElem? (i := 1317) (by decide +kernel))) (by decide +kernel)
theorem qw_1319 : (Jvm.Cond.lays "SkyStonesModel" "SkyStonesModel" "sites" "I" : Cond) ∈ wAll := wAll_of (List.mem_append_right _ (List.mem_of_getElem? (i := 1319) (by decide +kernel))) (by decide +kernel)
theorem qw_1321 : (Jvm.Cond.laysFinal "SkyStonesModel" "SkyStonesModel" "siteDegree" "[I" : Cond) ∈ wAll := wAll_of (List.mem_append_right _ (List.mem_of_getElem? (i := 1321) (by decide +kernel))) (by decide +kernel)
theorem qw_1323 : (Jvm.Cond.laysFinal "SkyStonesModel" "SkyStonesModel" "siteWay" "[I" : Cond) ∈ wAll := wAll_of (List.mem_append_right _ (List.mem_of_getElem? (i := 1323) (by decide +kernel))) (by decide +kernel)
theorem qw_1325 : (Jvm.Cond.lays "SkyStonesModel" "SkyStonesModel" "valued" "I" : Cond) ∈ wAll := wAll_of (List.mem_append_right _ (List.mem_of_getElem? (i := 1325) (by decide +kernel))) (by decide +kernel)
theorem qw_1327 : (Jvm.Cond.lays "SkyStonesModel" "SkyStonesModel" "waiting" "I" : Cond) ∈ wAll := wAll_of (List.mem_append_right _ (List.mem_of_getElem? (i := 1327) (by decide +kernel))) (by decide +kernel)
theorem qw_1329 : (Jvm.Cond.laysFinal "SkyStonesModel" "SkyStonesModel" "waits" "[I" : Cond) ∈ wAll := wAll_of (List.mem_append_right _ (List.mem_of_getElem? (i := 1329) (by decide +kernel))) (by decide +kernel)
theorem qw_1331 : (Jvm.Cond.lays "SkyStonesModel" "SkyStonesModel" "exprFrom" "I" : Cond) ∈ wAll := wAll_of (List.mem_append_right _ (List.mem_of_getElem? (i := 1331) (by decide +kernel))) (by decide +kernel)
theorem qw_1333 : (Jvm.Cond.lays "SkyStonesModel" "SkyStonesModel" "condFrom" "I" : Cond) ∈ wAll := wAll_of (List.mem_append_right _ (List.mem_of_getElem? (i := 1333) (by decide +kernel))) (by decide +kernel)
theorem qw_1335 : (Jvm.Cond.laysFinal "SkyStonesModel" "SkyStonesModel" "atEast" "[I" : Cond) ∈ wAll := wAll_of (List.mem_append_right _ (List.mem_of_getElem? (i := 1335) (by decide +kernel))) (by decide +kernel)
theorem qw_1337 : (Jvm.Cond.laysFinal "SkyStonesModel" "SkyStonesModel" "atNorth" "[I" : Cond) ∈ wAll := wAll_of (List.mem_append_right _ (List.mem_of_getElem? (i := 1337) (by decide +kernel))) (by decide +kernel)
theorem qw_1339 : (Jvm.Cond.laysFinal "SkyStonesModel" "SkyStonesModel" "years" "[I" : Cond) ∈ wAll := wAll_of (List.mem_append_right _ (List.mem_of_getElem? (i := 1339) (by decide +kernel))) (by decide +kernel)
theorem qw_1341 : (Jvm.Cond.laysFinal "SkyStonesModel" "SkyStonesModel" "isGone" "[Z" : Cond) ∈ wAll := wAll_of (List.mem_append_right _ (List.mem_of_getElem? (i := 1341) (by decide +kernel))) (by decide +kernel)
theorem qw_1343 : (Jvm.Cond.laysFinal "SkyStonesModel" "SkyStonesModel" "isLine" "[Z" : Cond) ∈ wAll := wAll_of (List.mem_append_right _ (List.mem_of_getElem? (i := 1343) (by decide +kernel))) (by decide +kernel)
theorem qw_1345 : (Jvm.Cond.laysFinal "SkyStonesModel" "SkyStonesModel" "lineDegree" "[I" : Cond) ∈ wAll := wAll_of (List.mem_append_right _ (List.mem_of_getElem? (i := 1345) (by decide +kernel))) (by decide +kernel)
theorem qw_1347 : (Jvm.Cond.laysFinal "SkyStonesModel" "SkyStonesModel" "lineFar" "[I" : Cond) ∈ wAll := wAll_of (List.mem_append_right _ (List.mem_of_getElem? (i := 1347) (by decide +kernel))) (by decide +kernel)
theorem qw_1349 : (Jvm.Cond.laysFinal "SkyStonesModel" "SkyStonesModel" "isCounted" "[Z" : Cond) ∈ wAll := wAll_of (List.mem_append_right _ (List.mem_of_getElem? (i := 1349) (by decide +kernel))) (by decide +kernel)
theorem qw_1351 : (Jvm.Cond.laysFinal "SkyStonesModel" "SkyStonesModel" "asked" "[I" : Cond) ∈ wAll := wAll_of (List.mem_append_right _ (List.mem_of_getElem? (i := 1351) (by decide +kernel))) (by decide +kernel)
theorem qw_1353 : (Jvm.Cond.lays "SkyStonesModel" "SkyStonesModel" "broken" "Z" : Cond) ∈ wAll := wAll_of (List.mem_append_right _ (List.mem_of_getElem? (i := 1353) (by decide +kernel))) (by decide +kernel)
theorem qw_1355 : (Jvm.Cond.laysFinal "SkyStonesModel" "SkyStonesModel" "stack" "[I" : Cond) ∈ wAll := wAll_of (List.mem_append_right _ (List.mem_of_getElem? (i := 1355) (by decide +kernel))) (by decide +kernel)
theorem qw_1357 : (Jvm.Cond.laysFinal "SkyStonesModel" "SkyStonesModel" "rises" "[I" : Cond) ∈ wAll := wAll_of (List.mem_append_right _ (List.mem_of_getElem? (i := 1357) (by decide +kernel))) (by decide +kernel)
theorem qw_1359 : (Jvm.Cond.laysFinal "SkyStonesModel" "SkyStonesModel" "most" "[I" : Cond) ∈ wAll := wAll_of (List.mem_append_right _ (List.mem_of_getElem? (i := 1359) (by decide +kernel))) (by decide +kernel)
theorem qw_1361 : (Jvm.Cond.laysFinal "SkyStonesModel" "SkyStonesModel" "joined" "[I" : Cond) ∈ wAll := wAll_of (List.mem_append_right _ (List.mem_of_getElem? (i := 1361) (by decide +kernel))) (by decide +kernel)
theorem qw_1363 : (Jvm.Cond.laysFinal "SkyStonesModel" "SkyStonesModel" "strikes" "[I" : Cond) ∈ wAll := wAll_of (List.mem_append_right _ (List.mem_of_getElem? (i := 1363) (by decide +kernel))) (by decide +kernel)
theorem qw_1365 : (Jvm.Cond.laysFinal "SkyStonesModel" "SkyStonesModel" "turnHits" "[I" : Cond) ∈ wAll := wAll_of (List.mem_append_right _ (List.mem_of_getElem? (i := 1365) (by decide +kernel))) (by decide +kernel)
theorem qw_1367 : (Jvm.Cond.laysFinal "SkyStonesModel" "SkyStonesModel" "atLeast" "[I" : Cond) ∈ wAll := wAll_of (List.mem_append_right _ (List.mem_of_getElem? (i := 1367) (by decide +kernel))) (by decide +kernel)
theorem qw_1369 : (Jvm.Cond.laysFinal "SkyStonesModel" "SkyStonesModel" "lineHits" "[I" : Cond) ∈ wAll := wAll_of (List.mem_append_right _ (List.mem_of_getElem? (i := 1369) (by decide +kernel))) (by decide +kernel)
theorem qw_1371 : (Jvm.Cond.laysFinal "SkyStonesModel" "SkyStonesModel" "hadHit" "[Z" : Cond) ∈ wAll := wAll_of (List.mem_append_right _ (List.mem_of_getElem? (i := 1371) (by decide +kernel))) (by decide +kernel)
theorem qw_1373 : (Jvm.Cond.laysFinal "SkyStonesModel" "SkyStonesModel" "madeEast" "[I" : Cond) ∈ wAll := wAll_of (List.mem_append_right _ (List.mem_of_getElem? (i := 1373) (by decide +kernel))) (by decide +kernel)
theorem qw_1375 : (Jvm.Cond.laysFinal "SkyStonesModel" "SkyStonesModel" "madeNorth" "[I" : Cond) ∈ wAll := wAll_of (List.mem_append_right _ (List.mem_of_getElem? (i := 1375) (by decide +kernel))) (by decide +kernel)
theorem qi_12 : ∀ w ∈ u_ws RX12 TX12 81, w ∈ wAll := by
  intro w hw
  obtain ⟨k, hk, rfl⟩ := List.mem_map.mp hw
  have hk := List.mem_range.mp hk
  match k, hk with
  | 0, _ => exact qw_1215
  | 1, _ => exact qw_1217
  | 2, _ => exact qw_1219
  | 3, _ => exact qw_1221
  | 4, _ => exact qw_1223
  | 5, _ => exact qw_1225
  | 6, _ => exact qw_1227
  | 7, _ => exact qw_1229
  | 8, _ => exact qw_1231
  | 9, _ => exact qw_1233
  | 10, _ => exact qw_1235
  | 11, _ => exact qw_1237
  | 12, _ => exact qw_1239
  | 13, _ => exact qw_1241
  | 14, _ => exact qw_1243
  | 15, _ => exact qw_1245
  | 16, _ => exact qw_1247
  | 17, _ => exact qw_1249
  | 18, _ => exact qw_1251
  | 19, _ => exact qw_1253
  | 20, _ => exact qw_1255
  | 21, _ => exact qw_1257
  | 22, _ => exact qw_1259
  | 23, _ => exact qw_1261
  | 24, _ => exact qw_1263
  | 25, _ => exact qw_1265
  | 26, _ => exact qw_1267
  | 27, _ => exact qw_1269
  | 28, _ => exact qw_1271
  | 29, _ => exact qw_1273
  | 30, _ => exact qw_1275
  | 31, _ => exact qw_1277
  | 32, _ => exact qw_1279
  | 33, _ => exact qw_1281
  | 34, _ => exact qw_1283
  | 35, _ => exact qw_1285
  | 36, _ => exact qw_1287
  | 37, _ => exact qw_1289
  | 38, _ => exact qw_1291
  | 39, _ => exact qw_1293
  | 40, _ => exact qw_1295
  | 41, _ => exact qw_1297
  | 42, _ => exact qw_1299
  | 43, _ => exact qw_1301
  | 44, _ => exact qw_1303
  | 45, _ => exact qw_1305
  | 46, _ => exact qw_1307
  | 47, _ => exact qw_1309
  | 48, _ => exact qw_1311
  | 49, _ => exact qw_1313
  | 50, _ => exact qw_1315
  | 51, _ => exact qw_1317
  | 52, _ => exact qw_1319
  | 53, _ => exact qw_1321
  | 54, _ => exact qw_1323
  | 55, _ => exact qw_1325
  | 56, _ => exact qw_1327
  | 57, _ => exact qw_1329
  | 58, _ => exact qw_1331
  | 59, _ => exact qw_1333
  | 60, _ => exact qw_1335
  | 61, _ => exact qw_1337
  | 62, _ => exact qw_1339
  | 63, _ => exact qw_1341
  | 64, _ => exact qw_1343
  | 65, _ => exact qw_1345
  | 66, _ => exact qw_1347
  | 67, _ => exact qw_1349
  | 68, _ => exact qw_1351
  | 69, _ => exact qw_1353
  | 70, _ => exact qw_1355
  | 71, _ => exact qw_1357
  | 72, _ => exact qw_1359
  | 73, _ => exact qw_1361
  | 74, _ => exact qw_1363
  | 75, _ => exact qw_1365
  | 76, _ => exact qw_1367
  | 77, _ => exact qw_1369
  | 78, _ => exact qw_1371
  | 79, _ => exact qw_1373
  | 80, _ => exact qw_1375
  | k + 81, hk => exact absurd hk (by omega)
theorem qw_392 : (Jvm.Cond.fieldLink "SkyStones" (12 : Nat) "SkyStones" "tape" "LSkyStones$Tape;" : Cond) ∈ wAll := wAll_of (List.mem_append_right _ (List.mem_of_getElem? (i := 392) (by decide +kernel))) (by decide +kernel)
theorem qw_393 : (Jvm.Cond.fieldLink "SkyStones" (19 : Nat) "SkyStones" "told" "LSkyStones$Told;" : Cond) ∈ wAll := wAll_of (List.mem_append_right _ (List.mem_of_getElem? (i := 393) (by decide +kernel))) (by decide +kernel)
theorem qw_394 : (Jvm.Cond.fieldLink "SkyStones" (23 : Nat) "SkyStones" "spare" "LSkyStones$Told;" : Cond) ∈ wAll := wAll_of (List.mem_append_right _ (List.mem_of_getElem? (i := 394) (by decide +kernel))) (by decide +kernel)
theorem qw_395 : (Jvm.Cond.fieldLink "SkyStones" (31 : Nat) "SkyStones" "reader" "LSkyStones$Reader;" : Cond) ∈ wAll := wAll_of (List.mem_append_right _ (List.mem_of_getElem? (i := 395) (by decide +kernel))) (by decide +kernel)
theorem qw_396 : (Jvm.Cond.fieldLink "SkyStones" (38 : Nat) "SkyStones" "survey" "LSkyStones$Survey;" : Cond) ∈ wAll := wAll_of (List.mem_append_right _ (List.mem_of_getElem? (i := 396) (by decide +kernel))) (by decide +kernel)
theorem qw_397 : (Jvm.Cond.fieldLink "SkyStones" (42 : Nat) "SkyStones" "heldTold" "[LSkyStones$Told;" : Cond) ∈ wAll := wAll_of (List.mem_append_right _ (List.mem_of_getElem? (i := 397) (by decide +kernel))) (by decide +kernel)
theorem qw_398 : (Jvm.Cond.fieldLink "SkyStones" (46 : Nat) "SkyStones" "heldSurvey" "[LSkyStones$Survey;" : Cond) ∈ wAll := wAll_of (List.mem_append_right _ (List.mem_of_getElem? (i := 398) (by decide +kernel))) (by decide +kernel)
theorem qw_399 : (Jvm.Cond.fieldLink "SkyStones" (53 : Nat) "SkyStones" "ground" "LSkyStones$Ground;" : Cond) ∈ wAll := wAll_of (List.mem_append_right _ (List.mem_of_getElem? (i := 399) (by decide +kernel))) (by decide +kernel)
theorem qw_400 : (Jvm.Cond.fieldLink "SkyStones" (60 : Nat) "SkyStones" "sky" "LSkyStones$Sky;" : Cond) ∈ wAll := wAll_of (List.mem_append_right _ (List.mem_of_getElem? (i := 400) (by decide +kernel))) (by decide +kernel)
theorem qw_401 : (Jvm.Cond.fieldLink "SkyStones" (67 : Nat) "SkyStones" "turns" "LSkyStones$Turns;" : Cond) ∈ wAll := wAll_of (List.mem_append_right _ (List.mem_of_getElem? (i := 401) (by decide +kernel))) (by decide +kernel)
theorem qw_402 : (Jvm.Cond.fieldLink "SkyStones" (74 : Nat) "SkyStones" "pairing" "LSkyStones$Pairing;" : Cond) ∈ wAll := wAll_of (List.mem_append_right _ (List.mem_of_getElem? (i := 402) (by decide +kernel))) (by decide +kernel)
theorem qw_403 : (Jvm.Cond.fieldLink "SkyStones" (81 : Nat) "SkyStones" "maker" "LSkyStones$Maker;" : Cond) ∈ wAll := wAll_of (List.mem_append_right _ (List.mem_of_getElem? (i := 403) (by decide +kernel))) (by decide +kernel)
theorem qw_404 : (Jvm.Cond.fieldLink "SkyStones" (85 : Nat) "SkyStones" "sites" "I" : Cond) ∈ wAll := wAll_of (List.mem_append_right _ (List.mem_of_getElem? (i := 404) (by decide +kernel))) (by decide +kernel)
theorem qw_405 : (Jvm.Cond.fieldLink "SkyStones" (89 : Nat) "SkyStones" "siteWay" "[I" : Cond) ∈ wAll := wAll_of (List.mem_append_right _ (List.mem_of_getElem? (i := 405) (by decide +kernel))) (by decide +kernel)
theorem qw_406 : (Jvm.Cond.fieldLink "SkyStones" (93 : Nat) "SkyStones" "siteLand" "[I" : Cond) ∈ wAll := wAll_of (List.mem_append_right _ (List.mem_of_getElem? (i := 406) (by decide +kernel))) (by decide +kernel)
theorem qw_407 : (Jvm.Cond.fieldLink "SkyStones" (96 : Nat) "SkyStones" "marked" "[Z" : Cond) ∈ wAll := wAll_of (List.mem_append_right _ (List.mem_of_getElem? (i := 407) (by decide +kernel))) (by decide +kernel)
theorem qw_36 : (Jvm.Cond.fieldLink "SkyStones" (100 : Nat) "SkyStones$Tape" "bytes" "I" : Cond) ∈ wAll := wAll_of (List.mem_append_right _ (List.mem_of_getElem? (i := 36) (by decide +kernel))) (by decide +kernel)
theorem qw_188 : (Jvm.Cond.fieldLink "SkyStones" (117 : Nat) "SkyStones$Reader" "fault" "I" : Cond) ∈ wAll := wAll_of (List.mem_append_right _ (List.mem_of_getElem? (i := 188) (by decide +kernel))) (by decide +kernel)
theorem qw_190 : (Jvm.Cond.fieldLink "SkyStones" (121 : Nat) "SkyStones$Reader" "where" "I" : Cond) ∈ wAll := wAll_of (List.mem_append_right _ (List.mem_of_getElem? (i := 190) (by decide +kernel))) (by decide +kernel)
theorem qw_225 : (Jvm.Cond.fieldLink "SkyStones" (128 : Nat) "SkyStones$Survey" "facts" "I" : Cond) ∈ wAll := wAll_of (List.mem_append_right _ (List.mem_of_getElem? (i := 225) (by decide +kernel))) (by decide +kernel)
theorem qw_227 : (Jvm.Cond.fieldLink "SkyStones" (143 : Nat) "SkyStones$Survey" "finds" "I" : Cond) ∈ wAll := wAll_of (List.mem_append_right _ (List.mem_of_getElem? (i := 227) (by decide +kernel))) (by decide +kernel)
theorem qw_230 : (Jvm.Cond.fieldLink "SkyStones" (149 : Nat) "SkyStones$Survey" "kind" "[I" : Cond) ∈ wAll := wAll_of (List.mem_append_right _ (List.mem_of_getElem? (i := 230) (by decide +kernel))) (by decide +kernel)
theorem qw_265 : (Jvm.Cond.fieldLink "SkyStones" (159 : Nat) "SkyStones$Ground" "east" "[I" : Cond) ∈ wAll := wAll_of (List.mem_append_right _ (List.mem_of_getElem? (i := 265) (by decide +kernel))) (by decide +kernel)
theorem qw_267 : (Jvm.Cond.fieldLink "SkyStones" (162 : Nat) "SkyStones$Ground" "north" "[I" : Cond) ∈ wAll := wAll_of (List.mem_append_right _ (List.mem_of_getElem? (i := 267) (by decide +kernel))) (by decide +kernel)
theorem qw_269 : (Jvm.Cond.fieldLink "SkyStones" (165 : Nat) "SkyStones$Ground" "age" "[I" : Cond) ∈ wAll := wAll_of (List.mem_append_right _ (List.mem_of_getElem? (i := 269) (by decide +kernel))) (by decide +kernel)
theorem qw_271 : (Jvm.Cond.fieldLink "SkyStones" (168 : Nat) "SkyStones$Ground" "stone" "[I" : Cond) ∈ wAll := wAll_of (List.mem_append_right _ (List.mem_of_getElem? (i := 271) (by decide +kernel))) (by decide +kernel)
theorem qw_273 : (Jvm.Cond.fieldLink "SkyStones" (171 : Nat) "SkyStones$Ground" "lost" "[Z" : Cond) ∈ wAll := wAll_of (List.mem_append_right _ (List.mem_of_getElem? (i := 273) (by decide +kernel))) (by decide +kernel)
theorem qw_276 : (Jvm.Cond.fieldLink "SkyStones" (201 : Nat) "SkyStones$Ground" "traits" "[I" : Cond) ∈ wAll := wAll_of (List.mem_append_right _ (List.mem_of_getElem? (i := 276) (by decide +kernel))) (by decide +kernel)
theorem qw_279 : (Jvm.Cond.fieldLink "SkyStones" (210 : Nat) "SkyStones$Ground" "chosen" "I" : Cond) ∈ wAll := wAll_of (List.mem_append_right _ (List.mem_of_getElem? (i := 279) (by decide +kernel))) (by decide +kernel)
theorem qw_101 : (Jvm.Cond.fieldLink "SkyStones" (232 : Nat) "SkyStones$Told" "near" "I" : Cond) ∈ wAll := wAll_of (List.mem_append_right _ (List.mem_of_getElem? (i := 101) (by decide +kernel))) (by decide +kernel)
theorem qw_284 : (Jvm.Cond.fieldLink "SkyStones" (250 : Nat) "SkyStones$Ground" "way" "[I" : Cond) ∈ wAll := wAll_of (List.mem_append_right _ (List.mem_of_getElem? (i := 284) (by decide +kernel))) (by decide +kernel)
theorem qw_281 : (Jvm.Cond.fieldLink "SkyStones" (257 : Nat) "SkyStones$Ground" "number" "[I" : Cond) ∈ wAll := wAll_of (List.mem_append_right _ (List.mem_of_getElem? (i := 281) (by decide +kernel))) (by decide +kernel)
theorem qw_342 : (Jvm.Cond.fieldLink "SkyStones" (282 : Nat) "SkyStones$Turns" "least" "[I" : Cond) ∈ wAll := wAll_of (List.mem_append_right _ (List.mem_of_getElem? (i := 342) (by decide +kernel))) (by decide +kernel)
theorem qw_143 : (Jvm.Cond.fieldLink "SkyStones" (285 : Nat) "SkyStones$Told" "rules" "I" : Cond) ∈ wAll := wAll_of (List.mem_append_right _ (List.mem_of_getElem? (i := 143) (by decide +kernel))) (by decide +kernel)
theorem qw_263 : (Jvm.Cond.fieldLink "SkyStones" (300 : Nat) "SkyStones$Ground" "things" "I" : Cond) ∈ wAll := wAll_of (List.mem_append_right _ (List.mem_of_getElem? (i := 263) (by decide +kernel))) (by decide +kernel)
theorem qw_339 : (Jvm.Cond.fieldLink "SkyStones" (326 : Nat) "SkyStones$Turns" "struck" "[I" : Cond) ∈ wAll := wAll_of (List.mem_append_right _ (List.mem_of_getElem? (i := 339) (by decide +kernel))) (by decide +kernel)
theorem qw_384 : (Jvm.Cond.fieldLink "SkyStones" (331 : Nat) "SkyStones$Maker" "east" "[I" : Cond) ∈ wAll := wAll_of (List.mem_append_right _ (List.mem_of_getElem? (i := 384) (by decide +kernel))) (by decide +kernel)
theorem qw_386 : (Jvm.Cond.fieldLink "SkyStones" (332 : Nat) "SkyStones$Maker" "north" "[I" : Cond) ∈ wAll := wAll_of (List.mem_append_right _ (List.mem_of_getElem? (i := 386) (by decide +kernel))) (by decide +kernel)
theorem qw_136 : (Jvm.Cond.fieldLink "SkyStones" (341 : Nat) "SkyStones$Told" "places" "I" : Cond) ∈ wAll := wAll_of (List.mem_append_right _ (List.mem_of_getElem? (i := 136) (by decide +kernel))) (by decide +kernel)
theorem qw_120 : (Jvm.Cond.fieldLink "SkyStones" (350 : Nat) "SkyStones$Told" "doors" "I" : Cond) ∈ wAll := wAll_of (List.mem_append_right _ (List.mem_of_getElem? (i := 120) (by decide +kernel))) (by decide +kernel)
theorem qw_126 : (Jvm.Cond.fieldLink "SkyStones" (353 : Nat) "SkyStones$Told" "hills" "I" : Cond) ∈ wAll := wAll_of (List.mem_append_right _ (List.mem_of_getElem? (i := 126) (by decide +kernel))) (by decide +kernel)
theorem qw_105 : (Jvm.Cond.fieldLink "SkyStones" (359 : Nat) "SkyStones$Told" "things" "I" : Cond) ∈ wAll := wAll_of (List.mem_append_right _ (List.mem_of_getElem? (i := 105) (by decide +kernel))) (by decide +kernel)
theorem qw_77 : (Jvm.Cond.fieldLink "SkyStones$Code" (9 : Nat) "SkyStones$Code" "used" "I" : Cond) ∈ wAll := wAll_of (List.mem_append_right _ (List.mem_of_getElem? (i := 77) (by decide +kernel))) (by decide +kernel)
theorem qw_78 : (Jvm.Cond.fieldLink "SkyStones$Code" (15 : Nat) "SkyStones$Code" "sign" "[I" : Cond) ∈ wAll := wAll_of (List.mem_append_right _ (List.mem_of_getElem? (i := 78) (by decide +kernel))) (by decide +kernel)
theorem qw_79 : (Jvm.Cond.fieldLink "SkyStones$Code" (19 : Nat) "SkyStones$Code" "number" "[I" : Cond) ∈ wAll := wAll_of (List.mem_append_right _ (List.mem_of_getElem? (i := 79) (by decide +kernel))) (by decide +kernel)
theorem qw_80 : (Jvm.Cond.fieldLink "SkyStones$Code" (22 : Nat) "SkyStones$Code" "from" "[I" : Cond) ∈ wAll := wAll_of (List.mem_append_right _ (List.mem_of_getElem? (i := 80) (by decide +kernel))) (by decide +kernel)
theorem qw_81 : (Jvm.Cond.fieldLink "SkyStones$Code" (25 : Nat) "SkyStones$Code" "to" "[I" : Cond) ∈ wAll := wAll_of (List.mem_append_right _ (List.mem_of_getElem? (i := 81) (by decide +kernel))) (by decide +kernel)
theorem qw_82 : (Jvm.Cond.fieldLink "SkyStones$Code" (28 : Nat) "SkyStones$Code" "stack" "[I" : Cond) ∈ wAll := wAll_of (List.mem_append_right _ (List.mem_of_getElem? (i := 82) (by decide +kernel))) (by decide +kernel)
theorem qw_83 : (Jvm.Cond.fieldLink "SkyStones$Code" (31 : Nat) "SkyStones$Code" "broken" "Z" : Cond) ∈ wAll := wAll_of (List.mem_append_right _ (List.mem_of_getElem? (i := 83) (by decide +kernel))) (by decide +kernel)
theorem qw_262 : (Jvm.Cond.fieldLink "SkyStones$Ground" (9 : Nat) "SkyStones$Ground" "things" "I" : Cond) ∈ wAll := wAll_of (List.mem_append_right _ (List.mem_of_getElem? (i := 262) (by decide +kernel))) (by decide +kernel)
theorem qw_264 : (Jvm.Cond.fieldLink "SkyStones$Ground" (15 : Nat) "SkyStones$Ground" "east" "[I" : Cond) ∈ wAll := wAll_of (List.mem_append_right _ (List.mem_of_getElem? (i := 264) (by decide +kernel))) (by decide +kernel)
theorem qw_266 : (Jvm.Cond.fieldLink "SkyStones$Ground" (19 : Nat) "SkyStones$Ground" "north" "[I" : Cond) ∈ wAll := wAll_of (List.mem_append_right _ (List.mem_of_getElem? (i := 266) (by decide +kernel))) (by decide +kernel)
theorem qw_268 : (Jvm.Cond.fieldLink "SkyStones$Ground" (22 : Nat) "SkyStones$Ground" "age" "[I" : Cond) ∈ wAll := wAll_of (List.mem_append_right _ (List.mem_of_getElem? (i := 268) (by decide +kernel))) (by decide +kernel)
theorem qw_270 : (Jvm.Cond.fieldLink "SkyStones$Ground" (25 : Nat) "SkyStones$Ground" "stone" "[I" : Cond) ∈ wAll := wAll_of (List.mem_append_right _ (List.mem_of_getElem? (i := 270) (by decide +kernel))) (by decide +kernel)
theorem qw_272 : (Jvm.Cond.fieldLink "SkyStones$Ground" (28 : Nat) "SkyStones$Ground" "lost" "[Z" : Cond) ∈ wAll := wAll_of (List.mem_append_right _ (List.mem_of_getElem? (i := 272) (by decide +kernel))) (by decide +kernel)
theorem qw_274 : (Jvm.Cond.fieldLink "SkyStones$Ground" (32 : Nat) "SkyStones$Ground" "isVoid" "[Z" : Cond) ∈ wAll := wAll_of (List.mem_append_right _ (List.mem_of_getElem? (i := 274) (by decide +kernel))) (by decide +kernel)
theorem qw_275 : (Jvm.Cond.fieldLink "SkyStones$Ground" (35 : Nat) "SkyStones$Ground" "traits" "[I" : Cond) ∈ wAll := wAll_of (List.mem_append_right _ (List.mem_of_getElem? (i := 275) (by decide +kernel))) (by decide +kernel)
theorem qw_277 : (Jvm.Cond.fieldLink "SkyStones$Ground" (38 : Nat) "SkyStones$Ground" "chosen" "I" : Cond) ∈ wAll := wAll_of (List.mem_append_right _ (List.mem_of_getElem? (i := 277) (by decide +kernel))) (by decide +kernel)
theorem qw_280 : (Jvm.Cond.fieldLink "SkyStones$Ground" (41 : Nat) "SkyStones$Ground" "number" "[I" : Cond) ∈ wAll := wAll_of (List.mem_append_right _ (List.mem_of_getElem? (i := 280) (by decide +kernel))) (by decide +kernel)
theorem qw_282 : (Jvm.Cond.fieldLink "SkyStones$Ground" (44 : Nat) "SkyStones$Ground" "way" "[I" : Cond) ∈ wAll := wAll_of (List.mem_append_right _ (List.mem_of_getElem? (i := 282) (by decide +kernel))) (by decide +kernel)
theorem qw_103 : (Jvm.Cond.fieldLink "SkyStones$Ground" (47 : Nat) "SkyStones$Told" "things" "I" : Cond) ∈ wAll := wAll_of (List.mem_append_right _ (List.mem_of_getElem? (i := 103) (by decide +kernel))) (by decide +kernel)
theorem qw_107 : (Jvm.Cond.fieldLink "SkyStones$Ground" (50 : Nat) "SkyStones$Told" "east" "[I" : Cond) ∈ wAll := wAll_of (List.mem_append_right _ (List.mem_of_getElem? (i := 107) (by decide +kernel))) (by decide +kernel)
theorem qw_110 : (Jvm.Cond.fieldLink "SkyStones$Ground" (57 : Nat) "SkyStones$Told" "north" "[I" : Cond) ∈ wAll := wAll_of (List.mem_append_right _ (List.mem_of_getElem? (i := 110) (by decide +kernel))) (by decide +kernel)
theorem qw_113 : (Jvm.Cond.fieldLink "SkyStones$Ground" (58 : Nat) "SkyStones$Told" "age" "[I" : Cond) ∈ wAll := wAll_of (List.mem_append_right _ (List.mem_of_getElem? (i := 113) (by decide +kernel))) (by decide +kernel)
theorem qw_116 : (Jvm.Cond.fieldLink "SkyStones$Ground" (59 : Nat) "SkyStones$Told" "stone" "[I" : Cond) ∈ wAll := wAll_of (List.mem_append_right _ (List.mem_of_getElem? (i := 116) (by decide +kernel))) (by decide +kernel)
theorem qw_224 : (Jvm.Cond.fieldLink "SkyStones$Ground" (60 : Nat) "SkyStones$Survey" "facts" "I" : Cond) ∈ wAll := wAll_of (List.mem_append_right _ (List.mem_of_getElem? (i := 224) (by decide +kernel))) (by decide +kernel)
theorem qw_229 : (Jvm.Cond.fieldLink "SkyStones$Ground" (65 : Nat) "SkyStones$Survey" "kind" "[I" : Cond) ∈ wAll := wAll_of (List.mem_append_right _ (List.mem_of_getElem? (i := 229) (by decide +kernel))) (by decide +kernel)
theorem qw_232 : (Jvm.Cond.fieldLink "SkyStones$Ground" (68 : Nat) "SkyStones$Survey" "about" "[I" : Cond) ∈ wAll := wAll_of (List.mem_append_right _ (List.mem_of_getElem? (i := 232) (by decide +kernel))) (by decide +kernel)
theorem qw_234 : (Jvm.Cond.fieldLink "SkyStones$Ground" (75 : Nat) "SkyStones$Survey" "east" "[I" : Cond) ∈ wAll := wAll_of (List.mem_append_right _ (List.mem_of_getElem? (i := 234) (by decide +kernel))) (by decide +kernel)
theorem qw_236 : (Jvm.Cond.fieldLink "SkyStones$Ground" (76 : Nat) "SkyStones$Survey" "north" "[I" : Cond) ∈ wAll := wAll_of (List.mem_append_right _ (List.mem_of_getElem? (i := 236) (by decide +kernel))) (by decide +kernel)
theorem qw_238 : (Jvm.Cond.fieldLink "SkyStones$Ground" (77 : Nat) "SkyStones$Survey" "age" "[I" : Cond) ∈ wAll := wAll_of (List.mem_append_right _ (List.mem_of_getElem? (i := 238) (by decide +kernel))) (by decide +kernel)
theorem qw_122 : (Jvm.Cond.fieldLink "SkyStones$Ground" (97 : Nat) "SkyStones$Told" "doorsFrom" "[I" : Cond) ∈ wAll := wAll_of (List.mem_append_right _ (List.mem_of_getElem? (i := 122) (by decide +kernel))) (by decide +kernel)
theorem qw_141 : (Jvm.Cond.fieldLink "SkyStones$Ground" (103 : Nat) "SkyStones$Told" "rules" "I" : Cond) ∈ wAll := wAll_of (List.mem_append_right _ (List.mem_of_getElem? (i := 141) (by decide +kernel))) (by decide +kernel)
theorem qw_146 : (Jvm.Cond.fieldLink "SkyStones$Ground" (110 : Nat) "SkyStones$Told" "code" "LSkyStones$Code;" : Cond) ∈ wAll := wAll_of (List.mem_append_right _ (List.mem_of_getElem? (i := 146) (by decide +kernel))) (by decide +kernel)
theorem qw_383 : (Jvm.Cond.fieldLink "SkyStones$Maker" (9 : Nat) "SkyStones$Maker" "east" "[I" : Cond) ∈ wAll := wAll_of (List.mem_append_right _ (List.mem_of_getElem? (i := 383) (by decide +kernel))) (by decide +kernel)
theorem qw_385 : (Jvm.Cond.fieldLink "SkyStones$Maker" (15 : Nat) "SkyStones$Maker" "north" "[I" : Cond) ∈ wAll := wAll_of (List.mem_append_right _ (List.mem_of_getElem? (i := 385) (by decide +kernel))) (by decide +kernel)
theorem qw_316 : (Jvm.Cond.fieldLink "SkyStones$Maker" (22 : Nat) "SkyStones$Sky" "places" "I" : Cond) ∈ wAll := wAll_of (List.mem_append_right _ (List.mem_of_getElem? (i := 316) (by decide +kernel))) (by decide +kernel)
theorem qw_319 : (Jvm.Cond.fieldLink "SkyStones$Maker" (28 : Nat) "SkyStones$Sky" "degree" "[I" : Cond) ∈ wAll := wAll_of (List.mem_append_right _ (List.mem_of_getElem? (i := 319) (by decide +kernel))) (by decide +kernel)
theorem qw_370 : (Jvm.Cond.fieldLink "SkyStones$Pairing" (9 : Nat) "SkyStones$Pairing" "joined" "[I" : Cond) ∈ wAll := wAll_of (List.mem_append_right _ (List.mem_of_getElem? (i := 370) (by decide +kernel))) (by decide +kernel)
theorem qw_371 : (Jvm.Cond.fieldLink "SkyStones$Pairing" (15 : Nat) "SkyStones$Pairing" "best" "[I" : Cond) ∈ wAll := wAll_of (List.mem_append_right _ (List.mem_of_getElem? (i := 371) (by decide +kernel))) (by decide +kernel)
theorem qw_187 : (Jvm.Cond.fieldLink "SkyStones$Reader" (9 : Nat) "SkyStones$Reader" "fault" "I" : Cond) ∈ wAll := wAll_of (List.mem_append_right _ (List.mem_of_getElem? (i := 187) (by decide +kernel))) (by decide +kernel)
theorem qw_189 : (Jvm.Cond.fieldLink "SkyStones$Reader" (15 : Nat) "SkyStones$Reader" "where" "I" : Cond) ∈ wAll := wAll_of (List.mem_append_right _ (List.mem_of_getElem? (i := 189) (by decide +kernel))) (by decide +kernel)
theorem qw_193 : (Jvm.Cond.fieldLink "SkyStones$Reader" (18 : Nat) "SkyStones$Reader" "at" "I" : Cond) ∈ wAll := wAll_of (List.mem_append_right _ (List.mem_of_getElem? (i := 193) (by decide +kernel))) (by decide +kernel)
theorem qw_194 : (Jvm.Cond.fieldLink "SkyStones$Reader" (21 : Nat) "SkyStones$Reader" "laterFault" "I" : Cond) ∈ wAll := wAll_of (List.mem_append_right _ (List.mem_of_getElem? (i := 194) (by decide +kernel))) (by decide +kernel)
theorem qw_195 : (Jvm.Cond.fieldLink "SkyStones$Reader" (24 : Nat) "SkyStones$Reader" "laterWhere" "I" : Cond) ∈ wAll := wAll_of (List.mem_append_right _ (List.mem_of_getElem? (i := 195) (by decide +kernel))) (by decide +kernel)
theorem qw_196 : (Jvm.Cond.fieldLink "SkyStones$Reader" (27 : Nat) "SkyStones$Reader" "thingName" "[J" : Cond) ∈ wAll := wAll_of (List.mem_append_right _ (List.mem_of_getElem? (i := 196) (by decide +kernel))) (by decide +kernel)
theorem qw_197 : (Jvm.Cond.fieldLink "SkyStones$Reader" (31 : Nat) "SkyStones$Reader" "skyName" "[J" : Cond) ∈ wAll := wAll_of (List.mem_append_right _ (List.mem_of_getElem? (i := 197) (by decide +kernel))) (by decide +kernel)
theorem qw_191 : (Jvm.Cond.fieldLink "SkyStones$Reader" (34 : Nat) "SkyStones$Reader" "tape" "LSkyStones$Tape;" : Cond) ∈ wAll := wAll_of (List.mem_append_right _ (List.mem_of_getElem? (i := 191) (by decide +kernel))) (by decide +kernel)
theorem qw_192 : (Jvm.Cond.fieldLink "SkyStones$Reader" (38 : Nat) "SkyStones$Reader" "told" "LSkyStones$Told;" : Cond) ∈ wAll := wAll_of (List.mem_append_right _ (List.mem_of_getElem? (i := 192) (by decide +kernel))) (by decide +kernel)
theorem qw_40 : (Jvm.Cond.fieldLink "SkyStones$Reader" (68 : Nat) "SkyStones$Tape" "kind" "[I" : Cond) ∈ wAll := wAll_of (List.mem_append_right _ (List.mem_of_getElem? (i := 40) (by decide +kernel))) (by decide +kernel)
theorem qw_42 : (Jvm.Cond.fieldLink "SkyStones$Reader" (74 : Nat) "SkyStones$Tape" "start" "[I" : Cond) ∈ wAll := wAll_of (List.mem_append_right _ (List.mem_of_getElem? (i := 42) (by decide +kernel))) (by decide +kernel)
theorem qw_44 : (Jvm.Cond.fieldLink "SkyStones$Reader" (77 : Nat) "SkyStones$Tape" "number" "[I" : Cond) ∈ wAll := wAll_of (List.mem_append_right _ (List.mem_of_getElem? (i := 44) (by decide +kernel))) (by decide +kernel)
theorem qw_104 : (Jvm.Cond.fieldLink "SkyStones$Reader" (84 : Nat) "SkyStones$Told" "things" "I" : Cond) ∈ wAll := wAll_of (List.mem_append_right _ (List.mem_of_getElem? (i := 104) (by decide +kernel))) (by decide +kernel)
theorem qw_46 : (Jvm.Cond.fieldLink "SkyStones$Reader" (89 : Nat) "SkyStones$Tape" "name" "[J" : Cond) ∈ wAll := wAll_of (List.mem_append_right _ (List.mem_of_getElem? (i := 46) (by decide +kernel))) (by decide +kernel)
theorem qw_135 : (Jvm.Cond.fieldLink "SkyStones$Reader" (96 : Nat) "SkyStones$Told" "places" "I" : Cond) ∈ wAll := wAll_of (List.mem_append_right _ (List.mem_of_getElem? (i := 135) (by decide +kernel))) (by decide +kernel)
theorem qw_108 : (Jvm.Cond.fieldLink "SkyStones$Reader" (116 : Nat) "SkyStones$Told" "east" "[I" : Cond) ∈ wAll := wAll_of (List.mem_append_right _ (List.mem_of_getElem? (i := 108) (by decide +kernel))) (by decide +kernel)
theorem qw_111 : (Jvm.Cond.fieldLink "SkyStones$Reader" (119 : Nat) "SkyStones$Told" "north" "[I" : Cond) ∈ wAll := wAll_of (List.mem_append_right _ (List.mem_of_getElem? (i := 111) (by decide +kernel))) (by decide +kernel)
theorem qw_114 : (Jvm.Cond.fieldLink "SkyStones$Reader" (122 : Nat) "SkyStones$Told" "age" "[I" : Cond) ∈ wAll := wAll_of (List.mem_append_right _ (List.mem_of_getElem? (i := 114) (by decide +kernel))) (by decide +kernel)
theorem qw_117 : (Jvm.Cond.fieldLink "SkyStones$Reader" (125 : Nat) "SkyStones$Told" "stone" "[I" : Cond) ∈ wAll := wAll_of (List.mem_append_right _ (List.mem_of_getElem? (i := 117) (by decide +kernel))) (by decide +kernel)
theorem qw_119 : (Jvm.Cond.fieldLink "SkyStones$Reader" (128 : Nat) "SkyStones$Told" "doors" "I" : Cond) ∈ wAll := wAll_of (List.mem_append_right _ (List.mem_of_getElem? (i := 119) (by decide +kernel))) (by decide +kernel)
theorem qw_123 : (Jvm.Cond.fieldLink "SkyStones$Reader" (131 : Nat) "SkyStones$Told" "doorsFrom" "[I" : Cond) ∈ wAll := wAll_of (List.mem_append_right _ (List.mem_of_getElem? (i := 123) (by decide +kernel))) (by decide +kernel)
theorem qw_125 : (Jvm.Cond.fieldLink "SkyStones$Reader" (134 : Nat) "SkyStones$Told" "hills" "I" : Cond) ∈ wAll := wAll_of (List.mem_append_right _ (List.mem_of_getElem? (i := 125) (by decide +kernel))) (by decide +kernel)
theorem qw_128 : (Jvm.Cond.fieldLink "SkyStones$Reader" (137 : Nat) "SkyStones$Told" "hillFrom" "[I" : Cond) ∈ wAll := wAll_of (List.mem_append_right _ (List.mem_of_getElem? (i := 128) (by decide +kernel))) (by decide +kernel)
theorem qw_130 : (Jvm.Cond.fieldLink "SkyStones$Reader" (140 : Nat) "SkyStones$Told" "hillTo" "[I" : Cond) ∈ wAll := wAll_of (List.mem_append_right _ (List.mem_of_getElem? (i := 130) (by decide +kernel))) (by decide +kernel)
theorem qw_132 : (Jvm.Cond.fieldLink "SkyStones$Reader" (143 : Nat) "SkyStones$Told" "hillHeight" "[I" : Cond) ∈ wAll := wAll_of (List.mem_append_right _ (List.mem_of_getElem? (i := 132) (by decide +kernel))) (by decide +kernel)
theorem qw_100 : (Jvm.Cond.fieldLink "SkyStones$Reader" (146 : Nat) "SkyStones$Told" "near" "I" : Cond) ∈ wAll := wAll_of (List.mem_append_right _ (List.mem_of_getElem? (i := 100) (by decide +kernel))) (by decide +kernel)
theorem qw_139 : (Jvm.Cond.fieldLink "SkyStones$Reader" (149 : Nat) "SkyStones$Told" "span" "[I" : Cond) ∈ wAll := wAll_of (List.mem_append_right _ (List.mem_of_getElem? (i := 139) (by decide +kernel))) (by decide +kernel)
theorem qw_147 : (Jvm.Cond.fieldLink "SkyStones$Reader" (152 : Nat) "SkyStones$Told" "code" "LSkyStones$Code;" : Cond) ∈ wAll := wAll_of (List.mem_append_right _ (List.mem_of_getElem? (i := 147) (by decide +kernel))) (by decide +kernel)
theorem qw_142 : (Jvm.Cond.fieldLink "SkyStones$Reader" (167 : Nat) "SkyStones$Told" "rules" "I" : Cond) ∈ wAll := wAll_of (List.mem_append_right _ (List.mem_of_getElem? (i := 142) (by decide +kernel))) (by decide +kernel)
theorem qw_315 : (Jvm.Cond.fieldLink "SkyStones$Sky" (9 : Nat) "SkyStones$Sky" "places" "I" : Cond) ∈ wAll := wAll_of (List.mem_append_right _ (List.mem_of_getElem? (i := 315) (by decide +kernel))) (by decide +kernel)
theorem qw_318 : (Jvm.Cond.fieldLink "SkyStones$Sky" (15 : Nat) "SkyStones$Sky" "degree" "[I" : Cond) ∈ wAll := wAll_of (List.mem_append_right _ (List.mem_of_getElem? (i := 318) (by decide +kernel))) (by decide +kernel)
theorem qw_320 : (Jvm.Cond.fieldLink "SkyStones$Sky" (19 : Nat) "SkyStones$Sky" "span" "[I" : Cond) ∈ wAll := wAll_of (List.mem_append_right _ (List.mem_of_getElem? (i := 320) (by decide +kernel))) (by decide +kernel)
theorem qw_321 : (Jvm.Cond.fieldLink "SkyStones$Sky" (22 : Nat) "SkyStones$Sky" "vars" "[I" : Cond) ∈ wAll := wAll_of (List.mem_append_right _ (List.mem_of_getElem? (i := 321) (by decide +kernel))) (by decide +kernel)
theorem qw_145 : (Jvm.Cond.fieldLink "SkyStones$Sky" (25 : Nat) "SkyStones$Told" "code" "LSkyStones$Code;" : Cond) ∈ wAll := wAll_of (List.mem_append_right _ (List.mem_of_getElem? (i := 145) (by decide +kernel))) (by decide +kernel)
theorem qw_134 : (Jvm.Cond.fieldLink "SkyStones$Sky" (47 : Nat) "SkyStones$Told" "places" "I" : Cond) ∈ wAll := wAll_of (List.mem_append_right _ (List.mem_of_getElem? (i := 134) (by decide +kernel))) (by decide +kernel)
theorem qw_138 : (Jvm.Cond.fieldLink "SkyStones$Sky" (52 : Nat) "SkyStones$Told" "span" "[I" : Cond) ∈ wAll := wAll_of (List.mem_append_right _ (List.mem_of_getElem? (i := 138) (by decide +kernel))) (by decide +kernel)
theorem qw_223 : (Jvm.Cond.fieldLink "SkyStones$Survey" (9 : Nat) "SkyStones$Survey" "facts" "I" : Cond) ∈ wAll := wAll_of (List.mem_append_right _ (List.mem_of_getElem? (i := 223) (by decide +kernel))) (by decide +kernel)
theorem qw_226 : (Jvm.Cond.fieldLink "SkyStones$Survey" (15 : Nat) "SkyStones$Survey" "finds" "I" : Cond) ∈ wAll := wAll_of (List.mem_append_right _ (List.mem_of_getElem? (i := 226) (by decide +kernel))) (by decide +kernel)
theorem qw_228 : (Jvm.Cond.fieldLink "SkyStones$Survey" (18 : Nat) "SkyStones$Survey" "kind" "[I" : Cond) ∈ wAll := wAll_of (List.mem_append_right _ (List.mem_of_getElem? (i := 228) (by decide +kernel))) (by decide +kernel)
theorem qw_231 : (Jvm.Cond.fieldLink "SkyStones$Survey" (22 : Nat) "SkyStones$Survey" "about" "[I" : Cond) ∈ wAll := wAll_of (List.mem_append_right _ (List.mem_of_getElem? (i := 231) (by decide +kernel))) (by decide +kernel)
theorem qw_233 : (Jvm.Cond.fieldLink "SkyStones$Survey" (25 : Nat) "SkyStones$Survey" "east" "[I" : Cond) ∈ wAll := wAll_of (List.mem_append_right _ (List.mem_of_getElem? (i := 233) (by decide +kernel))) (by decide +kernel)
theorem qw_235 : (Jvm.Cond.fieldLink "SkyStones$Survey" (28 : Nat) "SkyStones$Survey" "north" "[I" : Cond) ∈ wAll := wAll_of (List.mem_append_right _ (List.mem_of_getElem? (i := 235) (by decide +kernel))) (by decide +kernel)
theorem qw_237 : (Jvm.Cond.fieldLink "SkyStones$Survey" (31 : Nat) "SkyStones$Survey" "age" "[I" : Cond) ∈ wAll := wAll_of (List.mem_append_right _ (List.mem_of_getElem? (i := 237) (by decide +kernel))) (by decide +kernel)
theorem qw_35 : (Jvm.Cond.fieldLink "SkyStones$Tape" (9 : Nat) "SkyStones$Tape" "bytes" "I" : Cond) ∈ wAll := wAll_of (List.mem_append_right _ (List.mem_of_getElem? (i := 35) (by decide +kernel))) (by decide +kernel)
theorem qw_37 : (Jvm.Cond.fieldLink "SkyStones$Tape" (15 : Nat) "SkyStones$Tape" "row" "[B" : Cond) ∈ wAll := wAll_of (List.mem_append_right _ (List.mem_of_getElem? (i := 37) (by decide +kernel))) (by decide +kernel)
theorem qw_38 : (Jvm.Cond.fieldLink "SkyStones$Tape" (19 : Nat) "SkyStones$Tape" "tokens" "I" : Cond) ∈ wAll := wAll_of (List.mem_append_right _ (List.mem_of_getElem? (i := 38) (by decide +kernel))) (by decide +kernel)
theorem qw_39 : (Jvm.Cond.fieldLink "SkyStones$Tape" (22 : Nat) "SkyStones$Tape" "kind" "[I" : Cond) ∈ wAll := wAll_of (List.mem_append_right _ (List.mem_of_getElem? (i := 39) (by decide +kernel))) (by decide +kernel)
theorem qw_41 : (Jvm.Cond.fieldLink "SkyStones$Tape" (26 : Nat) "SkyStones$Tape" "start" "[I" : Cond) ∈ wAll := wAll_of (List.mem_append_right _ (List.mem_of_getElem? (i := 41) (by decide +kernel))) (by decide +kernel)
theorem qw_43 : (Jvm.Cond.fieldLink "SkyStones$Tape" (29 : Nat) "SkyStones$Tape" "number" "[I" : Cond) ∈ wAll := wAll_of (List.mem_append_right _ (List.mem_of_getElem? (i := 43) (by decide +kernel))) (by decide +kernel)
theorem qw_45 : (Jvm.Cond.fieldLink "SkyStones$Tape" (32 : Nat) "SkyStones$Tape" "name" "[J" : Cond) ∈ wAll := wAll_of (List.mem_append_right _ (List.mem_of_getElem? (i := 45) (by decide +kernel))) (by decide +kernel)
theorem qw_99 : (Jvm.Cond.fieldLink "SkyStones$Told" (9 : Nat) "SkyStones$Told" "near" "I" : Cond) ∈ wAll := wAll_of (List.mem_append_right _ (List.mem_of_getElem? (i := 99) (by decide +kernel))) (by decide +kernel)
theorem qw_102 : (Jvm.Cond.fieldLink "SkyStones$Told" (15 : Nat) "SkyStones$Told" "things" "I" : Cond) ∈ wAll := wAll_of (List.mem_append_right _ (List.mem_of_getElem? (i := 102) (by decide +kernel))) (by decide +kernel)
theorem qw_106 : (Jvm.Cond.fieldLink "SkyStones$Told" (18 : Nat) "SkyStones$Told" "east" "[I" : Cond) ∈ wAll := wAll_of (List.mem_append_right _ (List.mem_of_getElem? (i := 106) (by decide +kernel))) (by decide +kernel)
theorem qw_109 : (Jvm.Cond.fieldLink "SkyStones$Told" (22 : Nat) "SkyStones$Told" "north" "[I" : Cond) ∈ wAll := wAll_of (List.mem_append_right _ (List.mem_of_getElem? (i := 109) (by decide +kernel))) (by decide +kernel)
theorem qw_112 : (Jvm.Cond.fieldLink "SkyStones$Told" (25 : Nat) "SkyStones$Told" "age" "[I" : Cond) ∈ wAll := wAll_of (List.mem_append_right _ (List.mem_of_getElem? (i := 112) (by decide +kernel))) (by decide +kernel)
theorem qw_115 : (Jvm.Cond.fieldLink "SkyStones$Told" (28 : Nat) "SkyStones$Told" "stone" "[I" : Cond) ∈ wAll := wAll_of (List.mem_append_right _ (List.mem_of_getElem? (i := 115) (by decide +kernel))) (by decide +kernel)
theorem qw_118 : (Jvm.Cond.fieldLink "SkyStones$Told" (31 : Nat) "SkyStones$Told" "doors" "I" : Cond) ∈ wAll := wAll_of (List.mem_append_right _ (List.mem_of_getElem? (i := 118) (by decide +kernel))) (by decide +kernel)
theorem qw_121 : (Jvm.Cond.fieldLink "SkyStones$Told" (34 : Nat) "SkyStones$Told" "doorsFrom" "[I" : Cond) ∈ wAll := wAll_of (List.mem_append_right _ (List.mem_of_getElem? (i := 121) (by decide +kernel))) (by decide +kernel)
theorem qw_124 : (Jvm.Cond.fieldLink "SkyStones$Told" (37 : Nat) "SkyStones$Told" "hills" "I" : Cond) ∈ wAll := wAll_of (List.mem_append_right _ (List.mem_of_getElem? (i := 124) (by decide +kernel))) (by decide +kernel)
theorem qw_127 : (Jvm.Cond.fieldLink "SkyStones$Told" (40 : Nat) "SkyStones$Told" "hillFrom" "[I" : Cond) ∈ wAll := wAll_of (List.mem_append_right _ (List.mem_of_getElem? (i := 127) (by decide +kernel))) (by decide +kernel)
theorem qw_129 : (Jvm.Cond.fieldLink "SkyStones$Told" (43 : Nat) "SkyStones$Told" "hillTo" "[I" : Cond) ∈ wAll := wAll_of (List.mem_append_right _ (List.mem_of_getElem? (i := 129) (by decide +kernel))) (by decide +kernel)
theorem qw_131 : (Jvm.Cond.fieldLink "SkyStones$Told" (46 : Nat) "SkyStones$Told" "hillHeight" "[I" : Cond) ∈ wAll := wAll_of (List.mem_append_right _ (List.mem_of_getElem? (i := 131) (by decide +kernel))) (by decide +kernel)
theorem qw_133 : (Jvm.Cond.fieldLink "SkyStones$Told" (49 : Nat) "SkyStones$Told" "places" "I" : Cond) ∈ wAll := wAll_of (List.mem_append_right _ (List.mem_of_getElem? (i := 133) (by decide +kernel))) (by decide +kernel)
theorem qw_137 : (Jvm.Cond.fieldLink "SkyStones$Told" (52 : Nat) "SkyStones$Told" "span" "[I" : Cond) ∈ wAll := wAll_of (List.mem_append_right _ (List.mem_of_getElem? (i := 137) (by decide +kernel))) (by decide +kernel)
theorem qw_140 : (Jvm.Cond.fieldLink "SkyStones$Told" (55 : Nat) "SkyStones$Told" "rules" "I" : Cond) ∈ wAll := wAll_of (List.mem_append_right _ (List.mem_of_getElem? (i := 140) (by decide +kernel))) (by decide +kernel)
theorem qw_144 : (Jvm.Cond.fieldLink "SkyStones$Told" (61 : Nat) "SkyStones$Told" "code" "LSkyStones$Code;" : Cond) ∈ wAll := wAll_of (List.mem_append_right _ (List.mem_of_getElem? (i := 144) (by decide +kernel))) (by decide +kernel)
theorem qw_337 : (Jvm.Cond.fieldLink "SkyStones$Turns" (9 : Nat) "SkyStones$Turns" "looking" "[I" : Cond) ∈ wAll := wAll_of (List.mem_append_right _ (List.mem_of_getElem? (i := 337) (by decide +kernel))) (by decide +kernel)
theorem qw_338 : (Jvm.Cond.fieldLink "SkyStones$Turns" (15 : Nat) "SkyStones$Turns" "struck" "[I" : Cond) ∈ wAll := wAll_of (List.mem_append_right _ (List.mem_of_getElem? (i := 338) (by decide +kernel))) (by decide +kernel)
theorem qw_340 : (Jvm.Cond.fieldLink "SkyStones$Turns" (18 : Nat) "SkyStones$Turns" "hitsBy" "[I" : Cond) ∈ wAll := wAll_of (List.mem_append_right _ (List.mem_of_getElem? (i := 340) (by decide +kernel))) (by decide +kernel)
theorem qw_341 : (Jvm.Cond.fieldLink "SkyStones$Turns" (21 : Nat) "SkyStones$Turns" "least" "[I" : Cond) ∈ wAll := wAll_of (List.mem_append_right _ (List.mem_of_getElem? (i := 341) (by decide +kernel))) (by decide +kernel)
theorem qw_343 : (Jvm.Cond.fieldLink "SkyStones$Turns" (24 : Nat) "SkyStones$Turns" "tally" "[I" : Cond) ∈ wAll := wAll_of (List.mem_append_right _ (List.mem_of_getElem? (i := 343) (by decide +kernel))) (by decide +kernel)
theorem qw_344 : (Jvm.Cond.fieldLink "SkyStones$Turns" (27 : Nat) "SkyStones$Turns" "edges" "I" : Cond) ∈ wAll := wAll_of (List.mem_append_right _ (List.mem_of_getElem? (i := 344) (by decide +kernel))) (by decide +kernel)
theorem qw_345 : (Jvm.Cond.fieldLink "SkyStones$Turns" (31 : Nat) "SkyStones$Turns" "edge" "[I" : Cond) ∈ wAll := wAll_of (List.mem_append_right _ (List.mem_of_getElem? (i := 345) (by decide +kernel))) (by decide +kernel)
theorem qw_346 : (Jvm.Cond.fieldLink "SkyStones$Turns" (34 : Nat) "SkyStones$Turns" "step" "[I" : Cond) ∈ wAll := wAll_of (List.mem_append_right _ (List.mem_of_getElem? (i := 346) (by decide +kernel))) (by decide +kernel)
theorem qw_278 : (Jvm.Cond.fieldLink "SkyStones$Turns" (43 : Nat) "SkyStones$Ground" "chosen" "I" : Cond) ∈ wAll := wAll_of (List.mem_append_right _ (List.mem_of_getElem? (i := 278) (by decide +kernel))) (by decide +kernel)
theorem qw_283 : (Jvm.Cond.fieldLink "SkyStones$Turns" (48 : Nat) "SkyStones$Ground" "way" "[I" : Cond) ∈ wAll := wAll_of (List.mem_append_right _ (List.mem_of_getElem? (i := 283) (by decide +kernel))) (by decide +kernel)
theorem qw_317 : (Jvm.Cond.fieldLink "SkyStones$Turns" (68 : Nat) "SkyStones$Sky" "places" "I" : Cond) ∈ wAll := wAll_of (List.mem_append_right _ (List.mem_of_getElem? (i := 317) (by decide +kernel))) (by decide +kernel)
theorem qw_1135 : (Jvm.Cond.fieldLink "SkyStonesModel" (7 : Nat) "SkyStonesModel" "tape" "[I" : Cond) ∈ wAll := wAll_of (List.mem_append_right _ (List.mem_of_getElem? (i := 1135) (by decide +kernel))) (by decide +kernel)
theorem qw_1137 : (Jvm.Cond.fieldLink "SkyStonesModel" (13 : Nat) "SkyStonesModel" "tokenSort" "[I" : Cond) ∈ wAll := wAll_of (List.mem_append_right _ (List.mem_of_getElem? (i := 1137) (by decide +kernel))) (by decide +kernel)
theorem qw_1138 : (Jvm.Cond.fieldLink "SkyStonesModel" (16 : Nat) "SkyStonesModel" "tokenFrom" "[I" : Cond) ∈ wAll := wAll_of (List.mem_append_right _ (List.mem_of_getElem? (i := 1138) (by decide +kernel))) (by decide +kernel)
theorem qw_1139 : (Jvm.Cond.fieldLink "SkyStonesModel" (19 : Nat) "SkyStonesModel" "tokenWhat" "[I" : Cond) ∈ wAll := wAll_of (List.mem_append_right _ (List.mem_of_getElem? (i := 1139) (by decide +kernel))) (by decide +kernel)
theorem qw_1140 : (Jvm.Cond.fieldLink "SkyStonesModel" (22 : Nat) "SkyStonesModel" "tokenName" "[J" : Cond) ∈ wAll := wAll_of (List.mem_append_right _ (List.mem_of_getElem? (i := 1140) (by decide +kernel))) (by decide +kernel)
theorem qw_1143 : (Jvm.Cond.fieldLink "SkyStonesModel" (26 : Nat) "SkyStonesModel" "faultPlace" "I" : Cond) ∈ wAll := wAll_of (List.mem_append_right _ (List.mem_of_getElem? (i := 1143) (by decide +kernel))) (by decide +kernel)
theorem qw_1146 : (Jvm.Cond.fieldLink "SkyStonesModel" (30 : Nat) "SkyStonesModel" "held" "[Z" : Cond) ∈ wAll := wAll_of (List.mem_append_right _ (List.mem_of_getElem? (i := 1146) (by decide +kernel))) (by decide +kernel)
theorem qw_1147 : (Jvm.Cond.fieldLink "SkyStonesModel" (34 : Nat) "SkyStonesModel" "near" "[I" : Cond) ∈ wAll := wAll_of (List.mem_append_right _ (List.mem_of_getElem? (i := 1147) (by decide +kernel))) (by decide +kernel)
theorem qw_1148 : (Jvm.Cond.fieldLink "SkyStonesModel" (37 : Nat) "SkyStonesModel" "things" "[I" : Cond) ∈ wAll := wAll_of (List.mem_append_right _ (List.mem_of_getElem? (i := 1148) (by decide +kernel))) (by decide +kernel)
theorem qw_1149 : (Jvm.Cond.fieldLink "SkyStonesModel" (40 : Nat) "SkyStonesModel" "isStone" "[Z" : Cond) ∈ wAll := wAll_of (List.mem_append_right _ (List.mem_of_getElem? (i := 1149) (by decide +kernel))) (by decide +kernel)
theorem qw_1150 : (Jvm.Cond.fieldLink "SkyStonesModel" (43 : Nat) "SkyStonesModel" "east" "[I" : Cond) ∈ wAll := wAll_of (List.mem_append_right _ (List.mem_of_getElem? (i := 1150) (by decide +kernel))) (by decide +kernel)
theorem qw_1151 : (Jvm.Cond.fieldLink "SkyStonesModel" (46 : Nat) "SkyStonesModel" "north" "[I" : Cond) ∈ wAll := wAll_of (List.mem_append_right _ (List.mem_of_getElem? (i := 1151) (by decide +kernel))) (by decide +kernel)
theorem qw_1152 : (Jvm.Cond.fieldLink "SkyStonesModel" (49 : Nat) "SkyStonesModel" "age" "[I" : Cond) ∈ wAll := wAll_of (List.mem_append_right _ (List.mem_of_getElem? (i := 1152) (by decide +kernel))) (by decide +kernel)
theorem qw_1153 : (Jvm.Cond.fieldLink "SkyStonesModel" (52 : Nat) "SkyStonesModel" "foundBy" "[I" : Cond) ∈ wAll := wAll_of (List.mem_append_right _ (List.mem_of_getElem? (i := 1153) (by decide +kernel))) (by decide +kernel)
theorem qw_1154 : (Jvm.Cond.fieldLink "SkyStonesModel" (55 : Nat) "SkyStonesModel" "doors" "[I" : Cond) ∈ wAll := wAll_of (List.mem_append_right _ (List.mem_of_getElem? (i := 1154) (by decide +kernel))) (by decide +kernel)
theorem qw_1155 : (Jvm.Cond.fieldLink "SkyStonesModel" (58 : Nat) "SkyStonesModel" "doorA" "[I" : Cond) ∈ wAll := wAll_of (List.mem_append_right _ (List.mem_of_getElem? (i := 1155) (by decide +kernel))) (by decide +kernel)
theorem qw_1156 : (Jvm.Cond.fieldLink "SkyStonesModel" (61 : Nat) "SkyStonesModel" "doorB" "[I" : Cond) ∈ wAll := wAll_of (List.mem_append_right _ (List.mem_of_getElem? (i := 1156) (by decide +kernel))) (by decide +kernel)
theorem qw_1157 : (Jvm.Cond.fieldLink "SkyStonesModel" (64 : Nat) "SkyStonesModel" "hills" "[I" : Cond) ∈ wAll := wAll_of (List.mem_append_right _ (List.mem_of_getElem? (i := 1157) (by decide +kernel))) (by decide +kernel)
theorem qw_1158 : (Jvm.Cond.fieldLink "SkyStonesModel" (67 : Nat) "SkyStonesModel" "hillA" "[I" : Cond) ∈ wAll := wAll_of (List.mem_append_right _ (List.mem_of_getElem? (i := 1158) (by decide +kernel))) (by decide +kernel)
theorem qw_1159 : (Jvm.Cond.fieldLink "SkyStonesModel" (70 : Nat) "SkyStonesModel" "hillB" "[I" : Cond) ∈ wAll := wAll_of (List.mem_append_right _ (List.mem_of_getElem? (i := 1159) (by decide +kernel))) (by decide +kernel)
theorem qw_1160 : (Jvm.Cond.fieldLink "SkyStonesModel" (73 : Nat) "SkyStonesModel" "hillHeight" "[I" : Cond) ∈ wAll := wAll_of (List.mem_append_right _ (List.mem_of_getElem? (i := 1160) (by decide +kernel))) (by decide +kernel)
theorem qw_1161 : (Jvm.Cond.fieldLink "SkyStonesModel" (76 : Nat) "SkyStonesModel" "skies" "[I" : Cond) ∈ wAll := wAll_of (List.mem_append_right _ (List.mem_of_getElem? (i := 1161) (by decide +kernel))) (by decide +kernel)
theorem qw_1162 : (Jvm.Cond.fieldLink "SkyStonesModel" (79 : Nat) "SkyStonesModel" "span" "[I" : Cond) ∈ wAll := wAll_of (List.mem_append_right _ (List.mem_of_getElem? (i := 1162) (by decide +kernel))) (by decide +kernel)
theorem qw_1163 : (Jvm.Cond.fieldLink "SkyStonesModel" (82 : Nat) "SkyStonesModel" "skyFrom" "[I" : Cond) ∈ wAll := wAll_of (List.mem_append_right _ (List.mem_of_getElem? (i := 1163) (by decide +kernel))) (by decide +kernel)
theorem qw_1164 : (Jvm.Cond.fieldLink "SkyStonesModel" (85 : Nat) "SkyStonesModel" "skyTo" "[I" : Cond) ∈ wAll := wAll_of (List.mem_append_right _ (List.mem_of_getElem? (i := 1164) (by decide +kernel))) (by decide +kernel)
theorem qw_1165 : (Jvm.Cond.fieldLink "SkyStonesModel" (88 : Nat) "SkyStonesModel" "rules" "[I" : Cond) ∈ wAll := wAll_of (List.mem_append_right _ (List.mem_of_getElem? (i := 1165) (by decide +kernel))) (by decide +kernel)
theorem qw_1166 : (Jvm.Cond.fieldLink "SkyStonesModel" (91 : Nat) "SkyStonesModel" "ruleFrom" "[I" : Cond) ∈ wAll := wAll_of (List.mem_append_right _ (List.mem_of_getElem? (i := 1166) (by decide +kernel))) (by decide +kernel)
theorem qw_1167 : (Jvm.Cond.fieldLink "SkyStonesModel" (94 : Nat) "SkyStonesModel" "ruleTo" "[I" : Cond) ∈ wAll := wAll_of (List.mem_append_right _ (List.mem_of_getElem? (i := 1167) (by decide +kernel))) (by decide +kernel)
theorem qw_1168 : (Jvm.Cond.fieldLink "SkyStonesModel" (97 : Nat) "SkyStonesModel" "codes" "[I" : Cond) ∈ wAll := wAll_of (List.mem_append_right _ (List.mem_of_getElem? (i := 1168) (by decide +kernel))) (by decide +kernel)
theorem qw_1169 : (Jvm.Cond.fieldLink "SkyStonesModel" (100 : Nat) "SkyStonesModel" "codeOp" "[I" : Cond) ∈ wAll := wAll_of (List.mem_append_right _ (List.mem_of_getElem? (i := 1169) (by decide +kernel))) (by decide +kernel)
theorem qw_1170 : (Jvm.Cond.fieldLink "SkyStonesModel" (103 : Nat) "SkyStonesModel" "codeValue" "[I" : Cond) ∈ wAll := wAll_of (List.mem_append_right _ (List.mem_of_getElem? (i := 1170) (by decide +kernel))) (by decide +kernel)
theorem qw_1171 : (Jvm.Cond.fieldLink "SkyStonesModel" (106 : Nat) "SkyStonesModel" "lits" "[I" : Cond) ∈ wAll := wAll_of (List.mem_append_right _ (List.mem_of_getElem? (i := 1171) (by decide +kernel))) (by decide +kernel)
theorem qw_1172 : (Jvm.Cond.fieldLink "SkyStonesModel" (109 : Nat) "SkyStonesModel" "litNot" "[Z" : Cond) ∈ wAll := wAll_of (List.mem_append_right _ (List.mem_of_getElem? (i := 1172) (by decide +kernel))) (by decide +kernel)
theorem qw_1173 : (Jvm.Cond.fieldLink "SkyStonesModel" (112 : Nat) "SkyStonesModel" "litOp" "[I" : Cond) ∈ wAll := wAll_of (List.mem_append_right _ (List.mem_of_getElem? (i := 1173) (by decide +kernel))) (by decide +kernel)
theorem qw_1174 : (Jvm.Cond.fieldLink "SkyStonesModel" (115 : Nat) "SkyStonesModel" "litA" "[I" : Cond) ∈ wAll := wAll_of (List.mem_append_right _ (List.mem_of_getElem? (i := 1174) (by decide +kernel))) (by decide +kernel)
theorem qw_1175 : (Jvm.Cond.fieldLink "SkyStonesModel" (118 : Nat) "SkyStonesModel" "litB" "[I" : Cond) ∈ wAll := wAll_of (List.mem_append_right _ (List.mem_of_getElem? (i := 1175) (by decide +kernel))) (by decide +kernel)
theorem qw_1176 : (Jvm.Cond.fieldLink "SkyStonesModel" (121 : Nat) "SkyStonesModel" "litC" "[I" : Cond) ∈ wAll := wAll_of (List.mem_append_right _ (List.mem_of_getElem? (i := 1176) (by decide +kernel))) (by decide +kernel)
theorem qw_1177 : (Jvm.Cond.fieldLink "SkyStonesModel" (124 : Nat) "SkyStonesModel" "litRow" "[I" : Cond) ∈ wAll := wAll_of (List.mem_append_right _ (List.mem_of_getElem? (i := 1177) (by decide +kernel))) (by decide +kernel)
theorem qw_1178 : (Jvm.Cond.fieldLink "SkyStonesModel" (127 : Nat) "SkyStonesModel" "facts" "[I" : Cond) ∈ wAll := wAll_of (List.mem_append_right _ (List.mem_of_getElem? (i := 1178) (by decide +kernel))) (by decide +kernel)
theorem qw_1179 : (Jvm.Cond.fieldLink "SkyStonesModel" (130 : Nat) "SkyStonesModel" "factKind" "[I" : Cond) ∈ wAll := wAll_of (List.mem_append_right _ (List.mem_of_getElem? (i := 1179) (by decide +kernel))) (by decide +kernel)
theorem qw_1180 : (Jvm.Cond.fieldLink "SkyStonesModel" (133 : Nat) "SkyStonesModel" "factThing" "[I" : Cond) ∈ wAll := wAll_of (List.mem_append_right _ (List.mem_of_getElem? (i := 1180) (by decide +kernel))) (by decide +kernel)
theorem qw_1181 : (Jvm.Cond.fieldLink "SkyStonesModel" (136 : Nat) "SkyStonesModel" "factA" "[I" : Cond) ∈ wAll := wAll_of (List.mem_append_right _ (List.mem_of_getElem? (i := 1181) (by decide +kernel))) (by decide +kernel)
theorem qw_1182 : (Jvm.Cond.fieldLink "SkyStonesModel" (139 : Nat) "SkyStonesModel" "factB" "[I" : Cond) ∈ wAll := wAll_of (List.mem_append_right _ (List.mem_of_getElem? (i := 1182) (by decide +kernel))) (by decide +kernel)
theorem qw_1184 : (Jvm.Cond.fieldLink "SkyStonesModel" (142 : Nat) "SkyStonesModel" "named" "[J" : Cond) ∈ wAll := wAll_of (List.mem_append_right _ (List.mem_of_getElem? (i := 1184) (by decide +kernel))) (by decide +kernel)
theorem qw_1185 : (Jvm.Cond.fieldLink "SkyStonesModel" (145 : Nat) "SkyStonesModel" "namedThing" "[I" : Cond) ∈ wAll := wAll_of (List.mem_append_right _ (List.mem_of_getElem? (i := 1185) (by decide +kernel))) (by decide +kernel)
theorem qw_1187 : (Jvm.Cond.fieldLink "SkyStonesModel" (148 : Nat) "SkyStonesModel" "siteDegree" "[I" : Cond) ∈ wAll := wAll_of (List.mem_append_right _ (List.mem_of_getElem? (i := 1187) (by decide +kernel))) (by decide +kernel)
theorem qw_1188 : (Jvm.Cond.fieldLink "SkyStonesModel" (151 : Nat) "SkyStonesModel" "siteWay" "[I" : Cond) ∈ wAll := wAll_of (List.mem_append_right _ (List.mem_of_getElem? (i := 1188) (by decide +kernel))) (by decide +kernel)
theorem qw_1191 : (Jvm.Cond.fieldLink "SkyStonesModel" (154 : Nat) "SkyStonesModel" "waits" "[I" : Cond) ∈ wAll := wAll_of (List.mem_append_right _ (List.mem_of_getElem? (i := 1191) (by decide +kernel))) (by decide +kernel)
theorem qw_1194 : (Jvm.Cond.fieldLink "SkyStonesModel" (157 : Nat) "SkyStonesModel" "atEast" "[I" : Cond) ∈ wAll := wAll_of (List.mem_append_right _ (List.mem_of_getElem? (i := 1194) (by decide +kernel))) (by decide +kernel)
theorem qw_1195 : (Jvm.Cond.fieldLink "SkyStonesModel" (160 : Nat) "SkyStonesModel" "atNorth" "[I" : Cond) ∈ wAll := wAll_of (List.mem_append_right _ (List.mem_of_getElem? (i := 1195) (by decide +kernel))) (by decide +kernel)
theorem qw_1196 : (Jvm.Cond.fieldLink "SkyStonesModel" (163 : Nat) "SkyStonesModel" "years" "[I" : Cond) ∈ wAll := wAll_of (List.mem_append_right _ (List.mem_of_getElem? (i := 1196) (by decide +kernel))) (by decide +kernel)
theorem qw_1197 : (Jvm.Cond.fieldLink "SkyStonesModel" (166 : Nat) "SkyStonesModel" "isGone" "[Z" : Cond) ∈ wAll := wAll_of (List.mem_append_right _ (List.mem_of_getElem? (i := 1197) (by decide +kernel))) (by decide +kernel)
theorem qw_1198 : (Jvm.Cond.fieldLink "SkyStonesModel" (169 : Nat) "SkyStonesModel" "isLine" "[Z" : Cond) ∈ wAll := wAll_of (List.mem_append_right _ (List.mem_of_getElem? (i := 1198) (by decide +kernel))) (by decide +kernel)
theorem qw_1199 : (Jvm.Cond.fieldLink "SkyStonesModel" (172 : Nat) "SkyStonesModel" "lineDegree" "[I" : Cond) ∈ wAll := wAll_of (List.mem_append_right _ (List.mem_of_getElem? (i := 1199) (by decide +kernel))) (by decide +kernel)
theorem qw_1200 : (Jvm.Cond.fieldLink "SkyStonesModel" (175 : Nat) "SkyStonesModel" "lineFar" "[I" : Cond) ∈ wAll := wAll_of (List.mem_append_right _ (List.mem_of_getElem? (i := 1200) (by decide +kernel))) (by decide +kernel)
theorem qw_1201 : (Jvm.Cond.fieldLink "SkyStonesModel" (178 : Nat) "SkyStonesModel" "isCounted" "[Z" : Cond) ∈ wAll := wAll_of (List.mem_append_right _ (List.mem_of_getElem? (i := 1201) (by decide +kernel))) (by decide +kernel)
theorem qw_1202 : (Jvm.Cond.fieldLink "SkyStonesModel" (181 : Nat) "SkyStonesModel" "asked" "[I" : Cond) ∈ wAll := wAll_of (List.mem_append_right _ (List.mem_of_getElem? (i := 1202) (by decide +kernel))) (by decide +kernel)
theorem qw_1204 : (Jvm.Cond.fieldLink "SkyStonesModel" (184 : Nat) "SkyStonesModel" "stack" "[I" : Cond) ∈ wAll := wAll_of (List.mem_append_right _ (List.mem_of_getElem? (i := 1204) (by decide +kernel))) (by decide +kernel)
theorem qw_1205 : (Jvm.Cond.fieldLink "SkyStonesModel" (187 : Nat) "SkyStonesModel" "rises" "[I" : Cond) ∈ wAll := wAll_of (List.mem_append_right _ (List.mem_of_getElem? (i := 1205) (by decide +kernel))) (by decide +kernel)
theorem qw_1206 : (Jvm.Cond.fieldLink "SkyStonesModel" (190 : Nat) "SkyStonesModel" "most" "[I" : Cond) ∈ wAll := wAll_of (List.mem_append_right _ (List.mem_of_getElem? (i := 1206) (by decide +kernel))) (by decide +kernel)
theorem qw_1207 : (Jvm.Cond.fieldLink "SkyStonesModel" (193 : Nat) "SkyStonesModel" "joined" "[I" : Cond) ∈ wAll := wAll_of (List.mem_append_right _ (List.mem_of_getElem? (i := 1207) (by decide +kernel))) (by decide +kernel)
theorem qw_1208 : (Jvm.Cond.fieldLink "SkyStonesModel" (196 : Nat) "SkyStonesModel" "strikes" "[I" : Cond) ∈ wAll := wAll_of (List.mem_append_right _ (List.mem_of_getElem? (i := 1208) (by decide +kernel))) (by decide +kernel)
theorem qw_1209 : (Jvm.Cond.fieldLink "SkyStonesModel" (199 : Nat) "SkyStonesModel" "turnHits" "[I" : Cond) ∈ wAll := wAll_of (List.mem_append_right _ (List.mem_of_getElem? (i := 1209) (by decide +kernel))) (by decide +kernel)
theorem qw_1210 : (Jvm.Cond.fieldLink "SkyStonesModel" (202 : Nat) "SkyStonesModel" "atLeast" "[I" : Cond) ∈ wAll := wAll_of (List.mem_append_right _ (List.mem_of_getElem? (i := 1210) (by decide +kernel))) (by decide +kernel)
theorem qw_1211 : (Jvm.Cond.fieldLink "SkyStonesModel" (206 : Nat) "SkyStonesModel" "lineHits" "[I" : Cond) ∈ wAll := wAll_of (List.mem_append_right _ (List.mem_of_getElem? (i := 1211) (by decide +kernel))) (by decide +kernel)
theorem qw_1212 : (Jvm.Cond.fieldLink "SkyStonesModel" (209 : Nat) "SkyStonesModel" "hadHit" "[Z" : Cond) ∈ wAll := wAll_of (List.mem_append_right _ (List.mem_of_getElem? (i := 1212) (by decide +kernel))) (by decide +kernel)
theorem qw_1213 : (Jvm.Cond.fieldLink "SkyStonesModel" (212 : Nat) "SkyStonesModel" "madeEast" "[I" : Cond) ∈ wAll := wAll_of (List.mem_append_right _ (List.mem_of_getElem? (i := 1213) (by decide +kernel))) (by decide +kernel)
theorem qw_1214 : (Jvm.Cond.fieldLink "SkyStonesModel" (215 : Nat) "SkyStonesModel" "madeNorth" "[I" : Cond) ∈ wAll := wAll_of (List.mem_append_right _ (List.mem_of_getElem? (i := 1214) (by decide +kernel))) (by decide +kernel)
theorem qw_1134 : (Jvm.Cond.fieldLink "SkyStonesModel" (222 : Nat) "SkyStonesModel" "taped" "I" : Cond) ∈ wAll := wAll_of (List.mem_append_right _ (List.mem_of_getElem? (i := 1134) (by decide +kernel))) (by decide +kernel)
theorem qw_1136 : (Jvm.Cond.fieldLink "SkyStonesModel" (232 : Nat) "SkyStonesModel" "tokens" "I" : Cond) ∈ wAll := wAll_of (List.mem_append_right _ (List.mem_of_getElem? (i := 1136) (by decide +kernel))) (by decide +kernel)
theorem qw_1142 : (Jvm.Cond.fieldLink "SkyStonesModel" (302 : Nat) "SkyStonesModel" "fault" "I" : Cond) ∈ wAll := wAll_of (List.mem_append_right _ (List.mem_of_getElem? (i := 1142) (by decide +kernel))) (by decide +kernel)
theorem qw_1141 : (Jvm.Cond.fieldLink "SkyStonesModel" (305 : Nat) "SkyStonesModel" "head" "I" : Cond) ∈ wAll := wAll_of (List.mem_append_right _ (List.mem_of_getElem? (i := 1141) (by decide +kernel))) (by decide +kernel)
theorem qw_1144 : (Jvm.Cond.fieldLink "SkyStonesModel" (308 : Nat) "SkyStonesModel" "worst" "I" : Cond) ∈ wAll := wAll_of (List.mem_append_right _ (List.mem_of_getElem? (i := 1144) (by decide +kernel))) (by decide +kernel)
theorem qw_1145 : (Jvm.Cond.fieldLink "SkyStonesModel" (311 : Nat) "SkyStonesModel" "worstPlace" "I" : Cond) ∈ wAll := wAll_of (List.mem_append_right _ (List.mem_of_getElem? (i := 1145) (by decide +kernel))) (by decide +kernel)
theorem qw_1189 : (Jvm.Cond.fieldLink "SkyStonesModel" (324 : Nat) "SkyStonesModel" "valued" "I" : Cond) ∈ wAll := wAll_of (List.mem_append_right _ (List.mem_of_getElem? (i := 1189) (by decide +kernel))) (by decide +kernel)
theorem qw_1190 : (Jvm.Cond.fieldLink "SkyStonesModel" (331 : Nat) "SkyStonesModel" "waiting" "I" : Cond) ∈ wAll := wAll_of (List.mem_append_right _ (List.mem_of_getElem? (i := 1190) (by decide +kernel))) (by decide +kernel)
theorem qw_1192 : (Jvm.Cond.fieldLink "SkyStonesModel" (340 : Nat) "SkyStonesModel" "exprFrom" "I" : Cond) ∈ wAll := wAll_of (List.mem_append_right _ (List.mem_of_getElem? (i := 1192) (by decide +kernel))) (by decide +kernel)
theorem qw_1193 : (Jvm.Cond.fieldLink "SkyStonesModel" (355 : Nat) "SkyStonesModel" "condFrom" "I" : Cond) ∈ wAll := wAll_of (List.mem_append_right _ (List.mem_of_getElem? (i := 1193) (by decide +kernel))) (by decide +kernel)
theorem qw_1183 : (Jvm.Cond.fieldLink "SkyStonesModel" (364 : Nat) "SkyStonesModel" "names" "I" : Cond) ∈ wAll := wAll_of (List.mem_append_right _ (List.mem_of_getElem? (i := 1183) (by decide +kernel))) (by decide +kernel)
theorem qw_1203 : (Jvm.Cond.fieldLink "SkyStonesModel" (447 : Nat) "SkyStonesModel" "broken" "Z" : Cond) ∈ wAll := wAll_of (List.mem_append_right _ (List.mem_of_getElem? (i := 1203) (by decide +kernel))) (by decide +kernel)
theorem qw_1186 : (Jvm.Cond.fieldLink "SkyStonesModel" (513 : Nat) "SkyStonesModel" "sites" "I" : Cond) ∈ wAll := wAll_of (List.mem_append_right _ (List.mem_of_getElem? (i := 1186) (by decide +kernel))) (by decide +kernel)
