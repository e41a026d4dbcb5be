theorem lt31 : ∀ k, k < 31 → (k = 0 ∨ k = 1 ∨ k = 2 ∨ k = 3 ∨ k = 4 ∨ k = 5 ∨ k = 6 ∨ k = 7 ∨ k = 8 ∨ k = 9 ∨ k = 10 ∨ k = 11 ∨ k = 12 ∨ k = 13 ∨ k = 14 ∨ k = 15 ∨ k = 16 ∨ k = 17 ∨ k = 18 ∨ k = 19 ∨ k = 20 ∨ k = 21 ∨ k = 22 ∨ k = 23 ∨ k = 24 ∨ k = 25 ∨ k = 26 ∨ k = 27 ∨ k = 28 ∨ k = 29 ∨ k = 30) := by decide
set_option maxHeartbeats 8000000 in
theorem w_law_p1191 {z : LX} {res : Unit} {k18 : Mem → Mem → Nat → Nat → Int32 → Option Unit} (hk18 : ∀ (M1 M2 : Mem) (x1 : Nat) (x2 : Nat) (x3 : Int32), k18 M1 M2 x1 x2 x3 = some res → TL z M1 M2 [(0, .ref (lxB z)), (1, .ref x1), (2, .ref x2), (3, .int x3)] [] 18) : ∀ (M1 M2 : Mem) (x1 : Nat) (x2 : Nat) (x3 : Int32), F_law_p1191 (lxH z) (lxN z) (lxS z) k18 M1 M2 x1 x2 x3 = some res → TL z M1 M2 [(0, .ref (lxB z)), (1, .ref x1), (2, .ref x2), (3, .int x3)] [] 1191 := by
  intro M1 M2 x1 x2 x3 hF
  unfold F_law_p1191 at hF
  obtain ⟨v1, e9, hF⟩ := bnd_e hF
  refine l_iinc (pc := 1191) (w := v1) (k := 3) (L1 := [(3, .int v1), (0, .ref (lxB z)), (1, .ref x1), (2, .ref x2)]) dL_law_1191 rfl (by rw [e9]; rfl) (by decide) rfl ?_
  clear e9
  refine l_goto (pc := 1194) (tgt := 18) dL_law_1194 rfl ?_
  exact TL.sub (hk18 M1 M2 x1 x2 v1 hF) [1, 2, 3, 0] rfl
set_option maxHeartbeats 8000000 in
theorem w_law_p172 {z : LX} {res : Unit} {k18 : Mem → Mem → Nat → Nat → Int32 → Option Unit} (hk18 : ∀ (M1 M2 : Mem) (x1 : Nat) (x2 : Nat) (x3 : Int32), k18 M1 M2 x1 x2 x3 = some res → TL z M1 M2 [(0, .ref (lxB z)), (1, .ref x1), (2, .ref x2), (3, .int x3)] [] 18) : ∀ (M1 M2 : Mem) (x1 : Nat) (x2 : Nat) (x3 : Int32), F_law_p172 (lxH z) (lxN z) (lxS z) k18 M1 M2 x1 x2 x3 = some res → TL z M1 M2 [(0, .ref (lxB z)), (1, .ref x1), (2, .ref x2), (3, .int x3)] [] 172 := by
  intro M1 M2 x1 x2 x3 hF
  unfold F_law_p172 at hF
  refine l_aload_n (pc := 172) 1 dL_law_172 rfl rfl ?_
  refine l_aload_n (pc := 173) 0 dL_law_173 rfl rfl ?_
  refine l_iload_n (pc := 174) 3 dL_law_174 rfl rfl ?_
  refine l_iconst (pc := 175) (w := 1) dL_law_175 (by decide) ?_
  refine l_iadd (pc := 176) dL_law_176 ?_
  refine l_sld (pc := 177) dL_law_177 hF (fun hF => ?_)
  refine l_callV_I1 (pc := 178) (y := yX11_hours) (ci := 12) (Tb := TX11) (N := 11) (Py := P_X11_hours) (n := 1) (As := [.int (lxS z (ixn (x3 + (1 : Int32))))]) rfl (by decide) (fun q e => k_X11_hours (lxG z) M1 x1 (lxS z (ixn (x3 + (1 : Int32)))) q e) tw_315 tw_316 tw_317 tw_60 tw_318 hd_X11_hours ⟨Nat.le_of_ble_eq_true rfl, Nat.le_of_ble_eq_true rfl⟩ rfl rfl (Nat.le_of_ble_eq_true rfl) dL_law_178 hF (fun M1 M2 r3 hF => ?_)
  refine l_aload_n (pc := 181) 2 dL_law_181 rfl rfl ?_
  refine l_aload_n (pc := 182) 0 dL_law_182 rfl rfl ?_
  refine l_iload_n (pc := 183) 3 dL_law_183 rfl rfl ?_
  refine l_iconst (pc := 184) (w := 1) dL_law_184 (by decide) ?_
  refine l_iadd (pc := 185) dL_law_185 ?_
  refine l_sld (pc := 186) dL_law_186 hF (fun hF => ?_)
  refine l_callV_I2 (pc := 187) (y := yX12_hours) (ci := 13) (Tb := TX12) (N := 58) (Py := P_X12_hours) (n := 1) (As := [.int (lxS z (ixn (x3 + (1 : Int32))))]) rfl (by decide) (fun q e => k_X12_hours (lxG z) M2 x2 (lxS z (ixn (x3 + (1 : Int32)))) q e) tw_1262 tw_1263 tw_1264 tw_70 tw_1265 hd_X12_hours ⟨Nat.le_of_ble_eq_true rfl, Nat.le_of_ble_eq_true rfl⟩ rfl rfl (Nat.le_of_ble_eq_true rfl) dL_law_187 hF (fun M5 M4 r6 hF => ?_)
  refine l_icmp_eq (pc := 190) (tgt := 1191) dL_law_190 rfl hF (fun hF => ?_) (fun hF => ?_)
  · exact TL.sub ((w_law_p1191 hk18) M4 M5 x1 x2 x3 hF) [0, 1, 2, 3] rfl
  · refine l_iconst (pc := 193) (w := 0) dL_law_193 (by decide) ?_
    cases hF
set_option maxHeartbeats 8000000 in
theorem w_law_p195 {z : LX} {res : Unit} {k18 : Mem → Mem → Nat → Nat → Int32 → Option Unit} (hk18 : ∀ (M1 M2 : Mem) (x1 : Nat) (x2 : Nat) (x3 : Int32), k18 M1 M2 x1 x2 x3 = some res → TL z M1 M2 [(0, .ref (lxB z)), (1, .ref x1), (2, .ref x2), (3, .int x3)] [] 18) : ∀ (M1 M2 : Mem) (x1 : Nat) (x2 : Nat) (x3 : Int32), F_law_p195 (lxH z) (lxN z) (lxS z) k18 M1 M2 x1 x2 x3 = some res → TL z M1 M2 [(0, .ref (lxB z)), (1, .ref x1), (2, .ref x2), (3, .int x3)] [] 195 := by
  intro M1 M2 x1 x2 x3 hF
  unfold F_law_p195 at hF
  refine l_aload_n (pc := 195) 1 dL_law_195 rfl rfl ?_
  refine l_aload_n (pc := 196) 0 dL_law_196 rfl rfl ?_
  refine l_iload_n (pc := 197) 3 dL_law_197 rfl rfl ?_
  refine l_iconst (pc := 198) (w := 1) dL_law_198 (by decide) ?_
  refine l_iadd (pc := 199) dL_law_199 ?_
  refine l_sld (pc := 200) dL_law_200 hF (fun hF => ?_)
  refine l_aload_n (pc := 201) 0 dL_law_201 rfl rfl ?_
  refine l_iload_n (pc := 202) 3 dL_law_202 rfl rfl ?_
  refine l_iconst (pc := 203) (w := 2) dL_law_203 (by decide) ?_
  refine l_iadd (pc := 204) dL_law_204 ?_
  refine l_sld (pc := 205) dL_law_205 hF (fun hF => ?_)
  refine l_aload_n (pc := 206) 0 dL_law_206 rfl rfl ?_
  refine l_iload_n (pc := 207) 3 dL_law_207 rfl rfl ?_
  refine l_iconst (pc := 208) (w := 3) dL_law_208 (by decide) ?_
  refine l_iadd (pc := 209) dL_law_209 ?_
  refine l_sld (pc := 210) dL_law_210 hF (fun hF => ?_)
  refine l_aload_n (pc := 211) 0 dL_law_211 rfl rfl ?_
  refine l_iload_n (pc := 212) 3 dL_law_212 rfl rfl ?_
  refine l_iconst (pc := 213) (w := 4) dL_law_213 (by decide) ?_
  refine l_iadd (pc := 214) dL_law_214 ?_
  refine l_sld (pc := 215) dL_law_215 hF (fun hF => ?_)
  refine l_aload_n (pc := 216) 0 dL_law_216 rfl rfl ?_
  refine l_iload_n (pc := 217) 3 dL_law_217 rfl rfl ?_
  refine l_iconst (pc := 218) (w := 5) dL_law_218 (by decide) ?_
  refine l_iadd (pc := 219) dL_law_219 ?_
  refine l_sld (pc := 220) dL_law_220 hF (fun hF => ?_)
  refine l_callV_I1 (pc := 221) (y := yX11_bore) (ci := 12) (Tb := TX11) (N := 11) (Py := P_X11_bore) (n := 5) (As := [.int (lxS z (ixn (x3 + (1 : Int32)))), .int (lxS z (ixn (x3 + (2 : Int32)))), .int (lxS z (ixn (x3 + (3 : Int32)))), .int (lxS z (ixn (x3 + (4 : Int32)))), .int (lxS z (ixn (x3 + (5 : Int32))))]) rfl (by decide) (fun q e => k_X11_bore (lxG z) M1 x1 (lxS z (ixn (x3 + (1 : Int32)))) (lxS z (ixn (x3 + (2 : Int32)))) (lxS z (ixn (x3 + (3 : Int32)))) (lxS z (ixn (x3 + (4 : Int32)))) (lxS z (ixn (x3 + (5 : Int32)))) q e) tw_466 tw_467 tw_468 tw_60 tw_469 hd_X11_bore ⟨Nat.le_of_ble_eq_true rfl, Nat.le_of_ble_eq_true rfl⟩ rfl rfl (Nat.le_of_ble_eq_true rfl) dL_law_221 hF (fun M1 M2 r3 hF => ?_)
  refine l_aload_n (pc := 224) 2 dL_law_224 rfl rfl ?_
  refine l_aload_n (pc := 225) 0 dL_law_225 rfl rfl ?_
  refine l_iload_n (pc := 226) 3 dL_law_226 rfl rfl ?_
  refine l_iconst (pc := 227) (w := 1) dL_law_227 (by decide) ?_
  refine l_iadd (pc := 228) dL_law_228 ?_
  refine l_sld (pc := 229) dL_law_229 hF (fun hF => ?_)
  refine l_aload_n (pc := 230) 0 dL_law_230 rfl rfl ?_
  refine l_iload_n (pc := 231) 3 dL_law_231 rfl rfl ?_
  refine l_iconst (pc := 232) (w := 2) dL_law_232 (by decide) ?_
  refine l_iadd (pc := 233) dL_law_233 ?_
  refine l_sld (pc := 234) dL_law_234 hF (fun hF => ?_)
  refine l_aload_n (pc := 235) 0 dL_law_235 rfl rfl ?_
  refine l_iload_n (pc := 236) 3 dL_law_236 rfl rfl ?_
  refine l_iconst (pc := 237) (w := 3) dL_law_237 (by decide) ?_
  refine l_iadd (pc := 238) dL_law_238 ?_
  refine l_sld (pc := 239) dL_law_239 hF (fun hF => ?_)
  refine l_aload_n (pc := 240) 0 dL_law_240 rfl rfl ?_
  refine l_iload_n (pc := 241) 3 dL_law_241 rfl rfl ?_
  refine l_iconst (pc := 242) (w := 4) dL_law_242 (by decide) ?_
  refine l_iadd (pc := 243) dL_law_243 ?_
  refine l_sld (pc := 244) dL_law_244 hF (fun hF => ?_)
  refine l_aload_n (pc := 245) 0 dL_law_245 rfl rfl ?_
  refine l_iload_n (pc := 246) 3 dL_law_246 rfl rfl ?_
  refine l_iconst (pc := 247) (w := 5) dL_law_247 (by decide) ?_
  refine l_iadd (pc := 248) dL_law_248 ?_
  refine l_sld (pc := 249) dL_law_249 hF (fun hF => ?_)
  refine l_callV_I2 (pc := 250) (y := yX12_bore) (ci := 13) (Tb := TX12) (N := 58) (Py := P_X12_bore) (n := 5) (As := [.int (lxS z (ixn (x3 + (1 : Int32)))), .int (lxS z (ixn (x3 + (2 : Int32)))), .int (lxS z (ixn (x3 + (3 : Int32)))), .int (lxS z (ixn (x3 + (4 : Int32)))), .int (lxS z (ixn (x3 + (5 : Int32))))]) rfl (by decide) (fun q e => k_X12_bore (lxG z) M2 x2 (lxS z (ixn (x3 + (1 : Int32)))) (lxS z (ixn (x3 + (2 : Int32)))) (lxS z (ixn (x3 + (3 : Int32)))) (lxS z (ixn (x3 + (4 : Int32)))) (lxS z (ixn (x3 + (5 : Int32)))) q e) tw_1330 tw_1331 tw_1332 tw_70 tw_1333 hd_X12_bore ⟨Nat.le_of_ble_eq_true rfl, Nat.le_of_ble_eq_true rfl⟩ rfl rfl (Nat.le_of_ble_eq_true rfl) dL_law_250 hF (fun M5 M4 r6 hF => ?_)
  refine l_icmp_eq (pc := 253) (tgt := 1191) dL_law_253 rfl hF (fun hF => ?_) (fun hF => ?_)
  · exact TL.sub ((w_law_p1191 hk18) M4 M5 x1 x2 x3 hF) [0, 1, 2, 3] rfl
  · refine l_iconst (pc := 256) (w := 0) dL_law_256 (by decide) ?_
    cases hF
set_option maxHeartbeats 8000000 in
theorem w_law_p258 {z : LX} {res : Unit} {k18 : Mem → Mem → Nat → Nat → Int32 → Option Unit} (hk18 : ∀ (M1 M2 : Mem) (x1 : Nat) (x2 : Nat) (x3 : Int32), k18 M1 M2 x1 x2 x3 = some res → TL z M1 M2 [(0, .ref (lxB z)), (1, .ref x1), (2, .ref x2), (3, .int x3)] [] 18) : ∀ (M1 M2 : Mem) (x1 : Nat) (x2 : Nat) (x3 : Int32), F_law_p258 (lxH z) (lxN z) (lxS z) k18 M1 M2 x1 x2 x3 = some res → TL z M1 M2 [(0, .ref (lxB z)), (1, .ref x1), (2, .ref x2), (3, .int x3)] [] 258 := by
  intro M1 M2 x1 x2 x3 hF
  unfold F_law_p258 at hF
  refine l_aload_n (pc := 258) 1 dL_law_258 rfl rfl ?_
  refine l_aload_n (pc := 259) 0 dL_law_259 rfl rfl ?_
  refine l_iload_n (pc := 260) 3 dL_law_260 rfl rfl ?_
  refine l_iconst (pc := 261) (w := 1) dL_law_261 (by decide) ?_
  refine l_iadd (pc := 262) dL_law_262 ?_
  refine l_sld (pc := 263) dL_law_263 hF (fun hF => ?_)
  refine l_aload_n (pc := 264) 0 dL_law_264 rfl rfl ?_
  refine l_iload_n (pc := 265) 3 dL_law_265 rfl rfl ?_
  refine l_iconst (pc := 266) (w := 2) dL_law_266 (by decide) ?_
  refine l_iadd (pc := 267) dL_law_267 ?_
  refine l_sld (pc := 268) dL_law_268 hF (fun hF => ?_)
  refine l_aload_n (pc := 269) 0 dL_law_269 rfl rfl ?_
  refine l_iload_n (pc := 270) 3 dL_law_270 rfl rfl ?_
  refine l_iconst (pc := 271) (w := 3) dL_law_271 (by decide) ?_
  refine l_iadd (pc := 272) dL_law_272 ?_
  refine l_sld (pc := 273) dL_law_273 hF (fun hF => ?_)
  refine l_callV_I1 (pc := 274) (y := yX11_soil) (ci := 12) (Tb := TX11) (N := 11) (Py := P_X11_soil) (n := 3) (As := [.int (lxS z (ixn (x3 + (1 : Int32)))), .int (lxS z (ixn (x3 + (2 : Int32)))), .int (lxS z (ixn (x3 + (3 : Int32))))]) rfl (by decide) (fun q e => k_X11_soil (lxG z) M1 x1 (lxS z (ixn (x3 + (1 : Int32)))) (lxS z (ixn (x3 + (2 : Int32)))) (lxS z (ixn (x3 + (3 : Int32)))) q e) tw_620 tw_621 tw_622 tw_60 tw_623 hd_X11_soil ⟨Nat.le_of_ble_eq_true rfl, Nat.le_of_ble_eq_true rfl⟩ rfl rfl (Nat.le_of_ble_eq_true rfl) dL_law_274 hF (fun M1 M2 r3 hF => ?_)
  refine l_aload_n (pc := 277) 2 dL_law_277 rfl rfl ?_
  refine l_aload_n (pc := 278) 0 dL_law_278 rfl rfl ?_
  refine l_iload_n (pc := 279) 3 dL_law_279 rfl rfl ?_
  refine l_iconst (pc := 280) (w := 1) dL_law_280 (by decide) ?_
  refine l_iadd (pc := 281) dL_law_281 ?_
  refine l_sld (pc := 282) dL_law_282 hF (fun hF => ?_)
  refine l_aload_n (pc := 283) 0 dL_law_283 rfl rfl ?_
  refine l_iload_n (pc := 284) 3 dL_law_284 rfl rfl ?_
  refine l_iconst (pc := 285) (w := 2) dL_law_285 (by decide) ?_
  refine l_iadd (pc := 286) dL_law_286 ?_
  refine l_sld (pc := 287) dL_law_287 hF (fun hF => ?_)
  refine l_aload_n (pc := 288) 0 dL_law_288 rfl rfl ?_
  refine l_iload_n (pc := 289) 3 dL_law_289 rfl rfl ?_
  refine l_iconst (pc := 290) (w := 3) dL_law_290 (by decide) ?_
  refine l_iadd (pc := 291) dL_law_291 ?_
  refine l_sld (pc := 292) dL_law_292 hF (fun hF => ?_)
  refine l_callV_I2 (pc := 293) (y := yX12_soil) (ci := 13) (Tb := TX12) (N := 58) (Py := P_X12_soil) (n := 3) (As := [.int (lxS z (ixn (x3 + (1 : Int32)))), .int (lxS z (ixn (x3 + (2 : Int32)))), .int (lxS z (ixn (x3 + (3 : Int32))))]) rfl (by decide) (fun q e => k_X12_soil (lxG z) M2 x2 (lxS z (ixn (x3 + (1 : Int32)))) (lxS z (ixn (x3 + (2 : Int32)))) (lxS z (ixn (x3 + (3 : Int32)))) q e) tw_1334 tw_1335 tw_1336 tw_70 tw_1337 hd_X12_soil ⟨Nat.le_of_ble_eq_true rfl, Nat.le_of_ble_eq_true rfl⟩ rfl rfl (Nat.le_of_ble_eq_true rfl) dL_law_293 hF (fun M5 M4 r6 hF => ?_)
  refine l_icmp_eq (pc := 296) (tgt := 1191) dL_law_296 rfl hF (fun hF => ?_) (fun hF => ?_)
  · exact TL.sub ((w_law_p1191 hk18) M4 M5 x1 x2 x3 hF) [0, 1, 2, 3] rfl
  · refine l_iconst (pc := 299) (w := 0) dL_law_299 (by decide) ?_
    cases hF
set_option maxHeartbeats 8000000 in
theorem w_law_p301 {z : LX} {res : Unit} {k18 : Mem → Mem → Nat → Nat → Int32 → Option Unit} (hk18 : ∀ (M1 M2 : Mem) (x1 : Nat) (x2 : Nat) (x3 : Int32), k18 M1 M2 x1 x2 x3 = some res → TL z M1 M2 [(0, .ref (lxB z)), (1, .ref x1), (2, .ref x2), (3, .int x3)] [] 18) : ∀ (M1 M2 : Mem) (x1 : Nat) (x2 : Nat) (x3 : Int32), F_law_p301 (lxH z) (lxN z) (lxS z) k18 M1 M2 x1 x2 x3 = some res → TL z M1 M2 [(0, .ref (lxB z)), (1, .ref x1), (2, .ref x2), (3, .int x3)] [] 301 := by
  intro M1 M2 x1 x2 x3 hF
  unfold F_law_p301 at hF
  refine l_aload_n (pc := 301) 1 dL_law_301 rfl rfl ?_
  refine l_aload_n (pc := 302) 0 dL_law_302 rfl rfl ?_
  refine l_iload_n (pc := 303) 3 dL_law_303 rfl rfl ?_
  refine l_iconst (pc := 304) (w := 1) dL_law_304 (by decide) ?_
  refine l_iadd (pc := 305) dL_law_305 ?_
  refine l_sld (pc := 306) dL_law_306 hF (fun hF => ?_)
  refine l_callV_I1 (pc := 307) (y := yX11_share) (ci := 12) (Tb := TX11) (N := 11) (Py := P_X11_share) (n := 1) (As := [.int (lxS z (ixn (x3 + (1 : Int32))))]) rfl (by decide) (fun q e => k_X11_share (lxG z) M1 x1 (lxS z (ixn (x3 + (1 : Int32)))) q e) tw_628 tw_629 tw_630 tw_60 tw_631 hd_X11_share ⟨Nat.le_of_ble_eq_true rfl, Nat.le_of_ble_eq_true rfl⟩ rfl rfl (Nat.le_of_ble_eq_true rfl) dL_law_307 hF (fun M1 M2 r3 hF => ?_)
  refine l_aload_n (pc := 310) 2 dL_law_310 rfl rfl ?_
  refine l_aload_n (pc := 311) 0 dL_law_311 rfl rfl ?_
  refine l_iload_n (pc := 312) 3 dL_law_312 rfl rfl ?_
  refine l_iconst (pc := 313) (w := 1) dL_law_313 (by decide) ?_
  refine l_iadd (pc := 314) dL_law_314 ?_
  refine l_sld (pc := 315) dL_law_315 hF (fun hF => ?_)
  refine l_callV_I2 (pc := 316) (y := yX12_share) (ci := 13) (Tb := TX12) (N := 58) (Py := P_X12_share) (n := 1) (As := [.int (lxS z (ixn (x3 + (1 : Int32))))]) rfl (by decide) (fun q e => k_X12_share (lxG z) M2 x2 (lxS z (ixn (x3 + (1 : Int32)))) q e) tw_1345 tw_1346 tw_1347 tw_70 tw_1348 hd_X12_share ⟨Nat.le_of_ble_eq_true rfl, Nat.le_of_ble_eq_true rfl⟩ rfl rfl (Nat.le_of_ble_eq_true rfl) dL_law_316 hF (fun M5 M4 r6 hF => ?_)
  refine l_icmp_eq (pc := 319) (tgt := 1191) dL_law_319 rfl hF (fun hF => ?_) (fun hF => ?_)
  · exact TL.sub ((w_law_p1191 hk18) M4 M5 x1 x2 x3 hF) [0, 1, 2, 3] rfl
  · refine l_iconst (pc := 322) (w := 0) dL_law_322 (by decide) ?_
    cases hF
set_option maxHeartbeats 8000000 in
theorem w_law_p365 {z : LX} {res : Unit} {k18 : Mem → Mem → Nat → Nat → Int32 → Option Unit} (hk18 : ∀ (M1 M2 : Mem) (x1 : Nat) (x2 : Nat) (x3 : Int32), k18 M1 M2 x1 x2 x3 = some res → TL z M1 M2 [(0, .ref (lxB z)), (1, .ref x1), (2, .ref x2), (3, .int x3)] [] 18) : ∀ (M1 M2 : Mem) (x1 : Nat) (x2 : Nat) (x3 : Int32) (y0 : Int32) (y1 : Nat) (y2 : Int32) (y3 : Int32), F_law_p365 (lxH z) (lxN z) (lxS z) k18 M1 M2 x1 x2 x3 y0 y1 y2 y3 = some res → TL z M1 M2 [(0, .ref (lxB z)), (1, .ref x1), (2, .ref x2), (3, .int x3)] [.int y3, .int y2, .ref y1, .int y0] 365 := by
  intro M1 M2 x1 x2 x3 y0 y1 y2 y3 hF
  unfold F_law_p365 at hF
  refine l_callV_I2 (pc := 365) (y := yX12_open) (ci := 13) (Tb := TX12) (N := 58) (Py := P_X12_open) (n := 2) (As := [.int y2, .int y3]) rfl (by decide) (fun q e => k_X12_open (lxG z) M2 y1 y2 y3 q e) tw_1349 tw_1350 tw_1351 tw_70 tw_1352 hd_X12_open ⟨Nat.le_of_ble_eq_true rfl, Nat.le_of_ble_eq_true rfl⟩ rfl rfl (Nat.le_of_ble_eq_true rfl) dL_law_365 hF (fun M2 M1 r3 hF => ?_)
  refine l_icmp_eq (pc := 368) (tgt := 1191) dL_law_368 rfl hF (fun hF => ?_) (fun hF => ?_)
  · exact TL.sub ((w_law_p1191 hk18) M1 M2 x1 x2 x3 hF) [0, 1, 2, 3] rfl
  · refine l_iconst (pc := 371) (w := 0) dL_law_371 (by decide) ?_
    cases hF
set_option maxHeartbeats 8000000 in
theorem w_law_p343 {z : LX} {res : Unit} {k18 : Mem → Mem → Nat → Nat → Int32 → Option Unit} (hk18 : ∀ (M1 M2 : Mem) (x1 : Nat) (x2 : Nat) (x3 : Int32), k18 M1 M2 x1 x2 x3 = some res → TL z M1 M2 [(0, .ref (lxB z)), (1, .ref x1), (2, .ref x2), (3, .int x3)] [] 18) : ∀ (M1 M2 : Mem) (x1 : Nat) (x2 : Nat) (x3 : Int32) (y0 : Nat) (y1 : Int32) (y2 : Int32), F_law_p343 (lxH z) (lxN z) (lxS z) k18 M1 M2 x1 x2 x3 y0 y1 y2 = some res → TL z M1 M2 [(0, .ref (lxB z)), (1, .ref x1), (2, .ref x2), (3, .int x3)] [.int y2, .int y1, .ref y0] 343 := by
  intro M1 M2 x1 x2 x3 y0 y1 y2 hF
  unfold F_law_p343 at hF
  refine l_callV_I1 (pc := 343) (y := yX11_open) (ci := 12) (Tb := TX11) (N := 11) (Py := P_X11_open) (n := 2) (As := [.int y1, .int y2]) rfl (by decide) (fun q e => k_X11_open (lxG z) M1 y0 y1 y2 q e) tw_632 tw_633 tw_634 tw_60 tw_635 hd_X11_open ⟨Nat.le_of_ble_eq_true rfl, Nat.le_of_ble_eq_true rfl⟩ rfl rfl (Nat.le_of_ble_eq_true rfl) dL_law_343 hF (fun M1 M2 r3 hF => ?_)
  refine l_aload_n (pc := 346) 2 dL_law_346 rfl rfl ?_
  refine l_aload_n (pc := 347) 0 dL_law_347 rfl rfl ?_
  refine l_iload_n (pc := 348) 3 dL_law_348 rfl rfl ?_
  refine l_iconst (pc := 349) (w := 1) dL_law_349 (by decide) ?_
  refine l_iadd (pc := 350) dL_law_350 ?_
  refine l_sld (pc := 351) dL_law_351 hF (fun hF => ?_)
  refine l_aload_n (pc := 352) 0 dL_law_352 rfl rfl ?_
  refine l_iload_n (pc := 353) 3 dL_law_353 rfl rfl ?_
  refine l_iconst (pc := 354) (w := 2) dL_law_354 (by decide) ?_
  refine l_iadd (pc := 355) dL_law_355 ?_
  refine l_sld (pc := 356) dL_law_356 hF (fun hF => ?_)
  refine l_if_eq (pc := 357) (tgt := 364) dL_law_357 rfl hF (fun hF => ?_) (fun hF => ?_)
  · refine l_iconst (pc := 364) (w := 0) dL_law_364 (by decide) ?_
    exact TL.sub ((w_law_p365 hk18) M1 M2 x1 x2 x3 r3 x2 (lxS z (ixn (x3 + (1 : Int32)))) (0 : Int32) hF) [0, 1, 2, 3] rfl
  · refine l_iconst (pc := 360) (w := 1) dL_law_360 (by decide) ?_
    refine l_goto (pc := 361) (tgt := 365) dL_law_361 rfl ?_
    exact TL.sub ((w_law_p365 hk18) M1 M2 x1 x2 x3 r3 x2 (lxS z (ixn (x3 + (1 : Int32)))) (1 : Int32) hF) [0, 1, 2, 3] rfl
set_option maxHeartbeats 8000000 in
theorem w_law_p324 {z : LX} {res : Unit} {k18 : Mem → Mem → Nat → Nat → Int32 → Option Unit} (hk18 : ∀ (M1 M2 : Mem) (x1 : Nat) (x2 : Nat) (x3 : Int32), k18 M1 M2 x1 x2 x3 = some res → TL z M1 M2 [(0, .ref (lxB z)), (1, .ref x1), (2, .ref x2), (3, .int x3)] [] 18) : ∀ (M1 M2 : Mem) (x1 : Nat) (x2 : Nat) (x3 : Int32), F_law_p324 (lxH z) (lxN z) (lxS z) k18 M1 M2 x1 x2 x3 = some res → TL z M1 M2 [(0, .ref (lxB z)), (1, .ref x1), (2, .ref x2), (3, .int x3)] [] 324 := by
  intro M1 M2 x1 x2 x3 hF
  unfold F_law_p324 at hF
  refine l_aload_n (pc := 324) 1 dL_law_324 rfl rfl ?_
  refine l_aload_n (pc := 325) 0 dL_law_325 rfl rfl ?_
  refine l_iload_n (pc := 326) 3 dL_law_326 rfl rfl ?_
  refine l_iconst (pc := 327) (w := 1) dL_law_327 (by decide) ?_
  refine l_iadd (pc := 328) dL_law_328 ?_
  refine l_sld (pc := 329) dL_law_329 hF (fun hF => ?_)
  refine l_aload_n (pc := 330) 0 dL_law_330 rfl rfl ?_
  refine l_iload_n (pc := 331) 3 dL_law_331 rfl rfl ?_
  refine l_iconst (pc := 332) (w := 2) dL_law_332 (by decide) ?_
  refine l_iadd (pc := 333) dL_law_333 ?_
  refine l_sld (pc := 334) dL_law_334 hF (fun hF => ?_)
  refine l_if_eq (pc := 335) (tgt := 342) dL_law_335 rfl hF (fun hF => ?_) (fun hF => ?_)
  · refine l_iconst (pc := 342) (w := 0) dL_law_342 (by decide) ?_
    exact TL.sub ((w_law_p343 hk18) M1 M2 x1 x2 x3 x1 (lxS z (ixn (x3 + (1 : Int32)))) (0 : Int32) hF) [0, 1, 2, 3] rfl
  · refine l_iconst (pc := 338) (w := 1) dL_law_338 (by decide) ?_
    refine l_goto (pc := 339) (tgt := 343) dL_law_339 rfl ?_
    exact TL.sub ((w_law_p343 hk18) M1 M2 x1 x2 x3 x1 (lxS z (ixn (x3 + (1 : Int32)))) (1 : Int32) hF) [0, 1, 2, 3] rfl
set_option maxHeartbeats 8000000 in
theorem w_law_p373 {z : LX} {res : Unit} {k18 : Mem → Mem → Nat → Nat → Int32 → Option Unit} (hk18 : ∀ (M1 M2 : Mem) (x1 : Nat) (x2 : Nat) (x3 : Int32), k18 M1 M2 x1 x2 x3 = some res → TL z M1 M2 [(0, .ref (lxB z)), (1, .ref x1), (2, .ref x2), (3, .int x3)] [] 18) : ∀ (M1 M2 : Mem) (x1 : Nat) (x2 : Nat) (x3 : Int32), F_law_p373 (lxH z) (lxN z) (lxS z) k18 M1 M2 x1 x2 x3 = some res → TL z M1 M2 [(0, .ref (lxB z)), (1, .ref x1), (2, .ref x2), (3, .int x3)] [] 373 := by
  intro M1 M2 x1 x2 x3 hF
  unfold F_law_p373 at hF
  refine l_aload_n (pc := 373) 1 dL_law_373 rfl rfl ?_
  refine l_aload_n (pc := 374) 0 dL_law_374 rfl rfl ?_
  refine l_iload_n (pc := 375) 3 dL_law_375 rfl rfl ?_
  refine l_iconst (pc := 376) (w := 1) dL_law_376 (by decide) ?_
  refine l_iadd (pc := 377) dL_law_377 ?_
  refine l_sld (pc := 378) dL_law_378 hF (fun hF => ?_)
  refine l_aload_n (pc := 379) 0 dL_law_379 rfl rfl ?_
  refine l_iload_n (pc := 380) 3 dL_law_380 rfl rfl ?_
  refine l_iconst (pc := 381) (w := 2) dL_law_381 (by decide) ?_
  refine l_iadd (pc := 382) dL_law_382 ?_
  refine l_sld (pc := 383) dL_law_383 hF (fun hF => ?_)
  refine l_callV_J1 (pc := 384) (y := yX11_heat) (ci := 12) (Tb := TX11) (N := 11) (Py := P_X11_heat) (n := 2) (As := [.int (lxS z (ixn (x3 + (1 : Int32)))), .int (lxS z (ixn (x3 + (2 : Int32))))]) rfl (by decide) (fun q e => k_X11_heat (lxG z) M1 x1 (lxS z (ixn (x3 + (1 : Int32)))) (lxS z (ixn (x3 + (2 : Int32)))) q e) tw_636 tw_637 tw_638 tw_60 tw_639 hd_X11_heat ⟨Nat.le_of_ble_eq_true rfl, Nat.le_of_ble_eq_true rfl⟩ rfl rfl (Nat.le_of_ble_eq_true rfl) dL_law_384 hF (fun M1 M2 r3 hF => ?_)
  refine l_aload_n (pc := 387) 2 dL_law_387 rfl rfl ?_
  refine l_aload_n (pc := 388) 0 dL_law_388 rfl rfl ?_
  refine l_iload_n (pc := 389) 3 dL_law_389 rfl rfl ?_
  refine l_iconst (pc := 390) (w := 1) dL_law_390 (by decide) ?_
  refine l_iadd (pc := 391) dL_law_391 ?_
  refine l_sld (pc := 392) dL_law_392 hF (fun hF => ?_)
  refine l_aload_n (pc := 393) 0 dL_law_393 rfl rfl ?_
  refine l_iload_n (pc := 394) 3 dL_law_394 rfl rfl ?_
  refine l_iconst (pc := 395) (w := 2) dL_law_395 (by decide) ?_
  refine l_iadd (pc := 396) dL_law_396 ?_
  refine l_sld (pc := 397) dL_law_397 hF (fun hF => ?_)
  refine l_callV_J2 (pc := 398) (y := yX12_heat) (ci := 13) (Tb := TX12) (N := 58) (Py := P_X12_heat) (n := 2) (As := [.int (lxS z (ixn (x3 + (1 : Int32)))), .int (lxS z (ixn (x3 + (2 : Int32))))]) rfl (by decide) (fun q e => k_X12_heat (lxG z) M2 x2 (lxS z (ixn (x3 + (1 : Int32)))) (lxS z (ixn (x3 + (2 : Int32)))) q e) tw_1353 tw_1354 tw_1355 tw_70 tw_1356 hd_X12_heat ⟨Nat.le_of_ble_eq_true rfl, Nat.le_of_ble_eq_true rfl⟩ rfl rfl (Nat.le_of_ble_eq_true rfl) dL_law_398 hF (fun M5 M4 r6 hF => ?_)
  refine l_lcmp (pc := 401) dL_law_401 ?_
  refine l_if_eq (pc := 402) (tgt := 1191) dL_law_402 rfl hF (fun hF => ?_) (fun hF => ?_)
  · exact TL.sub ((w_law_p1191 hk18) M4 M5 x1 x2 x3 hF) [0, 1, 2, 3] rfl
  · refine l_iconst (pc := 405) (w := 0) dL_law_405 (by decide) ?_
    cases hF
set_option maxHeartbeats 8000000 in
theorem w_law_p407 {z : LX} {res : Unit} {k18 : Mem → Mem → Nat → Nat → Int32 → Option Unit} (hk18 : ∀ (M1 M2 : Mem) (x1 : Nat) (x2 : Nat) (x3 : Int32), k18 M1 M2 x1 x2 x3 = some res → TL z M1 M2 [(0, .ref (lxB z)), (1, .ref x1), (2, .ref x2), (3, .int x3)] [] 18) : ∀ (M1 M2 : Mem) (x1 : Nat) (x2 : Nat) (x3 : Int32), F_law_p407 (lxH z) (lxN z) (lxS z) k18 M1 M2 x1 x2 x3 = some res → TL z M1 M2 [(0, .ref (lxB z)), (1, .ref x1), (2, .ref x2), (3, .int x3)] [] 407 := by
  intro M1 M2 x1 x2 x3 hF
  unfold F_law_p407 at hF
  refine l_aload_n (pc := 407) 1 dL_law_407 rfl rfl ?_
  refine l_aload_n (pc := 408) 0 dL_law_408 rfl rfl ?_
  refine l_iload_n (pc := 409) 3 dL_law_409 rfl rfl ?_
  refine l_iconst (pc := 410) (w := 1) dL_law_410 (by decide) ?_
  refine l_iadd (pc := 411) dL_law_411 ?_
  refine l_sld (pc := 412) dL_law_412 hF (fun hF => ?_)
  refine l_aload_n (pc := 413) 0 dL_law_413 rfl rfl ?_
  refine l_iload_n (pc := 414) 3 dL_law_414 rfl rfl ?_
  refine l_iconst (pc := 415) (w := 2) dL_law_415 (by decide) ?_
  refine l_iadd (pc := 416) dL_law_416 ?_
  refine l_sld (pc := 417) dL_law_417 hF (fun hF => ?_)
  refine l_callV_J1 (pc := 418) (y := yX11_warmth) (ci := 12) (Tb := TX11) (N := 11) (Py := P_X11_warmth) (n := 2) (As := [.int (lxS z (ixn (x3 + (1 : Int32)))), .int (lxS z (ixn (x3 + (2 : Int32))))]) rfl (by decide) (fun q e => k_X11_warmth (lxG z) M1 x1 (lxS z (ixn (x3 + (1 : Int32)))) (lxS z (ixn (x3 + (2 : Int32)))) q e) tw_651 tw_652 tw_653 tw_60 tw_654 hd_X11_warmth ⟨Nat.le_of_ble_eq_true rfl, Nat.le_of_ble_eq_true rfl⟩ rfl rfl (Nat.le_of_ble_eq_true rfl) dL_law_418 hF (fun M1 M2 r3 hF => ?_)
  refine l_aload_n (pc := 421) 2 dL_law_421 rfl rfl ?_
  refine l_aload_n (pc := 422) 0 dL_law_422 rfl rfl ?_
  refine l_iload_n (pc := 423) 3 dL_law_423 rfl rfl ?_
  refine l_iconst (pc := 424) (w := 1) dL_law_424 (by decide) ?_
  refine l_iadd (pc := 425) dL_law_425 ?_
  refine l_sld (pc := 426) dL_law_426 hF (fun hF => ?_)
  refine l_aload_n (pc := 427) 0 dL_law_427 rfl rfl ?_
  refine l_iload_n (pc := 428) 3 dL_law_428 rfl rfl ?_
  refine l_iconst (pc := 429) (w := 2) dL_law_429 (by decide) ?_
  refine l_iadd (pc := 430) dL_law_430 ?_
  refine l_sld (pc := 431) dL_law_431 hF (fun hF => ?_)
  refine l_callV_J2 (pc := 432) (y := yX12_warmth) (ci := 13) (Tb := TX12) (N := 58) (Py := P_X12_warmth) (n := 2) (As := [.int (lxS z (ixn (x3 + (1 : Int32)))), .int (lxS z (ixn (x3 + (2 : Int32))))]) rfl (by decide) (fun q e => k_X12_warmth (lxG z) M2 x2 (lxS z (ixn (x3 + (1 : Int32)))) (lxS z (ixn (x3 + (2 : Int32)))) q e) tw_1366 tw_1367 tw_1368 tw_70 tw_1369 hd_X12_warmth ⟨Nat.le_of_ble_eq_true rfl, Nat.le_of_ble_eq_true rfl⟩ rfl rfl (Nat.le_of_ble_eq_true rfl) dL_law_432 hF (fun M5 M4 r6 hF => ?_)
  refine l_lcmp (pc := 435) dL_law_435 ?_
  refine l_if_eq (pc := 436) (tgt := 1191) dL_law_436 rfl hF (fun hF => ?_) (fun hF => ?_)
  · exact TL.sub ((w_law_p1191 hk18) M4 M5 x1 x2 x3 hF) [0, 1, 2, 3] rfl
  · refine l_iconst (pc := 439) (w := 0) dL_law_439 (by decide) ?_
    cases hF
set_option maxHeartbeats 8000000 in
theorem w_law_p441 {z : LX} {res : Unit} {k18 : Mem → Mem → Nat → Nat → Int32 → Option Unit} (hk18 : ∀ (M1 M2 : Mem) (x1 : Nat) (x2 : Nat) (x3 : Int32), k18 M1 M2 x1 x2 x3 = some res → TL z M1 M2 [(0, .ref (lxB z)), (1, .ref x1), (2, .ref x2), (3, .int x3)] [] 18) : ∀ (M1 M2 : Mem) (x1 : Nat) (x2 : Nat) (x3 : Int32), F_law_p441 (lxH z) (lxN z) (lxS z) k18 M1 M2 x1 x2 x3 = some res → TL z M1 M2 [(0, .ref (lxB z)), (1, .ref x1), (2, .ref x2), (3, .int x3)] [] 441 := by
  intro M1 M2 x1 x2 x3 hF
  unfold F_law_p441 at hF
  refine l_aload_n (pc := 441) 1 dL_law_441 rfl rfl ?_
  refine l_aload_n (pc := 442) 0 dL_law_442 rfl rfl ?_
  refine l_iload_n (pc := 443) 3 dL_law_443 rfl rfl ?_
  refine l_iconst (pc := 444) (w := 1) dL_law_444 (by decide) ?_
  refine l_iadd (pc := 445) dL_law_445 ?_
  refine l_sld (pc := 446) dL_law_446 hF (fun hF => ?_)
  refine l_callV_I1 (pc := 447) (y := yX11_frozen) (ci := 12) (Tb := TX11) (N := 11) (Py := P_X11_frozen) (n := 1) (As := [.int (lxS z (ixn (x3 + (1 : Int32))))]) rfl (by decide) (fun q e => k_X11_frozen (lxG z) M1 x1 (lxS z (ixn (x3 + (1 : Int32)))) q e) tw_655 tw_656 tw_657 tw_60 tw_658 hd_X11_frozen ⟨Nat.le_of_ble_eq_true rfl, Nat.le_of_ble_eq_true rfl⟩ rfl rfl (Nat.le_of_ble_eq_true rfl) dL_law_447 hF (fun M1 M2 r3 hF => ?_)
  refine l_aload_n (pc := 450) 2 dL_law_450 rfl rfl ?_
  refine l_aload_n (pc := 451) 0 dL_law_451 rfl rfl ?_
  refine l_iload_n (pc := 452) 3 dL_law_452 rfl rfl ?_
  refine l_iconst (pc := 453) (w := 1) dL_law_453 (by decide) ?_
  refine l_iadd (pc := 454) dL_law_454 ?_
  refine l_sld (pc := 455) dL_law_455 hF (fun hF => ?_)
  refine l_callV_I2 (pc := 456) (y := yX12_frozen) (ci := 13) (Tb := TX12) (N := 58) (Py := P_X12_frozen) (n := 1) (As := [.int (lxS z (ixn (x3 + (1 : Int32))))]) rfl (by decide) (fun q e => k_X12_frozen (lxG z) M2 x2 (lxS z (ixn (x3 + (1 : Int32)))) q e) tw_1370 tw_1371 tw_1372 tw_70 tw_1373 hd_X12_frozen ⟨Nat.le_of_ble_eq_true rfl, Nat.le_of_ble_eq_true rfl⟩ rfl rfl (Nat.le_of_ble_eq_true rfl) dL_law_456 hF (fun M5 M4 r6 hF => ?_)
  refine l_icmp_eq (pc := 459) (tgt := 1191) dL_law_459 rfl hF (fun hF => ?_) (fun hF => ?_)
  · exact TL.sub ((w_law_p1191 hk18) M4 M5 x1 x2 x3 hF) [0, 1, 2, 3] rfl
  · refine l_iconst (pc := 462) (w := 0) dL_law_462 (by decide) ?_
    cases hF
set_option maxHeartbeats 8000000 in
theorem w_law_p464 {z : LX} {res : Unit} {k18 : Mem → Mem → Nat → Nat → Int32 → Option Unit} (hk18 : ∀ (M1 M2 : Mem) (x1 : Nat) (x2 : Nat) (x3 : Int32), k18 M1 M2 x1 x2 x3 = some res → TL z M1 M2 [(0, .ref (lxB z)), (1, .ref x1), (2, .ref x2), (3, .int x3)] [] 18) : ∀ (M1 M2 : Mem) (x1 : Nat) (x2 : Nat) (x3 : Int32), F_law_p464 (lxH z) (lxN z) (lxS z) k18 M1 M2 x1 x2 x3 = some res → TL z M1 M2 [(0, .ref (lxB z)), (1, .ref x1), (2, .ref x2), (3, .int x3)] [] 464 := by
  intro M1 M2 x1 x2 x3 hF
  unfold F_law_p464 at hF
  refine l_aload_n (pc := 464) 1 dL_law_464 rfl rfl ?_
  refine l_aload_n (pc := 465) 0 dL_law_465 rfl rfl ?_
  refine l_iload_n (pc := 466) 3 dL_law_466 rfl rfl ?_
  refine l_iconst (pc := 467) (w := 1) dL_law_467 (by decide) ?_
  refine l_iadd (pc := 468) dL_law_468 ?_
  refine l_sld (pc := 469) dL_law_469 hF (fun hF => ?_)
  refine l_aload_n (pc := 470) 0 dL_law_470 rfl rfl ?_
  refine l_iload_n (pc := 471) 3 dL_law_471 rfl rfl ?_
  refine l_iconst (pc := 472) (w := 2) dL_law_472 (by decide) ?_
  refine l_iadd (pc := 473) dL_law_473 ?_
  refine l_sld (pc := 474) dL_law_474 hF (fun hF => ?_)
  refine l_aload_n (pc := 475) 0 dL_law_475 rfl rfl ?_
  refine l_iload_n (pc := 476) 3 dL_law_476 rfl rfl ?_
  refine l_iconst (pc := 477) (w := 3) dL_law_477 (by decide) ?_
  refine l_iadd (pc := 478) dL_law_478 ?_
  refine l_sld (pc := 479) dL_law_479 hF (fun hF => ?_)
  refine l_callV_I1 (pc := 480) (y := yX11_house) (ci := 12) (Tb := TX11) (N := 11) (Py := P_X11_house) (n := 3) (As := [.int (lxS z (ixn (x3 + (1 : Int32)))), .int (lxS z (ixn (x3 + (2 : Int32)))), .int (lxS z (ixn (x3 + (3 : Int32))))]) rfl (by decide) (fun q e => k_X11_house (lxG z) M1 x1 (lxS z (ixn (x3 + (1 : Int32)))) (lxS z (ixn (x3 + (2 : Int32)))) (lxS z (ixn (x3 + (3 : Int32)))) q e) tw_660 tw_661 tw_662 tw_60 tw_663 hd_X11_house ⟨Nat.le_of_ble_eq_true rfl, Nat.le_of_ble_eq_true rfl⟩ rfl rfl (Nat.le_of_ble_eq_true rfl) dL_law_480 hF (fun M1 M2 r3 hF => ?_)
  refine l_aload_n (pc := 483) 2 dL_law_483 rfl rfl ?_
  refine l_aload_n (pc := 484) 0 dL_law_484 rfl rfl ?_
  refine l_iload_n (pc := 485) 3 dL_law_485 rfl rfl ?_
  refine l_iconst (pc := 486) (w := 1) dL_law_486 (by decide) ?_
  refine l_iadd (pc := 487) dL_law_487 ?_
  refine l_sld (pc := 488) dL_law_488 hF (fun hF => ?_)
  refine l_aload_n (pc := 489) 0 dL_law_489 rfl rfl ?_
  refine l_iload_n (pc := 490) 3 dL_law_490 rfl rfl ?_
  refine l_iconst (pc := 491) (w := 2) dL_law_491 (by decide) ?_
  refine l_iadd (pc := 492) dL_law_492 ?_
  refine l_sld (pc := 493) dL_law_493 hF (fun hF => ?_)
  refine l_aload_n (pc := 494) 0 dL_law_494 rfl rfl ?_
  refine l_iload_n (pc := 495) 3 dL_law_495 rfl rfl ?_
  refine l_iconst (pc := 496) (w := 3) dL_law_496 (by decide) ?_
  refine l_iadd (pc := 497) dL_law_497 ?_
  refine l_sld (pc := 498) dL_law_498 hF (fun hF => ?_)
  refine l_callV_I2 (pc := 499) (y := yX12_house) (ci := 13) (Tb := TX12) (N := 58) (Py := P_X12_house) (n := 3) (As := [.int (lxS z (ixn (x3 + (1 : Int32)))), .int (lxS z (ixn (x3 + (2 : Int32)))), .int (lxS z (ixn (x3 + (3 : Int32))))]) rfl (by decide) (fun q e => k_X12_house (lxG z) M2 x2 (lxS z (ixn (x3 + (1 : Int32)))) (lxS z (ixn (x3 + (2 : Int32)))) (lxS z (ixn (x3 + (3 : Int32)))) q e) tw_1374 tw_1375 tw_1376 tw_70 tw_1377 hd_X12_house ⟨Nat.le_of_ble_eq_true rfl, Nat.le_of_ble_eq_true rfl⟩ rfl rfl (Nat.le_of_ble_eq_true rfl) dL_law_499 hF (fun M5 M4 r6 hF => ?_)
  refine l_icmp_eq (pc := 502) (tgt := 1191) dL_law_502 rfl hF (fun hF => ?_) (fun hF => ?_)
  · exact TL.sub ((w_law_p1191 hk18) M4 M5 x1 x2 x3 hF) [0, 1, 2, 3] rfl
  · refine l_iconst (pc := 505) (w := 0) dL_law_505 (by decide) ?_
    cases hF
set_option maxHeartbeats 8000000 in
theorem w_law_p507 {z : LX} {res : Unit} {k18 : Mem → Mem → Nat → Nat → Int32 → Option Unit} (hk18 : ∀ (M1 M2 : Mem) (x1 : Nat) (x2 : Nat) (x3 : Int32), k18 M1 M2 x1 x2 x3 = some res → TL z M1 M2 [(0, .ref (lxB z)), (1, .ref x1), (2, .ref x2), (3, .int x3)] [] 18) : ∀ (M1 M2 : Mem) (x1 : Nat) (x2 : Nat) (x3 : Int32), F_law_p507 (lxH z) (lxN z) (lxS z) k18 M1 M2 x1 x2 x3 = some res → TL z M1 M2 [(0, .ref (lxB z)), (1, .ref x1), (2, .ref x2), (3, .int x3)] [] 507 := by
  intro M1 M2 x1 x2 x3 hF
  unfold F_law_p507 at hF
  refine l_aload_n (pc := 507) 1 dL_law_507 rfl rfl ?_
  refine l_aload_n (pc := 508) 0 dL_law_508 rfl rfl ?_
  refine l_iload_n (pc := 509) 3 dL_law_509 rfl rfl ?_
  refine l_iconst (pc := 510) (w := 1) dL_law_510 (by decide) ?_
  refine l_iadd (pc := 511) dL_law_511 ?_
  refine l_sld (pc := 512) dL_law_512 hF (fun hF => ?_)
  refine l_aload_n (pc := 513) 0 dL_law_513 rfl rfl ?_
  refine l_iload_n (pc := 514) 3 dL_law_514 rfl rfl ?_
  refine l_iconst (pc := 515) (w := 2) dL_law_515 (by decide) ?_
  refine l_iadd (pc := 516) dL_law_516 ?_
  refine l_sld (pc := 517) dL_law_517 hF (fun hF => ?_)
  refine l_callV_I1 (pc := 518) (y := yX11_join) (ci := 12) (Tb := TX11) (N := 11) (Py := P_X11_join) (n := 2) (As := [.int (lxS z (ixn (x3 + (1 : Int32)))), .int (lxS z (ixn (x3 + (2 : Int32))))]) rfl (by decide) (fun q e => k_X11_join (lxG z) M1 x1 (lxS z (ixn (x3 + (1 : Int32)))) (lxS z (ixn (x3 + (2 : Int32)))) q e) tw_692 tw_693 tw_694 tw_60 tw_695 hd_X11_join ⟨Nat.le_of_ble_eq_true rfl, Nat.le_of_ble_eq_true rfl⟩ rfl rfl (Nat.le_of_ble_eq_true rfl) dL_law_518 hF (fun M1 M2 r3 hF => ?_)
  refine l_aload_n (pc := 521) 2 dL_law_521 rfl rfl ?_
  refine l_aload_n (pc := 522) 0 dL_law_522 rfl rfl ?_
  refine l_iload_n (pc := 523) 3 dL_law_523 rfl rfl ?_
  refine l_iconst (pc := 524) (w := 1) dL_law_524 (by decide) ?_
  refine l_iadd (pc := 525) dL_law_525 ?_
  refine l_sld (pc := 526) dL_law_526 hF (fun hF => ?_)
  refine l_aload_n (pc := 527) 0 dL_law_527 rfl rfl ?_
  refine l_iload_n (pc := 528) 3 dL_law_528 rfl rfl ?_
  refine l_iconst (pc := 529) (w := 2) dL_law_529 (by decide) ?_
  refine l_iadd (pc := 530) dL_law_530 ?_
  refine l_sld (pc := 531) dL_law_531 hF (fun hF => ?_)
  refine l_callV_I2 (pc := 532) (y := yX12_join) (ci := 13) (Tb := TX12) (N := 58) (Py := P_X12_join) (n := 2) (As := [.int (lxS z (ixn (x3 + (1 : Int32)))), .int (lxS z (ixn (x3 + (2 : Int32))))]) rfl (by decide) (fun q e => k_X12_join (lxG z) M2 x2 (lxS z (ixn (x3 + (1 : Int32)))) (lxS z (ixn (x3 + (2 : Int32)))) q e) tw_1379 tw_1380 tw_1381 tw_70 tw_1382 hd_X12_join ⟨Nat.le_of_ble_eq_true rfl, Nat.le_of_ble_eq_true rfl⟩ rfl rfl (Nat.le_of_ble_eq_true rfl) dL_law_532 hF (fun M5 M4 r6 hF => ?_)
  refine l_icmp_eq (pc := 535) (tgt := 1191) dL_law_535 rfl hF (fun hF => ?_) (fun hF => ?_)
  · exact TL.sub ((w_law_p1191 hk18) M4 M5 x1 x2 x3 hF) [0, 1, 2, 3] rfl
  · refine l_iconst (pc := 538) (w := 0) dL_law_538 (by decide) ?_
    cases hF
set_option maxHeartbeats 8000000 in
theorem w_law_p540 {z : LX} {res : Unit} {k18 : Mem → Mem → Nat → Nat → Int32 → Option Unit} (hk18 : ∀ (M1 M2 : Mem) (x1 : Nat) (x2 : Nat) (x3 : Int32), k18 M1 M2 x1 x2 x3 = some res → TL z M1 M2 [(0, .ref (lxB z)), (1, .ref x1), (2, .ref x2), (3, .int x3)] [] 18) : ∀ (M1 M2 : Mem) (x1 : Nat) (x2 : Nat) (x3 : Int32), F_law_p540 (lxH z) (lxN z) (lxS z) k18 M1 M2 x1 x2 x3 = some res → TL z M1 M2 [(0, .ref (lxB z)), (1, .ref x1), (2, .ref x2), (3, .int x3)] [] 540 := by
  intro M1 M2 x1 x2 x3 hF
  unfold F_law_p540 at hF
  refine l_aload_n (pc := 540) 1 dL_law_540 rfl rfl ?_
  refine l_aload_n (pc := 541) 0 dL_law_541 rfl rfl ?_
  refine l_iload_n (pc := 542) 3 dL_law_542 rfl rfl ?_
  refine l_iconst (pc := 543) (w := 1) dL_law_543 (by decide) ?_
  refine l_iadd (pc := 544) dL_law_544 ?_
  refine l_sld (pc := 545) dL_law_545 hF (fun hF => ?_)
  refine l_aload_n (pc := 546) 0 dL_law_546 rfl rfl ?_
  refine l_iload_n (pc := 547) 3 dL_law_547 rfl rfl ?_
  refine l_iconst (pc := 548) (w := 2) dL_law_548 (by decide) ?_
  refine l_iadd (pc := 549) dL_law_549 ?_
  refine l_sld (pc := 550) dL_law_550 hF (fun hF => ?_)
  refine l_callV_I1 (pc := 551) (y := yX11_cold) (ci := 12) (Tb := TX11) (N := 11) (Py := P_X11_cold) (n := 2) (As := [.int (lxS z (ixn (x3 + (1 : Int32)))), .int (lxS z (ixn (x3 + (2 : Int32))))]) rfl (by decide) (fun q e => k_X11_cold (lxG z) M1 x1 (lxS z (ixn (x3 + (1 : Int32)))) (lxS z (ixn (x3 + (2 : Int32)))) q e) tw_696 tw_697 tw_698 tw_60 tw_699 hd_X11_cold ⟨Nat.le_of_ble_eq_true rfl, Nat.le_of_ble_eq_true rfl⟩ rfl rfl (Nat.le_of_ble_eq_true rfl) dL_law_551 hF (fun M1 M2 r3 hF => ?_)
  refine l_aload_n (pc := 554) 2 dL_law_554 rfl rfl ?_
  refine l_aload_n (pc := 555) 0 dL_law_555 rfl rfl ?_
  refine l_iload_n (pc := 556) 3 dL_law_556 rfl rfl ?_
  refine l_iconst (pc := 557) (w := 1) dL_law_557 (by decide) ?_
  refine l_iadd (pc := 558) dL_law_558 ?_
  refine l_sld (pc := 559) dL_law_559 hF (fun hF => ?_)
  refine l_aload_n (pc := 560) 0 dL_law_560 rfl rfl ?_
  refine l_iload_n (pc := 561) 3 dL_law_561 rfl rfl ?_
  refine l_iconst (pc := 562) (w := 2) dL_law_562 (by decide) ?_
  refine l_iadd (pc := 563) dL_law_563 ?_
  refine l_sld (pc := 564) dL_law_564 hF (fun hF => ?_)
  refine l_callV_I2 (pc := 565) (y := yX12_cold) (ci := 13) (Tb := TX12) (N := 58) (Py := P_X12_cold) (n := 2) (As := [.int (lxS z (ixn (x3 + (1 : Int32)))), .int (lxS z (ixn (x3 + (2 : Int32))))]) rfl (by decide) (fun q e => k_X12_cold (lxG z) M2 x2 (lxS z (ixn (x3 + (1 : Int32)))) (lxS z (ixn (x3 + (2 : Int32)))) q e) tw_1383 tw_1384 tw_1385 tw_70 tw_1386 hd_X12_cold ⟨Nat.le_of_ble_eq_true rfl, Nat.le_of_ble_eq_true rfl⟩ rfl rfl (Nat.le_of_ble_eq_true rfl) dL_law_565 hF (fun M5 M4 r6 hF => ?_)
  refine l_icmp_eq (pc := 568) (tgt := 1191) dL_law_568 rfl hF (fun hF => ?_) (fun hF => ?_)
  · exact TL.sub ((w_law_p1191 hk18) M4 M5 x1 x2 x3 hF) [0, 1, 2, 3] rfl
  · refine l_iconst (pc := 571) (w := 0) dL_law_571 (by decide) ?_
    cases hF
set_option maxHeartbeats 8000000 in
theorem w_law_p573 {z : LX} {res : Unit} {k18 : Mem → Mem → Nat → Nat → Int32 → Option Unit} (hk18 : ∀ (M1 M2 : Mem) (x1 : Nat) (x2 : Nat) (x3 : Int32), k18 M1 M2 x1 x2 x3 = some res → TL z M1 M2 [(0, .ref (lxB z)), (1, .ref x1), (2, .ref x2), (3, .int x3)] [] 18) : ∀ (M1 M2 : Mem) (x1 : Nat) (x2 : Nat) (x3 : Int32), F_law_p573 (lxH z) (lxN z) (lxS z) k18 M1 M2 x1 x2 x3 = some res → TL z M1 M2 [(0, .ref (lxB z)), (1, .ref x1), (2, .ref x2), (3, .int x3)] [] 573 := by
  intro M1 M2 x1 x2 x3 hF
  unfold F_law_p573 at hF
  refine l_aload_n (pc := 573) 1 dL_law_573 rfl rfl ?_
  refine l_aload_n (pc := 574) 0 dL_law_574 rfl rfl ?_
  refine l_iload_n (pc := 575) 3 dL_law_575 rfl rfl ?_
  refine l_iconst (pc := 576) (w := 1) dL_law_576 (by decide) ?_
  refine l_iadd (pc := 577) dL_law_577 ?_
  refine l_sld (pc := 578) dL_law_578 hF (fun hF => ?_)
  refine l_callV_J1 (pc := 579) (y := yX11_need) (ci := 12) (Tb := TX11) (N := 11) (Py := P_X11_need) (n := 1) (As := [.int (lxS z (ixn (x3 + (1 : Int32))))]) rfl (by decide) (fun q e => k_X11_need (lxG z) M1 x1 (lxS z (ixn (x3 + (1 : Int32)))) q e) tw_707 tw_708 tw_709 tw_60 tw_710 hd_X11_need ⟨Nat.le_of_ble_eq_true rfl, Nat.le_of_ble_eq_true rfl⟩ rfl rfl (Nat.le_of_ble_eq_true rfl) dL_law_579 hF (fun M1 M2 r3 hF => ?_)
  refine l_aload_n (pc := 582) 2 dL_law_582 rfl rfl ?_
  refine l_aload_n (pc := 583) 0 dL_law_583 rfl rfl ?_
  refine l_iload_n (pc := 584) 3 dL_law_584 rfl rfl ?_
  refine l_iconst (pc := 585) (w := 1) dL_law_585 (by decide) ?_
  refine l_iadd (pc := 586) dL_law_586 ?_
  refine l_sld (pc := 587) dL_law_587 hF (fun hF => ?_)
  refine l_callV_J2 (pc := 588) (y := yX12_need) (ci := 13) (Tb := TX12) (N := 58) (Py := P_X12_need) (n := 1) (As := [.int (lxS z (ixn (x3 + (1 : Int32))))]) rfl (by decide) (fun q e => k_X12_need (lxG z) M2 x2 (lxS z (ixn (x3 + (1 : Int32)))) q e) tw_1388 tw_1389 tw_1390 tw_70 tw_1391 hd_X12_need ⟨Nat.le_of_ble_eq_true rfl, Nat.le_of_ble_eq_true rfl⟩ rfl rfl (Nat.le_of_ble_eq_true rfl) dL_law_588 hF (fun M5 M4 r6 hF => ?_)
  refine l_lcmp (pc := 591) dL_law_591 ?_
  refine l_if_eq (pc := 592) (tgt := 1191) dL_law_592 rfl hF (fun hF => ?_) (fun hF => ?_)
  · exact TL.sub ((w_law_p1191 hk18) M4 M5 x1 x2 x3 hF) [0, 1, 2, 3] rfl
  · refine l_iconst (pc := 595) (w := 0) dL_law_595 (by decide) ?_
    cases hF
set_option maxHeartbeats 8000000 in
theorem w_law_p597 {z : LX} {res : Unit} {k18 : Mem → Mem → Nat → Nat → Int32 → Option Unit} (hk18 : ∀ (M1 M2 : Mem) (x1 : Nat) (x2 : Nat) (x3 : Int32), k18 M1 M2 x1 x2 x3 = some res → TL z M1 M2 [(0, .ref (lxB z)), (1, .ref x1), (2, .ref x2), (3, .int x3)] [] 18) : ∀ (M1 M2 : Mem) (x1 : Nat) (x2 : Nat) (x3 : Int32), F_law_p597 (lxH z) (lxN z) (lxS z) k18 M1 M2 x1 x2 x3 = some res → TL z M1 M2 [(0, .ref (lxB z)), (1, .ref x1), (2, .ref x2), (3, .int x3)] [] 597 := by
  intro M1 M2 x1 x2 x3 hF
  unfold F_law_p597 at hF
  refine l_aload_n (pc := 597) 1 dL_law_597 rfl rfl ?_
  refine l_aload_n (pc := 598) 0 dL_law_598 rfl rfl ?_
  refine l_iload_n (pc := 599) 3 dL_law_599 rfl rfl ?_
  refine l_iconst (pc := 600) (w := 1) dL_law_600 (by decide) ?_
  refine l_iadd (pc := 601) dL_law_601 ?_
  refine l_sld (pc := 602) dL_law_602 hF (fun hF => ?_)
  refine l_aload_n (pc := 603) 0 dL_law_603 rfl rfl ?_
  refine l_iload_n (pc := 604) 3 dL_law_604 rfl rfl ?_
  refine l_iconst (pc := 605) (w := 2) dL_law_605 (by decide) ?_
  refine l_iadd (pc := 606) dL_law_606 ?_
  refine l_sld (pc := 607) dL_law_607 hF (fun hF => ?_)
  refine l_callV_I1 (pc := 608) (y := yX11_point) (ci := 12) (Tb := TX11) (N := 11) (Py := P_X11_point) (n := 2) (As := [.int (lxS z (ixn (x3 + (1 : Int32)))), .int (lxS z (ixn (x3 + (2 : Int32))))]) rfl (by decide) (fun q e => k_X11_point (lxG z) M1 x1 (lxS z (ixn (x3 + (1 : Int32)))) (lxS z (ixn (x3 + (2 : Int32)))) q e) tw_712 tw_713 tw_714 tw_60 tw_715 hd_X11_point ⟨Nat.le_of_ble_eq_true rfl, Nat.le_of_ble_eq_true rfl⟩ rfl rfl (Nat.le_of_ble_eq_true rfl) dL_law_608 hF (fun M1 M2 r3 hF => ?_)
  refine l_aload_n (pc := 611) 2 dL_law_611 rfl rfl ?_
  refine l_aload_n (pc := 612) 0 dL_law_612 rfl rfl ?_
  refine l_iload_n (pc := 613) 3 dL_law_613 rfl rfl ?_
  refine l_iconst (pc := 614) (w := 1) dL_law_614 (by decide) ?_
  refine l_iadd (pc := 615) dL_law_615 ?_
  refine l_sld (pc := 616) dL_law_616 hF (fun hF => ?_)
  refine l_aload_n (pc := 617) 0 dL_law_617 rfl rfl ?_
  refine l_iload_n (pc := 618) 3 dL_law_618 rfl rfl ?_
  refine l_iconst (pc := 619) (w := 2) dL_law_619 (by decide) ?_
  refine l_iadd (pc := 620) dL_law_620 ?_
  refine l_sld (pc := 621) dL_law_621 hF (fun hF => ?_)
  refine l_callV_I2 (pc := 622) (y := yX12_point) (ci := 13) (Tb := TX12) (N := 58) (Py := P_X12_point) (n := 2) (As := [.int (lxS z (ixn (x3 + (1 : Int32)))), .int (lxS z (ixn (x3 + (2 : Int32))))]) rfl (by decide) (fun q e => k_X12_point (lxG z) M2 x2 (lxS z (ixn (x3 + (1 : Int32)))) (lxS z (ixn (x3 + (2 : Int32)))) q e) tw_1392 tw_1393 tw_1394 tw_70 tw_1395 hd_X12_point ⟨Nat.le_of_ble_eq_true rfl, Nat.le_of_ble_eq_true rfl⟩ rfl rfl (Nat.le_of_ble_eq_true rfl) dL_law_622 hF (fun M5 M4 r6 hF => ?_)
  refine l_icmp_eq (pc := 625) (tgt := 1191) dL_law_625 rfl hF (fun hF => ?_) (fun hF => ?_)
  · exact TL.sub ((w_law_p1191 hk18) M4 M5 x1 x2 x3 hF) [0, 1, 2, 3] rfl
  · refine l_iconst (pc := 628) (w := 0) dL_law_628 (by decide) ?_
    cases hF
set_option maxHeartbeats 8000000 in
theorem w_law_p630 {z : LX} {res : Unit} {k18 : Mem → Mem → Nat → Nat → Int32 → Option Unit} (hk18 : ∀ (M1 M2 : Mem) (x1 : Nat) (x2 : Nat) (x3 : Int32), k18 M1 M2 x1 x2 x3 = some res → TL z M1 M2 [(0, .ref (lxB z)), (1, .ref x1), (2, .ref x2), (3, .int x3)] [] 18) : ∀ (M1 M2 : Mem) (x1 : Nat) (x2 : Nat) (x3 : Int32), F_law_p630 (lxH z) (lxN z) (lxS z) k18 M1 M2 x1 x2 x3 = some res → TL z M1 M2 [(0, .ref (lxB z)), (1, .ref x1), (2, .ref x2), (3, .int x3)] [] 630 := by
  intro M1 M2 x1 x2 x3 hF
  unfold F_law_p630 at hF
  refine l_aload_n (pc := 630) 1 dL_law_630 rfl rfl ?_
  refine l_callV_I1 (pc := 631) (y := yX11_untable) (ci := 12) (Tb := TX11) (N := 11) (Py := P_X11_untable) (n := 0) (As := []) rfl (by decide) (fun q e => k_X11_untable (lxG z) M1 x1 q e) tw_724 tw_725 tw_726 tw_60 tw_727 hd_X11_untable ⟨Nat.le_of_ble_eq_true rfl, Nat.le_of_ble_eq_true rfl⟩ rfl rfl (Nat.le_of_ble_eq_true rfl) dL_law_631 hF (fun M1 M2 r3 hF => ?_)
  refine l_aload_n (pc := 634) 2 dL_law_634 rfl rfl ?_
  refine l_callV_I2 (pc := 635) (y := yX12_untable) (ci := 13) (Tb := TX12) (N := 58) (Py := P_X12_untable) (n := 0) (As := []) rfl (by decide) (fun q e => k_X12_untable (lxG z) M2 x2 q e) tw_1396 tw_1397 tw_1398 tw_70 tw_1399 hd_X12_untable ⟨Nat.le_of_ble_eq_true rfl, Nat.le_of_ble_eq_true rfl⟩ rfl rfl (Nat.le_of_ble_eq_true rfl) dL_law_635 hF (fun M5 M4 r6 hF => ?_)
  refine l_icmp_eq (pc := 638) (tgt := 1191) dL_law_638 rfl hF (fun hF => ?_) (fun hF => ?_)
  · exact TL.sub ((w_law_p1191 hk18) M4 M5 x1 x2 x3 hF) [0, 1, 2, 3] rfl
  · refine l_iconst (pc := 641) (w := 0) dL_law_641 (by decide) ?_
    cases hF
set_option maxHeartbeats 8000000 in
theorem w_law_p643 {z : LX} {res : Unit} {k18 : Mem → Mem → Nat → Nat → Int32 → Option Unit} (hk18 : ∀ (M1 M2 : Mem) (x1 : Nat) (x2 : Nat) (x3 : Int32), k18 M1 M2 x1 x2 x3 = some res → TL z M1 M2 [(0, .ref (lxB z)), (1, .ref x1), (2, .ref x2), (3, .int x3)] [] 18) : ∀ (M1 M2 : Mem) (x1 : Nat) (x2 : Nat) (x3 : Int32), F_law_p643 (lxH z) (lxN z) (lxS z) k18 M1 M2 x1 x2 x3 = some res → TL z M1 M2 [(0, .ref (lxB z)), (1, .ref x1), (2, .ref x2), (3, .int x3)] [] 643 := by
  intro M1 M2 x1 x2 x3 hF
  unfold F_law_p643 at hF
  refine l_aload_n (pc := 643) 1 dL_law_643 rfl rfl ?_
  refine l_aload_n (pc := 644) 0 dL_law_644 rfl rfl ?_
  refine l_iload_n (pc := 645) 3 dL_law_645 rfl rfl ?_
  refine l_iconst (pc := 646) (w := 1) dL_law_646 (by decide) ?_
  refine l_iadd (pc := 647) dL_law_647 ?_
  refine l_sld (pc := 648) dL_law_648 hF (fun hF => ?_)
  refine l_callV_I1 (pc := 649) (y := yX11_lift) (ci := 12) (Tb := TX11) (N := 11) (Py := P_X11_lift) (n := 1) (As := [.int (lxS z (ixn (x3 + (1 : Int32))))]) rfl (by decide) (fun q e => k_X11_lift (lxG z) M1 x1 (lxS z (ixn (x3 + (1 : Int32)))) q e) tw_728 tw_729 tw_730 tw_60 tw_731 hd_X11_lift ⟨Nat.le_of_ble_eq_true rfl, Nat.le_of_ble_eq_true rfl⟩ rfl rfl (Nat.le_of_ble_eq_true rfl) dL_law_649 hF (fun M1 M2 r3 hF => ?_)
  refine l_aload_n (pc := 652) 2 dL_law_652 rfl rfl ?_
  refine l_aload_n (pc := 653) 0 dL_law_653 rfl rfl ?_
  refine l_iload_n (pc := 654) 3 dL_law_654 rfl rfl ?_
  refine l_iconst (pc := 655) (w := 1) dL_law_655 (by decide) ?_
  refine l_iadd (pc := 656) dL_law_656 ?_
  refine l_sld (pc := 657) dL_law_657 hF (fun hF => ?_)
  refine l_callV_I2 (pc := 658) (y := yX12_lift) (ci := 13) (Tb := TX12) (N := 58) (Py := P_X12_lift) (n := 1) (As := [.int (lxS z (ixn (x3 + (1 : Int32))))]) rfl (by decide) (fun q e => k_X12_lift (lxG z) M2 x2 (lxS z (ixn (x3 + (1 : Int32)))) q e) tw_1400 tw_1401 tw_1402 tw_70 tw_1403 hd_X12_lift ⟨Nat.le_of_ble_eq_true rfl, Nat.le_of_ble_eq_true rfl⟩ rfl rfl (Nat.le_of_ble_eq_true rfl) dL_law_658 hF (fun M5 M4 r6 hF => ?_)
  refine l_icmp_eq (pc := 661) (tgt := 1191) dL_law_661 rfl hF (fun hF => ?_) (fun hF => ?_)
  · exact TL.sub ((w_law_p1191 hk18) M4 M5 x1 x2 x3 hF) [0, 1, 2, 3] rfl
  · refine l_iconst (pc := 664) (w := 0) dL_law_664 (by decide) ?_
    cases hF
set_option maxHeartbeats 8000000 in
theorem w_law_p666 {z : LX} {res : Unit} {k18 : Mem → Mem → Nat → Nat → Int32 → Option Unit} (hk18 : ∀ (M1 M2 : Mem) (x1 : Nat) (x2 : Nat) (x3 : Int32), k18 M1 M2 x1 x2 x3 = some res → TL z M1 M2 [(0, .ref (lxB z)), (1, .ref x1), (2, .ref x2), (3, .int x3)] [] 18) : ∀ (M1 M2 : Mem) (x1 : Nat) (x2 : Nat) (x3 : Int32), F_law_p666 (lxH z) (lxN z) (lxS z) k18 M1 M2 x1 x2 x3 = some res → TL z M1 M2 [(0, .ref (lxB z)), (1, .ref x1), (2, .ref x2), (3, .int x3)] [] 666 := by
  intro M1 M2 x1 x2 x3 hF
  unfold F_law_p666 at hF
  refine l_aload_n (pc := 666) 1 dL_law_666 rfl rfl ?_
  refine l_aload_n (pc := 667) 0 dL_law_667 rfl rfl ?_
  refine l_iload_n (pc := 668) 3 dL_law_668 rfl rfl ?_
  refine l_iconst (pc := 669) (w := 1) dL_law_669 (by decide) ?_
  refine l_iadd (pc := 670) dL_law_670 ?_
  refine l_sld (pc := 671) dL_law_671 hF (fun hF => ?_)
  refine l_aload_n (pc := 672) 0 dL_law_672 rfl rfl ?_
  refine l_iload_n (pc := 673) 3 dL_law_673 rfl rfl ?_
  refine l_iconst (pc := 674) (w := 2) dL_law_674 (by decide) ?_
  refine l_iadd (pc := 675) dL_law_675 ?_
  refine l_sld (pc := 676) dL_law_676 hF (fun hF => ?_)
  refine l_callV_I1 (pc := 677) (y := yX11_price) (ci := 12) (Tb := TX11) (N := 11) (Py := P_X11_price) (n := 2) (As := [.int (lxS z (ixn (x3 + (1 : Int32)))), .int (lxS z (ixn (x3 + (2 : Int32))))]) rfl (by decide) (fun q e => k_X11_price (lxG z) M1 x1 (lxS z (ixn (x3 + (1 : Int32)))) (lxS z (ixn (x3 + (2 : Int32)))) q e) tw_735 tw_736 tw_737 tw_60 tw_738 hd_X11_price ⟨Nat.le_of_ble_eq_true rfl, Nat.le_of_ble_eq_true rfl⟩ rfl rfl (Nat.le_of_ble_eq_true rfl) dL_law_677 hF (fun M1 M2 r3 hF => ?_)
  refine l_aload_n (pc := 680) 2 dL_law_680 rfl rfl ?_
  refine l_aload_n (pc := 681) 0 dL_law_681 rfl rfl ?_
  refine l_iload_n (pc := 682) 3 dL_law_682 rfl rfl ?_
  refine l_iconst (pc := 683) (w := 1) dL_law_683 (by decide) ?_
  refine l_iadd (pc := 684) dL_law_684 ?_
  refine l_sld (pc := 685) dL_law_685 hF (fun hF => ?_)
  refine l_aload_n (pc := 686) 0 dL_law_686 rfl rfl ?_
  refine l_iload_n (pc := 687) 3 dL_law_687 rfl rfl ?_
  refine l_iconst (pc := 688) (w := 2) dL_law_688 (by decide) ?_
  refine l_iadd (pc := 689) dL_law_689 ?_
  refine l_sld (pc := 690) dL_law_690 hF (fun hF => ?_)
  refine l_callV_I2 (pc := 691) (y := yX12_price) (ci := 13) (Tb := TX12) (N := 58) (Py := P_X12_price) (n := 2) (As := [.int (lxS z (ixn (x3 + (1 : Int32)))), .int (lxS z (ixn (x3 + (2 : Int32))))]) rfl (by decide) (fun q e => k_X12_price (lxG z) M2 x2 (lxS z (ixn (x3 + (1 : Int32)))) (lxS z (ixn (x3 + (2 : Int32)))) q e) tw_1406 tw_1407 tw_1408 tw_70 tw_1409 hd_X12_price ⟨Nat.le_of_ble_eq_true rfl, Nat.le_of_ble_eq_true rfl⟩ rfl rfl (Nat.le_of_ble_eq_true rfl) dL_law_691 hF (fun M5 M4 r6 hF => ?_)
  refine l_icmp_eq (pc := 694) (tgt := 1191) dL_law_694 rfl hF (fun hF => ?_) (fun hF => ?_)
  · exact TL.sub ((w_law_p1191 hk18) M4 M5 x1 x2 x3 hF) [0, 1, 2, 3] rfl
  · refine l_iconst (pc := 697) (w := 0) dL_law_697 (by decide) ?_
    cases hF
set_option maxHeartbeats 8000000 in
theorem w_law_p699 {z : LX} {res : Unit} {k18 : Mem → Mem → Nat → Nat → Int32 → Option Unit} (hk18 : ∀ (M1 M2 : Mem) (x1 : Nat) (x2 : Nat) (x3 : Int32), k18 M1 M2 x1 x2 x3 = some res → TL z M1 M2 [(0, .ref (lxB z)), (1, .ref x1), (2, .ref x2), (3, .int x3)] [] 18) : ∀ (M1 M2 : Mem) (x1 : Nat) (x2 : Nat) (x3 : Int32), F_law_p699 (lxH z) (lxN z) (lxS z) k18 M1 M2 x1 x2 x3 = some res → TL z M1 M2 [(0, .ref (lxB z)), (1, .ref x1), (2, .ref x2), (3, .int x3)] [] 699 := by
  intro M1 M2 x1 x2 x3 hF
  unfold F_law_p699 at hF
  refine l_aload_n (pc := 699) 1 dL_law_699 rfl rfl ?_
  refine l_aload_n (pc := 700) 0 dL_law_700 rfl rfl ?_
  refine l_iload_n (pc := 701) 3 dL_law_701 rfl rfl ?_
  refine l_iconst (pc := 702) (w := 1) dL_law_702 (by decide) ?_
  refine l_iadd (pc := 703) dL_law_703 ?_
  refine l_sld (pc := 704) dL_law_704 hF (fun hF => ?_)
  refine l_aload_n (pc := 705) 0 dL_law_705 rfl rfl ?_
  refine l_iload_n (pc := 706) 3 dL_law_706 rfl rfl ?_
  refine l_iconst (pc := 707) (w := 2) dL_law_707 (by decide) ?_
  refine l_iadd (pc := 708) dL_law_708 ?_
  refine l_sld (pc := 709) dL_law_709 hF (fun hF => ?_)
  refine l_callV_I1 (pc := 710) (y := yX11_sun) (ci := 12) (Tb := TX11) (N := 11) (Py := P_X11_sun) (n := 2) (As := [.int (lxS z (ixn (x3 + (1 : Int32)))), .int (lxS z (ixn (x3 + (2 : Int32))))]) rfl (by decide) (fun q e => k_X11_sun (lxG z) M1 x1 (lxS z (ixn (x3 + (1 : Int32)))) (lxS z (ixn (x3 + (2 : Int32)))) q e) tw_739 tw_740 tw_741 tw_60 tw_742 hd_X11_sun ⟨Nat.le_of_ble_eq_true rfl, Nat.le_of_ble_eq_true rfl⟩ rfl rfl (Nat.le_of_ble_eq_true rfl) dL_law_710 hF (fun M1 M2 r3 hF => ?_)
  refine l_aload_n (pc := 713) 2 dL_law_713 rfl rfl ?_
  refine l_aload_n (pc := 714) 0 dL_law_714 rfl rfl ?_
  refine l_iload_n (pc := 715) 3 dL_law_715 rfl rfl ?_
  refine l_iconst (pc := 716) (w := 1) dL_law_716 (by decide) ?_
  refine l_iadd (pc := 717) dL_law_717 ?_
  refine l_sld (pc := 718) dL_law_718 hF (fun hF => ?_)
  refine l_aload_n (pc := 719) 0 dL_law_719 rfl rfl ?_
  refine l_iload_n (pc := 720) 3 dL_law_720 rfl rfl ?_
  refine l_iconst (pc := 721) (w := 2) dL_law_721 (by decide) ?_
  refine l_iadd (pc := 722) dL_law_722 ?_
  refine l_sld (pc := 723) dL_law_723 hF (fun hF => ?_)
  refine l_callV_I2 (pc := 724) (y := yX12_sun) (ci := 13) (Tb := TX12) (N := 58) (Py := P_X12_sun) (n := 2) (As := [.int (lxS z (ixn (x3 + (1 : Int32)))), .int (lxS z (ixn (x3 + (2 : Int32))))]) rfl (by decide) (fun q e => k_X12_sun (lxG z) M2 x2 (lxS z (ixn (x3 + (1 : Int32)))) (lxS z (ixn (x3 + (2 : Int32)))) q e) tw_1414 tw_1415 tw_1416 tw_70 tw_1417 hd_X12_sun ⟨Nat.le_of_ble_eq_true rfl, Nat.le_of_ble_eq_true rfl⟩ rfl rfl (Nat.le_of_ble_eq_true rfl) dL_law_724 hF (fun M5 M4 r6 hF => ?_)
  refine l_icmp_eq (pc := 727) (tgt := 1191) dL_law_727 rfl hF (fun hF => ?_) (fun hF => ?_)
  · exact TL.sub ((w_law_p1191 hk18) M4 M5 x1 x2 x3 hF) [0, 1, 2, 3] rfl
  · refine l_iconst (pc := 730) (w := 0) dL_law_730 (by decide) ?_
    cases hF
set_option maxHeartbeats 8000000 in
theorem w_law_p732 {z : LX} {res : Unit} {k18 : Mem → Mem → Nat → Nat → Int32 → Option Unit} (hk18 : ∀ (M1 M2 : Mem) (x1 : Nat) (x2 : Nat) (x3 : Int32), k18 M1 M2 x1 x2 x3 = some res → TL z M1 M2 [(0, .ref (lxB z)), (1, .ref x1), (2, .ref x2), (3, .int x3)] [] 18) : ∀ (M1 M2 : Mem) (x1 : Nat) (x2 : Nat) (x3 : Int32), F_law_p732 (lxH z) (lxN z) (lxS z) k18 M1 M2 x1 x2 x3 = some res → TL z M1 M2 [(0, .ref (lxB z)), (1, .ref x1), (2, .ref x2), (3, .int x3)] [] 732 := by
  intro M1 M2 x1 x2 x3 hF
  unfold F_law_p732 at hF
  refine l_aload_n (pc := 732) 1 dL_law_732 rfl rfl ?_
  refine l_aload_n (pc := 733) 0 dL_law_733 rfl rfl ?_
  refine l_iload_n (pc := 734) 3 dL_law_734 rfl rfl ?_
  refine l_iconst (pc := 735) (w := 1) dL_law_735 (by decide) ?_
  refine l_iadd (pc := 736) dL_law_736 ?_
  refine l_sld (pc := 737) dL_law_737 hF (fun hF => ?_)
  refine l_aload_n (pc := 738) 0 dL_law_738 rfl rfl ?_
  refine l_iload_n (pc := 739) 3 dL_law_739 rfl rfl ?_
  refine l_iconst (pc := 740) (w := 2) dL_law_740 (by decide) ?_
  refine l_iadd (pc := 741) dL_law_741 ?_
  refine l_sld (pc := 742) dL_law_742 hF (fun hF => ?_)
  refine l_i2l (pc := 743) dL_law_743 ?_
  refine l_bipush (pc := 744) (w := 32) dL_law_744 (by decide) ?_
  refine l_lshl (pc := 746) dL_law_746 ?_
  refine l_aload_n (pc := 747) 0 dL_law_747 rfl rfl ?_
  refine l_iload_n (pc := 748) 3 dL_law_748 rfl rfl ?_
  refine l_iconst (pc := 749) (w := 3) dL_law_749 (by decide) ?_
  refine l_iadd (pc := 750) dL_law_750 ?_
  refine l_sld (pc := 751) dL_law_751 hF (fun hF => ?_)
  refine l_i2l (pc := 752) dL_law_752 ?_
  refine l_ldc2 (pc := 753) (w := 4294967295) tw_1544 dL_law_753 ?_
  refine l_land (pc := 756) dL_law_756 ?_
  refine l_lor (pc := 757) dL_law_757 ?_
  refine l_callV_I1 (pc := 758) (y := yX11_feed) (ci := 12) (Tb := TX11) (N := 11) (Py := P_X11_feed) (n := 2) (As := [.int (lxS z (ixn (x3 + (1 : Int32)))), .long ((((lxS z (ixn (x3 + (2 : Int32)))).toInt64) <<< ((32 : Int32).toInt64 &&& 63)) ||| (((lxS z (ixn (x3 + (3 : Int32)))).toInt64) &&& (4294967295 : Int64)))]) rfl (by decide) (fun q e => k_X11_feed (lxG z) M1 x1 (lxS z (ixn (x3 + (1 : Int32)))) ((((lxS z (ixn (x3 + (2 : Int32)))).toInt64) <<< ((32 : Int32).toInt64 &&& 63)) ||| (((lxS z (ixn (x3 + (3 : Int32)))).toInt64) &&& (4294967295 : Int64))) q e) tw_744 tw_745 tw_746 tw_60 tw_747 hd_X11_feed ⟨Nat.le_of_ble_eq_true rfl, Nat.le_of_ble_eq_true rfl⟩ rfl rfl (Nat.le_of_ble_eq_true rfl) dL_law_758 hF (fun M1 M2 r3 hF => ?_)
  refine l_aload_n (pc := 761) 2 dL_law_761 rfl rfl ?_
  refine l_aload_n (pc := 762) 0 dL_law_762 rfl rfl ?_
  refine l_iload_n (pc := 763) 3 dL_law_763 rfl rfl ?_
  refine l_iconst (pc := 764) (w := 1) dL_law_764 (by decide) ?_
  refine l_iadd (pc := 765) dL_law_765 ?_
  refine l_sld (pc := 766) dL_law_766 hF (fun hF => ?_)
  refine l_aload_n (pc := 767) 0 dL_law_767 rfl rfl ?_
  refine l_iload_n (pc := 768) 3 dL_law_768 rfl rfl ?_
  refine l_iconst (pc := 769) (w := 2) dL_law_769 (by decide) ?_
  refine l_iadd (pc := 770) dL_law_770 ?_
  refine l_sld (pc := 771) dL_law_771 hF (fun hF => ?_)
  refine l_i2l (pc := 772) dL_law_772 ?_
  refine l_bipush (pc := 773) (w := 32) dL_law_773 (by decide) ?_
  refine l_lshl (pc := 775) dL_law_775 ?_
  refine l_aload_n (pc := 776) 0 dL_law_776 rfl rfl ?_
  refine l_iload_n (pc := 777) 3 dL_law_777 rfl rfl ?_
  refine l_iconst (pc := 778) (w := 3) dL_law_778 (by decide) ?_
  refine l_iadd (pc := 779) dL_law_779 ?_
  refine l_sld (pc := 780) dL_law_780 hF (fun hF => ?_)
  refine l_i2l (pc := 781) dL_law_781 ?_
  refine l_ldc2 (pc := 782) (w := 4294967295) tw_1544 dL_law_782 ?_
  refine l_land (pc := 785) dL_law_785 ?_
  refine l_lor (pc := 786) dL_law_786 ?_
  refine l_callV_I2 (pc := 787) (y := yX12_feed) (ci := 13) (Tb := TX12) (N := 58) (Py := P_X12_feed) (n := 2) (As := [.int (lxS z (ixn (x3 + (1 : Int32)))), .long ((((lxS z (ixn (x3 + (2 : Int32)))).toInt64) <<< ((32 : Int32).toInt64 &&& 63)) ||| (((lxS z (ixn (x3 + (3 : Int32)))).toInt64) &&& (4294967295 : Int64)))]) rfl (by decide) (fun q e => k_X12_feed (lxG z) M2 x2 (lxS z (ixn (x3 + (1 : Int32)))) ((((lxS z (ixn (x3 + (2 : Int32)))).toInt64) <<< ((32 : Int32).toInt64 &&& 63)) ||| (((lxS z (ixn (x3 + (3 : Int32)))).toInt64) &&& (4294967295 : Int64))) q e) tw_1419 tw_1420 tw_1421 tw_70 tw_1422 hd_X12_feed ⟨Nat.le_of_ble_eq_true rfl, Nat.le_of_ble_eq_true rfl⟩ rfl rfl (Nat.le_of_ble_eq_true rfl) dL_law_787 hF (fun M5 M4 r6 hF => ?_)
  refine l_icmp_eq (pc := 790) (tgt := 1191) dL_law_790 rfl hF (fun hF => ?_) (fun hF => ?_)
  · exact TL.sub ((w_law_p1191 hk18) M4 M5 x1 x2 x3 hF) [0, 1, 2, 3] rfl
  · refine l_iconst (pc := 793) (w := 0) dL_law_793 (by decide) ?_
    cases hF
set_option maxHeartbeats 8000000 in
theorem w_law_p795 {z : LX} {res : Unit} {k18 : Mem → Mem → Nat → Nat → Int32 → Option Unit} (hk18 : ∀ (M1 M2 : Mem) (x1 : Nat) (x2 : Nat) (x3 : Int32), k18 M1 M2 x1 x2 x3 = some res → TL z M1 M2 [(0, .ref (lxB z)), (1, .ref x1), (2, .ref x2), (3, .int x3)] [] 18) : ∀ (M1 M2 : Mem) (x1 : Nat) (x2 : Nat) (x3 : Int32), F_law_p795 (lxH z) (lxN z) (lxS z) k18 M1 M2 x1 x2 x3 = some res → TL z M1 M2 [(0, .ref (lxB z)), (1, .ref x1), (2, .ref x2), (3, .int x3)] [] 795 := by
  intro M1 M2 x1 x2 x3 hF
  unfold F_law_p795 at hF
  refine l_aload_n (pc := 795) 1 dL_law_795 rfl rfl ?_
  refine l_aload_n (pc := 796) 0 dL_law_796 rfl rfl ?_
  refine l_iload_n (pc := 797) 3 dL_law_797 rfl rfl ?_
  refine l_iconst (pc := 798) (w := 1) dL_law_798 (by decide) ?_
  refine l_iadd (pc := 799) dL_law_799 ?_
  refine l_sld (pc := 800) dL_law_800 hF (fun hF => ?_)
  refine l_aload_n (pc := 801) 0 dL_law_801 rfl rfl ?_
  refine l_iload_n (pc := 802) 3 dL_law_802 rfl rfl ?_
  refine l_iconst (pc := 803) (w := 2) dL_law_803 (by decide) ?_
  refine l_iadd (pc := 804) dL_law_804 ?_
  refine l_sld (pc := 805) dL_law_805 hF (fun hF => ?_)
  refine l_callV_I1 (pc := 806) (y := yX11_rule) (ci := 12) (Tb := TX11) (N := 11) (Py := P_X11_rule) (n := 2) (As := [.int (lxS z (ixn (x3 + (1 : Int32)))), .int (lxS z (ixn (x3 + (2 : Int32))))]) rfl (by decide) (fun q e => k_X11_rule (lxG z) M1 x1 (lxS z (ixn (x3 + (1 : Int32)))) (lxS z (ixn (x3 + (2 : Int32)))) q e) tw_752 tw_753 tw_754 tw_60 tw_755 hd_X11_rule ⟨Nat.le_of_ble_eq_true rfl, Nat.le_of_ble_eq_true rfl⟩ rfl rfl (Nat.le_of_ble_eq_true rfl) dL_law_806 hF (fun M1 M2 r3 hF => ?_)
  refine l_aload_n (pc := 809) 2 dL_law_809 rfl rfl ?_
  refine l_aload_n (pc := 810) 0 dL_law_810 rfl rfl ?_
  refine l_iload_n (pc := 811) 3 dL_law_811 rfl rfl ?_
  refine l_iconst (pc := 812) (w := 1) dL_law_812 (by decide) ?_
  refine l_iadd (pc := 813) dL_law_813 ?_
  refine l_sld (pc := 814) dL_law_814 hF (fun hF => ?_)
  refine l_aload_n (pc := 815) 0 dL_law_815 rfl rfl ?_
  refine l_iload_n (pc := 816) 3 dL_law_816 rfl rfl ?_
  refine l_iconst (pc := 817) (w := 2) dL_law_817 (by decide) ?_
  refine l_iadd (pc := 818) dL_law_818 ?_
  refine l_sld (pc := 819) dL_law_819 hF (fun hF => ?_)
  refine l_callV_I2 (pc := 820) (y := yX12_rule) (ci := 13) (Tb := TX12) (N := 58) (Py := P_X12_rule) (n := 2) (As := [.int (lxS z (ixn (x3 + (1 : Int32)))), .int (lxS z (ixn (x3 + (2 : Int32))))]) rfl (by decide) (fun q e => k_X12_rule (lxG z) M2 x2 (lxS z (ixn (x3 + (1 : Int32)))) (lxS z (ixn (x3 + (2 : Int32)))) q e) tw_1424 tw_1425 tw_1426 tw_70 tw_1427 hd_X12_rule ⟨Nat.le_of_ble_eq_true rfl, Nat.le_of_ble_eq_true rfl⟩ rfl rfl (Nat.le_of_ble_eq_true rfl) dL_law_820 hF (fun M5 M4 r6 hF => ?_)
  refine l_icmp_eq (pc := 823) (tgt := 1191) dL_law_823 rfl hF (fun hF => ?_) (fun hF => ?_)
  · exact TL.sub ((w_law_p1191 hk18) M4 M5 x1 x2 x3 hF) [0, 1, 2, 3] rfl
  · refine l_iconst (pc := 826) (w := 0) dL_law_826 (by decide) ?_
    cases hF
set_option maxHeartbeats 8000000 in
theorem w_law_p828 {z : LX} {res : Unit} {k18 : Mem → Mem → Nat → Nat → Int32 → Option Unit} (hk18 : ∀ (M1 M2 : Mem) (x1 : Nat) (x2 : Nat) (x3 : Int32), k18 M1 M2 x1 x2 x3 = some res → TL z M1 M2 [(0, .ref (lxB z)), (1, .ref x1), (2, .ref x2), (3, .int x3)] [] 18) : ∀ (M1 M2 : Mem) (x1 : Nat) (x2 : Nat) (x3 : Int32), F_law_p828 (lxH z) (lxN z) (lxS z) k18 M1 M2 x1 x2 x3 = some res → TL z M1 M2 [(0, .ref (lxB z)), (1, .ref x1), (2, .ref x2), (3, .int x3)] [] 828 := by
  intro M1 M2 x1 x2 x3 hF
  unfold F_law_p828 at hF
  refine l_aload_n (pc := 828) 1 dL_law_828 rfl rfl ?_
  refine l_aload_n (pc := 829) 0 dL_law_829 rfl rfl ?_
  refine l_iload_n (pc := 830) 3 dL_law_830 rfl rfl ?_
  refine l_iconst (pc := 831) (w := 1) dL_law_831 (by decide) ?_
  refine l_iadd (pc := 832) dL_law_832 ?_
  refine l_sld (pc := 833) dL_law_833 hF (fun hF => ?_)
  refine l_aload_n (pc := 834) 0 dL_law_834 rfl rfl ?_
  refine l_iload_n (pc := 835) 3 dL_law_835 rfl rfl ?_
  refine l_iconst (pc := 836) (w := 2) dL_law_836 (by decide) ?_
  refine l_iadd (pc := 837) dL_law_837 ?_
  refine l_sld (pc := 838) dL_law_838 hF (fun hF => ?_)
  refine l_callV_I1 (pc := 839) (y := yX11_may) (ci := 12) (Tb := TX11) (N := 11) (Py := P_X11_may) (n := 2) (As := [.int (lxS z (ixn (x3 + (1 : Int32)))), .int (lxS z (ixn (x3 + (2 : Int32))))]) rfl (by decide) (fun q e => k_X11_may (lxG z) M1 x1 (lxS z (ixn (x3 + (1 : Int32)))) (lxS z (ixn (x3 + (2 : Int32)))) q e) tw_924 tw_925 tw_926 tw_60 tw_927 hd_X11_may ⟨Nat.le_of_ble_eq_true rfl, Nat.le_of_ble_eq_true rfl⟩ rfl rfl (Nat.le_of_ble_eq_true rfl) dL_law_839 hF (fun M1 M2 r3 hF => ?_)
  refine l_aload_n (pc := 842) 2 dL_law_842 rfl rfl ?_
  refine l_aload_n (pc := 843) 0 dL_law_843 rfl rfl ?_
  refine l_iload_n (pc := 844) 3 dL_law_844 rfl rfl ?_
  refine l_iconst (pc := 845) (w := 1) dL_law_845 (by decide) ?_
  refine l_iadd (pc := 846) dL_law_846 ?_
  refine l_sld (pc := 847) dL_law_847 hF (fun hF => ?_)
  refine l_aload_n (pc := 848) 0 dL_law_848 rfl rfl ?_
  refine l_iload_n (pc := 849) 3 dL_law_849 rfl rfl ?_
  refine l_iconst (pc := 850) (w := 2) dL_law_850 (by decide) ?_
  refine l_iadd (pc := 851) dL_law_851 ?_
  refine l_sld (pc := 852) dL_law_852 hF (fun hF => ?_)
  refine l_callV_I2 (pc := 853) (y := yX12_may) (ci := 13) (Tb := TX12) (N := 58) (Py := P_X12_may) (n := 2) (As := [.int (lxS z (ixn (x3 + (1 : Int32)))), .int (lxS z (ixn (x3 + (2 : Int32))))]) rfl (by decide) (fun q e => k_X12_may (lxG z) M2 x2 (lxS z (ixn (x3 + (1 : Int32)))) (lxS z (ixn (x3 + (2 : Int32)))) q e) tw_1454 tw_1455 tw_1456 tw_70 tw_1457 hd_X12_may ⟨Nat.le_of_ble_eq_true rfl, Nat.le_of_ble_eq_true rfl⟩ rfl rfl (Nat.le_of_ble_eq_true rfl) dL_law_853 hF (fun M5 M4 r6 hF => ?_)
  refine l_icmp_eq (pc := 856) (tgt := 1191) dL_law_856 rfl hF (fun hF => ?_) (fun hF => ?_)
  · exact TL.sub ((w_law_p1191 hk18) M4 M5 x1 x2 x3 hF) [0, 1, 2, 3] rfl
  · refine l_iconst (pc := 859) (w := 0) dL_law_859 (by decide) ?_
    cases hF
set_option maxHeartbeats 8000000 in
theorem w_law_p861 {z : LX} {res : Unit} {k18 : Mem → Mem → Nat → Nat → Int32 → Option Unit} (hk18 : ∀ (M1 M2 : Mem) (x1 : Nat) (x2 : Nat) (x3 : Int32), k18 M1 M2 x1 x2 x3 = some res → TL z M1 M2 [(0, .ref (lxB z)), (1, .ref x1), (2, .ref x2), (3, .int x3)] [] 18) : ∀ (M1 M2 : Mem) (x1 : Nat) (x2 : Nat) (x3 : Int32), F_law_p861 (lxH z) (lxN z) (lxS z) k18 M1 M2 x1 x2 x3 = some res → TL z M1 M2 [(0, .ref (lxB z)), (1, .ref x1), (2, .ref x2), (3, .int x3)] [] 861 := by
  intro M1 M2 x1 x2 x3 hF
  unfold F_law_p861 at hF
  refine l_aload_n (pc := 861) 1 dL_law_861 rfl rfl ?_
  refine l_aload_n (pc := 862) 0 dL_law_862 rfl rfl ?_
  refine l_iload_n (pc := 863) 3 dL_law_863 rfl rfl ?_
  refine l_iconst (pc := 864) (w := 1) dL_law_864 (by decide) ?_
  refine l_iadd (pc := 865) dL_law_865 ?_
  refine l_sld (pc := 866) dL_law_866 hF (fun hF => ?_)
  refine l_callV_J1 (pc := 867) (y := yX11_told) (ci := 12) (Tb := TX11) (N := 11) (Py := P_X11_told) (n := 1) (As := [.int (lxS z (ixn (x3 + (1 : Int32))))]) rfl (by decide) (fun q e => k_X11_told (lxG z) M1 x1 (lxS z (ixn (x3 + (1 : Int32)))) q e) tw_931 tw_932 tw_933 tw_60 tw_934 hd_X11_told ⟨Nat.le_of_ble_eq_true rfl, Nat.le_of_ble_eq_true rfl⟩ rfl rfl (Nat.le_of_ble_eq_true rfl) dL_law_867 hF (fun M1 M2 r3 hF => ?_)
  refine l_aload_n (pc := 870) 2 dL_law_870 rfl rfl ?_
  refine l_aload_n (pc := 871) 0 dL_law_871 rfl rfl ?_
  refine l_iload_n (pc := 872) 3 dL_law_872 rfl rfl ?_
  refine l_iconst (pc := 873) (w := 1) dL_law_873 (by decide) ?_
  refine l_iadd (pc := 874) dL_law_874 ?_
  refine l_sld (pc := 875) dL_law_875 hF (fun hF => ?_)
  refine l_callV_J2 (pc := 876) (y := yX12_told) (ci := 13) (Tb := TX12) (N := 58) (Py := P_X12_told) (n := 1) (As := [.int (lxS z (ixn (x3 + (1 : Int32))))]) rfl (by decide) (fun q e => k_X12_told (lxG z) M2 x2 (lxS z (ixn (x3 + (1 : Int32)))) q e) tw_1458 tw_1459 tw_1460 tw_70 tw_1461 hd_X12_told ⟨Nat.le_of_ble_eq_true rfl, Nat.le_of_ble_eq_true rfl⟩ rfl rfl (Nat.le_of_ble_eq_true rfl) dL_law_876 hF (fun M5 M4 r6 hF => ?_)
  refine l_lcmp (pc := 879) dL_law_879 ?_
  refine l_if_eq (pc := 880) (tgt := 1191) dL_law_880 rfl hF (fun hF => ?_) (fun hF => ?_)
  · exact TL.sub ((w_law_p1191 hk18) M4 M5 x1 x2 x3 hF) [0, 1, 2, 3] rfl
  · refine l_iconst (pc := 883) (w := 0) dL_law_883 (by decide) ?_
    cases hF
set_option maxHeartbeats 8000000 in
theorem w_law_p885 {z : LX} {res : Unit} {k18 : Mem → Mem → Nat → Nat → Int32 → Option Unit} (hk18 : ∀ (M1 M2 : Mem) (x1 : Nat) (x2 : Nat) (x3 : Int32), k18 M1 M2 x1 x2 x3 = some res → TL z M1 M2 [(0, .ref (lxB z)), (1, .ref x1), (2, .ref x2), (3, .int x3)] [] 18) : ∀ (M1 M2 : Mem) (x1 : Nat) (x2 : Nat) (x3 : Int32), F_law_p885 (lxH z) (lxN z) (lxS z) k18 M1 M2 x1 x2 x3 = some res → TL z M1 M2 [(0, .ref (lxB z)), (1, .ref x1), (2, .ref x2), (3, .int x3)] [] 885 := by
  intro M1 M2 x1 x2 x3 hF
  unfold F_law_p885 at hF
  refine l_aload_n (pc := 885) 1 dL_law_885 rfl rfl ?_
  refine l_aload_n (pc := 886) 0 dL_law_886 rfl rfl ?_
  refine l_iload_n (pc := 887) 3 dL_law_887 rfl rfl ?_
  refine l_iconst (pc := 888) (w := 1) dL_law_888 (by decide) ?_
  refine l_iadd (pc := 889) dL_law_889 ?_
  refine l_sld (pc := 890) dL_law_890 hF (fun hF => ?_)
  refine l_callV_J1 (pc := 891) (y := yX11_given) (ci := 12) (Tb := TX11) (N := 11) (Py := P_X11_given) (n := 1) (As := [.int (lxS z (ixn (x3 + (1 : Int32))))]) rfl (by decide) (fun q e => k_X11_given (lxG z) M1 x1 (lxS z (ixn (x3 + (1 : Int32)))) q e) tw_940 tw_941 tw_942 tw_60 tw_943 hd_X11_given ⟨Nat.le_of_ble_eq_true rfl, Nat.le_of_ble_eq_true rfl⟩ rfl rfl (Nat.le_of_ble_eq_true rfl) dL_law_891 hF (fun M1 M2 r3 hF => ?_)
  refine l_aload_n (pc := 894) 2 dL_law_894 rfl rfl ?_
  refine l_aload_n (pc := 895) 0 dL_law_895 rfl rfl ?_
  refine l_iload_n (pc := 896) 3 dL_law_896 rfl rfl ?_
  refine l_iconst (pc := 897) (w := 1) dL_law_897 (by decide) ?_
  refine l_iadd (pc := 898) dL_law_898 ?_
  refine l_sld (pc := 899) dL_law_899 hF (fun hF => ?_)
  refine l_callV_J2 (pc := 900) (y := yX12_given) (ci := 13) (Tb := TX12) (N := 58) (Py := P_X12_given) (n := 1) (As := [.int (lxS z (ixn (x3 + (1 : Int32))))]) rfl (by decide) (fun q e => k_X12_given (lxG z) M2 x2 (lxS z (ixn (x3 + (1 : Int32)))) q e) tw_1465 tw_1466 tw_1467 tw_70 tw_1468 hd_X12_given ⟨Nat.le_of_ble_eq_true rfl, Nat.le_of_ble_eq_true rfl⟩ rfl rfl (Nat.le_of_ble_eq_true rfl) dL_law_900 hF (fun M5 M4 r6 hF => ?_)
  refine l_lcmp (pc := 903) dL_law_903 ?_
  refine l_if_eq (pc := 904) (tgt := 1191) dL_law_904 rfl hF (fun hF => ?_) (fun hF => ?_)
  · exact TL.sub ((w_law_p1191 hk18) M4 M5 x1 x2 x3 hF) [0, 1, 2, 3] rfl
  · refine l_iconst (pc := 907) (w := 0) dL_law_907 (by decide) ?_
    cases hF
set_option maxHeartbeats 8000000 in
theorem w_law_p909 {z : LX} {res : Unit} {k18 : Mem → Mem → Nat → Nat → Int32 → Option Unit} (hk18 : ∀ (M1 M2 : Mem) (x1 : Nat) (x2 : Nat) (x3 : Int32), k18 M1 M2 x1 x2 x3 = some res → TL z M1 M2 [(0, .ref (lxB z)), (1, .ref x1), (2, .ref x2), (3, .int x3)] [] 18) : ∀ (M1 M2 : Mem) (x1 : Nat) (x2 : Nat) (x3 : Int32), F_law_p909 (lxH z) (lxN z) (lxS z) k18 M1 M2 x1 x2 x3 = some res → TL z M1 M2 [(0, .ref (lxB z)), (1, .ref x1), (2, .ref x2), (3, .int x3)] [] 909 := by
  intro M1 M2 x1 x2 x3 hF
  unfold F_law_p909 at hF
  refine l_aload_n (pc := 909) 1 dL_law_909 rfl rfl ?_
  refine l_aload_n (pc := 910) 0 dL_law_910 rfl rfl ?_
  refine l_iload_n (pc := 911) 3 dL_law_911 rfl rfl ?_
  refine l_iconst (pc := 912) (w := 1) dL_law_912 (by decide) ?_
  refine l_iadd (pc := 913) dL_law_913 ?_
  refine l_sld (pc := 914) dL_law_914 hF (fun hF => ?_)
  refine l_aload_n (pc := 915) 0 dL_law_915 rfl rfl ?_
  refine l_iload_n (pc := 916) 3 dL_law_916 rfl rfl ?_
  refine l_iconst (pc := 917) (w := 2) dL_law_917 (by decide) ?_
  refine l_iadd (pc := 918) dL_law_918 ?_
  refine l_sld (pc := 919) dL_law_919 hF (fun hF => ?_)
  refine l_aload_n (pc := 920) 0 dL_law_920 rfl rfl ?_
  refine l_iload_n (pc := 921) 3 dL_law_921 rfl rfl ?_
  refine l_iconst (pc := 922) (w := 3) dL_law_922 (by decide) ?_
  refine l_iadd (pc := 923) dL_law_923 ?_
  refine l_sld (pc := 924) dL_law_924 hF (fun hF => ?_)
  refine l_callV_J1 (pc := 925) (y := yX11_ahead) (ci := 12) (Tb := TX11) (N := 11) (Py := P_X11_ahead) (n := 3) (As := [.int (lxS z (ixn (x3 + (1 : Int32)))), .int (lxS z (ixn (x3 + (2 : Int32)))), .int (lxS z (ixn (x3 + (3 : Int32))))]) rfl (by decide) (fun q e => k_X11_ahead (lxG z) M1 x1 (lxS z (ixn (x3 + (1 : Int32)))) (lxS z (ixn (x3 + (2 : Int32)))) (lxS z (ixn (x3 + (3 : Int32)))) q e) tw_944 tw_945 tw_946 tw_60 tw_947 hd_X11_ahead ⟨Nat.le_of_ble_eq_true rfl, Nat.le_of_ble_eq_true rfl⟩ rfl rfl (Nat.le_of_ble_eq_true rfl) dL_law_925 hF (fun M1 M2 r3 hF => ?_)
  refine l_aload_n (pc := 928) 2 dL_law_928 rfl rfl ?_
  refine l_aload_n (pc := 929) 0 dL_law_929 rfl rfl ?_
  refine l_iload_n (pc := 930) 3 dL_law_930 rfl rfl ?_
  refine l_iconst (pc := 931) (w := 1) dL_law_931 (by decide) ?_
  refine l_iadd (pc := 932) dL_law_932 ?_
  refine l_sld (pc := 933) dL_law_933 hF (fun hF => ?_)
  refine l_aload_n (pc := 934) 0 dL_law_934 rfl rfl ?_
  refine l_iload_n (pc := 935) 3 dL_law_935 rfl rfl ?_
  refine l_iconst (pc := 936) (w := 2) dL_law_936 (by decide) ?_
  refine l_iadd (pc := 937) dL_law_937 ?_
  refine l_sld (pc := 938) dL_law_938 hF (fun hF => ?_)
  refine l_aload_n (pc := 939) 0 dL_law_939 rfl rfl ?_
  refine l_iload_n (pc := 940) 3 dL_law_940 rfl rfl ?_
  refine l_iconst (pc := 941) (w := 3) dL_law_941 (by decide) ?_
  refine l_iadd (pc := 942) dL_law_942 ?_
  refine l_sld (pc := 943) dL_law_943 hF (fun hF => ?_)
  refine l_callV_J2 (pc := 944) (y := yX12_ahead) (ci := 13) (Tb := TX12) (N := 58) (Py := P_X12_ahead) (n := 3) (As := [.int (lxS z (ixn (x3 + (1 : Int32)))), .int (lxS z (ixn (x3 + (2 : Int32)))), .int (lxS z (ixn (x3 + (3 : Int32))))]) rfl (by decide) (fun q e => k_X12_ahead (lxG z) M2 x2 (lxS z (ixn (x3 + (1 : Int32)))) (lxS z (ixn (x3 + (2 : Int32)))) (lxS z (ixn (x3 + (3 : Int32)))) q e) tw_1469 tw_1470 tw_1471 tw_70 tw_1472 hd_X12_ahead ⟨Nat.le_of_ble_eq_true rfl, Nat.le_of_ble_eq_true rfl⟩ rfl rfl (Nat.le_of_ble_eq_true rfl) dL_law_944 hF (fun M5 M4 r6 hF => ?_)
  refine l_lcmp (pc := 947) dL_law_947 ?_
  refine l_if_eq (pc := 948) (tgt := 1191) dL_law_948 rfl hF (fun hF => ?_) (fun hF => ?_)
  · exact TL.sub ((w_law_p1191 hk18) M4 M5 x1 x2 x3 hF) [0, 1, 2, 3] rfl
  · refine l_iconst (pc := 951) (w := 0) dL_law_951 (by decide) ?_
    cases hF
set_option maxHeartbeats 8000000 in
theorem w_law_p953 {z : LX} {res : Unit} {k18 : Mem → Mem → Nat → Nat → Int32 → Option Unit} (hk18 : ∀ (M1 M2 : Mem) (x1 : Nat) (x2 : Nat) (x3 : Int32), k18 M1 M2 x1 x2 x3 = some res → TL z M1 M2 [(0, .ref (lxB z)), (1, .ref x1), (2, .ref x2), (3, .int x3)] [] 18) : ∀ (M1 M2 : Mem) (x1 : Nat) (x2 : Nat) (x3 : Int32), F_law_p953 (lxH z) (lxN z) (lxS z) k18 M1 M2 x1 x2 x3 = some res → TL z M1 M2 [(0, .ref (lxB z)), (1, .ref x1), (2, .ref x2), (3, .int x3)] [] 953 := by
  intro M1 M2 x1 x2 x3 hF
  unfold F_law_p953 at hF
  refine l_aload_n (pc := 953) 1 dL_law_953 rfl rfl ?_
  refine l_aload_n (pc := 954) 0 dL_law_954 rfl rfl ?_
  refine l_iload_n (pc := 955) 3 dL_law_955 rfl rfl ?_
  refine l_iconst (pc := 956) (w := 1) dL_law_956 (by decide) ?_
  refine l_iadd (pc := 957) dL_law_957 ?_
  refine l_sld (pc := 958) dL_law_958 hF (fun hF => ?_)
  refine l_aload_n (pc := 959) 0 dL_law_959 rfl rfl ?_
  refine l_iload_n (pc := 960) 3 dL_law_960 rfl rfl ?_
  refine l_iconst (pc := 961) (w := 2) dL_law_961 (by decide) ?_
  refine l_iadd (pc := 962) dL_law_962 ?_
  refine l_sld (pc := 963) dL_law_963 hF (fun hF => ?_)
  refine l_callV_I1 (pc := 964) (y := yX11_few) (ci := 12) (Tb := TX11) (N := 11) (Py := P_X11_few) (n := 2) (As := [.int (lxS z (ixn (x3 + (1 : Int32)))), .int (lxS z (ixn (x3 + (2 : Int32))))]) rfl (by decide) (fun q e => k_X11_few (lxG z) M1 x1 (lxS z (ixn (x3 + (1 : Int32)))) (lxS z (ixn (x3 + (2 : Int32)))) q e) tw_977 tw_978 tw_979 tw_60 tw_980 hd_X11_few ⟨Nat.le_of_ble_eq_true rfl, Nat.le_of_ble_eq_true rfl⟩ rfl rfl (Nat.le_of_ble_eq_true rfl) dL_law_964 hF (fun M1 M2 r3 hF => ?_)
  refine l_aload_n (pc := 967) 2 dL_law_967 rfl rfl ?_
  refine l_aload_n (pc := 968) 0 dL_law_968 rfl rfl ?_
  refine l_iload_n (pc := 969) 3 dL_law_969 rfl rfl ?_
  refine l_iconst (pc := 970) (w := 1) dL_law_970 (by decide) ?_
  refine l_iadd (pc := 971) dL_law_971 ?_
  refine l_sld (pc := 972) dL_law_972 hF (fun hF => ?_)
  refine l_aload_n (pc := 973) 0 dL_law_973 rfl rfl ?_
  refine l_iload_n (pc := 974) 3 dL_law_974 rfl rfl ?_
  refine l_iconst (pc := 975) (w := 2) dL_law_975 (by decide) ?_
  refine l_iadd (pc := 976) dL_law_976 ?_
  refine l_sld (pc := 977) dL_law_977 hF (fun hF => ?_)
  refine l_callV_I2 (pc := 978) (y := yX12_few) (ci := 13) (Tb := TX12) (N := 58) (Py := P_X12_few) (n := 2) (As := [.int (lxS z (ixn (x3 + (1 : Int32)))), .int (lxS z (ixn (x3 + (2 : Int32))))]) rfl (by decide) (fun q e => k_X12_few (lxG z) M2 x2 (lxS z (ixn (x3 + (1 : Int32)))) (lxS z (ixn (x3 + (2 : Int32)))) q e) tw_1486 tw_1487 tw_1488 tw_70 tw_1489 hd_X12_few ⟨Nat.le_of_ble_eq_true rfl, Nat.le_of_ble_eq_true rfl⟩ rfl rfl (Nat.le_of_ble_eq_true rfl) dL_law_978 hF (fun M5 M4 r6 hF => ?_)
  refine l_icmp_eq (pc := 981) (tgt := 1191) dL_law_981 rfl hF (fun hF => ?_) (fun hF => ?_)
  · exact TL.sub ((w_law_p1191 hk18) M4 M5 x1 x2 x3 hF) [0, 1, 2, 3] rfl
  · refine l_iconst (pc := 984) (w := 0) dL_law_984 (by decide) ?_
    cases hF
set_option maxHeartbeats 8000000 in
theorem w_law_p986 {z : LX} {res : Unit} {k18 : Mem → Mem → Nat → Nat → Int32 → Option Unit} (hk18 : ∀ (M1 M2 : Mem) (x1 : Nat) (x2 : Nat) (x3 : Int32), k18 M1 M2 x1 x2 x3 = some res → TL z M1 M2 [(0, .ref (lxB z)), (1, .ref x1), (2, .ref x2), (3, .int x3)] [] 18) : ∀ (M1 M2 : Mem) (x1 : Nat) (x2 : Nat) (x3 : Int32), F_law_p986 (lxH z) (lxN z) (lxS z) k18 M1 M2 x1 x2 x3 = some res → TL z M1 M2 [(0, .ref (lxB z)), (1, .ref x1), (2, .ref x2), (3, .int x3)] [] 986 := by
  intro M1 M2 x1 x2 x3 hF
  unfold F_law_p986 at hF
  refine l_aload_n (pc := 986) 1 dL_law_986 rfl rfl ?_
  refine l_aload_n (pc := 987) 0 dL_law_987 rfl rfl ?_
  refine l_iload_n (pc := 988) 3 dL_law_988 rfl rfl ?_
  refine l_iconst (pc := 989) (w := 1) dL_law_989 (by decide) ?_
  refine l_iadd (pc := 990) dL_law_990 ?_
  refine l_sld (pc := 991) dL_law_991 hF (fun hF => ?_)
  refine l_aload_n (pc := 992) 0 dL_law_992 rfl rfl ?_
  refine l_iload_n (pc := 993) 3 dL_law_993 rfl rfl ?_
  refine l_iconst (pc := 994) (w := 2) dL_law_994 (by decide) ?_
  refine l_iadd (pc := 995) dL_law_995 ?_
  refine l_sld (pc := 996) dL_law_996 hF (fun hF => ?_)
  refine l_aload_n (pc := 997) 0 dL_law_997 rfl rfl ?_
  refine l_iload_n (pc := 998) 3 dL_law_998 rfl rfl ?_
  refine l_iconst (pc := 999) (w := 3) dL_law_999 (by decide) ?_
  refine l_iadd (pc := 1000) dL_law_1000 ?_
  refine l_sld (pc := 1001) dL_law_1001 hF (fun hF => ?_)
  refine l_callV_J1 (pc := 1002) (y := yX11_takenFrom) (ci := 12) (Tb := TX11) (N := 11) (Py := P_X11_takenFrom) (n := 3) (As := [.int (lxS z (ixn (x3 + (1 : Int32)))), .int (lxS z (ixn (x3 + (2 : Int32)))), .int (lxS z (ixn (x3 + (3 : Int32))))]) rfl (by decide) (fun q e => k_X11_takenFrom (lxG z) M1 x1 (lxS z (ixn (x3 + (1 : Int32)))) (lxS z (ixn (x3 + (2 : Int32)))) (lxS z (ixn (x3 + (3 : Int32)))) q e) tw_995 tw_996 tw_997 tw_60 tw_998 hd_X11_takenFrom ⟨Nat.le_of_ble_eq_true rfl, Nat.le_of_ble_eq_true rfl⟩ rfl rfl (Nat.le_of_ble_eq_true rfl) dL_law_1002 hF (fun M1 M2 r3 hF => ?_)
  refine l_aload_n (pc := 1005) 2 dL_law_1005 rfl rfl ?_
  refine l_aload_n (pc := 1006) 0 dL_law_1006 rfl rfl ?_
  refine l_iload_n (pc := 1007) 3 dL_law_1007 rfl rfl ?_
  refine l_iconst (pc := 1008) (w := 1) dL_law_1008 (by decide) ?_
  refine l_iadd (pc := 1009) dL_law_1009 ?_
  refine l_sld (pc := 1010) dL_law_1010 hF (fun hF => ?_)
  refine l_aload_n (pc := 1011) 0 dL_law_1011 rfl rfl ?_
  refine l_iload_n (pc := 1012) 3 dL_law_1012 rfl rfl ?_
  refine l_iconst (pc := 1013) (w := 2) dL_law_1013 (by decide) ?_
  refine l_iadd (pc := 1014) dL_law_1014 ?_
  refine l_sld (pc := 1015) dL_law_1015 hF (fun hF => ?_)
  refine l_aload_n (pc := 1016) 0 dL_law_1016 rfl rfl ?_
  refine l_iload_n (pc := 1017) 3 dL_law_1017 rfl rfl ?_
  refine l_iconst (pc := 1018) (w := 3) dL_law_1018 (by decide) ?_
  refine l_iadd (pc := 1019) dL_law_1019 ?_
  refine l_sld (pc := 1020) dL_law_1020 hF (fun hF => ?_)
  refine l_callV_J2 (pc := 1021) (y := yX12_takenFrom) (ci := 13) (Tb := TX12) (N := 58) (Py := P_X12_takenFrom) (n := 3) (As := [.int (lxS z (ixn (x3 + (1 : Int32)))), .int (lxS z (ixn (x3 + (2 : Int32)))), .int (lxS z (ixn (x3 + (3 : Int32))))]) rfl (by decide) (fun q e => k_X12_takenFrom (lxG z) M2 x2 (lxS z (ixn (x3 + (1 : Int32)))) (lxS z (ixn (x3 + (2 : Int32)))) (lxS z (ixn (x3 + (3 : Int32)))) q e) tw_1493 tw_1494 tw_1495 tw_70 tw_1496 hd_X12_takenFrom ⟨Nat.le_of_ble_eq_true rfl, Nat.le_of_ble_eq_true rfl⟩ rfl rfl (Nat.le_of_ble_eq_true rfl) dL_law_1021 hF (fun M5 M4 r6 hF => ?_)
  refine l_lcmp (pc := 1024) dL_law_1024 ?_
  refine l_if_eq (pc := 1025) (tgt := 1191) dL_law_1025 rfl hF (fun hF => ?_) (fun hF => ?_)
  · exact TL.sub ((w_law_p1191 hk18) M4 M5 x1 x2 x3 hF) [0, 1, 2, 3] rfl
  · refine l_iconst (pc := 1028) (w := 0) dL_law_1028 (by decide) ?_
    cases hF
set_option maxHeartbeats 8000000 in
theorem w_law_p1030 {z : LX} {res : Unit} {k18 : Mem → Mem → Nat → Nat → Int32 → Option Unit} (hk18 : ∀ (M1 M2 : Mem) (x1 : Nat) (x2 : Nat) (x3 : Int32), k18 M1 M2 x1 x2 x3 = some res → TL z M1 M2 [(0, .ref (lxB z)), (1, .ref x1), (2, .ref x2), (3, .int x3)] [] 18) : ∀ (M1 M2 : Mem) (x1 : Nat) (x2 : Nat) (x3 : Int32), F_law_p1030 (lxH z) (lxN z) (lxS z) k18 M1 M2 x1 x2 x3 = some res → TL z M1 M2 [(0, .ref (lxB z)), (1, .ref x1), (2, .ref x2), (3, .int x3)] [] 1030 := by
  intro M1 M2 x1 x2 x3 hF
  unfold F_law_p1030 at hF
  refine l_aload_n (pc := 1030) 1 dL_law_1030 rfl rfl ?_
  refine l_aload_n (pc := 1031) 0 dL_law_1031 rfl rfl ?_
  refine l_iload_n (pc := 1032) 3 dL_law_1032 rfl rfl ?_
  refine l_iconst (pc := 1033) (w := 1) dL_law_1033 (by decide) ?_
  refine l_iadd (pc := 1034) dL_law_1034 ?_
  refine l_sld (pc := 1035) dL_law_1035 hF (fun hF => ?_)
  refine l_aload_n (pc := 1036) 0 dL_law_1036 rfl rfl ?_
  refine l_iload_n (pc := 1037) 3 dL_law_1037 rfl rfl ?_
  refine l_iconst (pc := 1038) (w := 2) dL_law_1038 (by decide) ?_
  refine l_iadd (pc := 1039) dL_law_1039 ?_
  refine l_sld (pc := 1040) dL_law_1040 hF (fun hF => ?_)
  refine l_callV_I1 (pc := 1041) (y := yX11_tank) (ci := 12) (Tb := TX11) (N := 11) (Py := P_X11_tank) (n := 2) (As := [.int (lxS z (ixn (x3 + (1 : Int32)))), .int (lxS z (ixn (x3 + (2 : Int32))))]) rfl (by decide) (fun q e => k_X11_tank (lxG z) M1 x1 (lxS z (ixn (x3 + (1 : Int32)))) (lxS z (ixn (x3 + (2 : Int32)))) q e) tw_1003 tw_1004 tw_1005 tw_60 tw_1006 hd_X11_tank ⟨Nat.le_of_ble_eq_true rfl, Nat.le_of_ble_eq_true rfl⟩ rfl rfl (Nat.le_of_ble_eq_true rfl) dL_law_1041 hF (fun M1 M2 r3 hF => ?_)
  refine l_aload_n (pc := 1044) 2 dL_law_1044 rfl rfl ?_
  refine l_aload_n (pc := 1045) 0 dL_law_1045 rfl rfl ?_
  refine l_iload_n (pc := 1046) 3 dL_law_1046 rfl rfl ?_
  refine l_iconst (pc := 1047) (w := 1) dL_law_1047 (by decide) ?_
  refine l_iadd (pc := 1048) dL_law_1048 ?_
  refine l_sld (pc := 1049) dL_law_1049 hF (fun hF => ?_)
  refine l_aload_n (pc := 1050) 0 dL_law_1050 rfl rfl ?_
  refine l_iload_n (pc := 1051) 3 dL_law_1051 rfl rfl ?_
  refine l_iconst (pc := 1052) (w := 2) dL_law_1052 (by decide) ?_
  refine l_iadd (pc := 1053) dL_law_1053 ?_
  refine l_sld (pc := 1054) dL_law_1054 hF (fun hF => ?_)
  refine l_callV_I2 (pc := 1055) (y := yX12_tank) (ci := 13) (Tb := TX12) (N := 58) (Py := P_X12_tank) (n := 2) (As := [.int (lxS z (ixn (x3 + (1 : Int32)))), .int (lxS z (ixn (x3 + (2 : Int32))))]) rfl (by decide) (fun q e => k_X12_tank (lxG z) M2 x2 (lxS z (ixn (x3 + (1 : Int32)))) (lxS z (ixn (x3 + (2 : Int32)))) q e) tw_1501 tw_1502 tw_1503 tw_70 tw_1504 hd_X12_tank ⟨Nat.le_of_ble_eq_true rfl, Nat.le_of_ble_eq_true rfl⟩ rfl rfl (Nat.le_of_ble_eq_true rfl) dL_law_1055 hF (fun M5 M4 r6 hF => ?_)
  refine l_icmp_eq (pc := 1058) (tgt := 1191) dL_law_1058 rfl hF (fun hF => ?_) (fun hF => ?_)
  · exact TL.sub ((w_law_p1191 hk18) M4 M5 x1 x2 x3 hF) [0, 1, 2, 3] rfl
  · refine l_iconst (pc := 1061) (w := 0) dL_law_1061 (by decide) ?_
    cases hF
set_option maxHeartbeats 8000000 in
theorem w_law_p1063 {z : LX} {res : Unit} {k18 : Mem → Mem → Nat → Nat → Int32 → Option Unit} (hk18 : ∀ (M1 M2 : Mem) (x1 : Nat) (x2 : Nat) (x3 : Int32), k18 M1 M2 x1 x2 x3 = some res → TL z M1 M2 [(0, .ref (lxB z)), (1, .ref x1), (2, .ref x2), (3, .int x3)] [] 18) : ∀ (M1 M2 : Mem) (x1 : Nat) (x2 : Nat) (x3 : Int32), F_law_p1063 (lxH z) (lxN z) (lxS z) k18 M1 M2 x1 x2 x3 = some res → TL z M1 M2 [(0, .ref (lxB z)), (1, .ref x1), (2, .ref x2), (3, .int x3)] [] 1063 := by
  intro M1 M2 x1 x2 x3 hF
  unfold F_law_p1063 at hF
  refine l_aload_n (pc := 1063) 1 dL_law_1063 rfl rfl ?_
  refine l_aload_n (pc := 1064) 0 dL_law_1064 rfl rfl ?_
  refine l_iload_n (pc := 1065) 3 dL_law_1065 rfl rfl ?_
  refine l_iconst (pc := 1066) (w := 1) dL_law_1066 (by decide) ?_
  refine l_iadd (pc := 1067) dL_law_1067 ?_
  refine l_sld (pc := 1068) dL_law_1068 hF (fun hF => ?_)
  refine l_callV_J1 (pc := 1069) (y := yX11_best) (ci := 12) (Tb := TX11) (N := 11) (Py := P_X11_best) (n := 1) (As := [.int (lxS z (ixn (x3 + (1 : Int32))))]) rfl (by decide) (fun q e => k_X11_best (lxG z) M1 x1 (lxS z (ixn (x3 + (1 : Int32)))) q e) tw_1007 tw_1008 tw_1009 tw_60 tw_1010 hd_X11_best ⟨Nat.le_of_ble_eq_true rfl, Nat.le_of_ble_eq_true rfl⟩ rfl rfl (Nat.le_of_ble_eq_true rfl) dL_law_1069 hF (fun M1 M2 r3 hF => ?_)
  refine l_aload_n (pc := 1072) 2 dL_law_1072 rfl rfl ?_
  refine l_aload_n (pc := 1073) 0 dL_law_1073 rfl rfl ?_
  refine l_iload_n (pc := 1074) 3 dL_law_1074 rfl rfl ?_
  refine l_iconst (pc := 1075) (w := 1) dL_law_1075 (by decide) ?_
  refine l_iadd (pc := 1076) dL_law_1076 ?_
  refine l_sld (pc := 1077) dL_law_1077 hF (fun hF => ?_)
  refine l_callV_J2 (pc := 1078) (y := yX12_best) (ci := 13) (Tb := TX12) (N := 58) (Py := P_X12_best) (n := 1) (As := [.int (lxS z (ixn (x3 + (1 : Int32))))]) rfl (by decide) (fun q e => k_X12_best (lxG z) M2 x2 (lxS z (ixn (x3 + (1 : Int32)))) q e) tw_1505 tw_1506 tw_1507 tw_70 tw_1508 hd_X12_best ⟨Nat.le_of_ble_eq_true rfl, Nat.le_of_ble_eq_true rfl⟩ rfl rfl (Nat.le_of_ble_eq_true rfl) dL_law_1078 hF (fun M5 M4 r6 hF => ?_)
  refine l_lcmp (pc := 1081) dL_law_1081 ?_
  refine l_if_eq (pc := 1082) (tgt := 1191) dL_law_1082 rfl hF (fun hF => ?_) (fun hF => ?_)
  · exact TL.sub ((w_law_p1191 hk18) M4 M5 x1 x2 x3 hF) [0, 1, 2, 3] rfl
  · refine l_iconst (pc := 1085) (w := 0) dL_law_1085 (by decide) ?_
    cases hF
set_option maxHeartbeats 8000000 in
theorem w_law_p1087 {z : LX} {res : Unit} {k18 : Mem → Mem → Nat → Nat → Int32 → Option Unit} (hk18 : ∀ (M1 M2 : Mem) (x1 : Nat) (x2 : Nat) (x3 : Int32), k18 M1 M2 x1 x2 x3 = some res → TL z M1 M2 [(0, .ref (lxB z)), (1, .ref x1), (2, .ref x2), (3, .int x3)] [] 18) : ∀ (M1 M2 : Mem) (x1 : Nat) (x2 : Nat) (x3 : Int32), F_law_p1087 (lxH z) (lxN z) (lxS z) k18 M1 M2 x1 x2 x3 = some res → TL z M1 M2 [(0, .ref (lxB z)), (1, .ref x1), (2, .ref x2), (3, .int x3)] [] 1087 := by
  intro M1 M2 x1 x2 x3 hF
  unfold F_law_p1087 at hF
  refine l_aload_n (pc := 1087) 1 dL_law_1087 rfl rfl ?_
  refine l_aload_n (pc := 1088) 0 dL_law_1088 rfl rfl ?_
  refine l_iload_n (pc := 1089) 3 dL_law_1089 rfl rfl ?_
  refine l_iconst (pc := 1090) (w := 1) dL_law_1090 (by decide) ?_
  refine l_iadd (pc := 1091) dL_law_1091 ?_
  refine l_sld (pc := 1092) dL_law_1092 hF (fun hF => ?_)
  refine l_aload_n (pc := 1093) 0 dL_law_1093 rfl rfl ?_
  refine l_iload_n (pc := 1094) 3 dL_law_1094 rfl rfl ?_
  refine l_iconst (pc := 1095) (w := 2) dL_law_1095 (by decide) ?_
  refine l_iadd (pc := 1096) dL_law_1096 ?_
  refine l_sld (pc := 1097) dL_law_1097 hF (fun hF => ?_)
  refine l_callV_I1 (pc := 1098) (y := yX11_reading) (ci := 12) (Tb := TX11) (N := 11) (Py := P_X11_reading) (n := 2) (As := [.int (lxS z (ixn (x3 + (1 : Int32)))), .int (lxS z (ixn (x3 + (2 : Int32))))]) rfl (by decide) (fun q e => k_X11_reading (lxG z) M1 x1 (lxS z (ixn (x3 + (1 : Int32)))) (lxS z (ixn (x3 + (2 : Int32)))) q e) tw_1036 tw_1037 tw_1038 tw_60 tw_1039 hd_X11_reading ⟨Nat.le_of_ble_eq_true rfl, Nat.le_of_ble_eq_true rfl⟩ rfl rfl (Nat.le_of_ble_eq_true rfl) dL_law_1098 hF (fun M1 M2 r3 hF => ?_)
  refine l_aload_n (pc := 1101) 2 dL_law_1101 rfl rfl ?_
  refine l_aload_n (pc := 1102) 0 dL_law_1102 rfl rfl ?_
  refine l_iload_n (pc := 1103) 3 dL_law_1103 rfl rfl ?_
  refine l_iconst (pc := 1104) (w := 1) dL_law_1104 (by decide) ?_
  refine l_iadd (pc := 1105) dL_law_1105 ?_
  refine l_sld (pc := 1106) dL_law_1106 hF (fun hF => ?_)
  refine l_aload_n (pc := 1107) 0 dL_law_1107 rfl rfl ?_
  refine l_iload_n (pc := 1108) 3 dL_law_1108 rfl rfl ?_
  refine l_iconst (pc := 1109) (w := 2) dL_law_1109 (by decide) ?_
  refine l_iadd (pc := 1110) dL_law_1110 ?_
  refine l_sld (pc := 1111) dL_law_1111 hF (fun hF => ?_)
  refine l_callV_I2 (pc := 1112) (y := yX12_reading) (ci := 13) (Tb := TX12) (N := 58) (Py := P_X12_reading) (n := 2) (As := [.int (lxS z (ixn (x3 + (1 : Int32)))), .int (lxS z (ixn (x3 + (2 : Int32))))]) rfl (by decide) (fun q e => k_X12_reading (lxG z) M2 x2 (lxS z (ixn (x3 + (1 : Int32)))) (lxS z (ixn (x3 + (2 : Int32)))) q e) tw_1526 tw_1527 tw_1528 tw_70 tw_1529 hd_X12_reading ⟨Nat.le_of_ble_eq_true rfl, Nat.le_of_ble_eq_true rfl⟩ rfl rfl (Nat.le_of_ble_eq_true rfl) dL_law_1112 hF (fun M5 M4 r6 hF => ?_)
  refine l_icmp_eq (pc := 1115) (tgt := 1191) dL_law_1115 rfl hF (fun hF => ?_) (fun hF => ?_)
  · exact TL.sub ((w_law_p1191 hk18) M4 M5 x1 x2 x3 hF) [0, 1, 2, 3] rfl
  · refine l_iconst (pc := 1118) (w := 0) dL_law_1118 (by decide) ?_
    cases hF
set_option maxHeartbeats 8000000 in
theorem w_law_p1120 {z : LX} {res : Unit} {k18 : Mem → Mem → Nat → Nat → Int32 → Option Unit} (hk18 : ∀ (M1 M2 : Mem) (x1 : Nat) (x2 : Nat) (x3 : Int32), k18 M1 M2 x1 x2 x3 = some res → TL z M1 M2 [(0, .ref (lxB z)), (1, .ref x1), (2, .ref x2), (3, .int x3)] [] 18) : ∀ (M1 M2 : Mem) (x1 : Nat) (x2 : Nat) (x3 : Int32), F_law_p1120 (lxH z) (lxN z) (lxS z) k18 M1 M2 x1 x2 x3 = some res → TL z M1 M2 [(0, .ref (lxB z)), (1, .ref x1), (2, .ref x2), (3, .int x3)] [] 1120 := by
  intro M1 M2 x1 x2 x3 hF
  unfold F_law_p1120 at hF
  refine l_aload_n (pc := 1120) 1 dL_law_1120 rfl rfl ?_
  refine l_aload_n (pc := 1121) 0 dL_law_1121 rfl rfl ?_
  refine l_iload_n (pc := 1122) 3 dL_law_1122 rfl rfl ?_
  refine l_iconst (pc := 1123) (w := 1) dL_law_1123 (by decide) ?_
  refine l_iadd (pc := 1124) dL_law_1124 ?_
  refine l_sld (pc := 1125) dL_law_1125 hF (fun hF => ?_)
  refine l_callV_J1 (pc := 1126) (y := yX11_wrong) (ci := 12) (Tb := TX11) (N := 11) (Py := P_X11_wrong) (n := 1) (As := [.int (lxS z (ixn (x3 + (1 : Int32))))]) rfl (by decide) (fun q e => k_X11_wrong (lxG z) M1 x1 (lxS z (ixn (x3 + (1 : Int32)))) q e) tw_1059 tw_1060 tw_1061 tw_60 tw_1062 hd_X11_wrong ⟨Nat.le_of_ble_eq_true rfl, Nat.le_of_ble_eq_true rfl⟩ rfl rfl (Nat.le_of_ble_eq_true rfl) dL_law_1126 hF (fun M1 M2 r3 hF => ?_)
  refine l_aload_n (pc := 1129) 2 dL_law_1129 rfl rfl ?_
  refine l_aload_n (pc := 1130) 0 dL_law_1130 rfl rfl ?_
  refine l_iload_n (pc := 1131) 3 dL_law_1131 rfl rfl ?_
  refine l_iconst (pc := 1132) (w := 1) dL_law_1132 (by decide) ?_
  refine l_iadd (pc := 1133) dL_law_1133 ?_
  refine l_sld (pc := 1134) dL_law_1134 hF (fun hF => ?_)
  refine l_callV_J2 (pc := 1135) (y := yX12_wrong) (ci := 13) (Tb := TX12) (N := 58) (Py := P_X12_wrong) (n := 1) (As := [.int (lxS z (ixn (x3 + (1 : Int32))))]) rfl (by decide) (fun q e => k_X12_wrong (lxG z) M2 x2 (lxS z (ixn (x3 + (1 : Int32)))) q e) tw_1530 tw_1531 tw_1532 tw_70 tw_1533 hd_X12_wrong ⟨Nat.le_of_ble_eq_true rfl, Nat.le_of_ble_eq_true rfl⟩ rfl rfl (Nat.le_of_ble_eq_true rfl) dL_law_1135 hF (fun M5 M4 r6 hF => ?_)
  refine l_lcmp (pc := 1138) dL_law_1138 ?_
  refine l_if_eq (pc := 1139) (tgt := 1191) dL_law_1139 rfl hF (fun hF => ?_) (fun hF => ?_)
  · exact TL.sub ((w_law_p1191 hk18) M4 M5 x1 x2 x3 hF) [0, 1, 2, 3] rfl
  · refine l_iconst (pc := 1142) (w := 0) dL_law_1142 (by decide) ?_
    cases hF
set_option maxHeartbeats 8000000 in
theorem w_law_p1144 {z : LX} {res : Unit} {k18 : Mem → Mem → Nat → Nat → Int32 → Option Unit} (hk18 : ∀ (M1 M2 : Mem) (x1 : Nat) (x2 : Nat) (x3 : Int32), k18 M1 M2 x1 x2 x3 = some res → TL z M1 M2 [(0, .ref (lxB z)), (1, .ref x1), (2, .ref x2), (3, .int x3)] [] 18) : ∀ (M1 M2 : Mem) (x1 : Nat) (x2 : Nat) (x3 : Int32), F_law_p1144 (lxH z) (lxN z) (lxS z) k18 M1 M2 x1 x2 x3 = some res → TL z M1 M2 [(0, .ref (lxB z)), (1, .ref x1), (2, .ref x2), (3, .int x3)] [] 1144 := by
  intro M1 M2 x1 x2 x3 hF
  unfold F_law_p1144 at hF
  refine l_aload_n (pc := 1144) 1 dL_law_1144 rfl rfl ?_
  refine l_aload_n (pc := 1145) 0 dL_law_1145 rfl rfl ?_
  refine l_iload_n (pc := 1146) 3 dL_law_1146 rfl rfl ?_
  refine l_iconst (pc := 1147) (w := 1) dL_law_1147 (by decide) ?_
  refine l_iadd (pc := 1148) dL_law_1148 ?_
  refine l_sld (pc := 1149) dL_law_1149 hF (fun hF => ?_)
  refine l_callV_J1 (pc := 1150) (y := yX11_leak) (ci := 12) (Tb := TX11) (N := 11) (Py := P_X11_leak) (n := 1) (As := [.int (lxS z (ixn (x3 + (1 : Int32))))]) rfl (by decide) (fun q e => k_X11_leak (lxG z) M1 x1 (lxS z (ixn (x3 + (1 : Int32)))) q e) tw_1063 tw_1064 tw_1065 tw_60 tw_1066 hd_X11_leak ⟨Nat.le_of_ble_eq_true rfl, Nat.le_of_ble_eq_true rfl⟩ rfl rfl (Nat.le_of_ble_eq_true rfl) dL_law_1150 hF (fun M1 M2 r3 hF => ?_)
  refine l_aload_n (pc := 1153) 2 dL_law_1153 rfl rfl ?_
  refine l_aload_n (pc := 1154) 0 dL_law_1154 rfl rfl ?_
  refine l_iload_n (pc := 1155) 3 dL_law_1155 rfl rfl ?_
  refine l_iconst (pc := 1156) (w := 1) dL_law_1156 (by decide) ?_
  refine l_iadd (pc := 1157) dL_law_1157 ?_
  refine l_sld (pc := 1158) dL_law_1158 hF (fun hF => ?_)
  refine l_callV_J2 (pc := 1159) (y := yX12_leak) (ci := 13) (Tb := TX12) (N := 58) (Py := P_X12_leak) (n := 1) (As := [.int (lxS z (ixn (x3 + (1 : Int32))))]) rfl (by decide) (fun q e => k_X12_leak (lxG z) M2 x2 (lxS z (ixn (x3 + (1 : Int32)))) q e) tw_1534 tw_1535 tw_1536 tw_70 tw_1537 hd_X12_leak ⟨Nat.le_of_ble_eq_true rfl, Nat.le_of_ble_eq_true rfl⟩ rfl rfl (Nat.le_of_ble_eq_true rfl) dL_law_1159 hF (fun M5 M4 r6 hF => ?_)
  refine l_lcmp (pc := 1162) dL_law_1162 ?_
  refine l_if_eq (pc := 1163) (tgt := 1191) dL_law_1163 rfl hF (fun hF => ?_) (fun hF => ?_)
  · exact TL.sub ((w_law_p1191 hk18) M4 M5 x1 x2 x3 hF) [0, 1, 2, 3] rfl
  · refine l_iconst (pc := 1166) (w := 0) dL_law_1166 (by decide) ?_
    cases hF
set_option maxHeartbeats 8000000 in
theorem w_law_p1168 {z : LX} {res : Unit} {k18 : Mem → Mem → Nat → Nat → Int32 → Option Unit} (hk18 : ∀ (M1 M2 : Mem) (x1 : Nat) (x2 : Nat) (x3 : Int32), k18 M1 M2 x1 x2 x3 = some res → TL z M1 M2 [(0, .ref (lxB z)), (1, .ref x1), (2, .ref x2), (3, .int x3)] [] 18) : ∀ (M1 M2 : Mem) (x1 : Nat) (x2 : Nat) (x3 : Int32), F_law_p1168 (lxH z) (lxN z) (lxS z) k18 M1 M2 x1 x2 x3 = some res → TL z M1 M2 [(0, .ref (lxB z)), (1, .ref x1), (2, .ref x2), (3, .int x3)] [] 1168 := by
  intro M1 M2 x1 x2 x3 hF
  unfold F_law_p1168 at hF
  refine l_aload_n (pc := 1168) 1 dL_law_1168 rfl rfl ?_
  refine l_aload_n (pc := 1169) 0 dL_law_1169 rfl rfl ?_
  refine l_iload_n (pc := 1170) 3 dL_law_1170 rfl rfl ?_
  refine l_iconst (pc := 1171) (w := 1) dL_law_1171 (by decide) ?_
  refine l_iadd (pc := 1172) dL_law_1172 ?_
  refine l_sld (pc := 1173) dL_law_1173 hF (fun hF => ?_)
  refine l_callV_I1 (pc := 1174) (y := yX11_count) (ci := 12) (Tb := TX11) (N := 11) (Py := P_X11_count) (n := 1) (As := [.int (lxS z (ixn (x3 + (1 : Int32))))]) rfl (by decide) (fun q e => k_X11_count (lxG z) M1 x1 (lxS z (ixn (x3 + (1 : Int32)))) q e) tw_1068 tw_1069 tw_1070 tw_60 tw_1071 hd_X11_count ⟨Nat.le_of_ble_eq_true rfl, Nat.le_of_ble_eq_true rfl⟩ rfl rfl (Nat.le_of_ble_eq_true rfl) dL_law_1174 hF (fun M1 M2 r3 hF => ?_)
  refine l_aload_n (pc := 1177) 2 dL_law_1177 rfl rfl ?_
  refine l_aload_n (pc := 1178) 0 dL_law_1178 rfl rfl ?_
  refine l_iload_n (pc := 1179) 3 dL_law_1179 rfl rfl ?_
  refine l_iconst (pc := 1180) (w := 1) dL_law_1180 (by decide) ?_
  refine l_iadd (pc := 1181) dL_law_1181 ?_
  refine l_sld (pc := 1182) dL_law_1182 hF (fun hF => ?_)
  refine l_callV_I2 (pc := 1183) (y := yX12_count) (ci := 13) (Tb := TX12) (N := 58) (Py := P_X12_count) (n := 1) (As := [.int (lxS z (ixn (x3 + (1 : Int32))))]) rfl (by decide) (fun q e => k_X12_count (lxG z) M2 x2 (lxS z (ixn (x3 + (1 : Int32)))) q e) tw_1538 tw_1539 tw_1540 tw_70 tw_1541 hd_X12_count ⟨Nat.le_of_ble_eq_true rfl, Nat.le_of_ble_eq_true rfl⟩ rfl rfl (Nat.le_of_ble_eq_true rfl) dL_law_1183 hF (fun M5 M4 r6 hF => ?_)
  refine l_icmp_eq (pc := 1186) (tgt := 1191) dL_law_1186 rfl hF (fun hF => ?_) (fun hF => ?_)
  · exact TL.sub ((w_law_p1191 hk18) M4 M5 x1 x2 x3 hF) [0, 1, 2, 3] rfl
  · refine l_iconst (pc := 1189) (w := 0) dL_law_1189 (by decide) ?_
    cases hF
set_option maxHeartbeats 8000000 in
theorem w_law_p18 {z : LX} {res : Unit} : ∀ (n : Nat) (M1 M2 : Mem) (x1 : Nat) (x2 : Nat) (x3 : Int32), F_law_p18 (lxH z) (lxN z) (lxS z) n M1 M2 x1 x2 x3 = some res → TL z M1 M2 [(0, .ref (lxB z)), (1, .ref x1), (2, .ref x2), (3, .int x3)] [] 18 := by
  intro n
  induction n with
  | zero =>
    intro M1 M2 x1 x2 x3 hF
    cases hF
  | succ n ih =>
    intro M1 M2 x1 x2 x3 hF
    unfold F_law_p18 at hF
    refine l_iload_n (pc := 18) 3 dL_law_18 rfl rfl ?_
    refine l_aload_n (pc := 19) 0 dL_law_19 rfl rfl ?_
    refine l_slen (pc := 20) dL_law_20 ?_
    refine l_bipush (pc := 21) (w := 6) dL_law_21 (by decide) ?_
    refine l_isub (pc := 23) dL_law_23 ?_
    refine l_icmp_gt (pc := 24) (tgt := 1197) dL_law_24 rfl hF (fun hF => ?_) (fun hF => ?_)
    · refine l_iconst (pc := 1197) (w := 1) dL_law_1197 (by decide) ?_
      exact l_ret (pc := 1198) dL_law_1198
    · refine l_aload_n (pc := 27) 0 dL_law_27 rfl rfl ?_
      refine l_iload_n (pc := 28) 3 dL_law_28 rfl rfl ?_
      refine l_sld (pc := 29) dL_law_29 hF (fun hF => ?_)
      refine l_bipush (pc := 30) (w := 31) dL_law_30 (by decide) ?_
      refine l_iand (pc := 32) dL_law_32 ?_
      rcases swi_e (hi := 30) (n := 31) rfl rfl hF with ⟨h9, hF⟩ | ⟨h7, h8, k9, b9, hk9, e9, hb9, hF⟩
      · refine l_tabOut (pc := 33) (tgt := 1191) dL_law_33 h9 rfl ?_
        exact TL.sub ((w_law_p1191 ih) M1 M2 x1 x2 x3 hF) [0, 1, 2, 3] rfl
      · rcases lt31 k9 hk9 with rfl | rfl | rfl | rfl | rfl | rfl | rfl | rfl | rfl | rfl | rfl | rfl | rfl | rfl | rfl | rfl | rfl | rfl | rfl | rfl | rfl | rfl | rfl | rfl | rfl | rfl | rfl | rfl | rfl | rfl | rfl
        · cases hb9
          refine l_tabIn (pc := 33) (tgt := 172) dL_law_33 h7 h8 (by rw [e9]; rfl) rfl ?_
          exact TL.sub ((w_law_p172 ih) M1 M2 x1 x2 x3 hF) [0, 1, 2, 3] rfl
        · cases hb9
          refine l_tabIn (pc := 33) (tgt := 195) dL_law_33 h7 h8 (by rw [e9]; rfl) rfl ?_
          exact TL.sub ((w_law_p195 ih) M1 M2 x1 x2 x3 hF) [0, 1, 2, 3] rfl
        · cases hb9
          refine l_tabIn (pc := 33) (tgt := 258) dL_law_33 h7 h8 (by rw [e9]; rfl) rfl ?_
          exact TL.sub ((w_law_p258 ih) M1 M2 x1 x2 x3 hF) [0, 1, 2, 3] rfl
        · cases hb9
          refine l_tabIn (pc := 33) (tgt := 301) dL_law_33 h7 h8 (by rw [e9]; rfl) rfl ?_
          exact TL.sub ((w_law_p301 ih) M1 M2 x1 x2 x3 hF) [0, 1, 2, 3] rfl
        · cases hb9
          refine l_tabIn (pc := 33) (tgt := 324) dL_law_33 h7 h8 (by rw [e9]; rfl) rfl ?_
          exact TL.sub ((w_law_p324 ih) M1 M2 x1 x2 x3 hF) [0, 1, 2, 3] rfl
        · cases hb9
          refine l_tabIn (pc := 33) (tgt := 373) dL_law_33 h7 h8 (by rw [e9]; rfl) rfl ?_
          exact TL.sub ((w_law_p373 ih) M1 M2 x1 x2 x3 hF) [0, 1, 2, 3] rfl
        · cases hb9
          refine l_tabIn (pc := 33) (tgt := 407) dL_law_33 h7 h8 (by rw [e9]; rfl) rfl ?_
          exact TL.sub ((w_law_p407 ih) M1 M2 x1 x2 x3 hF) [0, 1, 2, 3] rfl
        · cases hb9
          refine l_tabIn (pc := 33) (tgt := 441) dL_law_33 h7 h8 (by rw [e9]; rfl) rfl ?_
          exact TL.sub ((w_law_p441 ih) M1 M2 x1 x2 x3 hF) [0, 1, 2, 3] rfl
        · cases hb9
          refine l_tabIn (pc := 33) (tgt := 464) dL_law_33 h7 h8 (by rw [e9]; rfl) rfl ?_
          exact TL.sub ((w_law_p464 ih) M1 M2 x1 x2 x3 hF) [0, 1, 2, 3] rfl
        · cases hb9
          refine l_tabIn (pc := 33) (tgt := 507) dL_law_33 h7 h8 (by rw [e9]; rfl) rfl ?_
          exact TL.sub ((w_law_p507 ih) M1 M2 x1 x2 x3 hF) [0, 1, 2, 3] rfl
        · cases hb9
          refine l_tabIn (pc := 33) (tgt := 540) dL_law_33 h7 h8 (by rw [e9]; rfl) rfl ?_
          exact TL.sub ((w_law_p540 ih) M1 M2 x1 x2 x3 hF) [0, 1, 2, 3] rfl
        · cases hb9
          refine l_tabIn (pc := 33) (tgt := 573) dL_law_33 h7 h8 (by rw [e9]; rfl) rfl ?_
          exact TL.sub ((w_law_p573 ih) M1 M2 x1 x2 x3 hF) [0, 1, 2, 3] rfl
        · cases hb9
          refine l_tabIn (pc := 33) (tgt := 597) dL_law_33 h7 h8 (by rw [e9]; rfl) rfl ?_
          exact TL.sub ((w_law_p597 ih) M1 M2 x1 x2 x3 hF) [0, 1, 2, 3] rfl
        · cases hb9
          refine l_tabIn (pc := 33) (tgt := 630) dL_law_33 h7 h8 (by rw [e9]; rfl) rfl ?_
          exact TL.sub ((w_law_p630 ih) M1 M2 x1 x2 x3 hF) [0, 1, 2, 3] rfl
        · cases hb9
          refine l_tabIn (pc := 33) (tgt := 643) dL_law_33 h7 h8 (by rw [e9]; rfl) rfl ?_
          exact TL.sub ((w_law_p643 ih) M1 M2 x1 x2 x3 hF) [0, 1, 2, 3] rfl
        · cases hb9
          refine l_tabIn (pc := 33) (tgt := 666) dL_law_33 h7 h8 (by rw [e9]; rfl) rfl ?_
          exact TL.sub ((w_law_p666 ih) M1 M2 x1 x2 x3 hF) [0, 1, 2, 3] rfl
        · cases hb9
          refine l_tabIn (pc := 33) (tgt := 699) dL_law_33 h7 h8 (by rw [e9]; rfl) rfl ?_
          exact TL.sub ((w_law_p699 ih) M1 M2 x1 x2 x3 hF) [0, 1, 2, 3] rfl
        · cases hb9
          refine l_tabIn (pc := 33) (tgt := 732) dL_law_33 h7 h8 (by rw [e9]; rfl) rfl ?_
          exact TL.sub ((w_law_p732 ih) M1 M2 x1 x2 x3 hF) [0, 1, 2, 3] rfl
        · cases hb9
          refine l_tabIn (pc := 33) (tgt := 795) dL_law_33 h7 h8 (by rw [e9]; rfl) rfl ?_
          exact TL.sub ((w_law_p795 ih) M1 M2 x1 x2 x3 hF) [0, 1, 2, 3] rfl
        · cases hb9
          refine l_tabIn (pc := 33) (tgt := 828) dL_law_33 h7 h8 (by rw [e9]; rfl) rfl ?_
          exact TL.sub ((w_law_p828 ih) M1 M2 x1 x2 x3 hF) [0, 1, 2, 3] rfl
        · cases hb9
          refine l_tabIn (pc := 33) (tgt := 861) dL_law_33 h7 h8 (by rw [e9]; rfl) rfl ?_
          exact TL.sub ((w_law_p861 ih) M1 M2 x1 x2 x3 hF) [0, 1, 2, 3] rfl
        · cases hb9
          refine l_tabIn (pc := 33) (tgt := 885) dL_law_33 h7 h8 (by rw [e9]; rfl) rfl ?_
          exact TL.sub ((w_law_p885 ih) M1 M2 x1 x2 x3 hF) [0, 1, 2, 3] rfl
        · cases hb9
          refine l_tabIn (pc := 33) (tgt := 909) dL_law_33 h7 h8 (by rw [e9]; rfl) rfl ?_
          exact TL.sub ((w_law_p909 ih) M1 M2 x1 x2 x3 hF) [0, 1, 2, 3] rfl
        · cases hb9
          refine l_tabIn (pc := 33) (tgt := 953) dL_law_33 h7 h8 (by rw [e9]; rfl) rfl ?_
          exact TL.sub ((w_law_p953 ih) M1 M2 x1 x2 x3 hF) [0, 1, 2, 3] rfl
        · cases hb9
          refine l_tabIn (pc := 33) (tgt := 986) dL_law_33 h7 h8 (by rw [e9]; rfl) rfl ?_
          exact TL.sub ((w_law_p986 ih) M1 M2 x1 x2 x3 hF) [0, 1, 2, 3] rfl
        · cases hb9
          refine l_tabIn (pc := 33) (tgt := 1030) dL_law_33 h7 h8 (by rw [e9]; rfl) rfl ?_
          exact TL.sub ((w_law_p1030 ih) M1 M2 x1 x2 x3 hF) [0, 1, 2, 3] rfl
        · cases hb9
          refine l_tabIn (pc := 33) (tgt := 1063) dL_law_33 h7 h8 (by rw [e9]; rfl) rfl ?_
          exact TL.sub ((w_law_p1063 ih) M1 M2 x1 x2 x3 hF) [0, 1, 2, 3] rfl
        · cases hb9
          refine l_tabIn (pc := 33) (tgt := 1087) dL_law_33 h7 h8 (by rw [e9]; rfl) rfl ?_
          exact TL.sub ((w_law_p1087 ih) M1 M2 x1 x2 x3 hF) [0, 1, 2, 3] rfl
        · cases hb9
          refine l_tabIn (pc := 33) (tgt := 1120) dL_law_33 h7 h8 (by rw [e9]; rfl) rfl ?_
          exact TL.sub ((w_law_p1120 ih) M1 M2 x1 x2 x3 hF) [0, 1, 2, 3] rfl
        · cases hb9
          refine l_tabIn (pc := 33) (tgt := 1144) dL_law_33 h7 h8 (by rw [e9]; rfl) rfl ?_
          exact TL.sub ((w_law_p1144 ih) M1 M2 x1 x2 x3 hF) [0, 1, 2, 3] rfl
        · cases hb9
          refine l_tabIn (pc := 33) (tgt := 1168) dL_law_33 h7 h8 (by rw [e9]; rfl) rfl ?_
          exact TL.sub ((w_law_p1168 ih) M1 M2 x1 x2 x3 hF) [0, 1, 2, 3] rfl
set_option maxHeartbeats 8000000 in
theorem w_law {z : LX} {res : Unit} (M1 M2 : Mem) (hF : F_law (lxH z) (lxN z) (lxS z) M1 M2 = some res) : TL z M1 M2 [(0, .ref (lxB z))] [] 0 := by
  unfold F_law at hF
  refine l_new1 (pc := 0) (ci := 12) (N := 11) tin_X11 tyX11 tyX11_ok rfl rfl (by decide) tw_87 tw_88 tw_60 (by decide +kernel) dL_law_0 hF (fun b1 M2 M3 hF => ?_)
  refine l_dup (pc := 3) dL_law_3 rfl ?_
  refine l_callI_V1 (pc := 4) (y := yX11_init) (ci := 12) (Py := P_X11_init) (n := 0) (As := []) (fun q e => k_X11_init (lxG z) M2 b1 q e) tw_89 tw_90 tw_60 tw_91 rfl rfl hd_X11_init ⟨Nat.le_of_ble_eq_true rfl, Nat.le_of_ble_eq_true rfl⟩ rfl rfl (Nat.le_of_ble_eq_true rfl) dL_law_4 hF (fun M4 M5 r6 hF => ?_)
  refine l_astore_n (pc := 7) (L1 := [(1, .ref b1), (0, .ref (lxB z))]) dL_law_7 rfl (by decide) rfl ?_
  refine l_new2 (pc := 8) (ci := 13) (N := 58) tin_X12 tyX12 tyX12_ok rfl rfl (by decide) tw_1080 tw_1081 tw_70 (by decide +kernel) dL_law_8 hF (fun b7 M9 M8 hF => ?_)
  refine l_dup (pc := 11) dL_law_11 rfl ?_
  refine l_callI_V2 (pc := 12) (y := yX12_init) (ci := 13) (Py := P_X12_init) (n := 0) (As := []) (fun q e => k_X12_init (lxG z) M9 b7 q e) tw_1082 tw_1083 tw_70 tw_1084 rfl rfl hd_X12_init ⟨Nat.le_of_ble_eq_true rfl, Nat.le_of_ble_eq_true rfl⟩ rfl rfl (Nat.le_of_ble_eq_true rfl) dL_law_12 hF (fun M11 M10 r12 hF => ?_)
  refine l_astore_n (pc := 15) (L1 := [(2, .ref b7), (1, .ref b1), (0, .ref (lxB z))]) dL_law_15 rfl (by decide) rfl ?_
  refine l_iconst (pc := 16) (w := 0) dL_law_16 (by decide) ?_
  refine l_istore_n (pc := 17) (L1 := [(3, .int ((0 : Int32))), (2, .ref b7), (1, .ref b1), (0, .ref (lxB z))]) dL_law_17 rfl (by decide) rfl ?_
  exact TL.sub ((w_law_p18 FU) M10 M11 b1 b7 (0 : Int32) hF) [3, 2, 1, 0] rfl
