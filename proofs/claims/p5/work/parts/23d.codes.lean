/-! Each method's code stands in the tables: the next ones. -/
set_option maxRecDepth 100000 in
theorem eCW_213 : eCWp 213 := fun M h => by cases h; exact List.mem_of_getElem? (i := 640) rfl
set_option maxRecDepth 100000 in
theorem eCW_214 : eCWp 214 := fun M h => by cases h; exact List.mem_of_getElem? (i := 644) rfl
set_option maxRecDepth 100000 in
theorem eCW_215 : eCWp 215 := fun M h => by cases h; exact List.mem_of_getElem? (i := 648) rfl
set_option maxRecDepth 100000 in
theorem eCW_216 : eCWp 216 := fun M h => by cases h; exact List.mem_of_getElem? (i := 564) rfl
set_option maxRecDepth 100000 in
theorem eCW_217 : eCWp 217 := fun M h => by cases h; exact List.mem_of_getElem? (i := 653) rfl
set_option maxRecDepth 100000 in
theorem eCW_218 : eCWp 218 := fun M h => by cases h; exact List.mem_of_getElem? (i := 659) rfl
set_option maxRecDepth 100000 in
theorem eCW_219 : eCWp 219 := fun M h => by cases h; exact List.mem_of_getElem? (i := 189) rfl
set_option maxRecDepth 100000 in
theorem eCW_220 : eCWp 220 := fun M h => by cases h; exact List.mem_of_getElem? (i := 510) rfl
set_option maxRecDepth 100000 in
theorem eCW_221 : eCWp 221 := fun M h => by cases h; exact List.mem_of_getElem? (i := 518) rfl
set_option maxRecDepth 100000 in
theorem eCW_222 : eCWp 222 := fun M h => by cases h; exact List.mem_of_getElem? (i := 522) rfl
set_option maxRecDepth 100000 in
theorem eCW_223 : eCWp 223 := fun M h => by cases h; exact List.mem_of_getElem? (i := 526) rfl
set_option maxRecDepth 100000 in
theorem eCW_224 : eCWp 224 := fun M h => by cases h; exact List.mem_of_getElem? (i := 530) rfl
set_option maxRecDepth 100000 in
theorem eCW_225 : eCWp 225 := fun M h => by cases h; exact List.mem_of_getElem? (i := 534) rfl
set_option maxRecDepth 100000 in
theorem eCW_226 : eCWp 226 := fun M h => by cases h; exact List.mem_of_getElem? (i := 538) rfl
set_option maxRecDepth 100000 in
theorem eCW_227 : eCWp 227 := fun M h => by cases h; exact List.mem_of_getElem? (i := 542) rfl
set_option maxRecDepth 100000 in
theorem eCW_228 : eCWp 228 := fun M h => by cases h; exact List.mem_of_getElem? (i := 571) rfl
set_option maxRecDepth 100000 in
theorem eCW_229 : eCWp 229 := fun M h => by cases h; exact List.mem_of_getElem? (i := 546) rfl
set_option maxRecDepth 100000 in
theorem eCW_230 : eCWp 230 := fun M h => by cases h; exact List.mem_of_getElem? (i := 568) rfl
set_option maxRecDepth 100000 in
theorem eCW_231 : eCWp 231 := fun M h => by cases h; exact List.mem_of_getElem? (i := 557) rfl
set_option maxRecDepth 100000 in
theorem eCW_232 : eCWp 232 := fun M h => by cases h; exact List.mem_of_getElem? (i := 553) rfl
set_option maxRecDepth 100000 in
theorem eCW_233 : eCWp 233 := fun M h => by cases h; exact List.mem_of_getElem? (i := 550) rfl
set_option maxRecDepth 100000 in
theorem eCW_234 : eCWp 234 := fun M h => by cases h; exact List.mem_of_getElem? (i := 561) rfl
set_option maxRecDepth 100000 in
theorem eCW_235 : eCWp 235 := fun M h => by cases h; exact List.mem_of_getElem? (i := 131) rfl
set_option maxRecDepth 100000 in
theorem eCW_236 : eCWp 236 := fun M h => by cases h; exact List.mem_of_getElem? (i := 483) rfl
set_option maxRecDepth 100000 in
theorem eCW_237 : eCWp 237 := fun M h => by cases h; exact List.mem_of_getElem? (i := 487) rfl
set_option maxRecDepth 100000 in
theorem eCW_238 : eCWp 238 := fun M h => by cases h; exact List.mem_of_getElem? (i := 479) rfl
set_option maxRecDepth 100000 in
theorem eCW_239 : eCWp 239 := fun M h => by cases h; exact List.mem_of_getElem? (i := 435) rfl
set_option maxRecDepth 100000 in
theorem eCW_240 : eCWp 240 := fun M h => by cases h; exact List.mem_of_getElem? (i := 431) rfl
set_option maxRecDepth 100000 in
theorem eCW_241 : eCWp 241 := fun M h => by cases h; exact List.mem_of_getElem? (i := 443) rfl
set_option maxRecDepth 100000 in
theorem eCW_242 : eCWp 242 := fun M h => by cases h; exact List.mem_of_getElem? (i := 471) rfl
set_option maxRecDepth 100000 in
theorem eCW_243 : eCWp 243 := fun M h => by cases h; exact List.mem_of_getElem? (i := 624) rfl
set_option maxRecDepth 100000 in
theorem eCW_244 : eCWp 244 := fun M h => by cases h; exact List.mem_of_getElem? (i := 620) rfl
set_option maxRecDepth 100000 in
theorem eCW_245 : eCWp 245 := fun M h => by cases h; exact List.mem_of_getElem? (i := 636) rfl
set_option maxRecDepth 100000 in
theorem eCW_246 : eCWp 246 := fun M h => by cases h; exact List.mem_of_getElem? (i := 668) rfl
set_option maxRecDepth 100000 in
theorem eCW_247 : eCWp 247 := fun M h => by cases h; exact List.mem_of_getElem? (i := 865) rfl
set_option maxRecDepth 100000 in
theorem eCW_248 : eCWp 248 := fun M h => by cases h; exact List.mem_of_getElem? (i := 664) rfl
set_option maxRecDepth 100000 in
theorem eCW_249 : eCWp 249 := fun M h => by cases h; exact List.mem_of_getElem? (i := 680) rfl
set_option maxRecDepth 100000 in
theorem eCW_250 : eCWp 250 := fun M h => by cases h; exact List.mem_of_getElem? (i := 676) rfl
set_option maxRecDepth 100000 in
theorem eCW_251 : eCWp 251 := fun M h => by cases h; exact List.mem_of_getElem? (i := 672) rfl
set_option maxRecDepth 100000 in
theorem eCW_252 : eCWp 252 := fun M h => by cases h; exact List.mem_of_getElem? (i := 831) rfl
set_option maxRecDepth 100000 in
theorem eCW_253 : eCWp 253 := fun M h => by cases h; exact List.mem_of_getElem? (i := 835) rfl
set_option maxRecDepth 100000 in
theorem eCW_254 : eCWp 254 := fun M h => by cases h; exact List.mem_of_getElem? (i := 370) rfl
set_option maxRecDepth 100000 in
theorem eCW_255 : eCWp 255 := fun M h => by cases h; exact List.mem_of_getElem? (i := 1035) rfl
set_option maxRecDepth 100000 in
theorem eCW_256 : eCWp 256 := fun M h => by cases h; exact List.mem_of_getElem? (i := 1039) rfl
set_option maxRecDepth 100000 in
theorem eCW_257 : eCWp 257 := fun M h => by cases h; exact List.mem_of_getElem? (i := 1047) rfl
set_option maxRecDepth 100000 in
theorem eCW_258 : eCWp 258 := fun M h => by cases h; exact List.mem_of_getElem? (i := 454) rfl
set_option maxRecDepth 100000 in
theorem eCW_259 : eCWp 259 := fun M h => by cases h; exact List.mem_of_getElem? (i := 588) rfl
set_option maxRecDepth 100000 in
theorem eCW_260 : eCWp 260 := fun M h => by cases h; exact List.mem_of_getElem? (i := 1055) rfl
set_option maxRecDepth 100000 in
theorem eCW_261 : eCWp 261 := fun M h => by cases h; exact List.mem_of_getElem? (i := 1072) rfl
set_option maxRecDepth 100000 in
theorem eCW_262 : eCWp 262 := fun M h => by cases h; exact List.mem_of_getElem? (i := 1059) rfl
set_option maxRecDepth 100000 in
theorem eCW_263 : eCWp 263 := fun M h => by cases h; exact List.mem_of_getElem? (i := 462) rfl
set_option maxRecDepth 100000 in
theorem eCW_264 : eCWp 264 := fun M h => by cases h; exact List.mem_of_getElem? (i := 251) rfl
set_option maxRecDepth 100000 in
theorem eCW_265 : eCWp 265 := fun M h => by cases h; exact List.mem_of_getElem? (i := 593) rfl
set_option maxRecDepth 100000 in
theorem eCW_266 : eCWp 266 := fun M h => by cases h; exact List.mem_of_getElem? (i := 628) rfl
set_option maxRecDepth 100000 in
theorem eCW_267 : eCWp 267 := fun M h => by cases h; exact List.mem_of_getElem? (i := 616) rfl
set_option maxRecDepth 100000 in
theorem eCW_268 : eCWp 268 := fun M h => by cases h; exact List.mem_of_getElem? (i := 612) rfl
set_option maxRecDepth 100000 in
theorem eCW_269 : eCWp 269 := fun M h => by cases h; exact List.mem_of_getElem? (i := 608) rfl
set_option maxRecDepth 100000 in
theorem eCW_270 : eCWp 270 := fun M h => by cases h; exact List.mem_of_getElem? (i := 909) rfl
set_option maxRecDepth 100000 in
theorem eCW_271 : eCWp 271 := fun M h => by cases h; exact List.mem_of_getElem? (i := 686) rfl
set_option maxRecDepth 100000 in
theorem eCW_272 : eCWp 272 := fun M h => by cases h; exact List.mem_of_getElem? (i := 789) rfl
set_option maxRecDepth 100000 in
theorem eCW_273 : eCWp 273 := fun M h => by cases h; exact List.mem_of_getElem? (i := 785) rfl
set_option maxRecDepth 100000 in
theorem eCW_274 : eCWp 274 := fun M h => by cases h; exact List.mem_of_getElem? (i := 852) rfl
set_option maxRecDepth 100000 in
theorem eCW_275 : eCWp 275 := fun M h => by cases h; exact List.mem_of_getElem? (i := 604) rfl
set_option maxRecDepth 100000 in
theorem eCW_276 : eCWp 276 := fun M h => by cases h; exact List.mem_of_getElem? (i := 894) rfl
set_option maxRecDepth 100000 in
theorem eCW_277 : eCWp 277 := fun M h => by cases h; exact List.mem_of_getElem? (i := 882) rfl
set_option maxRecDepth 100000 in
theorem eCW_278 : eCWp 278 := fun M h => by cases h; exact List.mem_of_getElem? (i := 597) rfl
set_option maxRecDepth 100000 in
theorem eCW_279 : eCWp 279 := fun M h => by cases h; exact List.mem_of_getElem? (i := 878) rfl
