/-! the machine follows the law -/
def lb_L_law_0 : List UInt8 := [0xbb, 0x00, 0x07, 0x59, 0xb7, 0x00, 0x09, 0x4c, 0xbb, 0x00, 0x0a, 0x59, 0xb7, 0x00, 0x0c, 0x4d, 0x03, 0x3e, 0x1d, 0x2a, 0xbe, 0x10, 0x06, 0x64, 0xa3, 0x05, 0x8b, 0x2a, 0x1d, 0x2e, 0x10, 0x3f, 0x7e, 0xaa, 0x00, 0x00]
theorem pw_L_law_0 : am_Pw code (ByteArray.mk lb_L_law_0.toArray) 0 := am_pw lb_L_law_0 rfl (by decide) rfl (by decide +kernel)
theorem dd_L_law_0a : am_dw (ByteArray.mk lb_L_law_0.toArray) 0 0 = .ok (.new 7, 3) ∧ am_dw (ByteArray.mk lb_L_law_0.toArray) 0 3 = .ok (.dup, 1) ∧ am_dw (ByteArray.mk lb_L_law_0.toArray) 0 4 = .ok (.invokespecial 9, 3) ∧ am_dw (ByteArray.mk lb_L_law_0.toArray) 0 7 = .ok (.astore_n 1, 1) ∧ am_dw (ByteArray.mk lb_L_law_0.toArray) 0 8 = .ok (.new 10, 3) ∧ am_dw (ByteArray.mk lb_L_law_0.toArray) 0 11 = .ok (.dup, 1) ∧ am_dw (ByteArray.mk lb_L_law_0.toArray) 0 12 = .ok (.invokespecial 12, 3) ∧ am_dw (ByteArray.mk lb_L_law_0.toArray) 0 15 = .ok (.astore_n 2, 1) := by decide +kernel
theorem dd_L_law_0b : am_dw (ByteArray.mk lb_L_law_0.toArray) 0 16 = .ok (.iconst 0, 1) ∧ am_dw (ByteArray.mk lb_L_law_0.toArray) 0 17 = .ok (.istore_n 3, 1) ∧ am_dw (ByteArray.mk lb_L_law_0.toArray) 0 18 = .ok (.iload_n 3, 1) ∧ am_dw (ByteArray.mk lb_L_law_0.toArray) 0 19 = .ok (.aload_n 0, 1) ∧ am_dw (ByteArray.mk lb_L_law_0.toArray) 0 20 = .ok (.arraylength, 1) ∧ am_dw (ByteArray.mk lb_L_law_0.toArray) 0 21 = .ok (.bipush 6, 2) ∧ am_dw (ByteArray.mk lb_L_law_0.toArray) 0 23 = .ok (.isub, 1) ∧ am_dw (ByteArray.mk lb_L_law_0.toArray) 0 24 = .ok (.if_icmp .gt 1419, 3) := by decide +kernel
theorem dd_L_law_0c : am_dw (ByteArray.mk lb_L_law_0.toArray) 0 27 = .ok (.aload_n 0, 1) ∧ am_dw (ByteArray.mk lb_L_law_0.toArray) 0 28 = .ok (.iload_n 3, 1) ∧ am_dw (ByteArray.mk lb_L_law_0.toArray) 0 29 = .ok (.iaload, 1) ∧ am_dw (ByteArray.mk lb_L_law_0.toArray) 0 30 = .ok (.bipush 63, 2) := by decide +kernel
def lb_L_law_32 : List UInt8 := [0x7e, 0xaa, 0x00, 0x00, 0x00, 0x00, 0x05, 0x7c, 0x00, 0x00, 0x00, 0x00, 0x00, 0x00, 0x00, 0x26, 0x00, 0x00, 0x00, 0xab, 0x00, 0x00, 0x00, 0xea, 0x00, 0x00, 0x01, 0x01, 0x00, 0x00, 0x01, 0x0e, 0x00, 0x00, 0x01, 0x25]
theorem pw_L_law_32 : am_Pw code (ByteArray.mk lb_L_law_32.toArray) 32 := am_pw lb_L_law_32 rfl (by decide) rfl (by decide +kernel)
theorem dd_L_law_32a : am_dw (ByteArray.mk lb_L_law_32.toArray) 32 32 = .ok (.iand, 1) := by decide +kernel
def lb_L_law_192 : List UInt8 := [0x00, 0x00, 0x05, 0x41, 0x00, 0x00, 0x05, 0x58, 0x00, 0x00, 0x05, 0x65, 0x2b, 0x2a, 0x1d, 0x04, 0x60, 0x2e, 0x2a, 0x1d, 0x05, 0x60, 0x2e, 0x2a, 0x1d, 0x06, 0x60, 0x2e, 0x2a, 0x1d, 0x07, 0x60, 0x2e, 0x2a, 0x1d, 0x08]
theorem pw_L_law_192 : am_Pw code (ByteArray.mk lb_L_law_192.toArray) 192 := am_pw lb_L_law_192 rfl (by decide) rfl (by decide +kernel)
theorem dd_L_law_192a : am_dw (ByteArray.mk lb_L_law_192.toArray) 192 204 = .ok (.aload_n 1, 1) ∧ am_dw (ByteArray.mk lb_L_law_192.toArray) 192 205 = .ok (.aload_n 0, 1) ∧ am_dw (ByteArray.mk lb_L_law_192.toArray) 192 206 = .ok (.iload_n 3, 1) ∧ am_dw (ByteArray.mk lb_L_law_192.toArray) 192 207 = .ok (.iconst 1, 1) ∧ am_dw (ByteArray.mk lb_L_law_192.toArray) 192 208 = .ok (.iadd, 1) ∧ am_dw (ByteArray.mk lb_L_law_192.toArray) 192 209 = .ok (.iaload, 1) ∧ am_dw (ByteArray.mk lb_L_law_192.toArray) 192 210 = .ok (.aload_n 0, 1) ∧ am_dw (ByteArray.mk lb_L_law_192.toArray) 192 211 = .ok (.iload_n 3, 1) := by decide +kernel
theorem dd_L_law_192b : am_dw (ByteArray.mk lb_L_law_192.toArray) 192 212 = .ok (.iconst 2, 1) ∧ am_dw (ByteArray.mk lb_L_law_192.toArray) 192 213 = .ok (.iadd, 1) ∧ am_dw (ByteArray.mk lb_L_law_192.toArray) 192 214 = .ok (.iaload, 1) ∧ am_dw (ByteArray.mk lb_L_law_192.toArray) 192 215 = .ok (.aload_n 0, 1) ∧ am_dw (ByteArray.mk lb_L_law_192.toArray) 192 216 = .ok (.iload_n 3, 1) ∧ am_dw (ByteArray.mk lb_L_law_192.toArray) 192 217 = .ok (.iconst 3, 1) ∧ am_dw (ByteArray.mk lb_L_law_192.toArray) 192 218 = .ok (.iadd, 1) ∧ am_dw (ByteArray.mk lb_L_law_192.toArray) 192 219 = .ok (.iaload, 1) := by decide +kernel
theorem dd_L_law_192c : am_dw (ByteArray.mk lb_L_law_192.toArray) 192 220 = .ok (.aload_n 0, 1) ∧ am_dw (ByteArray.mk lb_L_law_192.toArray) 192 221 = .ok (.iload_n 3, 1) ∧ am_dw (ByteArray.mk lb_L_law_192.toArray) 192 222 = .ok (.iconst 4, 1) ∧ am_dw (ByteArray.mk lb_L_law_192.toArray) 192 223 = .ok (.iadd, 1) := by decide +kernel
def lb_L_law_224 : List UInt8 := [0x2e, 0x2a, 0x1d, 0x08, 0x60, 0x2e, 0xb6, 0x00, 0x0d, 0x2c, 0x2a, 0x1d, 0x04, 0x60, 0x2e, 0x2a, 0x1d, 0x05, 0x60, 0x2e, 0x2a, 0x1d, 0x06, 0x60, 0x2e, 0x2a, 0x1d, 0x07, 0x60, 0x2e, 0x2a, 0x1d, 0x08, 0x60, 0x2e, 0xb6]
theorem pw_L_law_224 : am_Pw code (ByteArray.mk lb_L_law_224.toArray) 224 := am_pw lb_L_law_224 rfl (by decide) rfl (by decide +kernel)
theorem dd_L_law_224a : am_dw (ByteArray.mk lb_L_law_224.toArray) 224 224 = .ok (.iaload, 1) ∧ am_dw (ByteArray.mk lb_L_law_224.toArray) 224 225 = .ok (.aload_n 0, 1) ∧ am_dw (ByteArray.mk lb_L_law_224.toArray) 224 226 = .ok (.iload_n 3, 1) ∧ am_dw (ByteArray.mk lb_L_law_224.toArray) 224 227 = .ok (.iconst 5, 1) ∧ am_dw (ByteArray.mk lb_L_law_224.toArray) 224 228 = .ok (.iadd, 1) ∧ am_dw (ByteArray.mk lb_L_law_224.toArray) 224 229 = .ok (.iaload, 1) ∧ am_dw (ByteArray.mk lb_L_law_224.toArray) 224 230 = .ok (.invokevirtual 13, 3) ∧ am_dw (ByteArray.mk lb_L_law_224.toArray) 224 233 = .ok (.aload_n 2, 1) := by decide +kernel
theorem dd_L_law_224b : am_dw (ByteArray.mk lb_L_law_224.toArray) 224 234 = .ok (.aload_n 0, 1) ∧ am_dw (ByteArray.mk lb_L_law_224.toArray) 224 235 = .ok (.iload_n 3, 1) ∧ am_dw (ByteArray.mk lb_L_law_224.toArray) 224 236 = .ok (.iconst 1, 1) ∧ am_dw (ByteArray.mk lb_L_law_224.toArray) 224 237 = .ok (.iadd, 1) ∧ am_dw (ByteArray.mk lb_L_law_224.toArray) 224 238 = .ok (.iaload, 1) ∧ am_dw (ByteArray.mk lb_L_law_224.toArray) 224 239 = .ok (.aload_n 0, 1) ∧ am_dw (ByteArray.mk lb_L_law_224.toArray) 224 240 = .ok (.iload_n 3, 1) ∧ am_dw (ByteArray.mk lb_L_law_224.toArray) 224 241 = .ok (.iconst 2, 1) := by decide +kernel
theorem dd_L_law_224c : am_dw (ByteArray.mk lb_L_law_224.toArray) 224 242 = .ok (.iadd, 1) ∧ am_dw (ByteArray.mk lb_L_law_224.toArray) 224 243 = .ok (.iaload, 1) ∧ am_dw (ByteArray.mk lb_L_law_224.toArray) 224 244 = .ok (.aload_n 0, 1) ∧ am_dw (ByteArray.mk lb_L_law_224.toArray) 224 245 = .ok (.iload_n 3, 1) ∧ am_dw (ByteArray.mk lb_L_law_224.toArray) 224 246 = .ok (.iconst 3, 1) ∧ am_dw (ByteArray.mk lb_L_law_224.toArray) 224 247 = .ok (.iadd, 1) ∧ am_dw (ByteArray.mk lb_L_law_224.toArray) 224 248 = .ok (.iaload, 1) ∧ am_dw (ByteArray.mk lb_L_law_224.toArray) 224 249 = .ok (.aload_n 0, 1) := by decide +kernel
theorem dd_L_law_224d : am_dw (ByteArray.mk lb_L_law_224.toArray) 224 250 = .ok (.iload_n 3, 1) ∧ am_dw (ByteArray.mk lb_L_law_224.toArray) 224 251 = .ok (.iconst 4, 1) ∧ am_dw (ByteArray.mk lb_L_law_224.toArray) 224 252 = .ok (.iadd, 1) ∧ am_dw (ByteArray.mk lb_L_law_224.toArray) 224 253 = .ok (.iaload, 1) ∧ am_dw (ByteArray.mk lb_L_law_224.toArray) 224 254 = .ok (.aload_n 0, 1) ∧ am_dw (ByteArray.mk lb_L_law_224.toArray) 224 255 = .ok (.iload_n 3, 1) := by decide +kernel
def lb_L_law_256 : List UInt8 := [0x08, 0x60, 0x2e, 0xb6, 0x00, 0x11, 0x9f, 0x04, 0x97, 0x03, 0xac, 0x2b, 0x2a, 0x1d, 0x04, 0x60, 0x2e, 0xb6, 0x00, 0x12, 0x57, 0x2c, 0x2a, 0x1d, 0x04, 0x60, 0x2e, 0xb6, 0x00, 0x16, 0x57, 0xa7, 0x04, 0x7e, 0x2b, 0xb6]
theorem pw_L_law_256 : am_Pw code (ByteArray.mk lb_L_law_256.toArray) 256 := am_pw lb_L_law_256 rfl (by decide) rfl (by decide +kernel)
theorem dd_L_law_256a : am_dw (ByteArray.mk lb_L_law_256.toArray) 256 256 = .ok (.iconst 5, 1) ∧ am_dw (ByteArray.mk lb_L_law_256.toArray) 256 257 = .ok (.iadd, 1) ∧ am_dw (ByteArray.mk lb_L_law_256.toArray) 256 258 = .ok (.iaload, 1) ∧ am_dw (ByteArray.mk lb_L_law_256.toArray) 256 259 = .ok (.invokevirtual 17, 3) ∧ am_dw (ByteArray.mk lb_L_law_256.toArray) 256 262 = .ok (.if_icmp .eq 1175, 3) ∧ am_dw (ByteArray.mk lb_L_law_256.toArray) 256 265 = .ok (.iconst 0, 1) ∧ am_dw (ByteArray.mk lb_L_law_256.toArray) 256 266 = .ok (.ireturn, 1) ∧ am_dw (ByteArray.mk lb_L_law_256.toArray) 256 267 = .ok (.aload_n 1, 1) := by decide +kernel
theorem dd_L_law_256b : am_dw (ByteArray.mk lb_L_law_256.toArray) 256 268 = .ok (.aload_n 0, 1) ∧ am_dw (ByteArray.mk lb_L_law_256.toArray) 256 269 = .ok (.iload_n 3, 1) ∧ am_dw (ByteArray.mk lb_L_law_256.toArray) 256 270 = .ok (.iconst 1, 1) ∧ am_dw (ByteArray.mk lb_L_law_256.toArray) 256 271 = .ok (.iadd, 1) ∧ am_dw (ByteArray.mk lb_L_law_256.toArray) 256 272 = .ok (.iaload, 1) ∧ am_dw (ByteArray.mk lb_L_law_256.toArray) 256 273 = .ok (.invokevirtual 18, 3) ∧ am_dw (ByteArray.mk lb_L_law_256.toArray) 256 276 = .ok (.pop, 1) ∧ am_dw (ByteArray.mk lb_L_law_256.toArray) 256 277 = .ok (.aload_n 2, 1) := by decide +kernel
theorem dd_L_law_256c : am_dw (ByteArray.mk lb_L_law_256.toArray) 256 278 = .ok (.aload_n 0, 1) ∧ am_dw (ByteArray.mk lb_L_law_256.toArray) 256 279 = .ok (.iload_n 3, 1) ∧ am_dw (ByteArray.mk lb_L_law_256.toArray) 256 280 = .ok (.iconst 1, 1) ∧ am_dw (ByteArray.mk lb_L_law_256.toArray) 256 281 = .ok (.iadd, 1) ∧ am_dw (ByteArray.mk lb_L_law_256.toArray) 256 282 = .ok (.iaload, 1) ∧ am_dw (ByteArray.mk lb_L_law_256.toArray) 256 283 = .ok (.invokevirtual 22, 3) ∧ am_dw (ByteArray.mk lb_L_law_256.toArray) 256 286 = .ok (.pop, 1) ∧ am_dw (ByteArray.mk lb_L_law_256.toArray) 256 287 = .ok (.goto 1150, 3) := by decide +kernel
def lb_L_law_288 : List UInt8 := [0x04, 0x7e, 0x2b, 0xb6, 0x00, 0x17, 0x57, 0x2c, 0xb6, 0x00, 0x1b, 0x57, 0xa7, 0x04, 0x71, 0x2b, 0x2a, 0x1d, 0x04, 0x60, 0x2e, 0xb6, 0x00, 0x1c, 0x57, 0x2c, 0x2a, 0x1d, 0x04, 0x60, 0x2e, 0xb6, 0x00, 0x20, 0x57, 0xa7]
theorem pw_L_law_288 : am_Pw code (ByteArray.mk lb_L_law_288.toArray) 288 := am_pw lb_L_law_288 rfl (by decide) rfl (by decide +kernel)
theorem dd_L_law_288a : am_dw (ByteArray.mk lb_L_law_288.toArray) 288 290 = .ok (.aload_n 1, 1) ∧ am_dw (ByteArray.mk lb_L_law_288.toArray) 288 291 = .ok (.invokevirtual 23, 3) ∧ am_dw (ByteArray.mk lb_L_law_288.toArray) 288 294 = .ok (.pop, 1) ∧ am_dw (ByteArray.mk lb_L_law_288.toArray) 288 295 = .ok (.aload_n 2, 1) ∧ am_dw (ByteArray.mk lb_L_law_288.toArray) 288 296 = .ok (.invokevirtual 27, 3) ∧ am_dw (ByteArray.mk lb_L_law_288.toArray) 288 299 = .ok (.pop, 1) ∧ am_dw (ByteArray.mk lb_L_law_288.toArray) 288 300 = .ok (.goto 1137, 3) ∧ am_dw (ByteArray.mk lb_L_law_288.toArray) 288 303 = .ok (.aload_n 1, 1) := by decide +kernel
theorem dd_L_law_288b : am_dw (ByteArray.mk lb_L_law_288.toArray) 288 304 = .ok (.aload_n 0, 1) ∧ am_dw (ByteArray.mk lb_L_law_288.toArray) 288 305 = .ok (.iload_n 3, 1) ∧ am_dw (ByteArray.mk lb_L_law_288.toArray) 288 306 = .ok (.iconst 1, 1) ∧ am_dw (ByteArray.mk lb_L_law_288.toArray) 288 307 = .ok (.iadd, 1) ∧ am_dw (ByteArray.mk lb_L_law_288.toArray) 288 308 = .ok (.iaload, 1) ∧ am_dw (ByteArray.mk lb_L_law_288.toArray) 288 309 = .ok (.invokevirtual 28, 3) ∧ am_dw (ByteArray.mk lb_L_law_288.toArray) 288 312 = .ok (.pop, 1) ∧ am_dw (ByteArray.mk lb_L_law_288.toArray) 288 313 = .ok (.aload_n 2, 1) := by decide +kernel
theorem dd_L_law_288c : am_dw (ByteArray.mk lb_L_law_288.toArray) 288 314 = .ok (.aload_n 0, 1) ∧ am_dw (ByteArray.mk lb_L_law_288.toArray) 288 315 = .ok (.iload_n 3, 1) ∧ am_dw (ByteArray.mk lb_L_law_288.toArray) 288 316 = .ok (.iconst 1, 1) ∧ am_dw (ByteArray.mk lb_L_law_288.toArray) 288 317 = .ok (.iadd, 1) ∧ am_dw (ByteArray.mk lb_L_law_288.toArray) 288 318 = .ok (.iaload, 1) ∧ am_dw (ByteArray.mk lb_L_law_288.toArray) 288 319 = .ok (.invokevirtual 32, 3) := by decide +kernel
def lb_L_law_320 : List UInt8 := [0x00, 0x20, 0x57, 0xa7, 0x04, 0x5a, 0x2b, 0x2a, 0x1d, 0x04, 0x60, 0x2e, 0xb6, 0x00, 0x21, 0x57, 0x2c, 0x2a, 0x1d, 0x04, 0x60, 0x2e, 0xb6, 0x00, 0x24, 0x57, 0xa7, 0x04, 0x43, 0x2b, 0x2a, 0x1d, 0x04, 0x60, 0x2e, 0x2a]
theorem pw_L_law_320 : am_Pw code (ByteArray.mk lb_L_law_320.toArray) 320 := am_pw lb_L_law_320 rfl (by decide) rfl (by decide +kernel)
theorem dd_L_law_320a : am_dw (ByteArray.mk lb_L_law_320.toArray) 320 322 = .ok (.pop, 1) ∧ am_dw (ByteArray.mk lb_L_law_320.toArray) 320 323 = .ok (.goto 1114, 3) ∧ am_dw (ByteArray.mk lb_L_law_320.toArray) 320 326 = .ok (.aload_n 1, 1) ∧ am_dw (ByteArray.mk lb_L_law_320.toArray) 320 327 = .ok (.aload_n 0, 1) ∧ am_dw (ByteArray.mk lb_L_law_320.toArray) 320 328 = .ok (.iload_n 3, 1) ∧ am_dw (ByteArray.mk lb_L_law_320.toArray) 320 329 = .ok (.iconst 1, 1) ∧ am_dw (ByteArray.mk lb_L_law_320.toArray) 320 330 = .ok (.iadd, 1) ∧ am_dw (ByteArray.mk lb_L_law_320.toArray) 320 331 = .ok (.iaload, 1) := by decide +kernel
theorem dd_L_law_320b : am_dw (ByteArray.mk lb_L_law_320.toArray) 320 332 = .ok (.invokevirtual 33, 3) ∧ am_dw (ByteArray.mk lb_L_law_320.toArray) 320 335 = .ok (.pop, 1) ∧ am_dw (ByteArray.mk lb_L_law_320.toArray) 320 336 = .ok (.aload_n 2, 1) ∧ am_dw (ByteArray.mk lb_L_law_320.toArray) 320 337 = .ok (.aload_n 0, 1) ∧ am_dw (ByteArray.mk lb_L_law_320.toArray) 320 338 = .ok (.iload_n 3, 1) ∧ am_dw (ByteArray.mk lb_L_law_320.toArray) 320 339 = .ok (.iconst 1, 1) ∧ am_dw (ByteArray.mk lb_L_law_320.toArray) 320 340 = .ok (.iadd, 1) ∧ am_dw (ByteArray.mk lb_L_law_320.toArray) 320 341 = .ok (.iaload, 1) := by decide +kernel
theorem dd_L_law_320c : am_dw (ByteArray.mk lb_L_law_320.toArray) 320 342 = .ok (.invokevirtual 36, 3) ∧ am_dw (ByteArray.mk lb_L_law_320.toArray) 320 345 = .ok (.pop, 1) ∧ am_dw (ByteArray.mk lb_L_law_320.toArray) 320 346 = .ok (.goto 1091, 3) ∧ am_dw (ByteArray.mk lb_L_law_320.toArray) 320 349 = .ok (.aload_n 1, 1) ∧ am_dw (ByteArray.mk lb_L_law_320.toArray) 320 350 = .ok (.aload_n 0, 1) ∧ am_dw (ByteArray.mk lb_L_law_320.toArray) 320 351 = .ok (.iload_n 3, 1) := by decide +kernel
def lb_L_law_352 : List UInt8 := [0x04, 0x60, 0x2e, 0x2a, 0x1d, 0x05, 0x60, 0x2e, 0xb6, 0x00, 0x25, 0x57, 0x2c, 0x2a, 0x1d, 0x04, 0x60, 0x2e, 0x2a, 0x1d, 0x05, 0x60, 0x2e, 0xb6, 0x00, 0x29, 0x57, 0xa7, 0x04, 0x22, 0x2b, 0x2a, 0x1d, 0x04, 0x60, 0x2e]
theorem pw_L_law_352 : am_Pw code (ByteArray.mk lb_L_law_352.toArray) 352 := am_pw lb_L_law_352 rfl (by decide) rfl (by decide +kernel)
theorem dd_L_law_352a : am_dw (ByteArray.mk lb_L_law_352.toArray) 352 352 = .ok (.iconst 1, 1) ∧ am_dw (ByteArray.mk lb_L_law_352.toArray) 352 353 = .ok (.iadd, 1) ∧ am_dw (ByteArray.mk lb_L_law_352.toArray) 352 354 = .ok (.iaload, 1) ∧ am_dw (ByteArray.mk lb_L_law_352.toArray) 352 355 = .ok (.aload_n 0, 1) ∧ am_dw (ByteArray.mk lb_L_law_352.toArray) 352 356 = .ok (.iload_n 3, 1) ∧ am_dw (ByteArray.mk lb_L_law_352.toArray) 352 357 = .ok (.iconst 2, 1) ∧ am_dw (ByteArray.mk lb_L_law_352.toArray) 352 358 = .ok (.iadd, 1) ∧ am_dw (ByteArray.mk lb_L_law_352.toArray) 352 359 = .ok (.iaload, 1) := by decide +kernel
theorem dd_L_law_352b : am_dw (ByteArray.mk lb_L_law_352.toArray) 352 360 = .ok (.invokevirtual 37, 3) ∧ am_dw (ByteArray.mk lb_L_law_352.toArray) 352 363 = .ok (.pop, 1) ∧ am_dw (ByteArray.mk lb_L_law_352.toArray) 352 364 = .ok (.aload_n 2, 1) ∧ am_dw (ByteArray.mk lb_L_law_352.toArray) 352 365 = .ok (.aload_n 0, 1) ∧ am_dw (ByteArray.mk lb_L_law_352.toArray) 352 366 = .ok (.iload_n 3, 1) ∧ am_dw (ByteArray.mk lb_L_law_352.toArray) 352 367 = .ok (.iconst 1, 1) ∧ am_dw (ByteArray.mk lb_L_law_352.toArray) 352 368 = .ok (.iadd, 1) ∧ am_dw (ByteArray.mk lb_L_law_352.toArray) 352 369 = .ok (.iaload, 1) := by decide +kernel
theorem dd_L_law_352c : am_dw (ByteArray.mk lb_L_law_352.toArray) 352 370 = .ok (.aload_n 0, 1) ∧ am_dw (ByteArray.mk lb_L_law_352.toArray) 352 371 = .ok (.iload_n 3, 1) ∧ am_dw (ByteArray.mk lb_L_law_352.toArray) 352 372 = .ok (.iconst 2, 1) ∧ am_dw (ByteArray.mk lb_L_law_352.toArray) 352 373 = .ok (.iadd, 1) ∧ am_dw (ByteArray.mk lb_L_law_352.toArray) 352 374 = .ok (.iaload, 1) ∧ am_dw (ByteArray.mk lb_L_law_352.toArray) 352 375 = .ok (.invokevirtual 41, 3) ∧ am_dw (ByteArray.mk lb_L_law_352.toArray) 352 378 = .ok (.pop, 1) ∧ am_dw (ByteArray.mk lb_L_law_352.toArray) 352 379 = .ok (.goto 1058, 3) := by decide +kernel
theorem dd_L_law_352d : am_dw (ByteArray.mk lb_L_law_352.toArray) 352 382 = .ok (.aload_n 1, 1) ∧ am_dw (ByteArray.mk lb_L_law_352.toArray) 352 383 = .ok (.aload_n 0, 1) := by decide +kernel
def lb_L_law_384 : List UInt8 := [0x1d, 0x04, 0x60, 0x2e, 0x2a, 0x1d, 0x05, 0x60, 0x2e, 0xb6, 0x00, 0x2a, 0x57, 0x2c, 0x2a, 0x1d, 0x04, 0x60, 0x2e, 0x2a, 0x1d, 0x05, 0x60, 0x2e, 0xb6, 0x00, 0x2d, 0x57, 0xa7, 0x04, 0x01, 0x2b, 0x2a, 0x1d, 0x04, 0x60]
theorem pw_L_law_384 : am_Pw code (ByteArray.mk lb_L_law_384.toArray) 384 := am_pw lb_L_law_384 rfl (by decide) rfl (by decide +kernel)
theorem dd_L_law_384a : am_dw (ByteArray.mk lb_L_law_384.toArray) 384 384 = .ok (.iload_n 3, 1) ∧ am_dw (ByteArray.mk lb_L_law_384.toArray) 384 385 = .ok (.iconst 1, 1) ∧ am_dw (ByteArray.mk lb_L_law_384.toArray) 384 386 = .ok (.iadd, 1) ∧ am_dw (ByteArray.mk lb_L_law_384.toArray) 384 387 = .ok (.iaload, 1) ∧ am_dw (ByteArray.mk lb_L_law_384.toArray) 384 388 = .ok (.aload_n 0, 1) ∧ am_dw (ByteArray.mk lb_L_law_384.toArray) 384 389 = .ok (.iload_n 3, 1) ∧ am_dw (ByteArray.mk lb_L_law_384.toArray) 384 390 = .ok (.iconst 2, 1) ∧ am_dw (ByteArray.mk lb_L_law_384.toArray) 384 391 = .ok (.iadd, 1) := by decide +kernel
theorem dd_L_law_384b : am_dw (ByteArray.mk lb_L_law_384.toArray) 384 392 = .ok (.iaload, 1) ∧ am_dw (ByteArray.mk lb_L_law_384.toArray) 384 393 = .ok (.invokevirtual 42, 3) ∧ am_dw (ByteArray.mk lb_L_law_384.toArray) 384 396 = .ok (.pop, 1) ∧ am_dw (ByteArray.mk lb_L_law_384.toArray) 384 397 = .ok (.aload_n 2, 1) ∧ am_dw (ByteArray.mk lb_L_law_384.toArray) 384 398 = .ok (.aload_n 0, 1) ∧ am_dw (ByteArray.mk lb_L_law_384.toArray) 384 399 = .ok (.iload_n 3, 1) ∧ am_dw (ByteArray.mk lb_L_law_384.toArray) 384 400 = .ok (.iconst 1, 1) ∧ am_dw (ByteArray.mk lb_L_law_384.toArray) 384 401 = .ok (.iadd, 1) := by decide +kernel
theorem dd_L_law_384c : am_dw (ByteArray.mk lb_L_law_384.toArray) 384 402 = .ok (.iaload, 1) ∧ am_dw (ByteArray.mk lb_L_law_384.toArray) 384 403 = .ok (.aload_n 0, 1) ∧ am_dw (ByteArray.mk lb_L_law_384.toArray) 384 404 = .ok (.iload_n 3, 1) ∧ am_dw (ByteArray.mk lb_L_law_384.toArray) 384 405 = .ok (.iconst 2, 1) ∧ am_dw (ByteArray.mk lb_L_law_384.toArray) 384 406 = .ok (.iadd, 1) ∧ am_dw (ByteArray.mk lb_L_law_384.toArray) 384 407 = .ok (.iaload, 1) ∧ am_dw (ByteArray.mk lb_L_law_384.toArray) 384 408 = .ok (.invokevirtual 45, 3) ∧ am_dw (ByteArray.mk lb_L_law_384.toArray) 384 411 = .ok (.pop, 1) := by decide +kernel
theorem dd_L_law_384d : am_dw (ByteArray.mk lb_L_law_384.toArray) 384 412 = .ok (.goto 1025, 3) ∧ am_dw (ByteArray.mk lb_L_law_384.toArray) 384 415 = .ok (.aload_n 1, 1) := by decide +kernel
def lb_L_law_416 : List UInt8 := [0x2a, 0x1d, 0x04, 0x60, 0x2e, 0x2a, 0x1d, 0x05, 0x60, 0x2e, 0x2a, 0x1d, 0x06, 0x60, 0x2e, 0xb6, 0x00, 0x2e, 0x57, 0x2c, 0x2a, 0x1d, 0x04, 0x60, 0x2e, 0x2a, 0x1d, 0x05, 0x60, 0x2e, 0x2a, 0x1d, 0x06, 0x60, 0x2e, 0xb6]
theorem pw_L_law_416 : am_Pw code (ByteArray.mk lb_L_law_416.toArray) 416 := am_pw lb_L_law_416 rfl (by decide) rfl (by decide +kernel)
theorem dd_L_law_416a : am_dw (ByteArray.mk lb_L_law_416.toArray) 416 416 = .ok (.aload_n 0, 1) ∧ am_dw (ByteArray.mk lb_L_law_416.toArray) 416 417 = .ok (.iload_n 3, 1) ∧ am_dw (ByteArray.mk lb_L_law_416.toArray) 416 418 = .ok (.iconst 1, 1) ∧ am_dw (ByteArray.mk lb_L_law_416.toArray) 416 419 = .ok (.iadd, 1) ∧ am_dw (ByteArray.mk lb_L_law_416.toArray) 416 420 = .ok (.iaload, 1) ∧ am_dw (ByteArray.mk lb_L_law_416.toArray) 416 421 = .ok (.aload_n 0, 1) ∧ am_dw (ByteArray.mk lb_L_law_416.toArray) 416 422 = .ok (.iload_n 3, 1) ∧ am_dw (ByteArray.mk lb_L_law_416.toArray) 416 423 = .ok (.iconst 2, 1) := by decide +kernel
theorem dd_L_law_416b : am_dw (ByteArray.mk lb_L_law_416.toArray) 416 424 = .ok (.iadd, 1) ∧ am_dw (ByteArray.mk lb_L_law_416.toArray) 416 425 = .ok (.iaload, 1) ∧ am_dw (ByteArray.mk lb_L_law_416.toArray) 416 426 = .ok (.aload_n 0, 1) ∧ am_dw (ByteArray.mk lb_L_law_416.toArray) 416 427 = .ok (.iload_n 3, 1) ∧ am_dw (ByteArray.mk lb_L_law_416.toArray) 416 428 = .ok (.iconst 3, 1) ∧ am_dw (ByteArray.mk lb_L_law_416.toArray) 416 429 = .ok (.iadd, 1) ∧ am_dw (ByteArray.mk lb_L_law_416.toArray) 416 430 = .ok (.iaload, 1) ∧ am_dw (ByteArray.mk lb_L_law_416.toArray) 416 431 = .ok (.invokevirtual 46, 3) := by decide +kernel
theorem dd_L_law_416c : am_dw (ByteArray.mk lb_L_law_416.toArray) 416 434 = .ok (.pop, 1) ∧ am_dw (ByteArray.mk lb_L_law_416.toArray) 416 435 = .ok (.aload_n 2, 1) ∧ am_dw (ByteArray.mk lb_L_law_416.toArray) 416 436 = .ok (.aload_n 0, 1) ∧ am_dw (ByteArray.mk lb_L_law_416.toArray) 416 437 = .ok (.iload_n 3, 1) ∧ am_dw (ByteArray.mk lb_L_law_416.toArray) 416 438 = .ok (.iconst 1, 1) ∧ am_dw (ByteArray.mk lb_L_law_416.toArray) 416 439 = .ok (.iadd, 1) ∧ am_dw (ByteArray.mk lb_L_law_416.toArray) 416 440 = .ok (.iaload, 1) ∧ am_dw (ByteArray.mk lb_L_law_416.toArray) 416 441 = .ok (.aload_n 0, 1) := by decide +kernel
theorem dd_L_law_416d : am_dw (ByteArray.mk lb_L_law_416.toArray) 416 442 = .ok (.iload_n 3, 1) ∧ am_dw (ByteArray.mk lb_L_law_416.toArray) 416 443 = .ok (.iconst 2, 1) ∧ am_dw (ByteArray.mk lb_L_law_416.toArray) 416 444 = .ok (.iadd, 1) ∧ am_dw (ByteArray.mk lb_L_law_416.toArray) 416 445 = .ok (.iaload, 1) ∧ am_dw (ByteArray.mk lb_L_law_416.toArray) 416 446 = .ok (.aload_n 0, 1) ∧ am_dw (ByteArray.mk lb_L_law_416.toArray) 416 447 = .ok (.iload_n 3, 1) := by decide +kernel
def lb_L_law_448 : List UInt8 := [0x06, 0x60, 0x2e, 0xb6, 0x00, 0x32, 0x57, 0xa7, 0x03, 0xd6, 0x2b, 0x2a, 0x1d, 0x04, 0x60, 0x2e, 0x2a, 0x1d, 0x05, 0x60, 0x2e, 0x2a, 0x1d, 0x06, 0x60, 0x2e, 0x2a, 0x1d, 0x07, 0x60, 0x2e, 0xb6, 0x00, 0x33, 0x57, 0x2c]
theorem pw_L_law_448 : am_Pw code (ByteArray.mk lb_L_law_448.toArray) 448 := am_pw lb_L_law_448 rfl (by decide) rfl (by decide +kernel)
theorem dd_L_law_448a : am_dw (ByteArray.mk lb_L_law_448.toArray) 448 448 = .ok (.iconst 3, 1) ∧ am_dw (ByteArray.mk lb_L_law_448.toArray) 448 449 = .ok (.iadd, 1) ∧ am_dw (ByteArray.mk lb_L_law_448.toArray) 448 450 = .ok (.iaload, 1) ∧ am_dw (ByteArray.mk lb_L_law_448.toArray) 448 451 = .ok (.invokevirtual 50, 3) ∧ am_dw (ByteArray.mk lb_L_law_448.toArray) 448 454 = .ok (.pop, 1) ∧ am_dw (ByteArray.mk lb_L_law_448.toArray) 448 455 = .ok (.goto 982, 3) ∧ am_dw (ByteArray.mk lb_L_law_448.toArray) 448 458 = .ok (.aload_n 1, 1) ∧ am_dw (ByteArray.mk lb_L_law_448.toArray) 448 459 = .ok (.aload_n 0, 1) := by decide +kernel
theorem dd_L_law_448b : am_dw (ByteArray.mk lb_L_law_448.toArray) 448 460 = .ok (.iload_n 3, 1) ∧ am_dw (ByteArray.mk lb_L_law_448.toArray) 448 461 = .ok (.iconst 1, 1) ∧ am_dw (ByteArray.mk lb_L_law_448.toArray) 448 462 = .ok (.iadd, 1) ∧ am_dw (ByteArray.mk lb_L_law_448.toArray) 448 463 = .ok (.iaload, 1) ∧ am_dw (ByteArray.mk lb_L_law_448.toArray) 448 464 = .ok (.aload_n 0, 1) ∧ am_dw (ByteArray.mk lb_L_law_448.toArray) 448 465 = .ok (.iload_n 3, 1) ∧ am_dw (ByteArray.mk lb_L_law_448.toArray) 448 466 = .ok (.iconst 2, 1) ∧ am_dw (ByteArray.mk lb_L_law_448.toArray) 448 467 = .ok (.iadd, 1) := by decide +kernel
theorem dd_L_law_448c : am_dw (ByteArray.mk lb_L_law_448.toArray) 448 468 = .ok (.iaload, 1) ∧ am_dw (ByteArray.mk lb_L_law_448.toArray) 448 469 = .ok (.aload_n 0, 1) ∧ am_dw (ByteArray.mk lb_L_law_448.toArray) 448 470 = .ok (.iload_n 3, 1) ∧ am_dw (ByteArray.mk lb_L_law_448.toArray) 448 471 = .ok (.iconst 3, 1) ∧ am_dw (ByteArray.mk lb_L_law_448.toArray) 448 472 = .ok (.iadd, 1) ∧ am_dw (ByteArray.mk lb_L_law_448.toArray) 448 473 = .ok (.iaload, 1) ∧ am_dw (ByteArray.mk lb_L_law_448.toArray) 448 474 = .ok (.aload_n 0, 1) ∧ am_dw (ByteArray.mk lb_L_law_448.toArray) 448 475 = .ok (.iload_n 3, 1) := by decide +kernel
theorem dd_L_law_448d : am_dw (ByteArray.mk lb_L_law_448.toArray) 448 476 = .ok (.iconst 4, 1) ∧ am_dw (ByteArray.mk lb_L_law_448.toArray) 448 477 = .ok (.iadd, 1) ∧ am_dw (ByteArray.mk lb_L_law_448.toArray) 448 478 = .ok (.iaload, 1) ∧ am_dw (ByteArray.mk lb_L_law_448.toArray) 448 479 = .ok (.invokevirtual 51, 3) := by decide +kernel
def lb_L_law_480 : List UInt8 := [0x00, 0x33, 0x57, 0x2c, 0x2a, 0x1d, 0x04, 0x60, 0x2e, 0x2a, 0x1d, 0x05, 0x60, 0x2e, 0x2a, 0x1d, 0x06, 0x60, 0x2e, 0x2a, 0x1d, 0x07, 0x60, 0x2e, 0xb6, 0x00, 0x37, 0x57, 0xa7, 0x03, 0xa1, 0x2b, 0x2a, 0x1d, 0x04, 0x60]
theorem pw_L_law_480 : am_Pw code (ByteArray.mk lb_L_law_480.toArray) 480 := am_pw lb_L_law_480 rfl (by decide) rfl (by decide +kernel)
theorem dd_L_law_480a : am_dw (ByteArray.mk lb_L_law_480.toArray) 480 482 = .ok (.pop, 1) ∧ am_dw (ByteArray.mk lb_L_law_480.toArray) 480 483 = .ok (.aload_n 2, 1) ∧ am_dw (ByteArray.mk lb_L_law_480.toArray) 480 484 = .ok (.aload_n 0, 1) ∧ am_dw (ByteArray.mk lb_L_law_480.toArray) 480 485 = .ok (.iload_n 3, 1) ∧ am_dw (ByteArray.mk lb_L_law_480.toArray) 480 486 = .ok (.iconst 1, 1) ∧ am_dw (ByteArray.mk lb_L_law_480.toArray) 480 487 = .ok (.iadd, 1) ∧ am_dw (ByteArray.mk lb_L_law_480.toArray) 480 488 = .ok (.iaload, 1) ∧ am_dw (ByteArray.mk lb_L_law_480.toArray) 480 489 = .ok (.aload_n 0, 1) := by decide +kernel
theorem dd_L_law_480b : am_dw (ByteArray.mk lb_L_law_480.toArray) 480 490 = .ok (.iload_n 3, 1) ∧ am_dw (ByteArray.mk lb_L_law_480.toArray) 480 491 = .ok (.iconst 2, 1) ∧ am_dw (ByteArray.mk lb_L_law_480.toArray) 480 492 = .ok (.iadd, 1) ∧ am_dw (ByteArray.mk lb_L_law_480.toArray) 480 493 = .ok (.iaload, 1) ∧ am_dw (ByteArray.mk lb_L_law_480.toArray) 480 494 = .ok (.aload_n 0, 1) ∧ am_dw (ByteArray.mk lb_L_law_480.toArray) 480 495 = .ok (.iload_n 3, 1) ∧ am_dw (ByteArray.mk lb_L_law_480.toArray) 480 496 = .ok (.iconst 3, 1) ∧ am_dw (ByteArray.mk lb_L_law_480.toArray) 480 497 = .ok (.iadd, 1) := by decide +kernel
theorem dd_L_law_480c : am_dw (ByteArray.mk lb_L_law_480.toArray) 480 498 = .ok (.iaload, 1) ∧ am_dw (ByteArray.mk lb_L_law_480.toArray) 480 499 = .ok (.aload_n 0, 1) ∧ am_dw (ByteArray.mk lb_L_law_480.toArray) 480 500 = .ok (.iload_n 3, 1) ∧ am_dw (ByteArray.mk lb_L_law_480.toArray) 480 501 = .ok (.iconst 4, 1) ∧ am_dw (ByteArray.mk lb_L_law_480.toArray) 480 502 = .ok (.iadd, 1) ∧ am_dw (ByteArray.mk lb_L_law_480.toArray) 480 503 = .ok (.iaload, 1) ∧ am_dw (ByteArray.mk lb_L_law_480.toArray) 480 504 = .ok (.invokevirtual 55, 3) ∧ am_dw (ByteArray.mk lb_L_law_480.toArray) 480 507 = .ok (.pop, 1) := by decide +kernel
theorem dd_L_law_480d : am_dw (ByteArray.mk lb_L_law_480.toArray) 480 508 = .ok (.goto 929, 3) ∧ am_dw (ByteArray.mk lb_L_law_480.toArray) 480 511 = .ok (.aload_n 1, 1) := by decide +kernel
def lb_L_law_512 : List UInt8 := [0x2a, 0x1d, 0x04, 0x60, 0x2e, 0x2a, 0x1d, 0x05, 0x60, 0x2e, 0x2a, 0x1d, 0x06, 0x60, 0x2e, 0x2a, 0x1d, 0x07, 0x60, 0x2e, 0x2a, 0x1d, 0x08, 0x60, 0x2e, 0xb6, 0x00, 0x38, 0x57, 0x2c, 0x2a, 0x1d, 0x04, 0x60, 0x2e, 0x2a]
theorem pw_L_law_512 : am_Pw code (ByteArray.mk lb_L_law_512.toArray) 512 := am_pw lb_L_law_512 rfl (by decide) rfl (by decide +kernel)
theorem dd_L_law_512a : am_dw (ByteArray.mk lb_L_law_512.toArray) 512 512 = .ok (.aload_n 0, 1) ∧ am_dw (ByteArray.mk lb_L_law_512.toArray) 512 513 = .ok (.iload_n 3, 1) ∧ am_dw (ByteArray.mk lb_L_law_512.toArray) 512 514 = .ok (.iconst 1, 1) ∧ am_dw (ByteArray.mk lb_L_law_512.toArray) 512 515 = .ok (.iadd, 1) ∧ am_dw (ByteArray.mk lb_L_law_512.toArray) 512 516 = .ok (.iaload, 1) ∧ am_dw (ByteArray.mk lb_L_law_512.toArray) 512 517 = .ok (.aload_n 0, 1) ∧ am_dw (ByteArray.mk lb_L_law_512.toArray) 512 518 = .ok (.iload_n 3, 1) ∧ am_dw (ByteArray.mk lb_L_law_512.toArray) 512 519 = .ok (.iconst 2, 1) := by decide +kernel
theorem dd_L_law_512b : am_dw (ByteArray.mk lb_L_law_512.toArray) 512 520 = .ok (.iadd, 1) ∧ am_dw (ByteArray.mk lb_L_law_512.toArray) 512 521 = .ok (.iaload, 1) ∧ am_dw (ByteArray.mk lb_L_law_512.toArray) 512 522 = .ok (.aload_n 0, 1) ∧ am_dw (ByteArray.mk lb_L_law_512.toArray) 512 523 = .ok (.iload_n 3, 1) ∧ am_dw (ByteArray.mk lb_L_law_512.toArray) 512 524 = .ok (.iconst 3, 1) ∧ am_dw (ByteArray.mk lb_L_law_512.toArray) 512 525 = .ok (.iadd, 1) ∧ am_dw (ByteArray.mk lb_L_law_512.toArray) 512 526 = .ok (.iaload, 1) ∧ am_dw (ByteArray.mk lb_L_law_512.toArray) 512 527 = .ok (.aload_n 0, 1) := by decide +kernel
theorem dd_L_law_512c : am_dw (ByteArray.mk lb_L_law_512.toArray) 512 528 = .ok (.iload_n 3, 1) ∧ am_dw (ByteArray.mk lb_L_law_512.toArray) 512 529 = .ok (.iconst 4, 1) ∧ am_dw (ByteArray.mk lb_L_law_512.toArray) 512 530 = .ok (.iadd, 1) ∧ am_dw (ByteArray.mk lb_L_law_512.toArray) 512 531 = .ok (.iaload, 1) ∧ am_dw (ByteArray.mk lb_L_law_512.toArray) 512 532 = .ok (.aload_n 0, 1) ∧ am_dw (ByteArray.mk lb_L_law_512.toArray) 512 533 = .ok (.iload_n 3, 1) ∧ am_dw (ByteArray.mk lb_L_law_512.toArray) 512 534 = .ok (.iconst 5, 1) ∧ am_dw (ByteArray.mk lb_L_law_512.toArray) 512 535 = .ok (.iadd, 1) := by decide +kernel
theorem dd_L_law_512d : am_dw (ByteArray.mk lb_L_law_512.toArray) 512 536 = .ok (.iaload, 1) ∧ am_dw (ByteArray.mk lb_L_law_512.toArray) 512 537 = .ok (.invokevirtual 56, 3) ∧ am_dw (ByteArray.mk lb_L_law_512.toArray) 512 540 = .ok (.pop, 1) ∧ am_dw (ByteArray.mk lb_L_law_512.toArray) 512 541 = .ok (.aload_n 2, 1) ∧ am_dw (ByteArray.mk lb_L_law_512.toArray) 512 542 = .ok (.aload_n 0, 1) ∧ am_dw (ByteArray.mk lb_L_law_512.toArray) 512 543 = .ok (.iload_n 3, 1) := by decide +kernel
def lb_L_law_544 : List UInt8 := [0x04, 0x60, 0x2e, 0x2a, 0x1d, 0x05, 0x60, 0x2e, 0x2a, 0x1d, 0x06, 0x60, 0x2e, 0x2a, 0x1d, 0x07, 0x60, 0x2e, 0x2a, 0x1d, 0x08, 0x60, 0x2e, 0xb6, 0x00, 0x3b, 0x57, 0xa7, 0x03, 0x62, 0x2b, 0x2a, 0x1d, 0x04, 0x60, 0x2e]
theorem pw_L_law_544 : am_Pw code (ByteArray.mk lb_L_law_544.toArray) 544 := am_pw lb_L_law_544 rfl (by decide) rfl (by decide +kernel)
theorem dd_L_law_544a : am_dw (ByteArray.mk lb_L_law_544.toArray) 544 544 = .ok (.iconst 1, 1) ∧ am_dw (ByteArray.mk lb_L_law_544.toArray) 544 545 = .ok (.iadd, 1) ∧ am_dw (ByteArray.mk lb_L_law_544.toArray) 544 546 = .ok (.iaload, 1) ∧ am_dw (ByteArray.mk lb_L_law_544.toArray) 544 547 = .ok (.aload_n 0, 1) ∧ am_dw (ByteArray.mk lb_L_law_544.toArray) 544 548 = .ok (.iload_n 3, 1) ∧ am_dw (ByteArray.mk lb_L_law_544.toArray) 544 549 = .ok (.iconst 2, 1) ∧ am_dw (ByteArray.mk lb_L_law_544.toArray) 544 550 = .ok (.iadd, 1) ∧ am_dw (ByteArray.mk lb_L_law_544.toArray) 544 551 = .ok (.iaload, 1) := by decide +kernel
theorem dd_L_law_544b : am_dw (ByteArray.mk lb_L_law_544.toArray) 544 552 = .ok (.aload_n 0, 1) ∧ am_dw (ByteArray.mk lb_L_law_544.toArray) 544 553 = .ok (.iload_n 3, 1) ∧ am_dw (ByteArray.mk lb_L_law_544.toArray) 544 554 = .ok (.iconst 3, 1) ∧ am_dw (ByteArray.mk lb_L_law_544.toArray) 544 555 = .ok (.iadd, 1) ∧ am_dw (ByteArray.mk lb_L_law_544.toArray) 544 556 = .ok (.iaload, 1) ∧ am_dw (ByteArray.mk lb_L_law_544.toArray) 544 557 = .ok (.aload_n 0, 1) ∧ am_dw (ByteArray.mk lb_L_law_544.toArray) 544 558 = .ok (.iload_n 3, 1) ∧ am_dw (ByteArray.mk lb_L_law_544.toArray) 544 559 = .ok (.iconst 4, 1) := by decide +kernel
theorem dd_L_law_544c : am_dw (ByteArray.mk lb_L_law_544.toArray) 544 560 = .ok (.iadd, 1) ∧ am_dw (ByteArray.mk lb_L_law_544.toArray) 544 561 = .ok (.iaload, 1) ∧ am_dw (ByteArray.mk lb_L_law_544.toArray) 544 562 = .ok (.aload_n 0, 1) ∧ am_dw (ByteArray.mk lb_L_law_544.toArray) 544 563 = .ok (.iload_n 3, 1) ∧ am_dw (ByteArray.mk lb_L_law_544.toArray) 544 564 = .ok (.iconst 5, 1) ∧ am_dw (ByteArray.mk lb_L_law_544.toArray) 544 565 = .ok (.iadd, 1) ∧ am_dw (ByteArray.mk lb_L_law_544.toArray) 544 566 = .ok (.iaload, 1) ∧ am_dw (ByteArray.mk lb_L_law_544.toArray) 544 567 = .ok (.invokevirtual 59, 3) := by decide +kernel
theorem dd_L_law_544d : am_dw (ByteArray.mk lb_L_law_544.toArray) 544 570 = .ok (.pop, 1) ∧ am_dw (ByteArray.mk lb_L_law_544.toArray) 544 571 = .ok (.goto 866, 3) ∧ am_dw (ByteArray.mk lb_L_law_544.toArray) 544 574 = .ok (.aload_n 1, 1) ∧ am_dw (ByteArray.mk lb_L_law_544.toArray) 544 575 = .ok (.aload_n 0, 1) := by decide +kernel
def lb_L_law_576 : List UInt8 := [0x1d, 0x04, 0x60, 0x2e, 0x2a, 0x1d, 0x05, 0x60, 0x2e, 0x2a, 0x1d, 0x06, 0x60, 0x2e, 0xb6, 0x00, 0x3c, 0x57, 0x2c, 0x2a, 0x1d, 0x04, 0x60, 0x2e, 0x2a, 0x1d, 0x05, 0x60, 0x2e, 0x2a, 0x1d, 0x06, 0x60, 0x2e, 0xb6, 0x00]
theorem pw_L_law_576 : am_Pw code (ByteArray.mk lb_L_law_576.toArray) 576 := am_pw lb_L_law_576 rfl (by decide) rfl (by decide +kernel)
theorem dd_L_law_576a : am_dw (ByteArray.mk lb_L_law_576.toArray) 576 576 = .ok (.iload_n 3, 1) ∧ am_dw (ByteArray.mk lb_L_law_576.toArray) 576 577 = .ok (.iconst 1, 1) ∧ am_dw (ByteArray.mk lb_L_law_576.toArray) 576 578 = .ok (.iadd, 1) ∧ am_dw (ByteArray.mk lb_L_law_576.toArray) 576 579 = .ok (.iaload, 1) ∧ am_dw (ByteArray.mk lb_L_law_576.toArray) 576 580 = .ok (.aload_n 0, 1) ∧ am_dw (ByteArray.mk lb_L_law_576.toArray) 576 581 = .ok (.iload_n 3, 1) ∧ am_dw (ByteArray.mk lb_L_law_576.toArray) 576 582 = .ok (.iconst 2, 1) ∧ am_dw (ByteArray.mk lb_L_law_576.toArray) 576 583 = .ok (.iadd, 1) := by decide +kernel
theorem dd_L_law_576b : am_dw (ByteArray.mk lb_L_law_576.toArray) 576 584 = .ok (.iaload, 1) ∧ am_dw (ByteArray.mk lb_L_law_576.toArray) 576 585 = .ok (.aload_n 0, 1) ∧ am_dw (ByteArray.mk lb_L_law_576.toArray) 576 586 = .ok (.iload_n 3, 1) ∧ am_dw (ByteArray.mk lb_L_law_576.toArray) 576 587 = .ok (.iconst 3, 1) ∧ am_dw (ByteArray.mk lb_L_law_576.toArray) 576 588 = .ok (.iadd, 1) ∧ am_dw (ByteArray.mk lb_L_law_576.toArray) 576 589 = .ok (.iaload, 1) ∧ am_dw (ByteArray.mk lb_L_law_576.toArray) 576 590 = .ok (.invokevirtual 60, 3) ∧ am_dw (ByteArray.mk lb_L_law_576.toArray) 576 593 = .ok (.pop, 1) := by decide +kernel
theorem dd_L_law_576c : am_dw (ByteArray.mk lb_L_law_576.toArray) 576 594 = .ok (.aload_n 2, 1) ∧ am_dw (ByteArray.mk lb_L_law_576.toArray) 576 595 = .ok (.aload_n 0, 1) ∧ am_dw (ByteArray.mk lb_L_law_576.toArray) 576 596 = .ok (.iload_n 3, 1) ∧ am_dw (ByteArray.mk lb_L_law_576.toArray) 576 597 = .ok (.iconst 1, 1) ∧ am_dw (ByteArray.mk lb_L_law_576.toArray) 576 598 = .ok (.iadd, 1) ∧ am_dw (ByteArray.mk lb_L_law_576.toArray) 576 599 = .ok (.iaload, 1) ∧ am_dw (ByteArray.mk lb_L_law_576.toArray) 576 600 = .ok (.aload_n 0, 1) ∧ am_dw (ByteArray.mk lb_L_law_576.toArray) 576 601 = .ok (.iload_n 3, 1) := by decide +kernel
theorem dd_L_law_576d : am_dw (ByteArray.mk lb_L_law_576.toArray) 576 602 = .ok (.iconst 2, 1) ∧ am_dw (ByteArray.mk lb_L_law_576.toArray) 576 603 = .ok (.iadd, 1) ∧ am_dw (ByteArray.mk lb_L_law_576.toArray) 576 604 = .ok (.iaload, 1) ∧ am_dw (ByteArray.mk lb_L_law_576.toArray) 576 605 = .ok (.aload_n 0, 1) ∧ am_dw (ByteArray.mk lb_L_law_576.toArray) 576 606 = .ok (.iload_n 3, 1) ∧ am_dw (ByteArray.mk lb_L_law_576.toArray) 576 607 = .ok (.iconst 3, 1) := by decide +kernel
def lb_L_law_608 : List UInt8 := [0x60, 0x2e, 0xb6, 0x00, 0x3f, 0x57, 0xa7, 0x03, 0x37, 0x2b, 0x2a, 0x1d, 0x04, 0x60, 0x2e, 0x2a, 0x1d, 0x05, 0x60, 0x2e, 0x2a, 0x1d, 0x06, 0x60, 0x2e, 0xb6, 0x00, 0x40, 0x57, 0x2c, 0x2a, 0x1d, 0x04, 0x60, 0x2e, 0x2a]
theorem pw_L_law_608 : am_Pw code (ByteArray.mk lb_L_law_608.toArray) 608 := am_pw lb_L_law_608 rfl (by decide) rfl (by decide +kernel)
theorem dd_L_law_608a : am_dw (ByteArray.mk lb_L_law_608.toArray) 608 608 = .ok (.iadd, 1) ∧ am_dw (ByteArray.mk lb_L_law_608.toArray) 608 609 = .ok (.iaload, 1) ∧ am_dw (ByteArray.mk lb_L_law_608.toArray) 608 610 = .ok (.invokevirtual 63, 3) ∧ am_dw (ByteArray.mk lb_L_law_608.toArray) 608 613 = .ok (.pop, 1) ∧ am_dw (ByteArray.mk lb_L_law_608.toArray) 608 614 = .ok (.goto 823, 3) ∧ am_dw (ByteArray.mk lb_L_law_608.toArray) 608 617 = .ok (.aload_n 1, 1) ∧ am_dw (ByteArray.mk lb_L_law_608.toArray) 608 618 = .ok (.aload_n 0, 1) ∧ am_dw (ByteArray.mk lb_L_law_608.toArray) 608 619 = .ok (.iload_n 3, 1) := by decide +kernel
theorem dd_L_law_608b : am_dw (ByteArray.mk lb_L_law_608.toArray) 608 620 = .ok (.iconst 1, 1) ∧ am_dw (ByteArray.mk lb_L_law_608.toArray) 608 621 = .ok (.iadd, 1) ∧ am_dw (ByteArray.mk lb_L_law_608.toArray) 608 622 = .ok (.iaload, 1) ∧ am_dw (ByteArray.mk lb_L_law_608.toArray) 608 623 = .ok (.aload_n 0, 1) ∧ am_dw (ByteArray.mk lb_L_law_608.toArray) 608 624 = .ok (.iload_n 3, 1) ∧ am_dw (ByteArray.mk lb_L_law_608.toArray) 608 625 = .ok (.iconst 2, 1) ∧ am_dw (ByteArray.mk lb_L_law_608.toArray) 608 626 = .ok (.iadd, 1) ∧ am_dw (ByteArray.mk lb_L_law_608.toArray) 608 627 = .ok (.iaload, 1) := by decide +kernel
theorem dd_L_law_608c : am_dw (ByteArray.mk lb_L_law_608.toArray) 608 628 = .ok (.aload_n 0, 1) ∧ am_dw (ByteArray.mk lb_L_law_608.toArray) 608 629 = .ok (.iload_n 3, 1) ∧ am_dw (ByteArray.mk lb_L_law_608.toArray) 608 630 = .ok (.iconst 3, 1) ∧ am_dw (ByteArray.mk lb_L_law_608.toArray) 608 631 = .ok (.iadd, 1) ∧ am_dw (ByteArray.mk lb_L_law_608.toArray) 608 632 = .ok (.iaload, 1) ∧ am_dw (ByteArray.mk lb_L_law_608.toArray) 608 633 = .ok (.invokevirtual 64, 3) ∧ am_dw (ByteArray.mk lb_L_law_608.toArray) 608 636 = .ok (.pop, 1) ∧ am_dw (ByteArray.mk lb_L_law_608.toArray) 608 637 = .ok (.aload_n 2, 1) := by decide +kernel
theorem dd_L_law_608d : am_dw (ByteArray.mk lb_L_law_608.toArray) 608 638 = .ok (.aload_n 0, 1) ∧ am_dw (ByteArray.mk lb_L_law_608.toArray) 608 639 = .ok (.iload_n 3, 1) := by decide +kernel
def lb_L_law_640 : List UInt8 := [0x04, 0x60, 0x2e, 0x2a, 0x1d, 0x05, 0x60, 0x2e, 0x2a, 0x1d, 0x06, 0x60, 0x2e, 0xb6, 0x00, 0x43, 0x57, 0xa7, 0x03, 0x0c, 0x2b, 0x2a, 0x1d, 0x04, 0x60, 0x2e, 0x2a, 0x1d, 0x05, 0x60, 0x2e, 0x2a, 0x1d, 0x06, 0x60, 0x2e]
theorem pw_L_law_640 : am_Pw code (ByteArray.mk lb_L_law_640.toArray) 640 := am_pw lb_L_law_640 rfl (by decide) rfl (by decide +kernel)
theorem dd_L_law_640a : am_dw (ByteArray.mk lb_L_law_640.toArray) 640 640 = .ok (.iconst 1, 1) ∧ am_dw (ByteArray.mk lb_L_law_640.toArray) 640 641 = .ok (.iadd, 1) ∧ am_dw (ByteArray.mk lb_L_law_640.toArray) 640 642 = .ok (.iaload, 1) ∧ am_dw (ByteArray.mk lb_L_law_640.toArray) 640 643 = .ok (.aload_n 0, 1) ∧ am_dw (ByteArray.mk lb_L_law_640.toArray) 640 644 = .ok (.iload_n 3, 1) ∧ am_dw (ByteArray.mk lb_L_law_640.toArray) 640 645 = .ok (.iconst 2, 1) ∧ am_dw (ByteArray.mk lb_L_law_640.toArray) 640 646 = .ok (.iadd, 1) ∧ am_dw (ByteArray.mk lb_L_law_640.toArray) 640 647 = .ok (.iaload, 1) := by decide +kernel
theorem dd_L_law_640b : am_dw (ByteArray.mk lb_L_law_640.toArray) 640 648 = .ok (.aload_n 0, 1) ∧ am_dw (ByteArray.mk lb_L_law_640.toArray) 640 649 = .ok (.iload_n 3, 1) ∧ am_dw (ByteArray.mk lb_L_law_640.toArray) 640 650 = .ok (.iconst 3, 1) ∧ am_dw (ByteArray.mk lb_L_law_640.toArray) 640 651 = .ok (.iadd, 1) ∧ am_dw (ByteArray.mk lb_L_law_640.toArray) 640 652 = .ok (.iaload, 1) ∧ am_dw (ByteArray.mk lb_L_law_640.toArray) 640 653 = .ok (.invokevirtual 67, 3) ∧ am_dw (ByteArray.mk lb_L_law_640.toArray) 640 656 = .ok (.pop, 1) ∧ am_dw (ByteArray.mk lb_L_law_640.toArray) 640 657 = .ok (.goto 780, 3) := by decide +kernel
theorem dd_L_law_640c : am_dw (ByteArray.mk lb_L_law_640.toArray) 640 660 = .ok (.aload_n 1, 1) ∧ am_dw (ByteArray.mk lb_L_law_640.toArray) 640 661 = .ok (.aload_n 0, 1) ∧ am_dw (ByteArray.mk lb_L_law_640.toArray) 640 662 = .ok (.iload_n 3, 1) ∧ am_dw (ByteArray.mk lb_L_law_640.toArray) 640 663 = .ok (.iconst 1, 1) ∧ am_dw (ByteArray.mk lb_L_law_640.toArray) 640 664 = .ok (.iadd, 1) ∧ am_dw (ByteArray.mk lb_L_law_640.toArray) 640 665 = .ok (.iaload, 1) ∧ am_dw (ByteArray.mk lb_L_law_640.toArray) 640 666 = .ok (.aload_n 0, 1) ∧ am_dw (ByteArray.mk lb_L_law_640.toArray) 640 667 = .ok (.iload_n 3, 1) := by decide +kernel
theorem dd_L_law_640d : am_dw (ByteArray.mk lb_L_law_640.toArray) 640 668 = .ok (.iconst 2, 1) ∧ am_dw (ByteArray.mk lb_L_law_640.toArray) 640 669 = .ok (.iadd, 1) ∧ am_dw (ByteArray.mk lb_L_law_640.toArray) 640 670 = .ok (.iaload, 1) ∧ am_dw (ByteArray.mk lb_L_law_640.toArray) 640 671 = .ok (.aload_n 0, 1) := by decide +kernel
def lb_L_law_672 : List UInt8 := [0x1d, 0x06, 0x60, 0x2e, 0x2a, 0x1d, 0x07, 0x60, 0x2e, 0xb6, 0x00, 0x44, 0x57, 0x2c, 0x2a, 0x1d, 0x04, 0x60, 0x2e, 0x2a, 0x1d, 0x05, 0x60, 0x2e, 0x2a, 0x1d, 0x06, 0x60, 0x2e, 0x2a, 0x1d, 0x07, 0x60, 0x2e, 0xb6, 0x00]
theorem pw_L_law_672 : am_Pw code (ByteArray.mk lb_L_law_672.toArray) 672 := am_pw lb_L_law_672 rfl (by decide) rfl (by decide +kernel)
theorem dd_L_law_672a : am_dw (ByteArray.mk lb_L_law_672.toArray) 672 672 = .ok (.iload_n 3, 1) ∧ am_dw (ByteArray.mk lb_L_law_672.toArray) 672 673 = .ok (.iconst 3, 1) ∧ am_dw (ByteArray.mk lb_L_law_672.toArray) 672 674 = .ok (.iadd, 1) ∧ am_dw (ByteArray.mk lb_L_law_672.toArray) 672 675 = .ok (.iaload, 1) ∧ am_dw (ByteArray.mk lb_L_law_672.toArray) 672 676 = .ok (.aload_n 0, 1) ∧ am_dw (ByteArray.mk lb_L_law_672.toArray) 672 677 = .ok (.iload_n 3, 1) ∧ am_dw (ByteArray.mk lb_L_law_672.toArray) 672 678 = .ok (.iconst 4, 1) ∧ am_dw (ByteArray.mk lb_L_law_672.toArray) 672 679 = .ok (.iadd, 1) := by decide +kernel
theorem dd_L_law_672b : am_dw (ByteArray.mk lb_L_law_672.toArray) 672 680 = .ok (.iaload, 1) ∧ am_dw (ByteArray.mk lb_L_law_672.toArray) 672 681 = .ok (.invokevirtual 68, 3) ∧ am_dw (ByteArray.mk lb_L_law_672.toArray) 672 684 = .ok (.pop, 1) ∧ am_dw (ByteArray.mk lb_L_law_672.toArray) 672 685 = .ok (.aload_n 2, 1) ∧ am_dw (ByteArray.mk lb_L_law_672.toArray) 672 686 = .ok (.aload_n 0, 1) ∧ am_dw (ByteArray.mk lb_L_law_672.toArray) 672 687 = .ok (.iload_n 3, 1) ∧ am_dw (ByteArray.mk lb_L_law_672.toArray) 672 688 = .ok (.iconst 1, 1) ∧ am_dw (ByteArray.mk lb_L_law_672.toArray) 672 689 = .ok (.iadd, 1) := by decide +kernel
theorem dd_L_law_672c : am_dw (ByteArray.mk lb_L_law_672.toArray) 672 690 = .ok (.iaload, 1) ∧ am_dw (ByteArray.mk lb_L_law_672.toArray) 672 691 = .ok (.aload_n 0, 1) ∧ am_dw (ByteArray.mk lb_L_law_672.toArray) 672 692 = .ok (.iload_n 3, 1) ∧ am_dw (ByteArray.mk lb_L_law_672.toArray) 672 693 = .ok (.iconst 2, 1) ∧ am_dw (ByteArray.mk lb_L_law_672.toArray) 672 694 = .ok (.iadd, 1) ∧ am_dw (ByteArray.mk lb_L_law_672.toArray) 672 695 = .ok (.iaload, 1) ∧ am_dw (ByteArray.mk lb_L_law_672.toArray) 672 696 = .ok (.aload_n 0, 1) ∧ am_dw (ByteArray.mk lb_L_law_672.toArray) 672 697 = .ok (.iload_n 3, 1) := by decide +kernel
theorem dd_L_law_672d : am_dw (ByteArray.mk lb_L_law_672.toArray) 672 698 = .ok (.iconst 3, 1) ∧ am_dw (ByteArray.mk lb_L_law_672.toArray) 672 699 = .ok (.iadd, 1) ∧ am_dw (ByteArray.mk lb_L_law_672.toArray) 672 700 = .ok (.iaload, 1) ∧ am_dw (ByteArray.mk lb_L_law_672.toArray) 672 701 = .ok (.aload_n 0, 1) ∧ am_dw (ByteArray.mk lb_L_law_672.toArray) 672 702 = .ok (.iload_n 3, 1) ∧ am_dw (ByteArray.mk lb_L_law_672.toArray) 672 703 = .ok (.iconst 4, 1) := by decide +kernel
def lb_L_law_704 : List UInt8 := [0x60, 0x2e, 0xb6, 0x00, 0x47, 0x57, 0xa7, 0x02, 0xd7, 0x2b, 0x2a, 0x1d, 0x04, 0x60, 0x2e, 0x2a, 0x1d, 0x05, 0x60, 0x2e, 0xb6, 0x00, 0x48, 0x57, 0x2c, 0x2a, 0x1d, 0x04, 0x60, 0x2e, 0x2a, 0x1d, 0x05, 0x60, 0x2e, 0xb6]
theorem pw_L_law_704 : am_Pw code (ByteArray.mk lb_L_law_704.toArray) 704 := am_pw lb_L_law_704 rfl (by decide) rfl (by decide +kernel)
theorem dd_L_law_704a : am_dw (ByteArray.mk lb_L_law_704.toArray) 704 704 = .ok (.iadd, 1) ∧ am_dw (ByteArray.mk lb_L_law_704.toArray) 704 705 = .ok (.iaload, 1) ∧ am_dw (ByteArray.mk lb_L_law_704.toArray) 704 706 = .ok (.invokevirtual 71, 3) ∧ am_dw (ByteArray.mk lb_L_law_704.toArray) 704 709 = .ok (.pop, 1) ∧ am_dw (ByteArray.mk lb_L_law_704.toArray) 704 710 = .ok (.goto 727, 3) ∧ am_dw (ByteArray.mk lb_L_law_704.toArray) 704 713 = .ok (.aload_n 1, 1) ∧ am_dw (ByteArray.mk lb_L_law_704.toArray) 704 714 = .ok (.aload_n 0, 1) ∧ am_dw (ByteArray.mk lb_L_law_704.toArray) 704 715 = .ok (.iload_n 3, 1) := by decide +kernel
theorem dd_L_law_704b : am_dw (ByteArray.mk lb_L_law_704.toArray) 704 716 = .ok (.iconst 1, 1) ∧ am_dw (ByteArray.mk lb_L_law_704.toArray) 704 717 = .ok (.iadd, 1) ∧ am_dw (ByteArray.mk lb_L_law_704.toArray) 704 718 = .ok (.iaload, 1) ∧ am_dw (ByteArray.mk lb_L_law_704.toArray) 704 719 = .ok (.aload_n 0, 1) ∧ am_dw (ByteArray.mk lb_L_law_704.toArray) 704 720 = .ok (.iload_n 3, 1) ∧ am_dw (ByteArray.mk lb_L_law_704.toArray) 704 721 = .ok (.iconst 2, 1) ∧ am_dw (ByteArray.mk lb_L_law_704.toArray) 704 722 = .ok (.iadd, 1) ∧ am_dw (ByteArray.mk lb_L_law_704.toArray) 704 723 = .ok (.iaload, 1) := by decide +kernel
theorem dd_L_law_704c : am_dw (ByteArray.mk lb_L_law_704.toArray) 704 724 = .ok (.invokevirtual 72, 3) ∧ am_dw (ByteArray.mk lb_L_law_704.toArray) 704 727 = .ok (.pop, 1) ∧ am_dw (ByteArray.mk lb_L_law_704.toArray) 704 728 = .ok (.aload_n 2, 1) ∧ am_dw (ByteArray.mk lb_L_law_704.toArray) 704 729 = .ok (.aload_n 0, 1) ∧ am_dw (ByteArray.mk lb_L_law_704.toArray) 704 730 = .ok (.iload_n 3, 1) ∧ am_dw (ByteArray.mk lb_L_law_704.toArray) 704 731 = .ok (.iconst 1, 1) ∧ am_dw (ByteArray.mk lb_L_law_704.toArray) 704 732 = .ok (.iadd, 1) ∧ am_dw (ByteArray.mk lb_L_law_704.toArray) 704 733 = .ok (.iaload, 1) := by decide +kernel
theorem dd_L_law_704d : am_dw (ByteArray.mk lb_L_law_704.toArray) 704 734 = .ok (.aload_n 0, 1) ∧ am_dw (ByteArray.mk lb_L_law_704.toArray) 704 735 = .ok (.iload_n 3, 1) := by decide +kernel
def lb_L_law_736 : List UInt8 := [0x05, 0x60, 0x2e, 0xb6, 0x00, 0x4b, 0x57, 0xa7, 0x02, 0xb6, 0x2b, 0x2a, 0x1d, 0x04, 0x60, 0x2e, 0x2a, 0x1d, 0x05, 0x60, 0x2e, 0xb6, 0x00, 0x4c, 0x57, 0x2c, 0x2a, 0x1d, 0x04, 0x60, 0x2e, 0x2a, 0x1d, 0x05, 0x60, 0x2e]
theorem pw_L_law_736 : am_Pw code (ByteArray.mk lb_L_law_736.toArray) 736 := am_pw lb_L_law_736 rfl (by decide) rfl (by decide +kernel)
theorem dd_L_law_736a : am_dw (ByteArray.mk lb_L_law_736.toArray) 736 736 = .ok (.iconst 2, 1) ∧ am_dw (ByteArray.mk lb_L_law_736.toArray) 736 737 = .ok (.iadd, 1) ∧ am_dw (ByteArray.mk lb_L_law_736.toArray) 736 738 = .ok (.iaload, 1) ∧ am_dw (ByteArray.mk lb_L_law_736.toArray) 736 739 = .ok (.invokevirtual 75, 3) ∧ am_dw (ByteArray.mk lb_L_law_736.toArray) 736 742 = .ok (.pop, 1) ∧ am_dw (ByteArray.mk lb_L_law_736.toArray) 736 743 = .ok (.goto 694, 3) ∧ am_dw (ByteArray.mk lb_L_law_736.toArray) 736 746 = .ok (.aload_n 1, 1) ∧ am_dw (ByteArray.mk lb_L_law_736.toArray) 736 747 = .ok (.aload_n 0, 1) := by decide +kernel
theorem dd_L_law_736b : am_dw (ByteArray.mk lb_L_law_736.toArray) 736 748 = .ok (.iload_n 3, 1) ∧ am_dw (ByteArray.mk lb_L_law_736.toArray) 736 749 = .ok (.iconst 1, 1) ∧ am_dw (ByteArray.mk lb_L_law_736.toArray) 736 750 = .ok (.iadd, 1) ∧ am_dw (ByteArray.mk lb_L_law_736.toArray) 736 751 = .ok (.iaload, 1) ∧ am_dw (ByteArray.mk lb_L_law_736.toArray) 736 752 = .ok (.aload_n 0, 1) ∧ am_dw (ByteArray.mk lb_L_law_736.toArray) 736 753 = .ok (.iload_n 3, 1) ∧ am_dw (ByteArray.mk lb_L_law_736.toArray) 736 754 = .ok (.iconst 2, 1) ∧ am_dw (ByteArray.mk lb_L_law_736.toArray) 736 755 = .ok (.iadd, 1) := by decide +kernel
theorem dd_L_law_736c : am_dw (ByteArray.mk lb_L_law_736.toArray) 736 756 = .ok (.iaload, 1) ∧ am_dw (ByteArray.mk lb_L_law_736.toArray) 736 757 = .ok (.invokevirtual 76, 3) ∧ am_dw (ByteArray.mk lb_L_law_736.toArray) 736 760 = .ok (.pop, 1) ∧ am_dw (ByteArray.mk lb_L_law_736.toArray) 736 761 = .ok (.aload_n 2, 1) ∧ am_dw (ByteArray.mk lb_L_law_736.toArray) 736 762 = .ok (.aload_n 0, 1) ∧ am_dw (ByteArray.mk lb_L_law_736.toArray) 736 763 = .ok (.iload_n 3, 1) ∧ am_dw (ByteArray.mk lb_L_law_736.toArray) 736 764 = .ok (.iconst 1, 1) ∧ am_dw (ByteArray.mk lb_L_law_736.toArray) 736 765 = .ok (.iadd, 1) := by decide +kernel
theorem dd_L_law_736d : am_dw (ByteArray.mk lb_L_law_736.toArray) 736 766 = .ok (.iaload, 1) ∧ am_dw (ByteArray.mk lb_L_law_736.toArray) 736 767 = .ok (.aload_n 0, 1) := by decide +kernel
def lb_L_law_768 : List UInt8 := [0x1d, 0x05, 0x60, 0x2e, 0xb6, 0x00, 0x4f, 0x57, 0xa7, 0x02, 0x95, 0x2b, 0x2a, 0x1d, 0x04, 0x60, 0x2e, 0xb6, 0x00, 0x50, 0x57, 0x2c, 0x2a, 0x1d, 0x04, 0x60, 0x2e, 0xb6, 0x00, 0x53, 0x57, 0xa7, 0x02, 0x7e, 0x2b, 0x2a]
theorem pw_L_law_768 : am_Pw code (ByteArray.mk lb_L_law_768.toArray) 768 := am_pw lb_L_law_768 rfl (by decide) rfl (by decide +kernel)
theorem dd_L_law_768a : am_dw (ByteArray.mk lb_L_law_768.toArray) 768 768 = .ok (.iload_n 3, 1) ∧ am_dw (ByteArray.mk lb_L_law_768.toArray) 768 769 = .ok (.iconst 2, 1) ∧ am_dw (ByteArray.mk lb_L_law_768.toArray) 768 770 = .ok (.iadd, 1) ∧ am_dw (ByteArray.mk lb_L_law_768.toArray) 768 771 = .ok (.iaload, 1) ∧ am_dw (ByteArray.mk lb_L_law_768.toArray) 768 772 = .ok (.invokevirtual 79, 3) ∧ am_dw (ByteArray.mk lb_L_law_768.toArray) 768 775 = .ok (.pop, 1) ∧ am_dw (ByteArray.mk lb_L_law_768.toArray) 768 776 = .ok (.goto 661, 3) ∧ am_dw (ByteArray.mk lb_L_law_768.toArray) 768 779 = .ok (.aload_n 1, 1) := by decide +kernel
theorem dd_L_law_768b : am_dw (ByteArray.mk lb_L_law_768.toArray) 768 780 = .ok (.aload_n 0, 1) ∧ am_dw (ByteArray.mk lb_L_law_768.toArray) 768 781 = .ok (.iload_n 3, 1) ∧ am_dw (ByteArray.mk lb_L_law_768.toArray) 768 782 = .ok (.iconst 1, 1) ∧ am_dw (ByteArray.mk lb_L_law_768.toArray) 768 783 = .ok (.iadd, 1) ∧ am_dw (ByteArray.mk lb_L_law_768.toArray) 768 784 = .ok (.iaload, 1) ∧ am_dw (ByteArray.mk lb_L_law_768.toArray) 768 785 = .ok (.invokevirtual 80, 3) ∧ am_dw (ByteArray.mk lb_L_law_768.toArray) 768 788 = .ok (.pop, 1) ∧ am_dw (ByteArray.mk lb_L_law_768.toArray) 768 789 = .ok (.aload_n 2, 1) := by decide +kernel
theorem dd_L_law_768c : am_dw (ByteArray.mk lb_L_law_768.toArray) 768 790 = .ok (.aload_n 0, 1) ∧ am_dw (ByteArray.mk lb_L_law_768.toArray) 768 791 = .ok (.iload_n 3, 1) ∧ am_dw (ByteArray.mk lb_L_law_768.toArray) 768 792 = .ok (.iconst 1, 1) ∧ am_dw (ByteArray.mk lb_L_law_768.toArray) 768 793 = .ok (.iadd, 1) ∧ am_dw (ByteArray.mk lb_L_law_768.toArray) 768 794 = .ok (.iaload, 1) ∧ am_dw (ByteArray.mk lb_L_law_768.toArray) 768 795 = .ok (.invokevirtual 83, 3) ∧ am_dw (ByteArray.mk lb_L_law_768.toArray) 768 798 = .ok (.pop, 1) ∧ am_dw (ByteArray.mk lb_L_law_768.toArray) 768 799 = .ok (.goto 638, 3) := by decide +kernel
def lb_L_law_800 : List UInt8 := [0x02, 0x7e, 0x2b, 0x2a, 0x1d, 0x04, 0x60, 0x2e, 0x2a, 0x1d, 0x05, 0x60, 0x2e, 0xb6, 0x00, 0x54, 0x57, 0x2c, 0x2a, 0x1d, 0x04, 0x60, 0x2e, 0x2a, 0x1d, 0x05, 0x60, 0x2e, 0xb6, 0x00, 0x57, 0x57, 0xa7, 0x02, 0x5d, 0x2b]
theorem pw_L_law_800 : am_Pw code (ByteArray.mk lb_L_law_800.toArray) 800 := am_pw lb_L_law_800 rfl (by decide) rfl (by decide +kernel)
theorem dd_L_law_800a : am_dw (ByteArray.mk lb_L_law_800.toArray) 800 802 = .ok (.aload_n 1, 1) ∧ am_dw (ByteArray.mk lb_L_law_800.toArray) 800 803 = .ok (.aload_n 0, 1) ∧ am_dw (ByteArray.mk lb_L_law_800.toArray) 800 804 = .ok (.iload_n 3, 1) ∧ am_dw (ByteArray.mk lb_L_law_800.toArray) 800 805 = .ok (.iconst 1, 1) ∧ am_dw (ByteArray.mk lb_L_law_800.toArray) 800 806 = .ok (.iadd, 1) ∧ am_dw (ByteArray.mk lb_L_law_800.toArray) 800 807 = .ok (.iaload, 1) ∧ am_dw (ByteArray.mk lb_L_law_800.toArray) 800 808 = .ok (.aload_n 0, 1) ∧ am_dw (ByteArray.mk lb_L_law_800.toArray) 800 809 = .ok (.iload_n 3, 1) := by decide +kernel
theorem dd_L_law_800b : am_dw (ByteArray.mk lb_L_law_800.toArray) 800 810 = .ok (.iconst 2, 1) ∧ am_dw (ByteArray.mk lb_L_law_800.toArray) 800 811 = .ok (.iadd, 1) ∧ am_dw (ByteArray.mk lb_L_law_800.toArray) 800 812 = .ok (.iaload, 1) ∧ am_dw (ByteArray.mk lb_L_law_800.toArray) 800 813 = .ok (.invokevirtual 84, 3) ∧ am_dw (ByteArray.mk lb_L_law_800.toArray) 800 816 = .ok (.pop, 1) ∧ am_dw (ByteArray.mk lb_L_law_800.toArray) 800 817 = .ok (.aload_n 2, 1) ∧ am_dw (ByteArray.mk lb_L_law_800.toArray) 800 818 = .ok (.aload_n 0, 1) ∧ am_dw (ByteArray.mk lb_L_law_800.toArray) 800 819 = .ok (.iload_n 3, 1) := by decide +kernel
theorem dd_L_law_800c : am_dw (ByteArray.mk lb_L_law_800.toArray) 800 820 = .ok (.iconst 1, 1) ∧ am_dw (ByteArray.mk lb_L_law_800.toArray) 800 821 = .ok (.iadd, 1) ∧ am_dw (ByteArray.mk lb_L_law_800.toArray) 800 822 = .ok (.iaload, 1) ∧ am_dw (ByteArray.mk lb_L_law_800.toArray) 800 823 = .ok (.aload_n 0, 1) ∧ am_dw (ByteArray.mk lb_L_law_800.toArray) 800 824 = .ok (.iload_n 3, 1) ∧ am_dw (ByteArray.mk lb_L_law_800.toArray) 800 825 = .ok (.iconst 2, 1) ∧ am_dw (ByteArray.mk lb_L_law_800.toArray) 800 826 = .ok (.iadd, 1) ∧ am_dw (ByteArray.mk lb_L_law_800.toArray) 800 827 = .ok (.iaload, 1) := by decide +kernel
theorem dd_L_law_800d : am_dw (ByteArray.mk lb_L_law_800.toArray) 800 828 = .ok (.invokevirtual 87, 3) ∧ am_dw (ByteArray.mk lb_L_law_800.toArray) 800 831 = .ok (.pop, 1) := by decide +kernel
def lb_L_law_832 : List UInt8 := [0xa7, 0x02, 0x5d, 0x2b, 0x2a, 0x1d, 0x04, 0x60, 0x2e, 0xb6, 0x00, 0x58, 0x57, 0x2c, 0x2a, 0x1d, 0x04, 0x60, 0x2e, 0xb6, 0x00, 0x5b, 0x57, 0xa7, 0x02, 0x46, 0x2b, 0x2a, 0x1d, 0x04, 0x60, 0x2e, 0x2a, 0x1d, 0x05, 0x60]
theorem pw_L_law_832 : am_Pw code (ByteArray.mk lb_L_law_832.toArray) 832 := am_pw lb_L_law_832 rfl (by decide) rfl (by decide +kernel)
theorem dd_L_law_832a : am_dw (ByteArray.mk lb_L_law_832.toArray) 832 832 = .ok (.goto 605, 3) ∧ am_dw (ByteArray.mk lb_L_law_832.toArray) 832 835 = .ok (.aload_n 1, 1) ∧ am_dw (ByteArray.mk lb_L_law_832.toArray) 832 836 = .ok (.aload_n 0, 1) ∧ am_dw (ByteArray.mk lb_L_law_832.toArray) 832 837 = .ok (.iload_n 3, 1) ∧ am_dw (ByteArray.mk lb_L_law_832.toArray) 832 838 = .ok (.iconst 1, 1) ∧ am_dw (ByteArray.mk lb_L_law_832.toArray) 832 839 = .ok (.iadd, 1) ∧ am_dw (ByteArray.mk lb_L_law_832.toArray) 832 840 = .ok (.iaload, 1) ∧ am_dw (ByteArray.mk lb_L_law_832.toArray) 832 841 = .ok (.invokevirtual 88, 3) := by decide +kernel
theorem dd_L_law_832b : am_dw (ByteArray.mk lb_L_law_832.toArray) 832 844 = .ok (.pop, 1) ∧ am_dw (ByteArray.mk lb_L_law_832.toArray) 832 845 = .ok (.aload_n 2, 1) ∧ am_dw (ByteArray.mk lb_L_law_832.toArray) 832 846 = .ok (.aload_n 0, 1) ∧ am_dw (ByteArray.mk lb_L_law_832.toArray) 832 847 = .ok (.iload_n 3, 1) ∧ am_dw (ByteArray.mk lb_L_law_832.toArray) 832 848 = .ok (.iconst 1, 1) ∧ am_dw (ByteArray.mk lb_L_law_832.toArray) 832 849 = .ok (.iadd, 1) ∧ am_dw (ByteArray.mk lb_L_law_832.toArray) 832 850 = .ok (.iaload, 1) ∧ am_dw (ByteArray.mk lb_L_law_832.toArray) 832 851 = .ok (.invokevirtual 91, 3) := by decide +kernel
theorem dd_L_law_832c : am_dw (ByteArray.mk lb_L_law_832.toArray) 832 854 = .ok (.pop, 1) ∧ am_dw (ByteArray.mk lb_L_law_832.toArray) 832 855 = .ok (.goto 582, 3) ∧ am_dw (ByteArray.mk lb_L_law_832.toArray) 832 858 = .ok (.aload_n 1, 1) ∧ am_dw (ByteArray.mk lb_L_law_832.toArray) 832 859 = .ok (.aload_n 0, 1) ∧ am_dw (ByteArray.mk lb_L_law_832.toArray) 832 860 = .ok (.iload_n 3, 1) ∧ am_dw (ByteArray.mk lb_L_law_832.toArray) 832 861 = .ok (.iconst 1, 1) ∧ am_dw (ByteArray.mk lb_L_law_832.toArray) 832 862 = .ok (.iadd, 1) ∧ am_dw (ByteArray.mk lb_L_law_832.toArray) 832 863 = .ok (.iaload, 1) := by decide +kernel
def lb_L_law_864 : List UInt8 := [0x2a, 0x1d, 0x05, 0x60, 0x2e, 0xb6, 0x00, 0x5c, 0x57, 0x2c, 0x2a, 0x1d, 0x04, 0x60, 0x2e, 0x2a, 0x1d, 0x05, 0x60, 0x2e, 0xb6, 0x00, 0x5f, 0x57, 0xa7, 0x02, 0x25, 0x2b, 0x2a, 0x1d, 0x04, 0x60, 0x2e, 0xb6, 0x00, 0x60]
theorem pw_L_law_864 : am_Pw code (ByteArray.mk lb_L_law_864.toArray) 864 := am_pw lb_L_law_864 rfl (by decide) rfl (by decide +kernel)
theorem dd_L_law_864a : am_dw (ByteArray.mk lb_L_law_864.toArray) 864 864 = .ok (.aload_n 0, 1) ∧ am_dw (ByteArray.mk lb_L_law_864.toArray) 864 865 = .ok (.iload_n 3, 1) ∧ am_dw (ByteArray.mk lb_L_law_864.toArray) 864 866 = .ok (.iconst 2, 1) ∧ am_dw (ByteArray.mk lb_L_law_864.toArray) 864 867 = .ok (.iadd, 1) ∧ am_dw (ByteArray.mk lb_L_law_864.toArray) 864 868 = .ok (.iaload, 1) ∧ am_dw (ByteArray.mk lb_L_law_864.toArray) 864 869 = .ok (.invokevirtual 92, 3) ∧ am_dw (ByteArray.mk lb_L_law_864.toArray) 864 872 = .ok (.pop, 1) ∧ am_dw (ByteArray.mk lb_L_law_864.toArray) 864 873 = .ok (.aload_n 2, 1) := by decide +kernel
theorem dd_L_law_864b : am_dw (ByteArray.mk lb_L_law_864.toArray) 864 874 = .ok (.aload_n 0, 1) ∧ am_dw (ByteArray.mk lb_L_law_864.toArray) 864 875 = .ok (.iload_n 3, 1) ∧ am_dw (ByteArray.mk lb_L_law_864.toArray) 864 876 = .ok (.iconst 1, 1) ∧ am_dw (ByteArray.mk lb_L_law_864.toArray) 864 877 = .ok (.iadd, 1) ∧ am_dw (ByteArray.mk lb_L_law_864.toArray) 864 878 = .ok (.iaload, 1) ∧ am_dw (ByteArray.mk lb_L_law_864.toArray) 864 879 = .ok (.aload_n 0, 1) ∧ am_dw (ByteArray.mk lb_L_law_864.toArray) 864 880 = .ok (.iload_n 3, 1) ∧ am_dw (ByteArray.mk lb_L_law_864.toArray) 864 881 = .ok (.iconst 2, 1) := by decide +kernel
theorem dd_L_law_864c : am_dw (ByteArray.mk lb_L_law_864.toArray) 864 882 = .ok (.iadd, 1) ∧ am_dw (ByteArray.mk lb_L_law_864.toArray) 864 883 = .ok (.iaload, 1) ∧ am_dw (ByteArray.mk lb_L_law_864.toArray) 864 884 = .ok (.invokevirtual 95, 3) ∧ am_dw (ByteArray.mk lb_L_law_864.toArray) 864 887 = .ok (.pop, 1) ∧ am_dw (ByteArray.mk lb_L_law_864.toArray) 864 888 = .ok (.goto 549, 3) ∧ am_dw (ByteArray.mk lb_L_law_864.toArray) 864 891 = .ok (.aload_n 1, 1) ∧ am_dw (ByteArray.mk lb_L_law_864.toArray) 864 892 = .ok (.aload_n 0, 1) ∧ am_dw (ByteArray.mk lb_L_law_864.toArray) 864 893 = .ok (.iload_n 3, 1) := by decide +kernel
theorem dd_L_law_864d : am_dw (ByteArray.mk lb_L_law_864.toArray) 864 894 = .ok (.iconst 1, 1) ∧ am_dw (ByteArray.mk lb_L_law_864.toArray) 864 895 = .ok (.iadd, 1) := by decide +kernel
def lb_L_law_896 : List UInt8 := [0x2e, 0xb6, 0x00, 0x60, 0x57, 0x2c, 0x2a, 0x1d, 0x04, 0x60, 0x2e, 0xb6, 0x00, 0x63, 0x57, 0xa7, 0x02, 0x0e, 0x2b, 0xb6, 0x00, 0x64, 0x57, 0x2c, 0xb6, 0x00, 0x67, 0x57, 0xa7, 0x02, 0x01, 0x2b, 0x2a, 0x1d, 0x04, 0x60]
theorem pw_L_law_896 : am_Pw code (ByteArray.mk lb_L_law_896.toArray) 896 := am_pw lb_L_law_896 rfl (by decide) rfl (by decide +kernel)
theorem dd_L_law_896a : am_dw (ByteArray.mk lb_L_law_896.toArray) 896 896 = .ok (.iaload, 1) ∧ am_dw (ByteArray.mk lb_L_law_896.toArray) 896 897 = .ok (.invokevirtual 96, 3) ∧ am_dw (ByteArray.mk lb_L_law_896.toArray) 896 900 = .ok (.pop, 1) ∧ am_dw (ByteArray.mk lb_L_law_896.toArray) 896 901 = .ok (.aload_n 2, 1) ∧ am_dw (ByteArray.mk lb_L_law_896.toArray) 896 902 = .ok (.aload_n 0, 1) ∧ am_dw (ByteArray.mk lb_L_law_896.toArray) 896 903 = .ok (.iload_n 3, 1) ∧ am_dw (ByteArray.mk lb_L_law_896.toArray) 896 904 = .ok (.iconst 1, 1) ∧ am_dw (ByteArray.mk lb_L_law_896.toArray) 896 905 = .ok (.iadd, 1) := by decide +kernel
theorem dd_L_law_896b : am_dw (ByteArray.mk lb_L_law_896.toArray) 896 906 = .ok (.iaload, 1) ∧ am_dw (ByteArray.mk lb_L_law_896.toArray) 896 907 = .ok (.invokevirtual 99, 3) ∧ am_dw (ByteArray.mk lb_L_law_896.toArray) 896 910 = .ok (.pop, 1) ∧ am_dw (ByteArray.mk lb_L_law_896.toArray) 896 911 = .ok (.goto 526, 3) ∧ am_dw (ByteArray.mk lb_L_law_896.toArray) 896 914 = .ok (.aload_n 1, 1) ∧ am_dw (ByteArray.mk lb_L_law_896.toArray) 896 915 = .ok (.invokevirtual 100, 3) ∧ am_dw (ByteArray.mk lb_L_law_896.toArray) 896 918 = .ok (.pop, 1) ∧ am_dw (ByteArray.mk lb_L_law_896.toArray) 896 919 = .ok (.aload_n 2, 1) := by decide +kernel
theorem dd_L_law_896c : am_dw (ByteArray.mk lb_L_law_896.toArray) 896 920 = .ok (.invokevirtual 103, 3) ∧ am_dw (ByteArray.mk lb_L_law_896.toArray) 896 923 = .ok (.pop, 1) ∧ am_dw (ByteArray.mk lb_L_law_896.toArray) 896 924 = .ok (.goto 513, 3) ∧ am_dw (ByteArray.mk lb_L_law_896.toArray) 896 927 = .ok (.aload_n 1, 1) := by decide +kernel
def lb_L_law_928 : List UInt8 := [0x2a, 0x1d, 0x04, 0x60, 0x2e, 0x2a, 0x1d, 0x05, 0x60, 0x2e, 0x2a, 0x1d, 0x06, 0x60, 0x2e, 0xb6, 0x00, 0x68, 0x57, 0x2c, 0x2a, 0x1d, 0x04, 0x60, 0x2e, 0x2a, 0x1d, 0x05, 0x60, 0x2e, 0x2a, 0x1d, 0x06, 0x60, 0x2e, 0xb6]
theorem pw_L_law_928 : am_Pw code (ByteArray.mk lb_L_law_928.toArray) 928 := am_pw lb_L_law_928 rfl (by decide) rfl (by decide +kernel)
theorem dd_L_law_928a : am_dw (ByteArray.mk lb_L_law_928.toArray) 928 928 = .ok (.aload_n 0, 1) ∧ am_dw (ByteArray.mk lb_L_law_928.toArray) 928 929 = .ok (.iload_n 3, 1) ∧ am_dw (ByteArray.mk lb_L_law_928.toArray) 928 930 = .ok (.iconst 1, 1) ∧ am_dw (ByteArray.mk lb_L_law_928.toArray) 928 931 = .ok (.iadd, 1) ∧ am_dw (ByteArray.mk lb_L_law_928.toArray) 928 932 = .ok (.iaload, 1) ∧ am_dw (ByteArray.mk lb_L_law_928.toArray) 928 933 = .ok (.aload_n 0, 1) ∧ am_dw (ByteArray.mk lb_L_law_928.toArray) 928 934 = .ok (.iload_n 3, 1) ∧ am_dw (ByteArray.mk lb_L_law_928.toArray) 928 935 = .ok (.iconst 2, 1) := by decide +kernel
theorem dd_L_law_928b : am_dw (ByteArray.mk lb_L_law_928.toArray) 928 936 = .ok (.iadd, 1) ∧ am_dw (ByteArray.mk lb_L_law_928.toArray) 928 937 = .ok (.iaload, 1) ∧ am_dw (ByteArray.mk lb_L_law_928.toArray) 928 938 = .ok (.aload_n 0, 1) ∧ am_dw (ByteArray.mk lb_L_law_928.toArray) 928 939 = .ok (.iload_n 3, 1) ∧ am_dw (ByteArray.mk lb_L_law_928.toArray) 928 940 = .ok (.iconst 3, 1) ∧ am_dw (ByteArray.mk lb_L_law_928.toArray) 928 941 = .ok (.iadd, 1) ∧ am_dw (ByteArray.mk lb_L_law_928.toArray) 928 942 = .ok (.iaload, 1) ∧ am_dw (ByteArray.mk lb_L_law_928.toArray) 928 943 = .ok (.invokevirtual 104, 3) := by decide +kernel
theorem dd_L_law_928c : am_dw (ByteArray.mk lb_L_law_928.toArray) 928 946 = .ok (.pop, 1) ∧ am_dw (ByteArray.mk lb_L_law_928.toArray) 928 947 = .ok (.aload_n 2, 1) ∧ am_dw (ByteArray.mk lb_L_law_928.toArray) 928 948 = .ok (.aload_n 0, 1) ∧ am_dw (ByteArray.mk lb_L_law_928.toArray) 928 949 = .ok (.iload_n 3, 1) ∧ am_dw (ByteArray.mk lb_L_law_928.toArray) 928 950 = .ok (.iconst 1, 1) ∧ am_dw (ByteArray.mk lb_L_law_928.toArray) 928 951 = .ok (.iadd, 1) ∧ am_dw (ByteArray.mk lb_L_law_928.toArray) 928 952 = .ok (.iaload, 1) ∧ am_dw (ByteArray.mk lb_L_law_928.toArray) 928 953 = .ok (.aload_n 0, 1) := by decide +kernel
theorem dd_L_law_928d : am_dw (ByteArray.mk lb_L_law_928.toArray) 928 954 = .ok (.iload_n 3, 1) ∧ am_dw (ByteArray.mk lb_L_law_928.toArray) 928 955 = .ok (.iconst 2, 1) ∧ am_dw (ByteArray.mk lb_L_law_928.toArray) 928 956 = .ok (.iadd, 1) ∧ am_dw (ByteArray.mk lb_L_law_928.toArray) 928 957 = .ok (.iaload, 1) ∧ am_dw (ByteArray.mk lb_L_law_928.toArray) 928 958 = .ok (.aload_n 0, 1) ∧ am_dw (ByteArray.mk lb_L_law_928.toArray) 928 959 = .ok (.iload_n 3, 1) := by decide +kernel
def lb_L_law_960 : List UInt8 := [0x06, 0x60, 0x2e, 0xb6, 0x00, 0x6b, 0x57, 0xa7, 0x01, 0xd6, 0x2b, 0x2a, 0x1d, 0x04, 0x60, 0x2e, 0x2a, 0x1d, 0x05, 0x60, 0x2e, 0xb6, 0x00, 0x6c, 0x57, 0x2c, 0x2a, 0x1d, 0x04, 0x60, 0x2e, 0x2a, 0x1d, 0x05, 0x60, 0x2e]
theorem pw_L_law_960 : am_Pw code (ByteArray.mk lb_L_law_960.toArray) 960 := am_pw lb_L_law_960 rfl (by decide) rfl (by decide +kernel)
theorem dd_L_law_960a : am_dw (ByteArray.mk lb_L_law_960.toArray) 960 960 = .ok (.iconst 3, 1) ∧ am_dw (ByteArray.mk lb_L_law_960.toArray) 960 961 = .ok (.iadd, 1) ∧ am_dw (ByteArray.mk lb_L_law_960.toArray) 960 962 = .ok (.iaload, 1) ∧ am_dw (ByteArray.mk lb_L_law_960.toArray) 960 963 = .ok (.invokevirtual 107, 3) ∧ am_dw (ByteArray.mk lb_L_law_960.toArray) 960 966 = .ok (.pop, 1) ∧ am_dw (ByteArray.mk lb_L_law_960.toArray) 960 967 = .ok (.goto 470, 3) ∧ am_dw (ByteArray.mk lb_L_law_960.toArray) 960 970 = .ok (.aload_n 1, 1) ∧ am_dw (ByteArray.mk lb_L_law_960.toArray) 960 971 = .ok (.aload_n 0, 1) := by decide +kernel
theorem dd_L_law_960b : am_dw (ByteArray.mk lb_L_law_960.toArray) 960 972 = .ok (.iload_n 3, 1) ∧ am_dw (ByteArray.mk lb_L_law_960.toArray) 960 973 = .ok (.iconst 1, 1) ∧ am_dw (ByteArray.mk lb_L_law_960.toArray) 960 974 = .ok (.iadd, 1) ∧ am_dw (ByteArray.mk lb_L_law_960.toArray) 960 975 = .ok (.iaload, 1) ∧ am_dw (ByteArray.mk lb_L_law_960.toArray) 960 976 = .ok (.aload_n 0, 1) ∧ am_dw (ByteArray.mk lb_L_law_960.toArray) 960 977 = .ok (.iload_n 3, 1) ∧ am_dw (ByteArray.mk lb_L_law_960.toArray) 960 978 = .ok (.iconst 2, 1) ∧ am_dw (ByteArray.mk lb_L_law_960.toArray) 960 979 = .ok (.iadd, 1) := by decide +kernel
theorem dd_L_law_960c : am_dw (ByteArray.mk lb_L_law_960.toArray) 960 980 = .ok (.iaload, 1) ∧ am_dw (ByteArray.mk lb_L_law_960.toArray) 960 981 = .ok (.invokevirtual 108, 3) ∧ am_dw (ByteArray.mk lb_L_law_960.toArray) 960 984 = .ok (.pop, 1) ∧ am_dw (ByteArray.mk lb_L_law_960.toArray) 960 985 = .ok (.aload_n 2, 1) ∧ am_dw (ByteArray.mk lb_L_law_960.toArray) 960 986 = .ok (.aload_n 0, 1) ∧ am_dw (ByteArray.mk lb_L_law_960.toArray) 960 987 = .ok (.iload_n 3, 1) ∧ am_dw (ByteArray.mk lb_L_law_960.toArray) 960 988 = .ok (.iconst 1, 1) ∧ am_dw (ByteArray.mk lb_L_law_960.toArray) 960 989 = .ok (.iadd, 1) := by decide +kernel
theorem dd_L_law_960d : am_dw (ByteArray.mk lb_L_law_960.toArray) 960 990 = .ok (.iaload, 1) ∧ am_dw (ByteArray.mk lb_L_law_960.toArray) 960 991 = .ok (.aload_n 0, 1) := by decide +kernel
def lb_L_law_992 : List UInt8 := [0x1d, 0x05, 0x60, 0x2e, 0xb6, 0x00, 0x6f, 0x57, 0xa7, 0x01, 0xb5, 0x2b, 0xb6, 0x00, 0x70, 0x57, 0x2c, 0xb6, 0x00, 0x73, 0x57, 0xa7, 0x01, 0xa8, 0x2b, 0xb6, 0x00, 0x74, 0x57, 0x2c, 0xb6, 0x00, 0x77, 0x57, 0xa7, 0x01]
theorem pw_L_law_992 : am_Pw code (ByteArray.mk lb_L_law_992.toArray) 992 := am_pw lb_L_law_992 rfl (by decide) rfl (by decide +kernel)
theorem dd_L_law_992a : am_dw (ByteArray.mk lb_L_law_992.toArray) 992 992 = .ok (.iload_n 3, 1) ∧ am_dw (ByteArray.mk lb_L_law_992.toArray) 992 993 = .ok (.iconst 2, 1) ∧ am_dw (ByteArray.mk lb_L_law_992.toArray) 992 994 = .ok (.iadd, 1) ∧ am_dw (ByteArray.mk lb_L_law_992.toArray) 992 995 = .ok (.iaload, 1) ∧ am_dw (ByteArray.mk lb_L_law_992.toArray) 992 996 = .ok (.invokevirtual 111, 3) ∧ am_dw (ByteArray.mk lb_L_law_992.toArray) 992 999 = .ok (.pop, 1) ∧ am_dw (ByteArray.mk lb_L_law_992.toArray) 992 1000 = .ok (.goto 437, 3) ∧ am_dw (ByteArray.mk lb_L_law_992.toArray) 992 1003 = .ok (.aload_n 1, 1) := by decide +kernel
theorem dd_L_law_992b : am_dw (ByteArray.mk lb_L_law_992.toArray) 992 1004 = .ok (.invokevirtual 112, 3) ∧ am_dw (ByteArray.mk lb_L_law_992.toArray) 992 1007 = .ok (.pop, 1) ∧ am_dw (ByteArray.mk lb_L_law_992.toArray) 992 1008 = .ok (.aload_n 2, 1) ∧ am_dw (ByteArray.mk lb_L_law_992.toArray) 992 1009 = .ok (.invokevirtual 115, 3) ∧ am_dw (ByteArray.mk lb_L_law_992.toArray) 992 1012 = .ok (.pop, 1) ∧ am_dw (ByteArray.mk lb_L_law_992.toArray) 992 1013 = .ok (.goto 424, 3) ∧ am_dw (ByteArray.mk lb_L_law_992.toArray) 992 1016 = .ok (.aload_n 1, 1) ∧ am_dw (ByteArray.mk lb_L_law_992.toArray) 992 1017 = .ok (.invokevirtual 116, 3) := by decide +kernel
theorem dd_L_law_992c : am_dw (ByteArray.mk lb_L_law_992.toArray) 992 1020 = .ok (.pop, 1) ∧ am_dw (ByteArray.mk lb_L_law_992.toArray) 992 1021 = .ok (.aload_n 2, 1) ∧ am_dw (ByteArray.mk lb_L_law_992.toArray) 992 1022 = .ok (.invokevirtual 119, 3) := by decide +kernel
def lb_L_law_1024 : List UInt8 := [0x77, 0x57, 0xa7, 0x01, 0x9b, 0x2b, 0x2a, 0x1d, 0x04, 0x60, 0x2e, 0x2a, 0x1d, 0x05, 0x60, 0x2e, 0xb6, 0x00, 0x78, 0x57, 0x2c, 0x2a, 0x1d, 0x04, 0x60, 0x2e, 0x2a, 0x1d, 0x05, 0x60, 0x2e, 0xb6, 0x00, 0x7b, 0x57, 0xa7]
theorem pw_L_law_1024 : am_Pw code (ByteArray.mk lb_L_law_1024.toArray) 1024 := am_pw lb_L_law_1024 rfl (by decide) rfl (by decide +kernel)
theorem dd_L_law_1024a : am_dw (ByteArray.mk lb_L_law_1024.toArray) 1024 1025 = .ok (.pop, 1) ∧ am_dw (ByteArray.mk lb_L_law_1024.toArray) 1024 1026 = .ok (.goto 411, 3) ∧ am_dw (ByteArray.mk lb_L_law_1024.toArray) 1024 1029 = .ok (.aload_n 1, 1) ∧ am_dw (ByteArray.mk lb_L_law_1024.toArray) 1024 1030 = .ok (.aload_n 0, 1) ∧ am_dw (ByteArray.mk lb_L_law_1024.toArray) 1024 1031 = .ok (.iload_n 3, 1) ∧ am_dw (ByteArray.mk lb_L_law_1024.toArray) 1024 1032 = .ok (.iconst 1, 1) ∧ am_dw (ByteArray.mk lb_L_law_1024.toArray) 1024 1033 = .ok (.iadd, 1) ∧ am_dw (ByteArray.mk lb_L_law_1024.toArray) 1024 1034 = .ok (.iaload, 1) := by decide +kernel
theorem dd_L_law_1024b : am_dw (ByteArray.mk lb_L_law_1024.toArray) 1024 1035 = .ok (.aload_n 0, 1) ∧ am_dw (ByteArray.mk lb_L_law_1024.toArray) 1024 1036 = .ok (.iload_n 3, 1) ∧ am_dw (ByteArray.mk lb_L_law_1024.toArray) 1024 1037 = .ok (.iconst 2, 1) ∧ am_dw (ByteArray.mk lb_L_law_1024.toArray) 1024 1038 = .ok (.iadd, 1) ∧ am_dw (ByteArray.mk lb_L_law_1024.toArray) 1024 1039 = .ok (.iaload, 1) ∧ am_dw (ByteArray.mk lb_L_law_1024.toArray) 1024 1040 = .ok (.invokevirtual 120, 3) ∧ am_dw (ByteArray.mk lb_L_law_1024.toArray) 1024 1043 = .ok (.pop, 1) ∧ am_dw (ByteArray.mk lb_L_law_1024.toArray) 1024 1044 = .ok (.aload_n 2, 1) := by decide +kernel
theorem dd_L_law_1024c : am_dw (ByteArray.mk lb_L_law_1024.toArray) 1024 1045 = .ok (.aload_n 0, 1) ∧ am_dw (ByteArray.mk lb_L_law_1024.toArray) 1024 1046 = .ok (.iload_n 3, 1) ∧ am_dw (ByteArray.mk lb_L_law_1024.toArray) 1024 1047 = .ok (.iconst 1, 1) ∧ am_dw (ByteArray.mk lb_L_law_1024.toArray) 1024 1048 = .ok (.iadd, 1) ∧ am_dw (ByteArray.mk lb_L_law_1024.toArray) 1024 1049 = .ok (.iaload, 1) ∧ am_dw (ByteArray.mk lb_L_law_1024.toArray) 1024 1050 = .ok (.aload_n 0, 1) ∧ am_dw (ByteArray.mk lb_L_law_1024.toArray) 1024 1051 = .ok (.iload_n 3, 1) ∧ am_dw (ByteArray.mk lb_L_law_1024.toArray) 1024 1052 = .ok (.iconst 2, 1) := by decide +kernel
theorem dd_L_law_1024d : am_dw (ByteArray.mk lb_L_law_1024.toArray) 1024 1053 = .ok (.iadd, 1) ∧ am_dw (ByteArray.mk lb_L_law_1024.toArray) 1024 1054 = .ok (.iaload, 1) ∧ am_dw (ByteArray.mk lb_L_law_1024.toArray) 1024 1055 = .ok (.invokevirtual 123, 3) := by decide +kernel
def lb_L_law_1056 : List UInt8 := [0x00, 0x7b, 0x57, 0xa7, 0x01, 0x7a, 0x2b, 0x2a, 0x1d, 0x04, 0x60, 0x2e, 0xb6, 0x00, 0x7c, 0x58, 0x2c, 0x2a, 0x1d, 0x04, 0x60, 0x2e, 0xb6, 0x00, 0x80, 0x58, 0xa7, 0x01, 0x63, 0x2b, 0xb6, 0x00, 0x81, 0x57, 0x2c, 0xb6]
theorem pw_L_law_1056 : am_Pw code (ByteArray.mk lb_L_law_1056.toArray) 1056 := am_pw lb_L_law_1056 rfl (by decide) rfl (by decide +kernel)
theorem dd_L_law_1056a : am_dw (ByteArray.mk lb_L_law_1056.toArray) 1056 1058 = .ok (.pop, 1) ∧ am_dw (ByteArray.mk lb_L_law_1056.toArray) 1056 1059 = .ok (.goto 378, 3) ∧ am_dw (ByteArray.mk lb_L_law_1056.toArray) 1056 1062 = .ok (.aload_n 1, 1) ∧ am_dw (ByteArray.mk lb_L_law_1056.toArray) 1056 1063 = .ok (.aload_n 0, 1) ∧ am_dw (ByteArray.mk lb_L_law_1056.toArray) 1056 1064 = .ok (.iload_n 3, 1) ∧ am_dw (ByteArray.mk lb_L_law_1056.toArray) 1056 1065 = .ok (.iconst 1, 1) ∧ am_dw (ByteArray.mk lb_L_law_1056.toArray) 1056 1066 = .ok (.iadd, 1) ∧ am_dw (ByteArray.mk lb_L_law_1056.toArray) 1056 1067 = .ok (.iaload, 1) := by decide +kernel
theorem dd_L_law_1056b : am_dw (ByteArray.mk lb_L_law_1056.toArray) 1056 1068 = .ok (.invokevirtual 124, 3) ∧ am_dw (ByteArray.mk lb_L_law_1056.toArray) 1056 1071 = .ok (.pop2, 1) ∧ am_dw (ByteArray.mk lb_L_law_1056.toArray) 1056 1072 = .ok (.aload_n 2, 1) ∧ am_dw (ByteArray.mk lb_L_law_1056.toArray) 1056 1073 = .ok (.aload_n 0, 1) ∧ am_dw (ByteArray.mk lb_L_law_1056.toArray) 1056 1074 = .ok (.iload_n 3, 1) ∧ am_dw (ByteArray.mk lb_L_law_1056.toArray) 1056 1075 = .ok (.iconst 1, 1) ∧ am_dw (ByteArray.mk lb_L_law_1056.toArray) 1056 1076 = .ok (.iadd, 1) ∧ am_dw (ByteArray.mk lb_L_law_1056.toArray) 1056 1077 = .ok (.iaload, 1) := by decide +kernel
theorem dd_L_law_1056c : am_dw (ByteArray.mk lb_L_law_1056.toArray) 1056 1078 = .ok (.invokevirtual 128, 3) ∧ am_dw (ByteArray.mk lb_L_law_1056.toArray) 1056 1081 = .ok (.pop2, 1) ∧ am_dw (ByteArray.mk lb_L_law_1056.toArray) 1056 1082 = .ok (.goto 355, 3) ∧ am_dw (ByteArray.mk lb_L_law_1056.toArray) 1056 1085 = .ok (.aload_n 1, 1) ∧ am_dw (ByteArray.mk lb_L_law_1056.toArray) 1056 1086 = .ok (.invokevirtual 129, 3) := by decide +kernel
def lb_L_law_1088 : List UInt8 := [0x81, 0x57, 0x2c, 0xb6, 0x00, 0x84, 0x57, 0xa7, 0x01, 0x56, 0x2b, 0x2a, 0x1d, 0x04, 0x60, 0x2e, 0x2a, 0x1d, 0x05, 0x60, 0x2e, 0x2a, 0x1d, 0x06, 0x60, 0x2e, 0xb6, 0x00, 0x85, 0x57, 0x2c, 0x2a, 0x1d, 0x04, 0x60, 0x2e]
theorem pw_L_law_1088 : am_Pw code (ByteArray.mk lb_L_law_1088.toArray) 1088 := am_pw lb_L_law_1088 rfl (by decide) rfl (by decide +kernel)
theorem dd_L_law_1088a : am_dw (ByteArray.mk lb_L_law_1088.toArray) 1088 1089 = .ok (.pop, 1) ∧ am_dw (ByteArray.mk lb_L_law_1088.toArray) 1088 1090 = .ok (.aload_n 2, 1) ∧ am_dw (ByteArray.mk lb_L_law_1088.toArray) 1088 1091 = .ok (.invokevirtual 132, 3) ∧ am_dw (ByteArray.mk lb_L_law_1088.toArray) 1088 1094 = .ok (.pop, 1) ∧ am_dw (ByteArray.mk lb_L_law_1088.toArray) 1088 1095 = .ok (.goto 342, 3) ∧ am_dw (ByteArray.mk lb_L_law_1088.toArray) 1088 1098 = .ok (.aload_n 1, 1) ∧ am_dw (ByteArray.mk lb_L_law_1088.toArray) 1088 1099 = .ok (.aload_n 0, 1) ∧ am_dw (ByteArray.mk lb_L_law_1088.toArray) 1088 1100 = .ok (.iload_n 3, 1) := by decide +kernel
theorem dd_L_law_1088b : am_dw (ByteArray.mk lb_L_law_1088.toArray) 1088 1101 = .ok (.iconst 1, 1) ∧ am_dw (ByteArray.mk lb_L_law_1088.toArray) 1088 1102 = .ok (.iadd, 1) ∧ am_dw (ByteArray.mk lb_L_law_1088.toArray) 1088 1103 = .ok (.iaload, 1) ∧ am_dw (ByteArray.mk lb_L_law_1088.toArray) 1088 1104 = .ok (.aload_n 0, 1) ∧ am_dw (ByteArray.mk lb_L_law_1088.toArray) 1088 1105 = .ok (.iload_n 3, 1) ∧ am_dw (ByteArray.mk lb_L_law_1088.toArray) 1088 1106 = .ok (.iconst 2, 1) ∧ am_dw (ByteArray.mk lb_L_law_1088.toArray) 1088 1107 = .ok (.iadd, 1) ∧ am_dw (ByteArray.mk lb_L_law_1088.toArray) 1088 1108 = .ok (.iaload, 1) := by decide +kernel
theorem dd_L_law_1088c : am_dw (ByteArray.mk lb_L_law_1088.toArray) 1088 1109 = .ok (.aload_n 0, 1) ∧ am_dw (ByteArray.mk lb_L_law_1088.toArray) 1088 1110 = .ok (.iload_n 3, 1) ∧ am_dw (ByteArray.mk lb_L_law_1088.toArray) 1088 1111 = .ok (.iconst 3, 1) ∧ am_dw (ByteArray.mk lb_L_law_1088.toArray) 1088 1112 = .ok (.iadd, 1) ∧ am_dw (ByteArray.mk lb_L_law_1088.toArray) 1088 1113 = .ok (.iaload, 1) ∧ am_dw (ByteArray.mk lb_L_law_1088.toArray) 1088 1114 = .ok (.invokevirtual 133, 3) ∧ am_dw (ByteArray.mk lb_L_law_1088.toArray) 1088 1117 = .ok (.pop, 1) ∧ am_dw (ByteArray.mk lb_L_law_1088.toArray) 1088 1118 = .ok (.aload_n 2, 1) := by decide +kernel
theorem dd_L_law_1088d : am_dw (ByteArray.mk lb_L_law_1088.toArray) 1088 1119 = .ok (.aload_n 0, 1) := by decide +kernel
def lb_L_law_1120 : List UInt8 := [0x1d, 0x04, 0x60, 0x2e, 0x2a, 0x1d, 0x05, 0x60, 0x2e, 0x2a, 0x1d, 0x06, 0x60, 0x2e, 0xb6, 0x00, 0x88, 0x57, 0xa7, 0x01, 0x2b, 0x2b, 0x2a, 0x1d, 0x04, 0x60, 0x2e, 0xb6, 0x00, 0x89, 0x57, 0x2c, 0x2a, 0x1d, 0x04, 0x60]
theorem pw_L_law_1120 : am_Pw code (ByteArray.mk lb_L_law_1120.toArray) 1120 := am_pw lb_L_law_1120 rfl (by decide) rfl (by decide +kernel)
theorem dd_L_law_1120a : am_dw (ByteArray.mk lb_L_law_1120.toArray) 1120 1120 = .ok (.iload_n 3, 1) ∧ am_dw (ByteArray.mk lb_L_law_1120.toArray) 1120 1121 = .ok (.iconst 1, 1) ∧ am_dw (ByteArray.mk lb_L_law_1120.toArray) 1120 1122 = .ok (.iadd, 1) ∧ am_dw (ByteArray.mk lb_L_law_1120.toArray) 1120 1123 = .ok (.iaload, 1) ∧ am_dw (ByteArray.mk lb_L_law_1120.toArray) 1120 1124 = .ok (.aload_n 0, 1) ∧ am_dw (ByteArray.mk lb_L_law_1120.toArray) 1120 1125 = .ok (.iload_n 3, 1) ∧ am_dw (ByteArray.mk lb_L_law_1120.toArray) 1120 1126 = .ok (.iconst 2, 1) ∧ am_dw (ByteArray.mk lb_L_law_1120.toArray) 1120 1127 = .ok (.iadd, 1) := by decide +kernel
theorem dd_L_law_1120b : am_dw (ByteArray.mk lb_L_law_1120.toArray) 1120 1128 = .ok (.iaload, 1) ∧ am_dw (ByteArray.mk lb_L_law_1120.toArray) 1120 1129 = .ok (.aload_n 0, 1) ∧ am_dw (ByteArray.mk lb_L_law_1120.toArray) 1120 1130 = .ok (.iload_n 3, 1) ∧ am_dw (ByteArray.mk lb_L_law_1120.toArray) 1120 1131 = .ok (.iconst 3, 1) ∧ am_dw (ByteArray.mk lb_L_law_1120.toArray) 1120 1132 = .ok (.iadd, 1) ∧ am_dw (ByteArray.mk lb_L_law_1120.toArray) 1120 1133 = .ok (.iaload, 1) ∧ am_dw (ByteArray.mk lb_L_law_1120.toArray) 1120 1134 = .ok (.invokevirtual 136, 3) ∧ am_dw (ByteArray.mk lb_L_law_1120.toArray) 1120 1137 = .ok (.pop, 1) := by decide +kernel
theorem dd_L_law_1120c : am_dw (ByteArray.mk lb_L_law_1120.toArray) 1120 1138 = .ok (.goto 299, 3) ∧ am_dw (ByteArray.mk lb_L_law_1120.toArray) 1120 1141 = .ok (.aload_n 1, 1) ∧ am_dw (ByteArray.mk lb_L_law_1120.toArray) 1120 1142 = .ok (.aload_n 0, 1) ∧ am_dw (ByteArray.mk lb_L_law_1120.toArray) 1120 1143 = .ok (.iload_n 3, 1) ∧ am_dw (ByteArray.mk lb_L_law_1120.toArray) 1120 1144 = .ok (.iconst 1, 1) ∧ am_dw (ByteArray.mk lb_L_law_1120.toArray) 1120 1145 = .ok (.iadd, 1) ∧ am_dw (ByteArray.mk lb_L_law_1120.toArray) 1120 1146 = .ok (.iaload, 1) ∧ am_dw (ByteArray.mk lb_L_law_1120.toArray) 1120 1147 = .ok (.invokevirtual 137, 3) := by decide +kernel
theorem dd_L_law_1120d : am_dw (ByteArray.mk lb_L_law_1120.toArray) 1120 1150 = .ok (.pop, 1) ∧ am_dw (ByteArray.mk lb_L_law_1120.toArray) 1120 1151 = .ok (.aload_n 2, 1) := by decide +kernel
def lb_L_law_1152 : List UInt8 := [0x2a, 0x1d, 0x04, 0x60, 0x2e, 0xb6, 0x00, 0x8c, 0x57, 0xa7, 0x01, 0x14, 0x2b, 0x2a, 0x1d, 0x04, 0x60, 0x2e, 0xb6, 0x00, 0x8d, 0x57, 0x2c, 0x2a, 0x1d, 0x04, 0x60, 0x2e, 0xb6, 0x00, 0x90, 0x57, 0xa7, 0x00, 0xfd, 0x2b]
theorem pw_L_law_1152 : am_Pw code (ByteArray.mk lb_L_law_1152.toArray) 1152 := am_pw lb_L_law_1152 rfl (by decide) rfl (by decide +kernel)
theorem dd_L_law_1152a : am_dw (ByteArray.mk lb_L_law_1152.toArray) 1152 1152 = .ok (.aload_n 0, 1) ∧ am_dw (ByteArray.mk lb_L_law_1152.toArray) 1152 1153 = .ok (.iload_n 3, 1) ∧ am_dw (ByteArray.mk lb_L_law_1152.toArray) 1152 1154 = .ok (.iconst 1, 1) ∧ am_dw (ByteArray.mk lb_L_law_1152.toArray) 1152 1155 = .ok (.iadd, 1) ∧ am_dw (ByteArray.mk lb_L_law_1152.toArray) 1152 1156 = .ok (.iaload, 1) ∧ am_dw (ByteArray.mk lb_L_law_1152.toArray) 1152 1157 = .ok (.invokevirtual 140, 3) ∧ am_dw (ByteArray.mk lb_L_law_1152.toArray) 1152 1160 = .ok (.pop, 1) ∧ am_dw (ByteArray.mk lb_L_law_1152.toArray) 1152 1161 = .ok (.goto 276, 3) := by decide +kernel
theorem dd_L_law_1152b : am_dw (ByteArray.mk lb_L_law_1152.toArray) 1152 1164 = .ok (.aload_n 1, 1) ∧ am_dw (ByteArray.mk lb_L_law_1152.toArray) 1152 1165 = .ok (.aload_n 0, 1) ∧ am_dw (ByteArray.mk lb_L_law_1152.toArray) 1152 1166 = .ok (.iload_n 3, 1) ∧ am_dw (ByteArray.mk lb_L_law_1152.toArray) 1152 1167 = .ok (.iconst 1, 1) ∧ am_dw (ByteArray.mk lb_L_law_1152.toArray) 1152 1168 = .ok (.iadd, 1) ∧ am_dw (ByteArray.mk lb_L_law_1152.toArray) 1152 1169 = .ok (.iaload, 1) ∧ am_dw (ByteArray.mk lb_L_law_1152.toArray) 1152 1170 = .ok (.invokevirtual 141, 3) ∧ am_dw (ByteArray.mk lb_L_law_1152.toArray) 1152 1173 = .ok (.pop, 1) := by decide +kernel
theorem dd_L_law_1152c : am_dw (ByteArray.mk lb_L_law_1152.toArray) 1152 1174 = .ok (.aload_n 2, 1) ∧ am_dw (ByteArray.mk lb_L_law_1152.toArray) 1152 1175 = .ok (.aload_n 0, 1) ∧ am_dw (ByteArray.mk lb_L_law_1152.toArray) 1152 1176 = .ok (.iload_n 3, 1) ∧ am_dw (ByteArray.mk lb_L_law_1152.toArray) 1152 1177 = .ok (.iconst 1, 1) ∧ am_dw (ByteArray.mk lb_L_law_1152.toArray) 1152 1178 = .ok (.iadd, 1) ∧ am_dw (ByteArray.mk lb_L_law_1152.toArray) 1152 1179 = .ok (.iaload, 1) ∧ am_dw (ByteArray.mk lb_L_law_1152.toArray) 1152 1180 = .ok (.invokevirtual 144, 3) ∧ am_dw (ByteArray.mk lb_L_law_1152.toArray) 1152 1183 = .ok (.pop, 1) := by decide +kernel
def lb_L_law_1184 : List UInt8 := [0xa7, 0x00, 0xfd, 0x2b, 0xb6, 0x00, 0x91, 0x57, 0x2c, 0xb6, 0x00, 0x94, 0x57, 0xa7, 0x00, 0xf0, 0x2b, 0x2a, 0x1d, 0x04, 0x60, 0x2e, 0x2a, 0x1d, 0x05, 0x60, 0x2e, 0x2a, 0x1d, 0x06, 0x60, 0x2e, 0x2a, 0x1d, 0x07, 0x60]
theorem pw_L_law_1184 : am_Pw code (ByteArray.mk lb_L_law_1184.toArray) 1184 := am_pw lb_L_law_1184 rfl (by decide) rfl (by decide +kernel)
theorem dd_L_law_1184a : am_dw (ByteArray.mk lb_L_law_1184.toArray) 1184 1184 = .ok (.goto 253, 3) ∧ am_dw (ByteArray.mk lb_L_law_1184.toArray) 1184 1187 = .ok (.aload_n 1, 1) ∧ am_dw (ByteArray.mk lb_L_law_1184.toArray) 1184 1188 = .ok (.invokevirtual 145, 3) ∧ am_dw (ByteArray.mk lb_L_law_1184.toArray) 1184 1191 = .ok (.pop, 1) ∧ am_dw (ByteArray.mk lb_L_law_1184.toArray) 1184 1192 = .ok (.aload_n 2, 1) ∧ am_dw (ByteArray.mk lb_L_law_1184.toArray) 1184 1193 = .ok (.invokevirtual 148, 3) ∧ am_dw (ByteArray.mk lb_L_law_1184.toArray) 1184 1196 = .ok (.pop, 1) ∧ am_dw (ByteArray.mk lb_L_law_1184.toArray) 1184 1197 = .ok (.goto 240, 3) := by decide +kernel
theorem dd_L_law_1184b : am_dw (ByteArray.mk lb_L_law_1184.toArray) 1184 1200 = .ok (.aload_n 1, 1) ∧ am_dw (ByteArray.mk lb_L_law_1184.toArray) 1184 1201 = .ok (.aload_n 0, 1) ∧ am_dw (ByteArray.mk lb_L_law_1184.toArray) 1184 1202 = .ok (.iload_n 3, 1) ∧ am_dw (ByteArray.mk lb_L_law_1184.toArray) 1184 1203 = .ok (.iconst 1, 1) ∧ am_dw (ByteArray.mk lb_L_law_1184.toArray) 1184 1204 = .ok (.iadd, 1) ∧ am_dw (ByteArray.mk lb_L_law_1184.toArray) 1184 1205 = .ok (.iaload, 1) ∧ am_dw (ByteArray.mk lb_L_law_1184.toArray) 1184 1206 = .ok (.aload_n 0, 1) ∧ am_dw (ByteArray.mk lb_L_law_1184.toArray) 1184 1207 = .ok (.iload_n 3, 1) := by decide +kernel
theorem dd_L_law_1184c : am_dw (ByteArray.mk lb_L_law_1184.toArray) 1184 1208 = .ok (.iconst 2, 1) ∧ am_dw (ByteArray.mk lb_L_law_1184.toArray) 1184 1209 = .ok (.iadd, 1) ∧ am_dw (ByteArray.mk lb_L_law_1184.toArray) 1184 1210 = .ok (.iaload, 1) ∧ am_dw (ByteArray.mk lb_L_law_1184.toArray) 1184 1211 = .ok (.aload_n 0, 1) ∧ am_dw (ByteArray.mk lb_L_law_1184.toArray) 1184 1212 = .ok (.iload_n 3, 1) ∧ am_dw (ByteArray.mk lb_L_law_1184.toArray) 1184 1213 = .ok (.iconst 3, 1) ∧ am_dw (ByteArray.mk lb_L_law_1184.toArray) 1184 1214 = .ok (.iadd, 1) ∧ am_dw (ByteArray.mk lb_L_law_1184.toArray) 1184 1215 = .ok (.iaload, 1) := by decide +kernel
def lb_L_law_1216 : List UInt8 := [0x2a, 0x1d, 0x07, 0x60, 0x2e, 0x2a, 0x1d, 0x08, 0x60, 0x2e, 0x99, 0x00, 0x07, 0x04, 0xa7, 0x00, 0x04, 0x03, 0xb6, 0x00, 0x95, 0x57, 0x2c, 0x2a, 0x1d, 0x04, 0x60, 0x2e, 0x2a, 0x1d, 0x05, 0x60, 0x2e, 0x2a, 0x1d, 0x06]
theorem pw_L_law_1216 : am_Pw code (ByteArray.mk lb_L_law_1216.toArray) 1216 := am_pw lb_L_law_1216 rfl (by decide) rfl (by decide +kernel)
theorem dd_L_law_1216a : am_dw (ByteArray.mk lb_L_law_1216.toArray) 1216 1216 = .ok (.aload_n 0, 1) ∧ am_dw (ByteArray.mk lb_L_law_1216.toArray) 1216 1217 = .ok (.iload_n 3, 1) ∧ am_dw (ByteArray.mk lb_L_law_1216.toArray) 1216 1218 = .ok (.iconst 4, 1) ∧ am_dw (ByteArray.mk lb_L_law_1216.toArray) 1216 1219 = .ok (.iadd, 1) ∧ am_dw (ByteArray.mk lb_L_law_1216.toArray) 1216 1220 = .ok (.iaload, 1) ∧ am_dw (ByteArray.mk lb_L_law_1216.toArray) 1216 1221 = .ok (.aload_n 0, 1) ∧ am_dw (ByteArray.mk lb_L_law_1216.toArray) 1216 1222 = .ok (.iload_n 3, 1) ∧ am_dw (ByteArray.mk lb_L_law_1216.toArray) 1216 1223 = .ok (.iconst 5, 1) := by decide +kernel
theorem dd_L_law_1216b : am_dw (ByteArray.mk lb_L_law_1216.toArray) 1216 1224 = .ok (.iadd, 1) ∧ am_dw (ByteArray.mk lb_L_law_1216.toArray) 1216 1225 = .ok (.iaload, 1) ∧ am_dw (ByteArray.mk lb_L_law_1216.toArray) 1216 1226 = .ok (.ifCond .eq 7, 3) ∧ am_dw (ByteArray.mk lb_L_law_1216.toArray) 1216 1229 = .ok (.iconst 1, 1) ∧ am_dw (ByteArray.mk lb_L_law_1216.toArray) 1216 1230 = .ok (.goto 4, 3) ∧ am_dw (ByteArray.mk lb_L_law_1216.toArray) 1216 1233 = .ok (.iconst 0, 1) ∧ am_dw (ByteArray.mk lb_L_law_1216.toArray) 1216 1234 = .ok (.invokevirtual 149, 3) ∧ am_dw (ByteArray.mk lb_L_law_1216.toArray) 1216 1237 = .ok (.pop, 1) := by decide +kernel
theorem dd_L_law_1216c : am_dw (ByteArray.mk lb_L_law_1216.toArray) 1216 1238 = .ok (.aload_n 2, 1) ∧ am_dw (ByteArray.mk lb_L_law_1216.toArray) 1216 1239 = .ok (.aload_n 0, 1) ∧ am_dw (ByteArray.mk lb_L_law_1216.toArray) 1216 1240 = .ok (.iload_n 3, 1) ∧ am_dw (ByteArray.mk lb_L_law_1216.toArray) 1216 1241 = .ok (.iconst 1, 1) ∧ am_dw (ByteArray.mk lb_L_law_1216.toArray) 1216 1242 = .ok (.iadd, 1) ∧ am_dw (ByteArray.mk lb_L_law_1216.toArray) 1216 1243 = .ok (.iaload, 1) ∧ am_dw (ByteArray.mk lb_L_law_1216.toArray) 1216 1244 = .ok (.aload_n 0, 1) ∧ am_dw (ByteArray.mk lb_L_law_1216.toArray) 1216 1245 = .ok (.iload_n 3, 1) := by decide +kernel
theorem dd_L_law_1216d : am_dw (ByteArray.mk lb_L_law_1216.toArray) 1216 1246 = .ok (.iconst 2, 1) ∧ am_dw (ByteArray.mk lb_L_law_1216.toArray) 1216 1247 = .ok (.iadd, 1) := by decide +kernel
def lb_L_law_1248 : List UInt8 := [0x2e, 0x2a, 0x1d, 0x06, 0x60, 0x2e, 0x2a, 0x1d, 0x07, 0x60, 0x2e, 0x2a, 0x1d, 0x08, 0x60, 0x2e, 0x99, 0x00, 0x07, 0x04, 0xa7, 0x00, 0x04, 0x03, 0xb6, 0x00, 0x99, 0x57, 0xa7, 0x00, 0xa1, 0x2b, 0x2a, 0x1d, 0x04, 0x60]
theorem pw_L_law_1248 : am_Pw code (ByteArray.mk lb_L_law_1248.toArray) 1248 := am_pw lb_L_law_1248 rfl (by decide) rfl (by decide +kernel)
theorem dd_L_law_1248a : am_dw (ByteArray.mk lb_L_law_1248.toArray) 1248 1248 = .ok (.iaload, 1) ∧ am_dw (ByteArray.mk lb_L_law_1248.toArray) 1248 1249 = .ok (.aload_n 0, 1) ∧ am_dw (ByteArray.mk lb_L_law_1248.toArray) 1248 1250 = .ok (.iload_n 3, 1) ∧ am_dw (ByteArray.mk lb_L_law_1248.toArray) 1248 1251 = .ok (.iconst 3, 1) ∧ am_dw (ByteArray.mk lb_L_law_1248.toArray) 1248 1252 = .ok (.iadd, 1) ∧ am_dw (ByteArray.mk lb_L_law_1248.toArray) 1248 1253 = .ok (.iaload, 1) ∧ am_dw (ByteArray.mk lb_L_law_1248.toArray) 1248 1254 = .ok (.aload_n 0, 1) ∧ am_dw (ByteArray.mk lb_L_law_1248.toArray) 1248 1255 = .ok (.iload_n 3, 1) := by decide +kernel
theorem dd_L_law_1248b : am_dw (ByteArray.mk lb_L_law_1248.toArray) 1248 1256 = .ok (.iconst 4, 1) ∧ am_dw (ByteArray.mk lb_L_law_1248.toArray) 1248 1257 = .ok (.iadd, 1) ∧ am_dw (ByteArray.mk lb_L_law_1248.toArray) 1248 1258 = .ok (.iaload, 1) ∧ am_dw (ByteArray.mk lb_L_law_1248.toArray) 1248 1259 = .ok (.aload_n 0, 1) ∧ am_dw (ByteArray.mk lb_L_law_1248.toArray) 1248 1260 = .ok (.iload_n 3, 1) ∧ am_dw (ByteArray.mk lb_L_law_1248.toArray) 1248 1261 = .ok (.iconst 5, 1) ∧ am_dw (ByteArray.mk lb_L_law_1248.toArray) 1248 1262 = .ok (.iadd, 1) ∧ am_dw (ByteArray.mk lb_L_law_1248.toArray) 1248 1263 = .ok (.iaload, 1) := by decide +kernel
theorem dd_L_law_1248c : am_dw (ByteArray.mk lb_L_law_1248.toArray) 1248 1264 = .ok (.ifCond .eq 7, 3) ∧ am_dw (ByteArray.mk lb_L_law_1248.toArray) 1248 1267 = .ok (.iconst 1, 1) ∧ am_dw (ByteArray.mk lb_L_law_1248.toArray) 1248 1268 = .ok (.goto 4, 3) ∧ am_dw (ByteArray.mk lb_L_law_1248.toArray) 1248 1271 = .ok (.iconst 0, 1) ∧ am_dw (ByteArray.mk lb_L_law_1248.toArray) 1248 1272 = .ok (.invokevirtual 153, 3) ∧ am_dw (ByteArray.mk lb_L_law_1248.toArray) 1248 1275 = .ok (.pop, 1) ∧ am_dw (ByteArray.mk lb_L_law_1248.toArray) 1248 1276 = .ok (.goto 161, 3) ∧ am_dw (ByteArray.mk lb_L_law_1248.toArray) 1248 1279 = .ok (.aload_n 1, 1) := by decide +kernel
def lb_L_law_1280 : List UInt8 := [0x2a, 0x1d, 0x04, 0x60, 0x2e, 0x2a, 0x1d, 0x05, 0x60, 0x2e, 0xb6, 0x00, 0x9a, 0x57, 0x2c, 0x2a, 0x1d, 0x04, 0x60, 0x2e, 0x2a, 0x1d, 0x05, 0x60, 0x2e, 0xb6, 0x00, 0x9d, 0x57, 0xa7, 0x00, 0x80, 0x2b, 0x2a, 0x1d, 0x04]
theorem pw_L_law_1280 : am_Pw code (ByteArray.mk lb_L_law_1280.toArray) 1280 := am_pw lb_L_law_1280 rfl (by decide) rfl (by decide +kernel)
theorem dd_L_law_1280a : am_dw (ByteArray.mk lb_L_law_1280.toArray) 1280 1280 = .ok (.aload_n 0, 1) ∧ am_dw (ByteArray.mk lb_L_law_1280.toArray) 1280 1281 = .ok (.iload_n 3, 1) ∧ am_dw (ByteArray.mk lb_L_law_1280.toArray) 1280 1282 = .ok (.iconst 1, 1) ∧ am_dw (ByteArray.mk lb_L_law_1280.toArray) 1280 1283 = .ok (.iadd, 1) ∧ am_dw (ByteArray.mk lb_L_law_1280.toArray) 1280 1284 = .ok (.iaload, 1) ∧ am_dw (ByteArray.mk lb_L_law_1280.toArray) 1280 1285 = .ok (.aload_n 0, 1) ∧ am_dw (ByteArray.mk lb_L_law_1280.toArray) 1280 1286 = .ok (.iload_n 3, 1) ∧ am_dw (ByteArray.mk lb_L_law_1280.toArray) 1280 1287 = .ok (.iconst 2, 1) := by decide +kernel
theorem dd_L_law_1280b : am_dw (ByteArray.mk lb_L_law_1280.toArray) 1280 1288 = .ok (.iadd, 1) ∧ am_dw (ByteArray.mk lb_L_law_1280.toArray) 1280 1289 = .ok (.iaload, 1) ∧ am_dw (ByteArray.mk lb_L_law_1280.toArray) 1280 1290 = .ok (.invokevirtual 154, 3) ∧ am_dw (ByteArray.mk lb_L_law_1280.toArray) 1280 1293 = .ok (.pop, 1) ∧ am_dw (ByteArray.mk lb_L_law_1280.toArray) 1280 1294 = .ok (.aload_n 2, 1) ∧ am_dw (ByteArray.mk lb_L_law_1280.toArray) 1280 1295 = .ok (.aload_n 0, 1) ∧ am_dw (ByteArray.mk lb_L_law_1280.toArray) 1280 1296 = .ok (.iload_n 3, 1) ∧ am_dw (ByteArray.mk lb_L_law_1280.toArray) 1280 1297 = .ok (.iconst 1, 1) := by decide +kernel
theorem dd_L_law_1280c : am_dw (ByteArray.mk lb_L_law_1280.toArray) 1280 1298 = .ok (.iadd, 1) ∧ am_dw (ByteArray.mk lb_L_law_1280.toArray) 1280 1299 = .ok (.iaload, 1) ∧ am_dw (ByteArray.mk lb_L_law_1280.toArray) 1280 1300 = .ok (.aload_n 0, 1) ∧ am_dw (ByteArray.mk lb_L_law_1280.toArray) 1280 1301 = .ok (.iload_n 3, 1) ∧ am_dw (ByteArray.mk lb_L_law_1280.toArray) 1280 1302 = .ok (.iconst 2, 1) ∧ am_dw (ByteArray.mk lb_L_law_1280.toArray) 1280 1303 = .ok (.iadd, 1) ∧ am_dw (ByteArray.mk lb_L_law_1280.toArray) 1280 1304 = .ok (.iaload, 1) ∧ am_dw (ByteArray.mk lb_L_law_1280.toArray) 1280 1305 = .ok (.invokevirtual 157, 3) := by decide +kernel
theorem dd_L_law_1280d : am_dw (ByteArray.mk lb_L_law_1280.toArray) 1280 1308 = .ok (.pop, 1) ∧ am_dw (ByteArray.mk lb_L_law_1280.toArray) 1280 1309 = .ok (.goto 128, 3) := by decide +kernel
def lb_L_law_1312 : List UInt8 := [0x2b, 0x2a, 0x1d, 0x04, 0x60, 0x2e, 0x2a, 0x1d, 0x05, 0x60, 0x2e, 0x2a, 0x1d, 0x06, 0x60, 0x2e, 0x2a, 0x1d, 0x07, 0x60, 0x2e, 0xb6, 0x00, 0x9e, 0x57, 0x2c, 0x2a, 0x1d, 0x04, 0x60, 0x2e, 0x2a, 0x1d, 0x05, 0x60, 0x2e]
theorem pw_L_law_1312 : am_Pw code (ByteArray.mk lb_L_law_1312.toArray) 1312 := am_pw lb_L_law_1312 rfl (by decide) rfl (by decide +kernel)
theorem dd_L_law_1312a : am_dw (ByteArray.mk lb_L_law_1312.toArray) 1312 1312 = .ok (.aload_n 1, 1) ∧ am_dw (ByteArray.mk lb_L_law_1312.toArray) 1312 1313 = .ok (.aload_n 0, 1) ∧ am_dw (ByteArray.mk lb_L_law_1312.toArray) 1312 1314 = .ok (.iload_n 3, 1) ∧ am_dw (ByteArray.mk lb_L_law_1312.toArray) 1312 1315 = .ok (.iconst 1, 1) ∧ am_dw (ByteArray.mk lb_L_law_1312.toArray) 1312 1316 = .ok (.iadd, 1) ∧ am_dw (ByteArray.mk lb_L_law_1312.toArray) 1312 1317 = .ok (.iaload, 1) ∧ am_dw (ByteArray.mk lb_L_law_1312.toArray) 1312 1318 = .ok (.aload_n 0, 1) ∧ am_dw (ByteArray.mk lb_L_law_1312.toArray) 1312 1319 = .ok (.iload_n 3, 1) := by decide +kernel
theorem dd_L_law_1312b : am_dw (ByteArray.mk lb_L_law_1312.toArray) 1312 1320 = .ok (.iconst 2, 1) ∧ am_dw (ByteArray.mk lb_L_law_1312.toArray) 1312 1321 = .ok (.iadd, 1) ∧ am_dw (ByteArray.mk lb_L_law_1312.toArray) 1312 1322 = .ok (.iaload, 1) ∧ am_dw (ByteArray.mk lb_L_law_1312.toArray) 1312 1323 = .ok (.aload_n 0, 1) ∧ am_dw (ByteArray.mk lb_L_law_1312.toArray) 1312 1324 = .ok (.iload_n 3, 1) ∧ am_dw (ByteArray.mk lb_L_law_1312.toArray) 1312 1325 = .ok (.iconst 3, 1) ∧ am_dw (ByteArray.mk lb_L_law_1312.toArray) 1312 1326 = .ok (.iadd, 1) ∧ am_dw (ByteArray.mk lb_L_law_1312.toArray) 1312 1327 = .ok (.iaload, 1) := by decide +kernel
theorem dd_L_law_1312c : am_dw (ByteArray.mk lb_L_law_1312.toArray) 1312 1328 = .ok (.aload_n 0, 1) ∧ am_dw (ByteArray.mk lb_L_law_1312.toArray) 1312 1329 = .ok (.iload_n 3, 1) ∧ am_dw (ByteArray.mk lb_L_law_1312.toArray) 1312 1330 = .ok (.iconst 4, 1) ∧ am_dw (ByteArray.mk lb_L_law_1312.toArray) 1312 1331 = .ok (.iadd, 1) ∧ am_dw (ByteArray.mk lb_L_law_1312.toArray) 1312 1332 = .ok (.iaload, 1) ∧ am_dw (ByteArray.mk lb_L_law_1312.toArray) 1312 1333 = .ok (.invokevirtual 158, 3) ∧ am_dw (ByteArray.mk lb_L_law_1312.toArray) 1312 1336 = .ok (.pop, 1) ∧ am_dw (ByteArray.mk lb_L_law_1312.toArray) 1312 1337 = .ok (.aload_n 2, 1) := by decide +kernel
theorem dd_L_law_1312d : am_dw (ByteArray.mk lb_L_law_1312.toArray) 1312 1338 = .ok (.aload_n 0, 1) ∧ am_dw (ByteArray.mk lb_L_law_1312.toArray) 1312 1339 = .ok (.iload_n 3, 1) ∧ am_dw (ByteArray.mk lb_L_law_1312.toArray) 1312 1340 = .ok (.iconst 1, 1) ∧ am_dw (ByteArray.mk lb_L_law_1312.toArray) 1312 1341 = .ok (.iadd, 1) ∧ am_dw (ByteArray.mk lb_L_law_1312.toArray) 1312 1342 = .ok (.iaload, 1) ∧ am_dw (ByteArray.mk lb_L_law_1312.toArray) 1312 1343 = .ok (.aload_n 0, 1) := by decide +kernel
def lb_L_law_1344 : List UInt8 := [0x1d, 0x05, 0x60, 0x2e, 0x2a, 0x1d, 0x06, 0x60, 0x2e, 0x2a, 0x1d, 0x07, 0x60, 0x2e, 0xb6, 0x00, 0xa1, 0x57, 0xa7, 0x00, 0x4b, 0x2b, 0xb6, 0x00, 0xa2, 0x57, 0x2c, 0xb6, 0x00, 0xa5, 0x57, 0xa7, 0x00, 0x3e, 0x2b, 0x2a]
theorem pw_L_law_1344 : am_Pw code (ByteArray.mk lb_L_law_1344.toArray) 1344 := am_pw lb_L_law_1344 rfl (by decide) rfl (by decide +kernel)
theorem dd_L_law_1344a : am_dw (ByteArray.mk lb_L_law_1344.toArray) 1344 1344 = .ok (.iload_n 3, 1) ∧ am_dw (ByteArray.mk lb_L_law_1344.toArray) 1344 1345 = .ok (.iconst 2, 1) ∧ am_dw (ByteArray.mk lb_L_law_1344.toArray) 1344 1346 = .ok (.iadd, 1) ∧ am_dw (ByteArray.mk lb_L_law_1344.toArray) 1344 1347 = .ok (.iaload, 1) ∧ am_dw (ByteArray.mk lb_L_law_1344.toArray) 1344 1348 = .ok (.aload_n 0, 1) ∧ am_dw (ByteArray.mk lb_L_law_1344.toArray) 1344 1349 = .ok (.iload_n 3, 1) ∧ am_dw (ByteArray.mk lb_L_law_1344.toArray) 1344 1350 = .ok (.iconst 3, 1) ∧ am_dw (ByteArray.mk lb_L_law_1344.toArray) 1344 1351 = .ok (.iadd, 1) := by decide +kernel
theorem dd_L_law_1344b : am_dw (ByteArray.mk lb_L_law_1344.toArray) 1344 1352 = .ok (.iaload, 1) ∧ am_dw (ByteArray.mk lb_L_law_1344.toArray) 1344 1353 = .ok (.aload_n 0, 1) ∧ am_dw (ByteArray.mk lb_L_law_1344.toArray) 1344 1354 = .ok (.iload_n 3, 1) ∧ am_dw (ByteArray.mk lb_L_law_1344.toArray) 1344 1355 = .ok (.iconst 4, 1) ∧ am_dw (ByteArray.mk lb_L_law_1344.toArray) 1344 1356 = .ok (.iadd, 1) ∧ am_dw (ByteArray.mk lb_L_law_1344.toArray) 1344 1357 = .ok (.iaload, 1) ∧ am_dw (ByteArray.mk lb_L_law_1344.toArray) 1344 1358 = .ok (.invokevirtual 161, 3) ∧ am_dw (ByteArray.mk lb_L_law_1344.toArray) 1344 1361 = .ok (.pop, 1) := by decide +kernel
theorem dd_L_law_1344c : am_dw (ByteArray.mk lb_L_law_1344.toArray) 1344 1362 = .ok (.goto 75, 3) ∧ am_dw (ByteArray.mk lb_L_law_1344.toArray) 1344 1365 = .ok (.aload_n 1, 1) ∧ am_dw (ByteArray.mk lb_L_law_1344.toArray) 1344 1366 = .ok (.invokevirtual 162, 3) ∧ am_dw (ByteArray.mk lb_L_law_1344.toArray) 1344 1369 = .ok (.pop, 1) ∧ am_dw (ByteArray.mk lb_L_law_1344.toArray) 1344 1370 = .ok (.aload_n 2, 1) ∧ am_dw (ByteArray.mk lb_L_law_1344.toArray) 1344 1371 = .ok (.invokevirtual 165, 3) ∧ am_dw (ByteArray.mk lb_L_law_1344.toArray) 1344 1374 = .ok (.pop, 1) ∧ am_dw (ByteArray.mk lb_L_law_1344.toArray) 1344 1375 = .ok (.goto 62, 3) := by decide +kernel
def lb_L_law_1376 : List UInt8 := [0x00, 0x3e, 0x2b, 0x2a, 0x1d, 0x04, 0x60, 0x2e, 0xb6, 0x00, 0xa6, 0x57, 0x2c, 0x2a, 0x1d, 0x04, 0x60, 0x2e, 0xb6, 0x00, 0xa9, 0x57, 0xa7, 0x00, 0x27, 0x2b, 0xb6, 0x00, 0xaa, 0x57, 0x2c, 0xb6, 0x00, 0xae, 0x57, 0xa7]
theorem pw_L_law_1376 : am_Pw code (ByteArray.mk lb_L_law_1376.toArray) 1376 := am_pw lb_L_law_1376 rfl (by decide) rfl (by decide +kernel)
theorem dd_L_law_1376a : am_dw (ByteArray.mk lb_L_law_1376.toArray) 1376 1378 = .ok (.aload_n 1, 1) ∧ am_dw (ByteArray.mk lb_L_law_1376.toArray) 1376 1379 = .ok (.aload_n 0, 1) ∧ am_dw (ByteArray.mk lb_L_law_1376.toArray) 1376 1380 = .ok (.iload_n 3, 1) ∧ am_dw (ByteArray.mk lb_L_law_1376.toArray) 1376 1381 = .ok (.iconst 1, 1) ∧ am_dw (ByteArray.mk lb_L_law_1376.toArray) 1376 1382 = .ok (.iadd, 1) ∧ am_dw (ByteArray.mk lb_L_law_1376.toArray) 1376 1383 = .ok (.iaload, 1) ∧ am_dw (ByteArray.mk lb_L_law_1376.toArray) 1376 1384 = .ok (.invokevirtual 166, 3) ∧ am_dw (ByteArray.mk lb_L_law_1376.toArray) 1376 1387 = .ok (.pop, 1) := by decide +kernel
theorem dd_L_law_1376b : am_dw (ByteArray.mk lb_L_law_1376.toArray) 1376 1388 = .ok (.aload_n 2, 1) ∧ am_dw (ByteArray.mk lb_L_law_1376.toArray) 1376 1389 = .ok (.aload_n 0, 1) ∧ am_dw (ByteArray.mk lb_L_law_1376.toArray) 1376 1390 = .ok (.iload_n 3, 1) ∧ am_dw (ByteArray.mk lb_L_law_1376.toArray) 1376 1391 = .ok (.iconst 1, 1) ∧ am_dw (ByteArray.mk lb_L_law_1376.toArray) 1376 1392 = .ok (.iadd, 1) ∧ am_dw (ByteArray.mk lb_L_law_1376.toArray) 1376 1393 = .ok (.iaload, 1) ∧ am_dw (ByteArray.mk lb_L_law_1376.toArray) 1376 1394 = .ok (.invokevirtual 169, 3) ∧ am_dw (ByteArray.mk lb_L_law_1376.toArray) 1376 1397 = .ok (.pop, 1) := by decide +kernel
theorem dd_L_law_1376c : am_dw (ByteArray.mk lb_L_law_1376.toArray) 1376 1398 = .ok (.goto 39, 3) ∧ am_dw (ByteArray.mk lb_L_law_1376.toArray) 1376 1401 = .ok (.aload_n 1, 1) ∧ am_dw (ByteArray.mk lb_L_law_1376.toArray) 1376 1402 = .ok (.invokevirtual 170, 3) ∧ am_dw (ByteArray.mk lb_L_law_1376.toArray) 1376 1405 = .ok (.pop, 1) ∧ am_dw (ByteArray.mk lb_L_law_1376.toArray) 1376 1406 = .ok (.aload_n 2, 1) ∧ am_dw (ByteArray.mk lb_L_law_1376.toArray) 1376 1407 = .ok (.invokevirtual 174, 3) := by decide +kernel
def lb_L_law_1408 : List UInt8 := [0x00, 0xae, 0x57, 0xa7, 0x00, 0x1a, 0x2b, 0x2a, 0x1d, 0x04, 0x60, 0x2e, 0xb6, 0x00, 0xaf, 0x57, 0x2c, 0x2a, 0x1d, 0x04, 0x60, 0x2e, 0xb6, 0x00, 0xb2, 0x57, 0xa7, 0x00, 0x03, 0x84, 0x03, 0x06, 0xa7, 0xfa, 0x72, 0x04]
theorem pw_L_law_1408 : am_Pw code (ByteArray.mk lb_L_law_1408.toArray) 1408 := am_pw lb_L_law_1408 rfl (by decide) rfl (by decide +kernel)
theorem dd_L_law_1408a : am_dw (ByteArray.mk lb_L_law_1408.toArray) 1408 1410 = .ok (.pop, 1) ∧ am_dw (ByteArray.mk lb_L_law_1408.toArray) 1408 1411 = .ok (.goto 26, 3) ∧ am_dw (ByteArray.mk lb_L_law_1408.toArray) 1408 1414 = .ok (.aload_n 1, 1) ∧ am_dw (ByteArray.mk lb_L_law_1408.toArray) 1408 1415 = .ok (.aload_n 0, 1) ∧ am_dw (ByteArray.mk lb_L_law_1408.toArray) 1408 1416 = .ok (.iload_n 3, 1) ∧ am_dw (ByteArray.mk lb_L_law_1408.toArray) 1408 1417 = .ok (.iconst 1, 1) ∧ am_dw (ByteArray.mk lb_L_law_1408.toArray) 1408 1418 = .ok (.iadd, 1) ∧ am_dw (ByteArray.mk lb_L_law_1408.toArray) 1408 1419 = .ok (.iaload, 1) := by decide +kernel
theorem dd_L_law_1408b : am_dw (ByteArray.mk lb_L_law_1408.toArray) 1408 1420 = .ok (.invokevirtual 175, 3) ∧ am_dw (ByteArray.mk lb_L_law_1408.toArray) 1408 1423 = .ok (.pop, 1) ∧ am_dw (ByteArray.mk lb_L_law_1408.toArray) 1408 1424 = .ok (.aload_n 2, 1) ∧ am_dw (ByteArray.mk lb_L_law_1408.toArray) 1408 1425 = .ok (.aload_n 0, 1) ∧ am_dw (ByteArray.mk lb_L_law_1408.toArray) 1408 1426 = .ok (.iload_n 3, 1) ∧ am_dw (ByteArray.mk lb_L_law_1408.toArray) 1408 1427 = .ok (.iconst 1, 1) ∧ am_dw (ByteArray.mk lb_L_law_1408.toArray) 1408 1428 = .ok (.iadd, 1) ∧ am_dw (ByteArray.mk lb_L_law_1408.toArray) 1408 1429 = .ok (.iaload, 1) := by decide +kernel
theorem dd_L_law_1408c : am_dw (ByteArray.mk lb_L_law_1408.toArray) 1408 1430 = .ok (.invokevirtual 178, 3) ∧ am_dw (ByteArray.mk lb_L_law_1408.toArray) 1408 1433 = .ok (.pop, 1) ∧ am_dw (ByteArray.mk lb_L_law_1408.toArray) 1408 1434 = .ok (.goto 3, 3) ∧ am_dw (ByteArray.mk lb_L_law_1408.toArray) 1408 1437 = .ok (.iinc 3 6, 3) := by decide +kernel
def lb_L_law_1440 : List UInt8 := [0xa7, 0xfa, 0x72, 0x04, 0xac]
theorem pw_L_law_1440 : am_Pw code (ByteArray.mk lb_L_law_1440.toArray) 1440 := am_pw lb_L_law_1440 rfl (by decide) rfl (by decide +kernel)
theorem dd_L_law_1440a : am_dw (ByteArray.mk lb_L_law_1440.toArray) 1440 1440 = .ok (.goto (-1422), 3) ∧ am_dw (ByteArray.mk lb_L_law_1440.toArray) 1440 1443 = .ok (.iconst 1, 1) ∧ am_dw (ByteArray.mk lb_L_law_1440.toArray) 1440 1444 = .ok (.ireturn, 1) := by decide +kernel
section
variable {G : am_G} {p : Program} {l : Launch} {e : Env} {R : Room} {s : State} {m : MethodId} {args : Array Value} {below : List Frame} {meth : Method} {c : Code} {nm : String} {L : Nat} {xs : Nat → Int32}
theorem snL_0 (hC : am_Cx G RL code 4 (some .boolean) nm p s m args meth c) (hX : va_X (G.2.1.1 0) L xs s s.heap) (hb : G.2.1.1 0 < G.1) : ∀ q ∈ tL_0 xs L, am_SndF am_P0 G 4 p l e R s m args below meth c q.1 q.2 := by
  unfold tL_0
  refine List.forall_mem_cons.mpr ⟨am_Snd.toF ((s_new (ci := 10) (am_dp pw_L_law_0 dd_L_law_0a.1) rfl wd154 wd155 wd134 inX10 tyX10_ok (by decide)).to) hC, ?_⟩
  refine List.forall_mem_cons.mpr ⟨am_Snd.toF ((s_dup (am_dp pw_L_law_0 dd_L_law_0a.2.1)).to) hC, ?_⟩
  refine List.forall_mem_cons.mpr ⟨am_Snd.toF (z_ci (ci := 10) (am_dp pw_L_law_0 dd_L_law_0a.2.2.1) mt108 wd156 rfl rfl) hC, ?_⟩
  refine List.forall_mem_cons.mpr ⟨am_Snd.toF ((s_astoren (am_dp pw_L_law_0 dd_L_law_0a.2.2.2.1) rfl (by decide)).to) hC, ?_⟩
  refine List.forall_mem_cons.mpr ⟨am_Snd.toF ((s_new (ci := 11) (am_dp pw_L_law_0 dd_L_law_0a.2.2.2.2.1) rfl wd1327 wd1328 wd149 inX11 tyX11_ok (by decide)).to) hC, ?_⟩
  refine List.forall_mem_cons.mpr ⟨am_Snd.toF ((s_dup (am_dp pw_L_law_0 dd_L_law_0a.2.2.2.2.2.1)).to) hC, ?_⟩
  refine List.forall_mem_cons.mpr ⟨am_Snd.toF (z_ci (ci := 11) (am_dp pw_L_law_0 dd_L_law_0a.2.2.2.2.2.2.1) mt166 wd1329 rfl rfl) hC, ?_⟩
  refine List.forall_mem_cons.mpr ⟨am_Snd.toF ((s_astoren (am_dp pw_L_law_0 dd_L_law_0a.2.2.2.2.2.2.2) rfl (by decide)).to) hC, ?_⟩
  refine List.forall_mem_cons.mpr ⟨am_Snd.toF ((s_iconst (am_dp pw_L_law_0 dd_L_law_0b.1) (by decide)).to) hC, ?_⟩
  refine List.forall_mem_cons.mpr ⟨am_Snd.toF ((s_istoren (am_dp pw_L_law_0 dd_L_law_0b.2.1) rfl (by decide)).to) hC, ?_⟩
  refine List.forall_mem_cons.mpr ⟨am_Snd.toF ((s_iloadn (am_dp pw_L_law_0 dd_L_law_0b.2.2.1) rfl).to) hC, ?_⟩
  refine List.forall_mem_cons.mpr ⟨am_Snd.toF ((s_aloadn (am_dp pw_L_law_0 dd_L_law_0b.2.2.2.1) rfl).to) hC, ?_⟩
  refine List.forall_mem_cons.mpr ⟨f_sln hC hX hb (am_dp pw_L_law_0 dd_L_law_0b.2.2.2.2.1), ?_⟩
  refine List.forall_mem_cons.mpr ⟨am_Snd.toF ((s_bipush (am_dp pw_L_law_0 dd_L_law_0b.2.2.2.2.2.1) (by decide)).to) hC, ?_⟩
  refine List.forall_mem_cons.mpr ⟨am_Snd.toF ((s_isub (am_dp pw_L_law_0 dd_L_law_0b.2.2.2.2.2.2.1)).to) hC, ?_⟩
  refine List.forall_mem_cons.mpr ⟨am_Snd.toF ((s_icmp_gt (am_dp pw_L_law_0 dd_L_law_0b.2.2.2.2.2.2.2) (by decide)).to) hC, ?_⟩
  refine List.forall_mem_cons.mpr ⟨am_Snd.toF ((s_aloadn (am_dp pw_L_law_0 dd_L_law_0c.1) rfl).to) hC, ?_⟩
  refine List.forall_mem_cons.mpr ⟨am_Snd.toF ((s_iloadn (am_dp pw_L_law_0 dd_L_law_0c.2.1) rfl).to) hC, ?_⟩
  refine List.forall_mem_cons.mpr ⟨f_sld hC hX hb (am_dp pw_L_law_0 dd_L_law_0c.2.2.1), ?_⟩
  refine List.forall_mem_cons.mpr ⟨am_Snd.toF ((s_bipush (am_dp pw_L_law_0 dd_L_law_0c.2.2.2) (by decide)).to) hC, ?_⟩
  refine List.forall_mem_cons.mpr ⟨am_Snd.toF ((s_iand (am_dp pw_L_law_32 dd_L_law_32a)).to) hC, ?_⟩
  refine List.forall_mem_cons.mpr ⟨am_Snd.toF ((s_table (by decide +kernel : decode code 33 = .ok (.tableswitch 1404 0 38 #[171, 234, 257, 270, 293, 316, 349, 382, 425, 478, 541, 584, 627, 680, 713, 746, 769, 802, 825, 858, 881, 894, 937, 970, 983, 996, 1029, 1052, 1065, 1108, 1131, 1154, 1167, 1246, 1279, 1332, 1345, 1368, 1381], 171)) (by decide) (by decide) (by decide) (by decide)).to) hC, ?_⟩
  refine List.forall_mem_cons.mpr ⟨am_Snd.toF ((s_aloadn (am_dp pw_L_law_192 dd_L_law_192a.1) rfl).to) hC, ?_⟩
  refine List.forall_mem_cons.mpr ⟨am_Snd.toF ((s_aloadn (am_dp pw_L_law_192 dd_L_law_192a.2.1) rfl).to) hC, ?_⟩
  refine List.forall_mem_cons.mpr ⟨am_Snd.toF ((s_iloadn (am_dp pw_L_law_192 dd_L_law_192a.2.2.1) rfl).to) hC, ?_⟩
  refine List.forall_mem_cons.mpr ⟨am_Snd.toF ((s_iconst (am_dp pw_L_law_192 dd_L_law_192a.2.2.2.1) (by decide)).to) hC, ?_⟩
  refine List.forall_mem_cons.mpr ⟨am_Snd.toF ((s_iadd (am_dp pw_L_law_192 dd_L_law_192a.2.2.2.2.1)).to) hC, ?_⟩
  refine List.forall_mem_cons.mpr ⟨f_sld hC hX hb (am_dp pw_L_law_192 dd_L_law_192a.2.2.2.2.2.1), ?_⟩
  refine List.forall_mem_cons.mpr ⟨am_Snd.toF ((s_aloadn (am_dp pw_L_law_192 dd_L_law_192a.2.2.2.2.2.2.1) rfl).to) hC, ?_⟩
  refine List.forall_mem_cons.mpr ⟨am_Snd.toF ((s_iloadn (am_dp pw_L_law_192 dd_L_law_192a.2.2.2.2.2.2.2) rfl).to) hC, ?_⟩
  refine List.forall_mem_cons.mpr ⟨am_Snd.toF ((s_iconst (am_dp pw_L_law_192 dd_L_law_192b.1) (by decide)).to) hC, ?_⟩
  refine List.forall_mem_cons.mpr ⟨am_Snd.toF ((s_iadd (am_dp pw_L_law_192 dd_L_law_192b.2.1)).to) hC, ?_⟩
  refine List.forall_mem_cons.mpr ⟨f_sld hC hX hb (am_dp pw_L_law_192 dd_L_law_192b.2.2.1), ?_⟩
  refine List.forall_mem_cons.mpr ⟨am_Snd.toF ((s_aloadn (am_dp pw_L_law_192 dd_L_law_192b.2.2.2.1) rfl).to) hC, ?_⟩
  refine List.forall_mem_cons.mpr ⟨am_Snd.toF ((s_iloadn (am_dp pw_L_law_192 dd_L_law_192b.2.2.2.2.1) rfl).to) hC, ?_⟩
  refine List.forall_mem_cons.mpr ⟨am_Snd.toF ((s_iconst (am_dp pw_L_law_192 dd_L_law_192b.2.2.2.2.2.1) (by decide)).to) hC, ?_⟩
  refine List.forall_mem_cons.mpr ⟨am_Snd.toF ((s_iadd (am_dp pw_L_law_192 dd_L_law_192b.2.2.2.2.2.2.1)).to) hC, ?_⟩
  refine List.forall_mem_cons.mpr ⟨f_sld hC hX hb (am_dp pw_L_law_192 dd_L_law_192b.2.2.2.2.2.2.2), ?_⟩
  refine List.forall_mem_cons.mpr ⟨am_Snd.toF ((s_aloadn (am_dp pw_L_law_192 dd_L_law_192c.1) rfl).to) hC, ?_⟩
  refine List.forall_mem_cons.mpr ⟨am_Snd.toF ((s_iloadn (am_dp pw_L_law_192 dd_L_law_192c.2.1) rfl).to) hC, ?_⟩
  refine List.forall_mem_cons.mpr ⟨am_Snd.toF ((s_iconst (am_dp pw_L_law_192 dd_L_law_192c.2.2.1) (by decide)).to) hC, ?_⟩
  refine List.forall_mem_cons.mpr ⟨am_Snd.toF ((s_iadd (am_dp pw_L_law_192 dd_L_law_192c.2.2.2)).to) hC, ?_⟩
  refine List.forall_mem_cons.mpr ⟨f_sld hC hX hb (am_dp pw_L_law_224 dd_L_law_224a.1), ?_⟩
  refine List.forall_mem_cons.mpr ⟨am_Snd.toF ((s_aloadn (am_dp pw_L_law_224 dd_L_law_224a.2.1) rfl).to) hC, ?_⟩
  refine List.forall_mem_cons.mpr ⟨am_Snd.toF ((s_iloadn (am_dp pw_L_law_224 dd_L_law_224a.2.2.1) rfl).to) hC, ?_⟩
  refine List.forall_mem_cons.mpr ⟨am_Snd.toF ((s_iconst (am_dp pw_L_law_224 dd_L_law_224a.2.2.2.1) (by decide)).to) hC, ?_⟩
  refine List.forall_mem_cons.mpr ⟨am_Snd.toF ((s_iadd (am_dp pw_L_law_224 dd_L_law_224a.2.2.2.2.1)).to) hC, ?_⟩
  refine List.forall_mem_cons.mpr ⟨f_sld hC hX hb (am_dp pw_L_law_224 dd_L_law_224a.2.2.2.2.2.1), ?_⟩
  refine List.forall_mem_cons.mpr ⟨am_Snd.toF (zw_cv109 (am_dp pw_L_law_224 dd_L_law_224a.2.2.2.2.2.2.1) wd631) hC, ?_⟩
  refine List.forall_mem_cons.mpr ⟨am_Snd.toF ((s_aloadn (am_dp pw_L_law_224 dd_L_law_224a.2.2.2.2.2.2.2) rfl).to) hC, ?_⟩
  refine List.forall_mem_cons.mpr ⟨am_Snd.toF ((s_aloadn (am_dp pw_L_law_224 dd_L_law_224b.1) rfl).to) hC, ?_⟩
  refine List.forall_mem_cons.mpr ⟨am_Snd.toF ((s_iloadn (am_dp pw_L_law_224 dd_L_law_224b.2.1) rfl).to) hC, ?_⟩
  refine List.forall_mem_cons.mpr ⟨am_Snd.toF ((s_iconst (am_dp pw_L_law_224 dd_L_law_224b.2.2.1) (by decide)).to) hC, ?_⟩
  refine List.forall_mem_cons.mpr ⟨am_Snd.toF ((s_iadd (am_dp pw_L_law_224 dd_L_law_224b.2.2.2.1)).to) hC, ?_⟩
  refine List.forall_mem_cons.mpr ⟨f_sld hC hX hb (am_dp pw_L_law_224 dd_L_law_224b.2.2.2.2.1), ?_⟩
  refine List.forall_mem_cons.mpr ⟨am_Snd.toF ((s_aloadn (am_dp pw_L_law_224 dd_L_law_224b.2.2.2.2.2.1) rfl).to) hC, ?_⟩
  refine List.forall_mem_cons.mpr ⟨am_Snd.toF ((s_iloadn (am_dp pw_L_law_224 dd_L_law_224b.2.2.2.2.2.2.1) rfl).to) hC, ?_⟩
  refine List.forall_mem_cons.mpr ⟨am_Snd.toF ((s_iconst (am_dp pw_L_law_224 dd_L_law_224b.2.2.2.2.2.2.2) (by decide)).to) hC, ?_⟩
  refine List.forall_mem_cons.mpr ⟨am_Snd.toF ((s_iadd (am_dp pw_L_law_224 dd_L_law_224c.1)).to) hC, ?_⟩
  refine List.forall_mem_cons.mpr ⟨f_sld hC hX hb (am_dp pw_L_law_224 dd_L_law_224c.2.1), ?_⟩
  exact fun _ h => absurd h List.not_mem_nil
theorem snL_1 (hC : am_Cx G RL code 4 (some .boolean) nm p s m args meth c) (hX : va_X (G.2.1.1 0) L xs s s.heap) (hb : G.2.1.1 0 < G.1) : ∀ q ∈ tL_1 xs L, am_SndF am_P0 G 4 p l e R s m args below meth c q.1 q.2 := by
  unfold tL_1
  refine List.forall_mem_cons.mpr ⟨am_Snd.toF ((s_aloadn (am_dp pw_L_law_224 dd_L_law_224c.2.2.1) rfl).to) hC, ?_⟩
  refine List.forall_mem_cons.mpr ⟨am_Snd.toF ((s_iloadn (am_dp pw_L_law_224 dd_L_law_224c.2.2.2.1) rfl).to) hC, ?_⟩
  refine List.forall_mem_cons.mpr ⟨am_Snd.toF ((s_iconst (am_dp pw_L_law_224 dd_L_law_224c.2.2.2.2.1) (by decide)).to) hC, ?_⟩
  refine List.forall_mem_cons.mpr ⟨am_Snd.toF ((s_iadd (am_dp pw_L_law_224 dd_L_law_224c.2.2.2.2.2.1)).to) hC, ?_⟩
  refine List.forall_mem_cons.mpr ⟨f_sld hC hX hb (am_dp pw_L_law_224 dd_L_law_224c.2.2.2.2.2.2.1), ?_⟩
  refine List.forall_mem_cons.mpr ⟨am_Snd.toF ((s_aloadn (am_dp pw_L_law_224 dd_L_law_224c.2.2.2.2.2.2.2) rfl).to) hC, ?_⟩
  refine List.forall_mem_cons.mpr ⟨am_Snd.toF ((s_iloadn (am_dp pw_L_law_224 dd_L_law_224d.1) rfl).to) hC, ?_⟩
  refine List.forall_mem_cons.mpr ⟨am_Snd.toF ((s_iconst (am_dp pw_L_law_224 dd_L_law_224d.2.1) (by decide)).to) hC, ?_⟩
  refine List.forall_mem_cons.mpr ⟨am_Snd.toF ((s_iadd (am_dp pw_L_law_224 dd_L_law_224d.2.2.1)).to) hC, ?_⟩
  refine List.forall_mem_cons.mpr ⟨f_sld hC hX hb (am_dp pw_L_law_224 dd_L_law_224d.2.2.2.1), ?_⟩
  refine List.forall_mem_cons.mpr ⟨am_Snd.toF ((s_aloadn (am_dp pw_L_law_224 dd_L_law_224d.2.2.2.2.1) rfl).to) hC, ?_⟩
  refine List.forall_mem_cons.mpr ⟨am_Snd.toF ((s_iloadn (am_dp pw_L_law_224 dd_L_law_224d.2.2.2.2.2) rfl).to) hC, ?_⟩
  refine List.forall_mem_cons.mpr ⟨am_Snd.toF ((s_iconst (am_dp pw_L_law_256 dd_L_law_256a.1) (by decide)).to) hC, ?_⟩
  refine List.forall_mem_cons.mpr ⟨am_Snd.toF ((s_iadd (am_dp pw_L_law_256 dd_L_law_256a.2.1)).to) hC, ?_⟩
  refine List.forall_mem_cons.mpr ⟨f_sld hC hX hb (am_dp pw_L_law_256 dd_L_law_256a.2.2.1), ?_⟩
  refine List.forall_mem_cons.mpr ⟨am_Snd.toF (zw_cv169 (am_dp pw_L_law_256 dd_L_law_256a.2.2.2.1) wd1583) hC, ?_⟩
  refine List.forall_mem_cons.mpr ⟨am_Snd.toF ((s_icmp_eq (am_dp pw_L_law_256 dd_L_law_256a.2.2.2.2.1) (by decide)).to) hC, ?_⟩
  refine List.forall_mem_cons.mpr ⟨am_Snd.toF ((s_iconst (am_dp pw_L_law_256 dd_L_law_256a.2.2.2.2.2.1) (by decide)).to) hC, ?_⟩
  refine List.forall_mem_cons.mpr ⟨am_Snd.toF (s_zret (am_dp pw_L_law_256 dd_L_law_256a.2.2.2.2.2.2.1) rfl) hC, ?_⟩
  refine List.forall_mem_cons.mpr ⟨am_Snd.toF ((s_aloadn (am_dp pw_L_law_256 dd_L_law_256a.2.2.2.2.2.2.2) rfl).to) hC, ?_⟩
  refine List.forall_mem_cons.mpr ⟨am_Snd.toF ((s_aloadn (am_dp pw_L_law_256 dd_L_law_256b.1) rfl).to) hC, ?_⟩
  refine List.forall_mem_cons.mpr ⟨am_Snd.toF ((s_iloadn (am_dp pw_L_law_256 dd_L_law_256b.2.1) rfl).to) hC, ?_⟩
  refine List.forall_mem_cons.mpr ⟨am_Snd.toF ((s_iconst (am_dp pw_L_law_256 dd_L_law_256b.2.2.1) (by decide)).to) hC, ?_⟩
  refine List.forall_mem_cons.mpr ⟨am_Snd.toF ((s_iadd (am_dp pw_L_law_256 dd_L_law_256b.2.2.2.1)).to) hC, ?_⟩
  refine List.forall_mem_cons.mpr ⟨f_sld hC hX hb (am_dp pw_L_law_256 dd_L_law_256b.2.2.2.2.1), ?_⟩
  refine List.forall_mem_cons.mpr ⟨am_Snd.toF (zw_cv110 (am_dp pw_L_law_256 dd_L_law_256b.2.2.2.2.2.1) wd639) hC, ?_⟩
  refine List.forall_mem_cons.mpr ⟨am_Snd.toF ((s_pop (am_dp pw_L_law_256 dd_L_law_256b.2.2.2.2.2.2.1)).to) hC, ?_⟩
  refine List.forall_mem_cons.mpr ⟨am_Snd.toF ((s_aloadn (am_dp pw_L_law_256 dd_L_law_256b.2.2.2.2.2.2.2) rfl).to) hC, ?_⟩
  refine List.forall_mem_cons.mpr ⟨am_Snd.toF ((s_aloadn (am_dp pw_L_law_256 dd_L_law_256c.1) rfl).to) hC, ?_⟩
  refine List.forall_mem_cons.mpr ⟨am_Snd.toF ((s_iloadn (am_dp pw_L_law_256 dd_L_law_256c.2.1) rfl).to) hC, ?_⟩
  refine List.forall_mem_cons.mpr ⟨am_Snd.toF ((s_iconst (am_dp pw_L_law_256 dd_L_law_256c.2.2.1) (by decide)).to) hC, ?_⟩
  refine List.forall_mem_cons.mpr ⟨am_Snd.toF ((s_iadd (am_dp pw_L_law_256 dd_L_law_256c.2.2.2.1)).to) hC, ?_⟩
  refine List.forall_mem_cons.mpr ⟨f_sld hC hX hb (am_dp pw_L_law_256 dd_L_law_256c.2.2.2.2.1), ?_⟩
  refine List.forall_mem_cons.mpr ⟨am_Snd.toF (zw_cv170 (am_dp pw_L_law_256 dd_L_law_256c.2.2.2.2.2.1) wd1595) hC, ?_⟩
  refine List.forall_mem_cons.mpr ⟨am_Snd.toF ((s_pop (am_dp pw_L_law_256 dd_L_law_256c.2.2.2.2.2.2.1)).to) hC, ?_⟩
  refine List.forall_mem_cons.mpr ⟨am_Snd.toF ((s_goto (am_dp pw_L_law_256 dd_L_law_256c.2.2.2.2.2.2.2) (by decide)).to) hC, ?_⟩
  refine List.forall_mem_cons.mpr ⟨am_Snd.toF ((s_aloadn (am_dp pw_L_law_288 dd_L_law_288a.1) rfl).to) hC, ?_⟩
  refine List.forall_mem_cons.mpr ⟨am_Snd.toF (zw_cv111 (am_dp pw_L_law_288 dd_L_law_288a.2.1) wd643) hC, ?_⟩
  refine List.forall_mem_cons.mpr ⟨am_Snd.toF ((s_pop (am_dp pw_L_law_288 dd_L_law_288a.2.2.1)).to) hC, ?_⟩
  refine List.forall_mem_cons.mpr ⟨am_Snd.toF ((s_aloadn (am_dp pw_L_law_288 dd_L_law_288a.2.2.2.1) rfl).to) hC, ?_⟩
  refine List.forall_mem_cons.mpr ⟨am_Snd.toF (zw_cv206 (am_dp pw_L_law_288 dd_L_law_288a.2.2.2.2.1) wd1599) hC, ?_⟩
  refine List.forall_mem_cons.mpr ⟨am_Snd.toF ((s_pop (am_dp pw_L_law_288 dd_L_law_288a.2.2.2.2.2.1)).to) hC, ?_⟩
  refine List.forall_mem_cons.mpr ⟨am_Snd.toF ((s_goto (am_dp pw_L_law_288 dd_L_law_288a.2.2.2.2.2.2.1) (by decide)).to) hC, ?_⟩
  refine List.forall_mem_cons.mpr ⟨am_Snd.toF ((s_aloadn (am_dp pw_L_law_288 dd_L_law_288a.2.2.2.2.2.2.2) rfl).to) hC, ?_⟩
  refine List.forall_mem_cons.mpr ⟨am_Snd.toF ((s_aloadn (am_dp pw_L_law_288 dd_L_law_288b.1) rfl).to) hC, ?_⟩
  refine List.forall_mem_cons.mpr ⟨am_Snd.toF ((s_iloadn (am_dp pw_L_law_288 dd_L_law_288b.2.1) rfl).to) hC, ?_⟩
  refine List.forall_mem_cons.mpr ⟨am_Snd.toF ((s_iconst (am_dp pw_L_law_288 dd_L_law_288b.2.2.1) (by decide)).to) hC, ?_⟩
  refine List.forall_mem_cons.mpr ⟨am_Snd.toF ((s_iadd (am_dp pw_L_law_288 dd_L_law_288b.2.2.2.1)).to) hC, ?_⟩
  refine List.forall_mem_cons.mpr ⟨f_sld hC hX hb (am_dp pw_L_law_288 dd_L_law_288b.2.2.2.2.1), ?_⟩
  refine List.forall_mem_cons.mpr ⟨am_Snd.toF (zw_cv112 (am_dp pw_L_law_288 dd_L_law_288b.2.2.2.2.2.1) wd903) hC, ?_⟩
  refine List.forall_mem_cons.mpr ⟨am_Snd.toF ((s_pop (am_dp pw_L_law_288 dd_L_law_288b.2.2.2.2.2.2.1)).to) hC, ?_⟩
  refine List.forall_mem_cons.mpr ⟨am_Snd.toF ((s_aloadn (am_dp pw_L_law_288 dd_L_law_288b.2.2.2.2.2.2.2) rfl).to) hC, ?_⟩
  refine List.forall_mem_cons.mpr ⟨am_Snd.toF ((s_aloadn (am_dp pw_L_law_288 dd_L_law_288c.1) rfl).to) hC, ?_⟩
  refine List.forall_mem_cons.mpr ⟨am_Snd.toF ((s_iloadn (am_dp pw_L_law_288 dd_L_law_288c.2.1) rfl).to) hC, ?_⟩
  refine List.forall_mem_cons.mpr ⟨am_Snd.toF ((s_iconst (am_dp pw_L_law_288 dd_L_law_288c.2.2.1) (by decide)).to) hC, ?_⟩
  refine List.forall_mem_cons.mpr ⟨am_Snd.toF ((s_iadd (am_dp pw_L_law_288 dd_L_law_288c.2.2.2.1)).to) hC, ?_⟩
  refine List.forall_mem_cons.mpr ⟨f_sld hC hX hb (am_dp pw_L_law_288 dd_L_law_288c.2.2.2.2.1), ?_⟩
  refine List.forall_mem_cons.mpr ⟨am_Snd.toF (zw_cv207 (am_dp pw_L_law_288 dd_L_law_288c.2.2.2.2.2) wd1807) hC, ?_⟩
  refine List.forall_mem_cons.mpr ⟨am_Snd.toF ((s_pop (am_dp pw_L_law_320 dd_L_law_320a.1)).to) hC, ?_⟩
  refine List.forall_mem_cons.mpr ⟨am_Snd.toF ((s_goto (am_dp pw_L_law_320 dd_L_law_320a.2.1) (by decide)).to) hC, ?_⟩
  exact fun _ h => absurd h List.not_mem_nil
theorem snL_2 (hC : am_Cx G RL code 4 (some .boolean) nm p s m args meth c) (hX : va_X (G.2.1.1 0) L xs s s.heap) (hb : G.2.1.1 0 < G.1) : ∀ q ∈ tL_2 xs L, am_SndF am_P0 G 4 p l e R s m args below meth c q.1 q.2 := by
  unfold tL_2
  refine List.forall_mem_cons.mpr ⟨am_Snd.toF ((s_aloadn (am_dp pw_L_law_320 dd_L_law_320a.2.2.1) rfl).to) hC, ?_⟩
  refine List.forall_mem_cons.mpr ⟨am_Snd.toF ((s_aloadn (am_dp pw_L_law_320 dd_L_law_320a.2.2.2.1) rfl).to) hC, ?_⟩
  refine List.forall_mem_cons.mpr ⟨am_Snd.toF ((s_iloadn (am_dp pw_L_law_320 dd_L_law_320a.2.2.2.2.1) rfl).to) hC, ?_⟩
  refine List.forall_mem_cons.mpr ⟨am_Snd.toF ((s_iconst (am_dp pw_L_law_320 dd_L_law_320a.2.2.2.2.2.1) (by decide)).to) hC, ?_⟩
  refine List.forall_mem_cons.mpr ⟨am_Snd.toF ((s_iadd (am_dp pw_L_law_320 dd_L_law_320a.2.2.2.2.2.2.1)).to) hC, ?_⟩
  refine List.forall_mem_cons.mpr ⟨f_sld hC hX hb (am_dp pw_L_law_320 dd_L_law_320a.2.2.2.2.2.2.2), ?_⟩
  refine List.forall_mem_cons.mpr ⟨am_Snd.toF (zw_cv113 (am_dp pw_L_law_320 dd_L_law_320b.1) wd907) hC, ?_⟩
  refine List.forall_mem_cons.mpr ⟨am_Snd.toF ((s_pop (am_dp pw_L_law_320 dd_L_law_320b.2.1)).to) hC, ?_⟩
  refine List.forall_mem_cons.mpr ⟨am_Snd.toF ((s_aloadn (am_dp pw_L_law_320 dd_L_law_320b.2.2.1) rfl).to) hC, ?_⟩
  refine List.forall_mem_cons.mpr ⟨am_Snd.toF ((s_aloadn (am_dp pw_L_law_320 dd_L_law_320b.2.2.2.1) rfl).to) hC, ?_⟩
  refine List.forall_mem_cons.mpr ⟨am_Snd.toF ((s_iloadn (am_dp pw_L_law_320 dd_L_law_320b.2.2.2.2.1) rfl).to) hC, ?_⟩
  refine List.forall_mem_cons.mpr ⟨am_Snd.toF ((s_iconst (am_dp pw_L_law_320 dd_L_law_320b.2.2.2.2.2.1) (by decide)).to) hC, ?_⟩
  refine List.forall_mem_cons.mpr ⟨am_Snd.toF ((s_iadd (am_dp pw_L_law_320 dd_L_law_320b.2.2.2.2.2.2.1)).to) hC, ?_⟩
  refine List.forall_mem_cons.mpr ⟨f_sld hC hX hb (am_dp pw_L_law_320 dd_L_law_320b.2.2.2.2.2.2.2), ?_⟩
  refine List.forall_mem_cons.mpr ⟨am_Snd.toF (zw_cv232 (am_dp pw_L_law_320 dd_L_law_320c.1) wd1834) hC, ?_⟩
  refine List.forall_mem_cons.mpr ⟨am_Snd.toF ((s_pop (am_dp pw_L_law_320 dd_L_law_320c.2.1)).to) hC, ?_⟩
  refine List.forall_mem_cons.mpr ⟨am_Snd.toF ((s_goto (am_dp pw_L_law_320 dd_L_law_320c.2.2.1) (by decide)).to) hC, ?_⟩
  refine List.forall_mem_cons.mpr ⟨am_Snd.toF ((s_aloadn (am_dp pw_L_law_320 dd_L_law_320c.2.2.2.1) rfl).to) hC, ?_⟩
  refine List.forall_mem_cons.mpr ⟨am_Snd.toF ((s_aloadn (am_dp pw_L_law_320 dd_L_law_320c.2.2.2.2.1) rfl).to) hC, ?_⟩
  refine List.forall_mem_cons.mpr ⟨am_Snd.toF ((s_iloadn (am_dp pw_L_law_320 dd_L_law_320c.2.2.2.2.2) rfl).to) hC, ?_⟩
  refine List.forall_mem_cons.mpr ⟨am_Snd.toF ((s_iconst (am_dp pw_L_law_352 dd_L_law_352a.1) (by decide)).to) hC, ?_⟩
  refine List.forall_mem_cons.mpr ⟨am_Snd.toF ((s_iadd (am_dp pw_L_law_352 dd_L_law_352a.2.1)).to) hC, ?_⟩
  refine List.forall_mem_cons.mpr ⟨f_sld hC hX hb (am_dp pw_L_law_352 dd_L_law_352a.2.2.1), ?_⟩
  refine List.forall_mem_cons.mpr ⟨am_Snd.toF ((s_aloadn (am_dp pw_L_law_352 dd_L_law_352a.2.2.2.1) rfl).to) hC, ?_⟩
  refine List.forall_mem_cons.mpr ⟨am_Snd.toF ((s_iloadn (am_dp pw_L_law_352 dd_L_law_352a.2.2.2.2.1) rfl).to) hC, ?_⟩
  refine List.forall_mem_cons.mpr ⟨am_Snd.toF ((s_iconst (am_dp pw_L_law_352 dd_L_law_352a.2.2.2.2.2.1) (by decide)).to) hC, ?_⟩
  refine List.forall_mem_cons.mpr ⟨am_Snd.toF ((s_iadd (am_dp pw_L_law_352 dd_L_law_352a.2.2.2.2.2.2.1)).to) hC, ?_⟩
  refine List.forall_mem_cons.mpr ⟨f_sld hC hX hb (am_dp pw_L_law_352 dd_L_law_352a.2.2.2.2.2.2.2), ?_⟩
  refine List.forall_mem_cons.mpr ⟨am_Snd.toF (zw_cv114 (am_dp pw_L_law_352 dd_L_law_352b.1) wd917) hC, ?_⟩
  refine List.forall_mem_cons.mpr ⟨am_Snd.toF ((s_pop (am_dp pw_L_law_352 dd_L_law_352b.2.1)).to) hC, ?_⟩
  refine List.forall_mem_cons.mpr ⟨am_Snd.toF ((s_aloadn (am_dp pw_L_law_352 dd_L_law_352b.2.2.1) rfl).to) hC, ?_⟩
  refine List.forall_mem_cons.mpr ⟨am_Snd.toF ((s_aloadn (am_dp pw_L_law_352 dd_L_law_352b.2.2.2.1) rfl).to) hC, ?_⟩
  refine List.forall_mem_cons.mpr ⟨am_Snd.toF ((s_iloadn (am_dp pw_L_law_352 dd_L_law_352b.2.2.2.2.1) rfl).to) hC, ?_⟩
  refine List.forall_mem_cons.mpr ⟨am_Snd.toF ((s_iconst (am_dp pw_L_law_352 dd_L_law_352b.2.2.2.2.2.1) (by decide)).to) hC, ?_⟩
  refine List.forall_mem_cons.mpr ⟨am_Snd.toF ((s_iadd (am_dp pw_L_law_352 dd_L_law_352b.2.2.2.2.2.2.1)).to) hC, ?_⟩
  refine List.forall_mem_cons.mpr ⟨f_sld hC hX hb (am_dp pw_L_law_352 dd_L_law_352b.2.2.2.2.2.2.2), ?_⟩
  refine List.forall_mem_cons.mpr ⟨am_Snd.toF ((s_aloadn (am_dp pw_L_law_352 dd_L_law_352c.1) rfl).to) hC, ?_⟩
  refine List.forall_mem_cons.mpr ⟨am_Snd.toF ((s_iloadn (am_dp pw_L_law_352 dd_L_law_352c.2.1) rfl).to) hC, ?_⟩
  refine List.forall_mem_cons.mpr ⟨am_Snd.toF ((s_iconst (am_dp pw_L_law_352 dd_L_law_352c.2.2.1) (by decide)).to) hC, ?_⟩
  refine List.forall_mem_cons.mpr ⟨am_Snd.toF ((s_iadd (am_dp pw_L_law_352 dd_L_law_352c.2.2.2.1)).to) hC, ?_⟩
  refine List.forall_mem_cons.mpr ⟨f_sld hC hX hb (am_dp pw_L_law_352 dd_L_law_352c.2.2.2.2.1), ?_⟩
  refine List.forall_mem_cons.mpr ⟨am_Snd.toF (zw_cv233 (am_dp pw_L_law_352 dd_L_law_352c.2.2.2.2.2.1) wd1846) hC, ?_⟩
  refine List.forall_mem_cons.mpr ⟨am_Snd.toF ((s_pop (am_dp pw_L_law_352 dd_L_law_352c.2.2.2.2.2.2.1)).to) hC, ?_⟩
  refine List.forall_mem_cons.mpr ⟨am_Snd.toF ((s_goto (am_dp pw_L_law_352 dd_L_law_352c.2.2.2.2.2.2.2) (by decide)).to) hC, ?_⟩
  refine List.forall_mem_cons.mpr ⟨am_Snd.toF ((s_aloadn (am_dp pw_L_law_352 dd_L_law_352d.1) rfl).to) hC, ?_⟩
  refine List.forall_mem_cons.mpr ⟨am_Snd.toF ((s_aloadn (am_dp pw_L_law_352 dd_L_law_352d.2) rfl).to) hC, ?_⟩
  refine List.forall_mem_cons.mpr ⟨am_Snd.toF ((s_iloadn (am_dp pw_L_law_384 dd_L_law_384a.1) rfl).to) hC, ?_⟩
  refine List.forall_mem_cons.mpr ⟨am_Snd.toF ((s_iconst (am_dp pw_L_law_384 dd_L_law_384a.2.1) (by decide)).to) hC, ?_⟩
  refine List.forall_mem_cons.mpr ⟨am_Snd.toF ((s_iadd (am_dp pw_L_law_384 dd_L_law_384a.2.2.1)).to) hC, ?_⟩
  refine List.forall_mem_cons.mpr ⟨f_sld hC hX hb (am_dp pw_L_law_384 dd_L_law_384a.2.2.2.1), ?_⟩
  refine List.forall_mem_cons.mpr ⟨am_Snd.toF ((s_aloadn (am_dp pw_L_law_384 dd_L_law_384a.2.2.2.2.1) rfl).to) hC, ?_⟩
  refine List.forall_mem_cons.mpr ⟨am_Snd.toF ((s_iloadn (am_dp pw_L_law_384 dd_L_law_384a.2.2.2.2.2.1) rfl).to) hC, ?_⟩
  refine List.forall_mem_cons.mpr ⟨am_Snd.toF ((s_iconst (am_dp pw_L_law_384 dd_L_law_384a.2.2.2.2.2.2.1) (by decide)).to) hC, ?_⟩
  refine List.forall_mem_cons.mpr ⟨am_Snd.toF ((s_iadd (am_dp pw_L_law_384 dd_L_law_384a.2.2.2.2.2.2.2)).to) hC, ?_⟩
  refine List.forall_mem_cons.mpr ⟨f_sld hC hX hb (am_dp pw_L_law_384 dd_L_law_384b.1), ?_⟩
  refine List.forall_mem_cons.mpr ⟨am_Snd.toF (zw_cv115 (am_dp pw_L_law_384 dd_L_law_384b.2.1) wd925) hC, ?_⟩
  refine List.forall_mem_cons.mpr ⟨am_Snd.toF ((s_pop (am_dp pw_L_law_384 dd_L_law_384b.2.2.1)).to) hC, ?_⟩
  refine List.forall_mem_cons.mpr ⟨am_Snd.toF ((s_aloadn (am_dp pw_L_law_384 dd_L_law_384b.2.2.2.1) rfl).to) hC, ?_⟩
  refine List.forall_mem_cons.mpr ⟨am_Snd.toF ((s_aloadn (am_dp pw_L_law_384 dd_L_law_384b.2.2.2.2.1) rfl).to) hC, ?_⟩
  refine List.forall_mem_cons.mpr ⟨am_Snd.toF ((s_iloadn (am_dp pw_L_law_384 dd_L_law_384b.2.2.2.2.2.1) rfl).to) hC, ?_⟩
  exact fun _ h => absurd h List.not_mem_nil
theorem snL_3 (hC : am_Cx G RL code 4 (some .boolean) nm p s m args meth c) (hX : va_X (G.2.1.1 0) L xs s s.heap) (hb : G.2.1.1 0 < G.1) : ∀ q ∈ tL_3 xs L, am_SndF am_P0 G 4 p l e R s m args below meth c q.1 q.2 := by
  unfold tL_3
  refine List.forall_mem_cons.mpr ⟨am_Snd.toF ((s_iconst (am_dp pw_L_law_384 dd_L_law_384b.2.2.2.2.2.2.1) (by decide)).to) hC, ?_⟩
  refine List.forall_mem_cons.mpr ⟨am_Snd.toF ((s_iadd (am_dp pw_L_law_384 dd_L_law_384b.2.2.2.2.2.2.2)).to) hC, ?_⟩
  refine List.forall_mem_cons.mpr ⟨f_sld hC hX hb (am_dp pw_L_law_384 dd_L_law_384c.1), ?_⟩
  refine List.forall_mem_cons.mpr ⟨am_Snd.toF ((s_aloadn (am_dp pw_L_law_384 dd_L_law_384c.2.1) rfl).to) hC, ?_⟩
  refine List.forall_mem_cons.mpr ⟨am_Snd.toF ((s_iloadn (am_dp pw_L_law_384 dd_L_law_384c.2.2.1) rfl).to) hC, ?_⟩
  refine List.forall_mem_cons.mpr ⟨am_Snd.toF ((s_iconst (am_dp pw_L_law_384 dd_L_law_384c.2.2.2.1) (by decide)).to) hC, ?_⟩
  refine List.forall_mem_cons.mpr ⟨am_Snd.toF ((s_iadd (am_dp pw_L_law_384 dd_L_law_384c.2.2.2.2.1)).to) hC, ?_⟩
  refine List.forall_mem_cons.mpr ⟨f_sld hC hX hb (am_dp pw_L_law_384 dd_L_law_384c.2.2.2.2.2.1), ?_⟩
  refine List.forall_mem_cons.mpr ⟨am_Snd.toF (zw_cv253 (am_dp pw_L_law_384 dd_L_law_384c.2.2.2.2.2.2.1) wd1875) hC, ?_⟩
  refine List.forall_mem_cons.mpr ⟨am_Snd.toF ((s_pop (am_dp pw_L_law_384 dd_L_law_384c.2.2.2.2.2.2.2)).to) hC, ?_⟩
  refine List.forall_mem_cons.mpr ⟨am_Snd.toF ((s_goto (am_dp pw_L_law_384 dd_L_law_384d.1) (by decide)).to) hC, ?_⟩
  refine List.forall_mem_cons.mpr ⟨am_Snd.toF ((s_aloadn (am_dp pw_L_law_384 dd_L_law_384d.2) rfl).to) hC, ?_⟩
  refine List.forall_mem_cons.mpr ⟨am_Snd.toF ((s_aloadn (am_dp pw_L_law_416 dd_L_law_416a.1) rfl).to) hC, ?_⟩
  refine List.forall_mem_cons.mpr ⟨am_Snd.toF ((s_iloadn (am_dp pw_L_law_416 dd_L_law_416a.2.1) rfl).to) hC, ?_⟩
  refine List.forall_mem_cons.mpr ⟨am_Snd.toF ((s_iconst (am_dp pw_L_law_416 dd_L_law_416a.2.2.1) (by decide)).to) hC, ?_⟩
  refine List.forall_mem_cons.mpr ⟨am_Snd.toF ((s_iadd (am_dp pw_L_law_416 dd_L_law_416a.2.2.2.1)).to) hC, ?_⟩
  refine List.forall_mem_cons.mpr ⟨f_sld hC hX hb (am_dp pw_L_law_416 dd_L_law_416a.2.2.2.2.1), ?_⟩
  refine List.forall_mem_cons.mpr ⟨am_Snd.toF ((s_aloadn (am_dp pw_L_law_416 dd_L_law_416a.2.2.2.2.2.1) rfl).to) hC, ?_⟩
  refine List.forall_mem_cons.mpr ⟨am_Snd.toF ((s_iloadn (am_dp pw_L_law_416 dd_L_law_416a.2.2.2.2.2.2.1) rfl).to) hC, ?_⟩
  refine List.forall_mem_cons.mpr ⟨am_Snd.toF ((s_iconst (am_dp pw_L_law_416 dd_L_law_416a.2.2.2.2.2.2.2) (by decide)).to) hC, ?_⟩
  refine List.forall_mem_cons.mpr ⟨am_Snd.toF ((s_iadd (am_dp pw_L_law_416 dd_L_law_416b.1)).to) hC, ?_⟩
  refine List.forall_mem_cons.mpr ⟨f_sld hC hX hb (am_dp pw_L_law_416 dd_L_law_416b.2.1), ?_⟩
  refine List.forall_mem_cons.mpr ⟨am_Snd.toF ((s_aloadn (am_dp pw_L_law_416 dd_L_law_416b.2.2.1) rfl).to) hC, ?_⟩
  refine List.forall_mem_cons.mpr ⟨am_Snd.toF ((s_iloadn (am_dp pw_L_law_416 dd_L_law_416b.2.2.2.1) rfl).to) hC, ?_⟩
  refine List.forall_mem_cons.mpr ⟨am_Snd.toF ((s_iconst (am_dp pw_L_law_416 dd_L_law_416b.2.2.2.2.1) (by decide)).to) hC, ?_⟩
  refine List.forall_mem_cons.mpr ⟨am_Snd.toF ((s_iadd (am_dp pw_L_law_416 dd_L_law_416b.2.2.2.2.2.1)).to) hC, ?_⟩
  refine List.forall_mem_cons.mpr ⟨f_sld hC hX hb (am_dp pw_L_law_416 dd_L_law_416b.2.2.2.2.2.2.1), ?_⟩
  refine List.forall_mem_cons.mpr ⟨am_Snd.toF (zw_cv116 (am_dp pw_L_law_416 dd_L_law_416b.2.2.2.2.2.2.2) wd1007) hC, ?_⟩
  refine List.forall_mem_cons.mpr ⟨am_Snd.toF ((s_pop (am_dp pw_L_law_416 dd_L_law_416c.1)).to) hC, ?_⟩
  refine List.forall_mem_cons.mpr ⟨am_Snd.toF ((s_aloadn (am_dp pw_L_law_416 dd_L_law_416c.2.1) rfl).to) hC, ?_⟩
  refine List.forall_mem_cons.mpr ⟨am_Snd.toF ((s_aloadn (am_dp pw_L_law_416 dd_L_law_416c.2.2.1) rfl).to) hC, ?_⟩
  refine List.forall_mem_cons.mpr ⟨am_Snd.toF ((s_iloadn (am_dp pw_L_law_416 dd_L_law_416c.2.2.2.1) rfl).to) hC, ?_⟩
  refine List.forall_mem_cons.mpr ⟨am_Snd.toF ((s_iconst (am_dp pw_L_law_416 dd_L_law_416c.2.2.2.2.1) (by decide)).to) hC, ?_⟩
  refine List.forall_mem_cons.mpr ⟨am_Snd.toF ((s_iadd (am_dp pw_L_law_416 dd_L_law_416c.2.2.2.2.2.1)).to) hC, ?_⟩
  refine List.forall_mem_cons.mpr ⟨f_sld hC hX hb (am_dp pw_L_law_416 dd_L_law_416c.2.2.2.2.2.2.1), ?_⟩
  refine List.forall_mem_cons.mpr ⟨am_Snd.toF ((s_aloadn (am_dp pw_L_law_416 dd_L_law_416c.2.2.2.2.2.2.2) rfl).to) hC, ?_⟩
  refine List.forall_mem_cons.mpr ⟨am_Snd.toF ((s_iloadn (am_dp pw_L_law_416 dd_L_law_416d.1) rfl).to) hC, ?_⟩
  refine List.forall_mem_cons.mpr ⟨am_Snd.toF ((s_iconst (am_dp pw_L_law_416 dd_L_law_416d.2.1) (by decide)).to) hC, ?_⟩
  refine List.forall_mem_cons.mpr ⟨am_Snd.toF ((s_iadd (am_dp pw_L_law_416 dd_L_law_416d.2.2.1)).to) hC, ?_⟩
  refine List.forall_mem_cons.mpr ⟨f_sld hC hX hb (am_dp pw_L_law_416 dd_L_law_416d.2.2.2.1), ?_⟩
  refine List.forall_mem_cons.mpr ⟨am_Snd.toF ((s_aloadn (am_dp pw_L_law_416 dd_L_law_416d.2.2.2.2.1) rfl).to) hC, ?_⟩
  refine List.forall_mem_cons.mpr ⟨am_Snd.toF ((s_iloadn (am_dp pw_L_law_416 dd_L_law_416d.2.2.2.2.2) rfl).to) hC, ?_⟩
  refine List.forall_mem_cons.mpr ⟨am_Snd.toF ((s_iconst (am_dp pw_L_law_448 dd_L_law_448a.1) (by decide)).to) hC, ?_⟩
  refine List.forall_mem_cons.mpr ⟨am_Snd.toF ((s_iadd (am_dp pw_L_law_448 dd_L_law_448a.2.1)).to) hC, ?_⟩
  refine List.forall_mem_cons.mpr ⟨f_sld hC hX hb (am_dp pw_L_law_448 dd_L_law_448a.2.2.1), ?_⟩
  refine List.forall_mem_cons.mpr ⟨am_Snd.toF (zw_cv254 (am_dp pw_L_law_448 dd_L_law_448a.2.2.2.1) wd1922) hC, ?_⟩
  refine List.forall_mem_cons.mpr ⟨am_Snd.toF ((s_pop (am_dp pw_L_law_448 dd_L_law_448a.2.2.2.2.1)).to) hC, ?_⟩
  refine List.forall_mem_cons.mpr ⟨am_Snd.toF ((s_goto (am_dp pw_L_law_448 dd_L_law_448a.2.2.2.2.2.1) (by decide)).to) hC, ?_⟩
  refine List.forall_mem_cons.mpr ⟨am_Snd.toF ((s_aloadn (am_dp pw_L_law_448 dd_L_law_448a.2.2.2.2.2.2.1) rfl).to) hC, ?_⟩
  refine List.forall_mem_cons.mpr ⟨am_Snd.toF ((s_aloadn (am_dp pw_L_law_448 dd_L_law_448a.2.2.2.2.2.2.2) rfl).to) hC, ?_⟩
  refine List.forall_mem_cons.mpr ⟨am_Snd.toF ((s_iloadn (am_dp pw_L_law_448 dd_L_law_448b.1) rfl).to) hC, ?_⟩
  refine List.forall_mem_cons.mpr ⟨am_Snd.toF ((s_iconst (am_dp pw_L_law_448 dd_L_law_448b.2.1) (by decide)).to) hC, ?_⟩
  refine List.forall_mem_cons.mpr ⟨am_Snd.toF ((s_iadd (am_dp pw_L_law_448 dd_L_law_448b.2.2.1)).to) hC, ?_⟩
  refine List.forall_mem_cons.mpr ⟨f_sld hC hX hb (am_dp pw_L_law_448 dd_L_law_448b.2.2.2.1), ?_⟩
  refine List.forall_mem_cons.mpr ⟨am_Snd.toF ((s_aloadn (am_dp pw_L_law_448 dd_L_law_448b.2.2.2.2.1) rfl).to) hC, ?_⟩
  refine List.forall_mem_cons.mpr ⟨am_Snd.toF ((s_iloadn (am_dp pw_L_law_448 dd_L_law_448b.2.2.2.2.2.1) rfl).to) hC, ?_⟩
  refine List.forall_mem_cons.mpr ⟨am_Snd.toF ((s_iconst (am_dp pw_L_law_448 dd_L_law_448b.2.2.2.2.2.2.1) (by decide)).to) hC, ?_⟩
  refine List.forall_mem_cons.mpr ⟨am_Snd.toF ((s_iadd (am_dp pw_L_law_448 dd_L_law_448b.2.2.2.2.2.2.2)).to) hC, ?_⟩
  refine List.forall_mem_cons.mpr ⟨f_sld hC hX hb (am_dp pw_L_law_448 dd_L_law_448c.1), ?_⟩
  refine List.forall_mem_cons.mpr ⟨am_Snd.toF ((s_aloadn (am_dp pw_L_law_448 dd_L_law_448c.2.1) rfl).to) hC, ?_⟩
  exact fun _ h => absurd h List.not_mem_nil
theorem snL_4 (hC : am_Cx G RL code 4 (some .boolean) nm p s m args meth c) (hX : va_X (G.2.1.1 0) L xs s s.heap) (hb : G.2.1.1 0 < G.1) : ∀ q ∈ tL_4 xs L, am_SndF am_P0 G 4 p l e R s m args below meth c q.1 q.2 := by
  unfold tL_4
  refine List.forall_mem_cons.mpr ⟨am_Snd.toF ((s_iloadn (am_dp pw_L_law_448 dd_L_law_448c.2.2.1) rfl).to) hC, ?_⟩
  refine List.forall_mem_cons.mpr ⟨am_Snd.toF ((s_iconst (am_dp pw_L_law_448 dd_L_law_448c.2.2.2.1) (by decide)).to) hC, ?_⟩
  refine List.forall_mem_cons.mpr ⟨am_Snd.toF ((s_iadd (am_dp pw_L_law_448 dd_L_law_448c.2.2.2.2.1)).to) hC, ?_⟩
  refine List.forall_mem_cons.mpr ⟨f_sld hC hX hb (am_dp pw_L_law_448 dd_L_law_448c.2.2.2.2.2.1), ?_⟩
  refine List.forall_mem_cons.mpr ⟨am_Snd.toF ((s_aloadn (am_dp pw_L_law_448 dd_L_law_448c.2.2.2.2.2.2.1) rfl).to) hC, ?_⟩
  refine List.forall_mem_cons.mpr ⟨am_Snd.toF ((s_iloadn (am_dp pw_L_law_448 dd_L_law_448c.2.2.2.2.2.2.2) rfl).to) hC, ?_⟩
  refine List.forall_mem_cons.mpr ⟨am_Snd.toF ((s_iconst (am_dp pw_L_law_448 dd_L_law_448d.1) (by decide)).to) hC, ?_⟩
  refine List.forall_mem_cons.mpr ⟨am_Snd.toF ((s_iadd (am_dp pw_L_law_448 dd_L_law_448d.2.1)).to) hC, ?_⟩
  refine List.forall_mem_cons.mpr ⟨f_sld hC hX hb (am_dp pw_L_law_448 dd_L_law_448d.2.2.1), ?_⟩
  refine List.forall_mem_cons.mpr ⟨am_Snd.toF (zw_cv117 (am_dp pw_L_law_448 dd_L_law_448d.2.2.2) wd1020) hC, ?_⟩
  refine List.forall_mem_cons.mpr ⟨am_Snd.toF ((s_pop (am_dp pw_L_law_480 dd_L_law_480a.1)).to) hC, ?_⟩
  refine List.forall_mem_cons.mpr ⟨am_Snd.toF ((s_aloadn (am_dp pw_L_law_480 dd_L_law_480a.2.1) rfl).to) hC, ?_⟩
  refine List.forall_mem_cons.mpr ⟨am_Snd.toF ((s_aloadn (am_dp pw_L_law_480 dd_L_law_480a.2.2.1) rfl).to) hC, ?_⟩
  refine List.forall_mem_cons.mpr ⟨am_Snd.toF ((s_iloadn (am_dp pw_L_law_480 dd_L_law_480a.2.2.2.1) rfl).to) hC, ?_⟩
  refine List.forall_mem_cons.mpr ⟨am_Snd.toF ((s_iconst (am_dp pw_L_law_480 dd_L_law_480a.2.2.2.2.1) (by decide)).to) hC, ?_⟩
  refine List.forall_mem_cons.mpr ⟨am_Snd.toF ((s_iadd (am_dp pw_L_law_480 dd_L_law_480a.2.2.2.2.2.1)).to) hC, ?_⟩
  refine List.forall_mem_cons.mpr ⟨f_sld hC hX hb (am_dp pw_L_law_480 dd_L_law_480a.2.2.2.2.2.2.1), ?_⟩
  refine List.forall_mem_cons.mpr ⟨am_Snd.toF ((s_aloadn (am_dp pw_L_law_480 dd_L_law_480a.2.2.2.2.2.2.2) rfl).to) hC, ?_⟩
  refine List.forall_mem_cons.mpr ⟨am_Snd.toF ((s_iloadn (am_dp pw_L_law_480 dd_L_law_480b.1) rfl).to) hC, ?_⟩
  refine List.forall_mem_cons.mpr ⟨am_Snd.toF ((s_iconst (am_dp pw_L_law_480 dd_L_law_480b.2.1) (by decide)).to) hC, ?_⟩
  refine List.forall_mem_cons.mpr ⟨am_Snd.toF ((s_iadd (am_dp pw_L_law_480 dd_L_law_480b.2.2.1)).to) hC, ?_⟩
  refine List.forall_mem_cons.mpr ⟨f_sld hC hX hb (am_dp pw_L_law_480 dd_L_law_480b.2.2.2.1), ?_⟩
  refine List.forall_mem_cons.mpr ⟨am_Snd.toF ((s_aloadn (am_dp pw_L_law_480 dd_L_law_480b.2.2.2.2.1) rfl).to) hC, ?_⟩
  refine List.forall_mem_cons.mpr ⟨am_Snd.toF ((s_iloadn (am_dp pw_L_law_480 dd_L_law_480b.2.2.2.2.2.1) rfl).to) hC, ?_⟩
  refine List.forall_mem_cons.mpr ⟨am_Snd.toF ((s_iconst (am_dp pw_L_law_480 dd_L_law_480b.2.2.2.2.2.2.1) (by decide)).to) hC, ?_⟩
  refine List.forall_mem_cons.mpr ⟨am_Snd.toF ((s_iadd (am_dp pw_L_law_480 dd_L_law_480b.2.2.2.2.2.2.2)).to) hC, ?_⟩
  refine List.forall_mem_cons.mpr ⟨f_sld hC hX hb (am_dp pw_L_law_480 dd_L_law_480c.1), ?_⟩
  refine List.forall_mem_cons.mpr ⟨am_Snd.toF ((s_aloadn (am_dp pw_L_law_480 dd_L_law_480c.2.1) rfl).to) hC, ?_⟩
  refine List.forall_mem_cons.mpr ⟨am_Snd.toF ((s_iloadn (am_dp pw_L_law_480 dd_L_law_480c.2.2.1) rfl).to) hC, ?_⟩
  refine List.forall_mem_cons.mpr ⟨am_Snd.toF ((s_iconst (am_dp pw_L_law_480 dd_L_law_480c.2.2.2.1) (by decide)).to) hC, ?_⟩
  refine List.forall_mem_cons.mpr ⟨am_Snd.toF ((s_iadd (am_dp pw_L_law_480 dd_L_law_480c.2.2.2.2.1)).to) hC, ?_⟩
  refine List.forall_mem_cons.mpr ⟨f_sld hC hX hb (am_dp pw_L_law_480 dd_L_law_480c.2.2.2.2.2.1), ?_⟩
  refine List.forall_mem_cons.mpr ⟨am_Snd.toF (zw_cv225 (am_dp pw_L_law_480 dd_L_law_480c.2.2.2.2.2.2.1) wd1815) hC, ?_⟩
  refine List.forall_mem_cons.mpr ⟨am_Snd.toF ((s_pop (am_dp pw_L_law_480 dd_L_law_480c.2.2.2.2.2.2.2)).to) hC, ?_⟩
  refine List.forall_mem_cons.mpr ⟨am_Snd.toF ((s_goto (am_dp pw_L_law_480 dd_L_law_480d.1) (by decide)).to) hC, ?_⟩
  refine List.forall_mem_cons.mpr ⟨am_Snd.toF ((s_aloadn (am_dp pw_L_law_480 dd_L_law_480d.2) rfl).to) hC, ?_⟩
  refine List.forall_mem_cons.mpr ⟨am_Snd.toF ((s_aloadn (am_dp pw_L_law_512 dd_L_law_512a.1) rfl).to) hC, ?_⟩
  refine List.forall_mem_cons.mpr ⟨am_Snd.toF ((s_iloadn (am_dp pw_L_law_512 dd_L_law_512a.2.1) rfl).to) hC, ?_⟩
  refine List.forall_mem_cons.mpr ⟨am_Snd.toF ((s_iconst (am_dp pw_L_law_512 dd_L_law_512a.2.2.1) (by decide)).to) hC, ?_⟩
  refine List.forall_mem_cons.mpr ⟨am_Snd.toF ((s_iadd (am_dp pw_L_law_512 dd_L_law_512a.2.2.2.1)).to) hC, ?_⟩
  refine List.forall_mem_cons.mpr ⟨f_sld hC hX hb (am_dp pw_L_law_512 dd_L_law_512a.2.2.2.2.1), ?_⟩
  refine List.forall_mem_cons.mpr ⟨am_Snd.toF ((s_aloadn (am_dp pw_L_law_512 dd_L_law_512a.2.2.2.2.2.1) rfl).to) hC, ?_⟩
  refine List.forall_mem_cons.mpr ⟨am_Snd.toF ((s_iloadn (am_dp pw_L_law_512 dd_L_law_512a.2.2.2.2.2.2.1) rfl).to) hC, ?_⟩
  refine List.forall_mem_cons.mpr ⟨am_Snd.toF ((s_iconst (am_dp pw_L_law_512 dd_L_law_512a.2.2.2.2.2.2.2) (by decide)).to) hC, ?_⟩
  refine List.forall_mem_cons.mpr ⟨am_Snd.toF ((s_iadd (am_dp pw_L_law_512 dd_L_law_512b.1)).to) hC, ?_⟩
  refine List.forall_mem_cons.mpr ⟨f_sld hC hX hb (am_dp pw_L_law_512 dd_L_law_512b.2.1), ?_⟩
  refine List.forall_mem_cons.mpr ⟨am_Snd.toF ((s_aloadn (am_dp pw_L_law_512 dd_L_law_512b.2.2.1) rfl).to) hC, ?_⟩
  refine List.forall_mem_cons.mpr ⟨am_Snd.toF ((s_iloadn (am_dp pw_L_law_512 dd_L_law_512b.2.2.2.1) rfl).to) hC, ?_⟩
  refine List.forall_mem_cons.mpr ⟨am_Snd.toF ((s_iconst (am_dp pw_L_law_512 dd_L_law_512b.2.2.2.2.1) (by decide)).to) hC, ?_⟩
  refine List.forall_mem_cons.mpr ⟨am_Snd.toF ((s_iadd (am_dp pw_L_law_512 dd_L_law_512b.2.2.2.2.2.1)).to) hC, ?_⟩
  refine List.forall_mem_cons.mpr ⟨f_sld hC hX hb (am_dp pw_L_law_512 dd_L_law_512b.2.2.2.2.2.2.1), ?_⟩
  refine List.forall_mem_cons.mpr ⟨am_Snd.toF ((s_aloadn (am_dp pw_L_law_512 dd_L_law_512b.2.2.2.2.2.2.2) rfl).to) hC, ?_⟩
  refine List.forall_mem_cons.mpr ⟨am_Snd.toF ((s_iloadn (am_dp pw_L_law_512 dd_L_law_512c.1) rfl).to) hC, ?_⟩
  refine List.forall_mem_cons.mpr ⟨am_Snd.toF ((s_iconst (am_dp pw_L_law_512 dd_L_law_512c.2.1) (by decide)).to) hC, ?_⟩
  refine List.forall_mem_cons.mpr ⟨am_Snd.toF ((s_iadd (am_dp pw_L_law_512 dd_L_law_512c.2.2.1)).to) hC, ?_⟩
  refine List.forall_mem_cons.mpr ⟨f_sld hC hX hb (am_dp pw_L_law_512 dd_L_law_512c.2.2.2.1), ?_⟩
  refine List.forall_mem_cons.mpr ⟨am_Snd.toF ((s_aloadn (am_dp pw_L_law_512 dd_L_law_512c.2.2.2.2.1) rfl).to) hC, ?_⟩
  refine List.forall_mem_cons.mpr ⟨am_Snd.toF ((s_iloadn (am_dp pw_L_law_512 dd_L_law_512c.2.2.2.2.2.1) rfl).to) hC, ?_⟩
  refine List.forall_mem_cons.mpr ⟨am_Snd.toF ((s_iconst (am_dp pw_L_law_512 dd_L_law_512c.2.2.2.2.2.2.1) (by decide)).to) hC, ?_⟩
  refine List.forall_mem_cons.mpr ⟨am_Snd.toF ((s_iadd (am_dp pw_L_law_512 dd_L_law_512c.2.2.2.2.2.2.2)).to) hC, ?_⟩
  exact fun _ h => absurd h List.not_mem_nil
theorem snL_5 (hC : am_Cx G RL code 4 (some .boolean) nm p s m args meth c) (hX : va_X (G.2.1.1 0) L xs s s.heap) (hb : G.2.1.1 0 < G.1) : ∀ q ∈ tL_5 xs L, am_SndF am_P0 G 4 p l e R s m args below meth c q.1 q.2 := by
  unfold tL_5
  refine List.forall_mem_cons.mpr ⟨f_sld hC hX hb (am_dp pw_L_law_512 dd_L_law_512d.1), ?_⟩
  refine List.forall_mem_cons.mpr ⟨am_Snd.toF (zw_cv118 (am_dp pw_L_law_512 dd_L_law_512d.2.1) wd1040) hC, ?_⟩
  refine List.forall_mem_cons.mpr ⟨am_Snd.toF ((s_pop (am_dp pw_L_law_512 dd_L_law_512d.2.2.1)).to) hC, ?_⟩
  refine List.forall_mem_cons.mpr ⟨am_Snd.toF ((s_aloadn (am_dp pw_L_law_512 dd_L_law_512d.2.2.2.1) rfl).to) hC, ?_⟩
  refine List.forall_mem_cons.mpr ⟨am_Snd.toF ((s_aloadn (am_dp pw_L_law_512 dd_L_law_512d.2.2.2.2.1) rfl).to) hC, ?_⟩
  refine List.forall_mem_cons.mpr ⟨am_Snd.toF ((s_iloadn (am_dp pw_L_law_512 dd_L_law_512d.2.2.2.2.2) rfl).to) hC, ?_⟩
  refine List.forall_mem_cons.mpr ⟨am_Snd.toF ((s_iconst (am_dp pw_L_law_544 dd_L_law_544a.1) (by decide)).to) hC, ?_⟩
  refine List.forall_mem_cons.mpr ⟨am_Snd.toF ((s_iadd (am_dp pw_L_law_544 dd_L_law_544a.2.1)).to) hC, ?_⟩
  refine List.forall_mem_cons.mpr ⟨f_sld hC hX hb (am_dp pw_L_law_544 dd_L_law_544a.2.2.1), ?_⟩
  refine List.forall_mem_cons.mpr ⟨am_Snd.toF ((s_aloadn (am_dp pw_L_law_544 dd_L_law_544a.2.2.2.1) rfl).to) hC, ?_⟩
  refine List.forall_mem_cons.mpr ⟨am_Snd.toF ((s_iloadn (am_dp pw_L_law_544 dd_L_law_544a.2.2.2.2.1) rfl).to) hC, ?_⟩
  refine List.forall_mem_cons.mpr ⟨am_Snd.toF ((s_iconst (am_dp pw_L_law_544 dd_L_law_544a.2.2.2.2.2.1) (by decide)).to) hC, ?_⟩
  refine List.forall_mem_cons.mpr ⟨am_Snd.toF ((s_iadd (am_dp pw_L_law_544 dd_L_law_544a.2.2.2.2.2.2.1)).to) hC, ?_⟩
  refine List.forall_mem_cons.mpr ⟨f_sld hC hX hb (am_dp pw_L_law_544 dd_L_law_544a.2.2.2.2.2.2.2), ?_⟩
  refine List.forall_mem_cons.mpr ⟨am_Snd.toF ((s_aloadn (am_dp pw_L_law_544 dd_L_law_544b.1) rfl).to) hC, ?_⟩
  refine List.forall_mem_cons.mpr ⟨am_Snd.toF ((s_iloadn (am_dp pw_L_law_544 dd_L_law_544b.2.1) rfl).to) hC, ?_⟩
  refine List.forall_mem_cons.mpr ⟨am_Snd.toF ((s_iconst (am_dp pw_L_law_544 dd_L_law_544b.2.2.1) (by decide)).to) hC, ?_⟩
  refine List.forall_mem_cons.mpr ⟨am_Snd.toF ((s_iadd (am_dp pw_L_law_544 dd_L_law_544b.2.2.2.1)).to) hC, ?_⟩
  refine List.forall_mem_cons.mpr ⟨f_sld hC hX hb (am_dp pw_L_law_544 dd_L_law_544b.2.2.2.2.1), ?_⟩
  refine List.forall_mem_cons.mpr ⟨am_Snd.toF ((s_aloadn (am_dp pw_L_law_544 dd_L_law_544b.2.2.2.2.2.1) rfl).to) hC, ?_⟩
  refine List.forall_mem_cons.mpr ⟨am_Snd.toF ((s_iloadn (am_dp pw_L_law_544 dd_L_law_544b.2.2.2.2.2.2.1) rfl).to) hC, ?_⟩
  refine List.forall_mem_cons.mpr ⟨am_Snd.toF ((s_iconst (am_dp pw_L_law_544 dd_L_law_544b.2.2.2.2.2.2.2) (by decide)).to) hC, ?_⟩
  refine List.forall_mem_cons.mpr ⟨am_Snd.toF ((s_iadd (am_dp pw_L_law_544 dd_L_law_544c.1)).to) hC, ?_⟩
  refine List.forall_mem_cons.mpr ⟨f_sld hC hX hb (am_dp pw_L_law_544 dd_L_law_544c.2.1), ?_⟩
  refine List.forall_mem_cons.mpr ⟨am_Snd.toF ((s_aloadn (am_dp pw_L_law_544 dd_L_law_544c.2.2.1) rfl).to) hC, ?_⟩
  refine List.forall_mem_cons.mpr ⟨am_Snd.toF ((s_iloadn (am_dp pw_L_law_544 dd_L_law_544c.2.2.2.1) rfl).to) hC, ?_⟩
  refine List.forall_mem_cons.mpr ⟨am_Snd.toF ((s_iconst (am_dp pw_L_law_544 dd_L_law_544c.2.2.2.2.1) (by decide)).to) hC, ?_⟩
  refine List.forall_mem_cons.mpr ⟨am_Snd.toF ((s_iadd (am_dp pw_L_law_544 dd_L_law_544c.2.2.2.2.2.1)).to) hC, ?_⟩
  refine List.forall_mem_cons.mpr ⟨f_sld hC hX hb (am_dp pw_L_law_544 dd_L_law_544c.2.2.2.2.2.2.1), ?_⟩
  refine List.forall_mem_cons.mpr ⟨am_Snd.toF (zw_cv239 (am_dp pw_L_law_544 dd_L_law_544c.2.2.2.2.2.2.2) wd1855) hC, ?_⟩
  refine List.forall_mem_cons.mpr ⟨am_Snd.toF ((s_pop (am_dp pw_L_law_544 dd_L_law_544d.1)).to) hC, ?_⟩
  refine List.forall_mem_cons.mpr ⟨am_Snd.toF ((s_goto (am_dp pw_L_law_544 dd_L_law_544d.2.1) (by decide)).to) hC, ?_⟩
  refine List.forall_mem_cons.mpr ⟨am_Snd.toF ((s_aloadn (am_dp pw_L_law_544 dd_L_law_544d.2.2.1) rfl).to) hC, ?_⟩
  refine List.forall_mem_cons.mpr ⟨am_Snd.toF ((s_aloadn (am_dp pw_L_law_544 dd_L_law_544d.2.2.2) rfl).to) hC, ?_⟩
  refine List.forall_mem_cons.mpr ⟨am_Snd.toF ((s_iloadn (am_dp pw_L_law_576 dd_L_law_576a.1) rfl).to) hC, ?_⟩
  refine List.forall_mem_cons.mpr ⟨am_Snd.toF ((s_iconst (am_dp pw_L_law_576 dd_L_law_576a.2.1) (by decide)).to) hC, ?_⟩
  refine List.forall_mem_cons.mpr ⟨am_Snd.toF ((s_iadd (am_dp pw_L_law_576 dd_L_law_576a.2.2.1)).to) hC, ?_⟩
  refine List.forall_mem_cons.mpr ⟨f_sld hC hX hb (am_dp pw_L_law_576 dd_L_law_576a.2.2.2.1), ?_⟩
  refine List.forall_mem_cons.mpr ⟨am_Snd.toF ((s_aloadn (am_dp pw_L_law_576 dd_L_law_576a.2.2.2.2.1) rfl).to) hC, ?_⟩
  refine List.forall_mem_cons.mpr ⟨am_Snd.toF ((s_iloadn (am_dp pw_L_law_576 dd_L_law_576a.2.2.2.2.2.1) rfl).to) hC, ?_⟩
  refine List.forall_mem_cons.mpr ⟨am_Snd.toF ((s_iconst (am_dp pw_L_law_576 dd_L_law_576a.2.2.2.2.2.2.1) (by decide)).to) hC, ?_⟩
  refine List.forall_mem_cons.mpr ⟨am_Snd.toF ((s_iadd (am_dp pw_L_law_576 dd_L_law_576a.2.2.2.2.2.2.2)).to) hC, ?_⟩
  refine List.forall_mem_cons.mpr ⟨f_sld hC hX hb (am_dp pw_L_law_576 dd_L_law_576b.1), ?_⟩
  refine List.forall_mem_cons.mpr ⟨am_Snd.toF ((s_aloadn (am_dp pw_L_law_576 dd_L_law_576b.2.1) rfl).to) hC, ?_⟩
  refine List.forall_mem_cons.mpr ⟨am_Snd.toF ((s_iloadn (am_dp pw_L_law_576 dd_L_law_576b.2.2.1) rfl).to) hC, ?_⟩
  refine List.forall_mem_cons.mpr ⟨am_Snd.toF ((s_iconst (am_dp pw_L_law_576 dd_L_law_576b.2.2.2.1) (by decide)).to) hC, ?_⟩
  refine List.forall_mem_cons.mpr ⟨am_Snd.toF ((s_iadd (am_dp pw_L_law_576 dd_L_law_576b.2.2.2.2.1)).to) hC, ?_⟩
  refine List.forall_mem_cons.mpr ⟨f_sld hC hX hb (am_dp pw_L_law_576 dd_L_law_576b.2.2.2.2.2.1), ?_⟩
  refine List.forall_mem_cons.mpr ⟨am_Snd.toF (zw_cv119 (am_dp pw_L_law_576 dd_L_law_576b.2.2.2.2.2.2.1) wd1049) hC, ?_⟩
  refine List.forall_mem_cons.mpr ⟨am_Snd.toF ((s_pop (am_dp pw_L_law_576 dd_L_law_576b.2.2.2.2.2.2.2)).to) hC, ?_⟩
  refine List.forall_mem_cons.mpr ⟨am_Snd.toF ((s_aloadn (am_dp pw_L_law_576 dd_L_law_576c.1) rfl).to) hC, ?_⟩
  refine List.forall_mem_cons.mpr ⟨am_Snd.toF ((s_aloadn (am_dp pw_L_law_576 dd_L_law_576c.2.1) rfl).to) hC, ?_⟩
  refine List.forall_mem_cons.mpr ⟨am_Snd.toF ((s_iloadn (am_dp pw_L_law_576 dd_L_law_576c.2.2.1) rfl).to) hC, ?_⟩
  refine List.forall_mem_cons.mpr ⟨am_Snd.toF ((s_iconst (am_dp pw_L_law_576 dd_L_law_576c.2.2.2.1) (by decide)).to) hC, ?_⟩
  refine List.forall_mem_cons.mpr ⟨am_Snd.toF ((s_iadd (am_dp pw_L_law_576 dd_L_law_576c.2.2.2.2.1)).to) hC, ?_⟩
  refine List.forall_mem_cons.mpr ⟨f_sld hC hX hb (am_dp pw_L_law_576 dd_L_law_576c.2.2.2.2.2.1), ?_⟩
  refine List.forall_mem_cons.mpr ⟨am_Snd.toF ((s_aloadn (am_dp pw_L_law_576 dd_L_law_576c.2.2.2.2.2.2.1) rfl).to) hC, ?_⟩
  refine List.forall_mem_cons.mpr ⟨am_Snd.toF ((s_iloadn (am_dp pw_L_law_576 dd_L_law_576c.2.2.2.2.2.2.2) rfl).to) hC, ?_⟩
  refine List.forall_mem_cons.mpr ⟨am_Snd.toF ((s_iconst (am_dp pw_L_law_576 dd_L_law_576d.1) (by decide)).to) hC, ?_⟩
  refine List.forall_mem_cons.mpr ⟨am_Snd.toF ((s_iadd (am_dp pw_L_law_576 dd_L_law_576d.2.1)).to) hC, ?_⟩
  exact fun _ h => absurd h List.not_mem_nil
theorem snL_6 (hC : am_Cx G RL code 4 (some .boolean) nm p s m args meth c) (hX : va_X (G.2.1.1 0) L xs s s.heap) (hb : G.2.1.1 0 < G.1) : ∀ q ∈ tL_6 xs L, am_SndF am_P0 G 4 p l e R s m args below meth c q.1 q.2 := by
  unfold tL_6
  refine List.forall_mem_cons.mpr ⟨f_sld hC hX hb (am_dp pw_L_law_576 dd_L_law_576d.2.2.1), ?_⟩
  refine List.forall_mem_cons.mpr ⟨am_Snd.toF ((s_aloadn (am_dp pw_L_law_576 dd_L_law_576d.2.2.2.1) rfl).to) hC, ?_⟩
  refine List.forall_mem_cons.mpr ⟨am_Snd.toF ((s_iloadn (am_dp pw_L_law_576 dd_L_law_576d.2.2.2.2.1) rfl).to) hC, ?_⟩
  refine List.forall_mem_cons.mpr ⟨am_Snd.toF ((s_iconst (am_dp pw_L_law_576 dd_L_law_576d.2.2.2.2.2) (by decide)).to) hC, ?_⟩
  refine List.forall_mem_cons.mpr ⟨am_Snd.toF ((s_iadd (am_dp pw_L_law_608 dd_L_law_608a.1)).to) hC, ?_⟩
  refine List.forall_mem_cons.mpr ⟨f_sld hC hX hb (am_dp pw_L_law_608 dd_L_law_608a.2.1), ?_⟩
  refine List.forall_mem_cons.mpr ⟨am_Snd.toF (zw_cv255 (am_dp pw_L_law_608 dd_L_law_608a.2.2.1) wd1930) hC, ?_⟩
  refine List.forall_mem_cons.mpr ⟨am_Snd.toF ((s_pop (am_dp pw_L_law_608 dd_L_law_608a.2.2.2.1)).to) hC, ?_⟩
  refine List.forall_mem_cons.mpr ⟨am_Snd.toF ((s_goto (am_dp pw_L_law_608 dd_L_law_608a.2.2.2.2.1) (by decide)).to) hC, ?_⟩
  refine List.forall_mem_cons.mpr ⟨am_Snd.toF ((s_aloadn (am_dp pw_L_law_608 dd_L_law_608a.2.2.2.2.2.1) rfl).to) hC, ?_⟩
  refine List.forall_mem_cons.mpr ⟨am_Snd.toF ((s_aloadn (am_dp pw_L_law_608 dd_L_law_608a.2.2.2.2.2.2.1) rfl).to) hC, ?_⟩
  refine List.forall_mem_cons.mpr ⟨am_Snd.toF ((s_iloadn (am_dp pw_L_law_608 dd_L_law_608a.2.2.2.2.2.2.2) rfl).to) hC, ?_⟩
  refine List.forall_mem_cons.mpr ⟨am_Snd.toF ((s_iconst (am_dp pw_L_law_608 dd_L_law_608b.1) (by decide)).to) hC, ?_⟩
  refine List.forall_mem_cons.mpr ⟨am_Snd.toF ((s_iadd (am_dp pw_L_law_608 dd_L_law_608b.2.1)).to) hC, ?_⟩
  refine List.forall_mem_cons.mpr ⟨f_sld hC hX hb (am_dp pw_L_law_608 dd_L_law_608b.2.2.1), ?_⟩
  refine List.forall_mem_cons.mpr ⟨am_Snd.toF ((s_aloadn (am_dp pw_L_law_608 dd_L_law_608b.2.2.2.1) rfl).to) hC, ?_⟩
  refine List.forall_mem_cons.mpr ⟨am_Snd.toF ((s_iloadn (am_dp pw_L_law_608 dd_L_law_608b.2.2.2.2.1) rfl).to) hC, ?_⟩
  refine List.forall_mem_cons.mpr ⟨am_Snd.toF ((s_iconst (am_dp pw_L_law_608 dd_L_law_608b.2.2.2.2.2.1) (by decide)).to) hC, ?_⟩
  refine List.forall_mem_cons.mpr ⟨am_Snd.toF ((s_iadd (am_dp pw_L_law_608 dd_L_law_608b.2.2.2.2.2.2.1)).to) hC, ?_⟩
  refine List.forall_mem_cons.mpr ⟨f_sld hC hX hb (am_dp pw_L_law_608 dd_L_law_608b.2.2.2.2.2.2.2), ?_⟩
  refine List.forall_mem_cons.mpr ⟨am_Snd.toF ((s_aloadn (am_dp pw_L_law_608 dd_L_law_608c.1) rfl).to) hC, ?_⟩
  refine List.forall_mem_cons.mpr ⟨am_Snd.toF ((s_iloadn (am_dp pw_L_law_608 dd_L_law_608c.2.1) rfl).to) hC, ?_⟩
  refine List.forall_mem_cons.mpr ⟨am_Snd.toF ((s_iconst (am_dp pw_L_law_608 dd_L_law_608c.2.2.1) (by decide)).to) hC, ?_⟩
  refine List.forall_mem_cons.mpr ⟨am_Snd.toF ((s_iadd (am_dp pw_L_law_608 dd_L_law_608c.2.2.2.1)).to) hC, ?_⟩
  refine List.forall_mem_cons.mpr ⟨f_sld hC hX hb (am_dp pw_L_law_608 dd_L_law_608c.2.2.2.2.1), ?_⟩
  refine List.forall_mem_cons.mpr ⟨am_Snd.toF (zw_cv120 (am_dp pw_L_law_608 dd_L_law_608c.2.2.2.2.2.1) wd1060) hC, ?_⟩
  refine List.forall_mem_cons.mpr ⟨am_Snd.toF ((s_pop (am_dp pw_L_law_608 dd_L_law_608c.2.2.2.2.2.2.1)).to) hC, ?_⟩
  refine List.forall_mem_cons.mpr ⟨am_Snd.toF ((s_aloadn (am_dp pw_L_law_608 dd_L_law_608c.2.2.2.2.2.2.2) rfl).to) hC, ?_⟩
  refine List.forall_mem_cons.mpr ⟨am_Snd.toF ((s_aloadn (am_dp pw_L_law_608 dd_L_law_608d.1) rfl).to) hC, ?_⟩
  refine List.forall_mem_cons.mpr ⟨am_Snd.toF ((s_iloadn (am_dp pw_L_law_608 dd_L_law_608d.2) rfl).to) hC, ?_⟩
  refine List.forall_mem_cons.mpr ⟨am_Snd.toF ((s_iconst (am_dp pw_L_law_640 dd_L_law_640a.1) (by decide)).to) hC, ?_⟩
  refine List.forall_mem_cons.mpr ⟨am_Snd.toF ((s_iadd (am_dp pw_L_law_640 dd_L_law_640a.2.1)).to) hC, ?_⟩
  refine List.forall_mem_cons.mpr ⟨f_sld hC hX hb (am_dp pw_L_law_640 dd_L_law_640a.2.2.1), ?_⟩
  refine List.forall_mem_cons.mpr ⟨am_Snd.toF ((s_aloadn (am_dp pw_L_law_640 dd_L_law_640a.2.2.2.1) rfl).to) hC, ?_⟩
  refine List.forall_mem_cons.mpr ⟨am_Snd.toF ((s_iloadn (am_dp pw_L_law_640 dd_L_law_640a.2.2.2.2.1) rfl).to) hC, ?_⟩
  refine List.forall_mem_cons.mpr ⟨am_Snd.toF ((s_iconst (am_dp pw_L_law_640 dd_L_law_640a.2.2.2.2.2.1) (by decide)).to) hC, ?_⟩
  refine List.forall_mem_cons.mpr ⟨am_Snd.toF ((s_iadd (am_dp pw_L_law_640 dd_L_law_640a.2.2.2.2.2.2.1)).to) hC, ?_⟩
  refine List.forall_mem_cons.mpr ⟨f_sld hC hX hb (am_dp pw_L_law_640 dd_L_law_640a.2.2.2.2.2.2.2), ?_⟩
  refine List.forall_mem_cons.mpr ⟨am_Snd.toF ((s_aloadn (am_dp pw_L_law_640 dd_L_law_640b.1) rfl).to) hC, ?_⟩
  refine List.forall_mem_cons.mpr ⟨am_Snd.toF ((s_iloadn (am_dp pw_L_law_640 dd_L_law_640b.2.1) rfl).to) hC, ?_⟩
  refine List.forall_mem_cons.mpr ⟨am_Snd.toF ((s_iconst (am_dp pw_L_law_640 dd_L_law_640b.2.2.1) (by decide)).to) hC, ?_⟩
  refine List.forall_mem_cons.mpr ⟨am_Snd.toF ((s_iadd (am_dp pw_L_law_640 dd_L_law_640b.2.2.2.1)).to) hC, ?_⟩
  refine List.forall_mem_cons.mpr ⟨f_sld hC hX hb (am_dp pw_L_law_640 dd_L_law_640b.2.2.2.2.1), ?_⟩
  refine List.forall_mem_cons.mpr ⟨am_Snd.toF (zw_cv256 (am_dp pw_L_law_640 dd_L_law_640b.2.2.2.2.2.1) wd1934) hC, ?_⟩
  refine List.forall_mem_cons.mpr ⟨am_Snd.toF ((s_pop (am_dp pw_L_law_640 dd_L_law_640b.2.2.2.2.2.2.1)).to) hC, ?_⟩
  refine List.forall_mem_cons.mpr ⟨am_Snd.toF ((s_goto (am_dp pw_L_law_640 dd_L_law_640b.2.2.2.2.2.2.2) (by decide)).to) hC, ?_⟩
  refine List.forall_mem_cons.mpr ⟨am_Snd.toF ((s_aloadn (am_dp pw_L_law_640 dd_L_law_640c.1) rfl).to) hC, ?_⟩
  refine List.forall_mem_cons.mpr ⟨am_Snd.toF ((s_aloadn (am_dp pw_L_law_640 dd_L_law_640c.2.1) rfl).to) hC, ?_⟩
  refine List.forall_mem_cons.mpr ⟨am_Snd.toF ((s_iloadn (am_dp pw_L_law_640 dd_L_law_640c.2.2.1) rfl).to) hC, ?_⟩
  refine List.forall_mem_cons.mpr ⟨am_Snd.toF ((s_iconst (am_dp pw_L_law_640 dd_L_law_640c.2.2.2.1) (by decide)).to) hC, ?_⟩
  refine List.forall_mem_cons.mpr ⟨am_Snd.toF ((s_iadd (am_dp pw_L_law_640 dd_L_law_640c.2.2.2.2.1)).to) hC, ?_⟩
  refine List.forall_mem_cons.mpr ⟨f_sld hC hX hb (am_dp pw_L_law_640 dd_L_law_640c.2.2.2.2.2.1), ?_⟩
  refine List.forall_mem_cons.mpr ⟨am_Snd.toF ((s_aloadn (am_dp pw_L_law_640 dd_L_law_640c.2.2.2.2.2.2.1) rfl).to) hC, ?_⟩
  refine List.forall_mem_cons.mpr ⟨am_Snd.toF ((s_iloadn (am_dp pw_L_law_640 dd_L_law_640c.2.2.2.2.2.2.2) rfl).to) hC, ?_⟩
  refine List.forall_mem_cons.mpr ⟨am_Snd.toF ((s_iconst (am_dp pw_L_law_640 dd_L_law_640d.1) (by decide)).to) hC, ?_⟩
  refine List.forall_mem_cons.mpr ⟨am_Snd.toF ((s_iadd (am_dp pw_L_law_640 dd_L_law_640d.2.1)).to) hC, ?_⟩
  refine List.forall_mem_cons.mpr ⟨f_sld hC hX hb (am_dp pw_L_law_640 dd_L_law_640d.2.2.1), ?_⟩
  refine List.forall_mem_cons.mpr ⟨am_Snd.toF ((s_aloadn (am_dp pw_L_law_640 dd_L_law_640d.2.2.2) rfl).to) hC, ?_⟩
  refine List.forall_mem_cons.mpr ⟨am_Snd.toF ((s_iloadn (am_dp pw_L_law_672 dd_L_law_672a.1) rfl).to) hC, ?_⟩
  refine List.forall_mem_cons.mpr ⟨am_Snd.toF ((s_iconst (am_dp pw_L_law_672 dd_L_law_672a.2.1) (by decide)).to) hC, ?_⟩
  exact fun _ h => absurd h List.not_mem_nil
theorem snL_7 (hC : am_Cx G RL code 4 (some .boolean) nm p s m args meth c) (hX : va_X (G.2.1.1 0) L xs s s.heap) (hb : G.2.1.1 0 < G.1) : ∀ q ∈ tL_7 xs L, am_SndF am_P0 G 4 p l e R s m args below meth c q.1 q.2 := by
  unfold tL_7
  refine List.forall_mem_cons.mpr ⟨am_Snd.toF ((s_iadd (am_dp pw_L_law_672 dd_L_law_672a.2.2.1)).to) hC, ?_⟩
  refine List.forall_mem_cons.mpr ⟨f_sld hC hX hb (am_dp pw_L_law_672 dd_L_law_672a.2.2.2.1), ?_⟩
  refine List.forall_mem_cons.mpr ⟨am_Snd.toF ((s_aloadn (am_dp pw_L_law_672 dd_L_law_672a.2.2.2.2.1) rfl).to) hC, ?_⟩
  refine List.forall_mem_cons.mpr ⟨am_Snd.toF ((s_iloadn (am_dp pw_L_law_672 dd_L_law_672a.2.2.2.2.2.1) rfl).to) hC, ?_⟩
  refine List.forall_mem_cons.mpr ⟨am_Snd.toF ((s_iconst (am_dp pw_L_law_672 dd_L_law_672a.2.2.2.2.2.2.1) (by decide)).to) hC, ?_⟩
  refine List.forall_mem_cons.mpr ⟨am_Snd.toF ((s_iadd (am_dp pw_L_law_672 dd_L_law_672a.2.2.2.2.2.2.2)).to) hC, ?_⟩
  refine List.forall_mem_cons.mpr ⟨f_sld hC hX hb (am_dp pw_L_law_672 dd_L_law_672b.1), ?_⟩
  refine List.forall_mem_cons.mpr ⟨am_Snd.toF (zw_cv121 (am_dp pw_L_law_672 dd_L_law_672b.2.1) wd1082) hC, ?_⟩
  refine List.forall_mem_cons.mpr ⟨am_Snd.toF ((s_pop (am_dp pw_L_law_672 dd_L_law_672b.2.2.1)).to) hC, ?_⟩
  refine List.forall_mem_cons.mpr ⟨am_Snd.toF ((s_aloadn (am_dp pw_L_law_672 dd_L_law_672b.2.2.2.1) rfl).to) hC, ?_⟩
  refine List.forall_mem_cons.mpr ⟨am_Snd.toF ((s_aloadn (am_dp pw_L_law_672 dd_L_law_672b.2.2.2.2.1) rfl).to) hC, ?_⟩
  refine List.forall_mem_cons.mpr ⟨am_Snd.toF ((s_iloadn (am_dp pw_L_law_672 dd_L_law_672b.2.2.2.2.2.1) rfl).to) hC, ?_⟩
  refine List.forall_mem_cons.mpr ⟨am_Snd.toF ((s_iconst (am_dp pw_L_law_672 dd_L_law_672b.2.2.2.2.2.2.1) (by decide)).to) hC, ?_⟩
  refine List.forall_mem_cons.mpr ⟨am_Snd.toF ((s_iadd (am_dp pw_L_law_672 dd_L_law_672b.2.2.2.2.2.2.2)).to) hC, ?_⟩
  refine List.forall_mem_cons.mpr ⟨f_sld hC hX hb (am_dp pw_L_law_672 dd_L_law_672c.1), ?_⟩
  refine List.forall_mem_cons.mpr ⟨am_Snd.toF ((s_aloadn (am_dp pw_L_law_672 dd_L_law_672c.2.1) rfl).to) hC, ?_⟩
  refine List.forall_mem_cons.mpr ⟨am_Snd.toF ((s_iloadn (am_dp pw_L_law_672 dd_L_law_672c.2.2.1) rfl).to) hC, ?_⟩
  refine List.forall_mem_cons.mpr ⟨am_Snd.toF ((s_iconst (am_dp pw_L_law_672 dd_L_law_672c.2.2.2.1) (by decide)).to) hC, ?_⟩
  refine List.forall_mem_cons.mpr ⟨am_Snd.toF ((s_iadd (am_dp pw_L_law_672 dd_L_law_672c.2.2.2.2.1)).to) hC, ?_⟩
  refine List.forall_mem_cons.mpr ⟨f_sld hC hX hb (am_dp pw_L_law_672 dd_L_law_672c.2.2.2.2.2.1), ?_⟩
  refine List.forall_mem_cons.mpr ⟨am_Snd.toF ((s_aloadn (am_dp pw_L_law_672 dd_L_law_672c.2.2.2.2.2.2.1) rfl).to) hC, ?_⟩
  refine List.forall_mem_cons.mpr ⟨am_Snd.toF ((s_iloadn (am_dp pw_L_law_672 dd_L_law_672c.2.2.2.2.2.2.2) rfl).to) hC, ?_⟩
  refine List.forall_mem_cons.mpr ⟨am_Snd.toF ((s_iconst (am_dp pw_L_law_672 dd_L_law_672d.1) (by decide)).to) hC, ?_⟩
  refine List.forall_mem_cons.mpr ⟨am_Snd.toF ((s_iadd (am_dp pw_L_law_672 dd_L_law_672d.2.1)).to) hC, ?_⟩
  refine List.forall_mem_cons.mpr ⟨f_sld hC hX hb (am_dp pw_L_law_672 dd_L_law_672d.2.2.1), ?_⟩
  refine List.forall_mem_cons.mpr ⟨am_Snd.toF ((s_aloadn (am_dp pw_L_law_672 dd_L_law_672d.2.2.2.1) rfl).to) hC, ?_⟩
  refine List.forall_mem_cons.mpr ⟨am_Snd.toF ((s_iloadn (am_dp pw_L_law_672 dd_L_law_672d.2.2.2.2.1) rfl).to) hC, ?_⟩
  refine List.forall_mem_cons.mpr ⟨am_Snd.toF ((s_iconst (am_dp pw_L_law_672 dd_L_law_672d.2.2.2.2.2) (by decide)).to) hC, ?_⟩
  refine List.forall_mem_cons.mpr ⟨am_Snd.toF ((s_iadd (am_dp pw_L_law_704 dd_L_law_704a.1)).to) hC, ?_⟩
  refine List.forall_mem_cons.mpr ⟨f_sld hC hX hb (am_dp pw_L_law_704 dd_L_law_704a.2.1), ?_⟩
  refine List.forall_mem_cons.mpr ⟨am_Snd.toF (zw_cv257 (am_dp pw_L_law_704 dd_L_law_704a.2.2.1) wd1950) hC, ?_⟩
  refine List.forall_mem_cons.mpr ⟨am_Snd.toF ((s_pop (am_dp pw_L_law_704 dd_L_law_704a.2.2.2.1)).to) hC, ?_⟩
  refine List.forall_mem_cons.mpr ⟨am_Snd.toF ((s_goto (am_dp pw_L_law_704 dd_L_law_704a.2.2.2.2.1) (by decide)).to) hC, ?_⟩
  refine List.forall_mem_cons.mpr ⟨am_Snd.toF ((s_aloadn (am_dp pw_L_law_704 dd_L_law_704a.2.2.2.2.2.1) rfl).to) hC, ?_⟩
  refine List.forall_mem_cons.mpr ⟨am_Snd.toF ((s_aloadn (am_dp pw_L_law_704 dd_L_law_704a.2.2.2.2.2.2.1) rfl).to) hC, ?_⟩
  refine List.forall_mem_cons.mpr ⟨am_Snd.toF ((s_iloadn (am_dp pw_L_law_704 dd_L_law_704a.2.2.2.2.2.2.2) rfl).to) hC, ?_⟩
  refine List.forall_mem_cons.mpr ⟨am_Snd.toF ((s_iconst (am_dp pw_L_law_704 dd_L_law_704b.1) (by decide)).to) hC, ?_⟩
  refine List.forall_mem_cons.mpr ⟨am_Snd.toF ((s_iadd (am_dp pw_L_law_704 dd_L_law_704b.2.1)).to) hC, ?_⟩
  refine List.forall_mem_cons.mpr ⟨f_sld hC hX hb (am_dp pw_L_law_704 dd_L_law_704b.2.2.1), ?_⟩
  refine List.forall_mem_cons.mpr ⟨am_Snd.toF ((s_aloadn (am_dp pw_L_law_704 dd_L_law_704b.2.2.2.1) rfl).to) hC, ?_⟩
  refine List.forall_mem_cons.mpr ⟨am_Snd.toF ((s_iloadn (am_dp pw_L_law_704 dd_L_law_704b.2.2.2.2.1) rfl).to) hC, ?_⟩
  refine List.forall_mem_cons.mpr ⟨am_Snd.toF ((s_iconst (am_dp pw_L_law_704 dd_L_law_704b.2.2.2.2.2.1) (by decide)).to) hC, ?_⟩
  refine List.forall_mem_cons.mpr ⟨am_Snd.toF ((s_iadd (am_dp pw_L_law_704 dd_L_law_704b.2.2.2.2.2.2.1)).to) hC, ?_⟩
  refine List.forall_mem_cons.mpr ⟨f_sld hC hX hb (am_dp pw_L_law_704 dd_L_law_704b.2.2.2.2.2.2.2), ?_⟩
  refine List.forall_mem_cons.mpr ⟨am_Snd.toF (zw_cv122 (am_dp pw_L_law_704 dd_L_law_704c.1) wd1086) hC, ?_⟩
  refine List.forall_mem_cons.mpr ⟨am_Snd.toF ((s_pop (am_dp pw_L_law_704 dd_L_law_704c.2.1)).to) hC, ?_⟩
  refine List.forall_mem_cons.mpr ⟨am_Snd.toF ((s_aloadn (am_dp pw_L_law_704 dd_L_law_704c.2.2.1) rfl).to) hC, ?_⟩
  refine List.forall_mem_cons.mpr ⟨am_Snd.toF ((s_aloadn (am_dp pw_L_law_704 dd_L_law_704c.2.2.2.1) rfl).to) hC, ?_⟩
  refine List.forall_mem_cons.mpr ⟨am_Snd.toF ((s_iloadn (am_dp pw_L_law_704 dd_L_law_704c.2.2.2.2.1) rfl).to) hC, ?_⟩
  refine List.forall_mem_cons.mpr ⟨am_Snd.toF ((s_iconst (am_dp pw_L_law_704 dd_L_law_704c.2.2.2.2.2.1) (by decide)).to) hC, ?_⟩
  refine List.forall_mem_cons.mpr ⟨am_Snd.toF ((s_iadd (am_dp pw_L_law_704 dd_L_law_704c.2.2.2.2.2.2.1)).to) hC, ?_⟩
  refine List.forall_mem_cons.mpr ⟨f_sld hC hX hb (am_dp pw_L_law_704 dd_L_law_704c.2.2.2.2.2.2.2), ?_⟩
  refine List.forall_mem_cons.mpr ⟨am_Snd.toF ((s_aloadn (am_dp pw_L_law_704 dd_L_law_704d.1) rfl).to) hC, ?_⟩
  refine List.forall_mem_cons.mpr ⟨am_Snd.toF ((s_iloadn (am_dp pw_L_law_704 dd_L_law_704d.2) rfl).to) hC, ?_⟩
  refine List.forall_mem_cons.mpr ⟨am_Snd.toF ((s_iconst (am_dp pw_L_law_736 dd_L_law_736a.1) (by decide)).to) hC, ?_⟩
  refine List.forall_mem_cons.mpr ⟨am_Snd.toF ((s_iadd (am_dp pw_L_law_736 dd_L_law_736a.2.1)).to) hC, ?_⟩
  refine List.forall_mem_cons.mpr ⟨f_sld hC hX hb (am_dp pw_L_law_736 dd_L_law_736a.2.2.1), ?_⟩
  refine List.forall_mem_cons.mpr ⟨am_Snd.toF (zw_cv266 (am_dp pw_L_law_736 dd_L_law_736a.2.2.2.1) wd1954) hC, ?_⟩
  refine List.forall_mem_cons.mpr ⟨am_Snd.toF ((s_pop (am_dp pw_L_law_736 dd_L_law_736a.2.2.2.2.1)).to) hC, ?_⟩
  refine List.forall_mem_cons.mpr ⟨am_Snd.toF ((s_goto (am_dp pw_L_law_736 dd_L_law_736a.2.2.2.2.2.1) (by decide)).to) hC, ?_⟩
  exact fun _ h => absurd h List.not_mem_nil
theorem snL_8 (hC : am_Cx G RL code 4 (some .boolean) nm p s m args meth c) (hX : va_X (G.2.1.1 0) L xs s s.heap) (hb : G.2.1.1 0 < G.1) : ∀ q ∈ tL_8 xs L, am_SndF am_P0 G 4 p l e R s m args below meth c q.1 q.2 := by
  unfold tL_8
  refine List.forall_mem_cons.mpr ⟨am_Snd.toF ((s_aloadn (am_dp pw_L_law_736 dd_L_law_736a.2.2.2.2.2.2.1) rfl).to) hC, ?_⟩
  refine List.forall_mem_cons.mpr ⟨am_Snd.toF ((s_aloadn (am_dp pw_L_law_736 dd_L_law_736a.2.2.2.2.2.2.2) rfl).to) hC, ?_⟩
  refine List.forall_mem_cons.mpr ⟨am_Snd.toF ((s_iloadn (am_dp pw_L_law_736 dd_L_law_736b.1) rfl).to) hC, ?_⟩
  refine List.forall_mem_cons.mpr ⟨am_Snd.toF ((s_iconst (am_dp pw_L_law_736 dd_L_law_736b.2.1) (by decide)).to) hC, ?_⟩
  refine List.forall_mem_cons.mpr ⟨am_Snd.toF ((s_iadd (am_dp pw_L_law_736 dd_L_law_736b.2.2.1)).to) hC, ?_⟩
  refine List.forall_mem_cons.mpr ⟨f_sld hC hX hb (am_dp pw_L_law_736 dd_L_law_736b.2.2.2.1), ?_⟩
  refine List.forall_mem_cons.mpr ⟨am_Snd.toF ((s_aloadn (am_dp pw_L_law_736 dd_L_law_736b.2.2.2.2.1) rfl).to) hC, ?_⟩
  refine List.forall_mem_cons.mpr ⟨am_Snd.toF ((s_iloadn (am_dp pw_L_law_736 dd_L_law_736b.2.2.2.2.2.1) rfl).to) hC, ?_⟩
  refine List.forall_mem_cons.mpr ⟨am_Snd.toF ((s_iconst (am_dp pw_L_law_736 dd_L_law_736b.2.2.2.2.2.2.1) (by decide)).to) hC, ?_⟩
  refine List.forall_mem_cons.mpr ⟨am_Snd.toF ((s_iadd (am_dp pw_L_law_736 dd_L_law_736b.2.2.2.2.2.2.2)).to) hC, ?_⟩
  refine List.forall_mem_cons.mpr ⟨f_sld hC hX hb (am_dp pw_L_law_736 dd_L_law_736c.1), ?_⟩
  refine List.forall_mem_cons.mpr ⟨am_Snd.toF (zw_cv123 (am_dp pw_L_law_736 dd_L_law_736c.2.1) wd1133) hC, ?_⟩
  refine List.forall_mem_cons.mpr ⟨am_Snd.toF ((s_pop (am_dp pw_L_law_736 dd_L_law_736c.2.2.1)).to) hC, ?_⟩
  refine List.forall_mem_cons.mpr ⟨am_Snd.toF ((s_aloadn (am_dp pw_L_law_736 dd_L_law_736c.2.2.2.1) rfl).to) hC, ?_⟩
  refine List.forall_mem_cons.mpr ⟨am_Snd.toF ((s_aloadn (am_dp pw_L_law_736 dd_L_law_736c.2.2.2.2.1) rfl).to) hC, ?_⟩
  refine List.forall_mem_cons.mpr ⟨am_Snd.toF ((s_iloadn (am_dp pw_L_law_736 dd_L_law_736c.2.2.2.2.2.1) rfl).to) hC, ?_⟩
  refine List.forall_mem_cons.mpr ⟨am_Snd.toF ((s_iconst (am_dp pw_L_law_736 dd_L_law_736c.2.2.2.2.2.2.1) (by decide)).to) hC, ?_⟩
  refine List.forall_mem_cons.mpr ⟨am_Snd.toF ((s_iadd (am_dp pw_L_law_736 dd_L_law_736c.2.2.2.2.2.2.2)).to) hC, ?_⟩
  refine List.forall_mem_cons.mpr ⟨f_sld hC hX hb (am_dp pw_L_law_736 dd_L_law_736d.1), ?_⟩
  refine List.forall_mem_cons.mpr ⟨am_Snd.toF ((s_aloadn (am_dp pw_L_law_736 dd_L_law_736d.2) rfl).to) hC, ?_⟩
  refine List.forall_mem_cons.mpr ⟨am_Snd.toF ((s_iloadn (am_dp pw_L_law_768 dd_L_law_768a.1) rfl).to) hC, ?_⟩
  refine List.forall_mem_cons.mpr ⟨am_Snd.toF ((s_iconst (am_dp pw_L_law_768 dd_L_law_768a.2.1) (by decide)).to) hC, ?_⟩
  refine List.forall_mem_cons.mpr ⟨am_Snd.toF ((s_iadd (am_dp pw_L_law_768 dd_L_law_768a.2.2.1)).to) hC, ?_⟩
  refine List.forall_mem_cons.mpr ⟨f_sld hC hX hb (am_dp pw_L_law_768 dd_L_law_768a.2.2.2.1), ?_⟩
  refine List.forall_mem_cons.mpr ⟨am_Snd.toF (zw_cv268 (am_dp pw_L_law_768 dd_L_law_768a.2.2.2.2.1) wd1998) hC, ?_⟩
  refine List.forall_mem_cons.mpr ⟨am_Snd.toF ((s_pop (am_dp pw_L_law_768 dd_L_law_768a.2.2.2.2.2.1)).to) hC, ?_⟩
  refine List.forall_mem_cons.mpr ⟨am_Snd.toF ((s_goto (am_dp pw_L_law_768 dd_L_law_768a.2.2.2.2.2.2.1) (by decide)).to) hC, ?_⟩
  refine List.forall_mem_cons.mpr ⟨am_Snd.toF ((s_aloadn (am_dp pw_L_law_768 dd_L_law_768a.2.2.2.2.2.2.2) rfl).to) hC, ?_⟩
  refine List.forall_mem_cons.mpr ⟨am_Snd.toF ((s_aloadn (am_dp pw_L_law_768 dd_L_law_768b.1) rfl).to) hC, ?_⟩
  refine List.forall_mem_cons.mpr ⟨am_Snd.toF ((s_iloadn (am_dp pw_L_law_768 dd_L_law_768b.2.1) rfl).to) hC, ?_⟩
  refine List.forall_mem_cons.mpr ⟨am_Snd.toF ((s_iconst (am_dp pw_L_law_768 dd_L_law_768b.2.2.1) (by decide)).to) hC, ?_⟩
  refine List.forall_mem_cons.mpr ⟨am_Snd.toF ((s_iadd (am_dp pw_L_law_768 dd_L_law_768b.2.2.2.1)).to) hC, ?_⟩
  refine List.forall_mem_cons.mpr ⟨f_sld hC hX hb (am_dp pw_L_law_768 dd_L_law_768b.2.2.2.2.1), ?_⟩
  refine List.forall_mem_cons.mpr ⟨am_Snd.toF (zw_cv124 (am_dp pw_L_law_768 dd_L_law_768b.2.2.2.2.2.1) wd1137) hC, ?_⟩
  refine List.forall_mem_cons.mpr ⟨am_Snd.toF ((s_pop (am_dp pw_L_law_768 dd_L_law_768b.2.2.2.2.2.2.1)).to) hC, ?_⟩
  refine List.forall_mem_cons.mpr ⟨am_Snd.toF ((s_aloadn (am_dp pw_L_law_768 dd_L_law_768b.2.2.2.2.2.2.2) rfl).to) hC, ?_⟩
  refine List.forall_mem_cons.mpr ⟨am_Snd.toF ((s_aloadn (am_dp pw_L_law_768 dd_L_law_768c.1) rfl).to) hC, ?_⟩
  refine List.forall_mem_cons.mpr ⟨am_Snd.toF ((s_iloadn (am_dp pw_L_law_768 dd_L_law_768c.2.1) rfl).to) hC, ?_⟩
  refine List.forall_mem_cons.mpr ⟨am_Snd.toF ((s_iconst (am_dp pw_L_law_768 dd_L_law_768c.2.2.1) (by decide)).to) hC, ?_⟩
  refine List.forall_mem_cons.mpr ⟨am_Snd.toF ((s_iadd (am_dp pw_L_law_768 dd_L_law_768c.2.2.2.1)).to) hC, ?_⟩
  refine List.forall_mem_cons.mpr ⟨f_sld hC hX hb (am_dp pw_L_law_768 dd_L_law_768c.2.2.2.2.1), ?_⟩
  refine List.forall_mem_cons.mpr ⟨am_Snd.toF (zw_cv269 (am_dp pw_L_law_768 dd_L_law_768c.2.2.2.2.2.1) wd2006) hC, ?_⟩
  refine List.forall_mem_cons.mpr ⟨am_Snd.toF ((s_pop (am_dp pw_L_law_768 dd_L_law_768c.2.2.2.2.2.2.1)).to) hC, ?_⟩
  refine List.forall_mem_cons.mpr ⟨am_Snd.toF ((s_goto (am_dp pw_L_law_768 dd_L_law_768c.2.2.2.2.2.2.2) (by decide)).to) hC, ?_⟩
  refine List.forall_mem_cons.mpr ⟨am_Snd.toF ((s_aloadn (am_dp pw_L_law_800 dd_L_law_800a.1) rfl).to) hC, ?_⟩
  refine List.forall_mem_cons.mpr ⟨am_Snd.toF ((s_aloadn (am_dp pw_L_law_800 dd_L_law_800a.2.1) rfl).to) hC, ?_⟩
  refine List.forall_mem_cons.mpr ⟨am_Snd.toF ((s_iloadn (am_dp pw_L_law_800 dd_L_law_800a.2.2.1) rfl).to) hC, ?_⟩
  refine List.forall_mem_cons.mpr ⟨am_Snd.toF ((s_iconst (am_dp pw_L_law_800 dd_L_law_800a.2.2.2.1) (by decide)).to) hC, ?_⟩
  refine List.forall_mem_cons.mpr ⟨am_Snd.toF ((s_iadd (am_dp pw_L_law_800 dd_L_law_800a.2.2.2.2.1)).to) hC, ?_⟩
  refine List.forall_mem_cons.mpr ⟨f_sld hC hX hb (am_dp pw_L_law_800 dd_L_law_800a.2.2.2.2.2.1), ?_⟩
  refine List.forall_mem_cons.mpr ⟨am_Snd.toF ((s_aloadn (am_dp pw_L_law_800 dd_L_law_800a.2.2.2.2.2.2.1) rfl).to) hC, ?_⟩
  refine List.forall_mem_cons.mpr ⟨am_Snd.toF ((s_iloadn (am_dp pw_L_law_800 dd_L_law_800a.2.2.2.2.2.2.2) rfl).to) hC, ?_⟩
  refine List.forall_mem_cons.mpr ⟨am_Snd.toF ((s_iconst (am_dp pw_L_law_800 dd_L_law_800b.1) (by decide)).to) hC, ?_⟩
  refine List.forall_mem_cons.mpr ⟨am_Snd.toF ((s_iadd (am_dp pw_L_law_800 dd_L_law_800b.2.1)).to) hC, ?_⟩
  refine List.forall_mem_cons.mpr ⟨f_sld hC hX hb (am_dp pw_L_law_800 dd_L_law_800b.2.2.1), ?_⟩
  refine List.forall_mem_cons.mpr ⟨am_Snd.toF (zw_cv125 (am_dp pw_L_law_800 dd_L_law_800b.2.2.2.1) wd1145) hC, ?_⟩
  refine List.forall_mem_cons.mpr ⟨am_Snd.toF ((s_pop (am_dp pw_L_law_800 dd_L_law_800b.2.2.2.2.1)).to) hC, ?_⟩
  refine List.forall_mem_cons.mpr ⟨am_Snd.toF ((s_aloadn (am_dp pw_L_law_800 dd_L_law_800b.2.2.2.2.2.1) rfl).to) hC, ?_⟩
  refine List.forall_mem_cons.mpr ⟨am_Snd.toF ((s_aloadn (am_dp pw_L_law_800 dd_L_law_800b.2.2.2.2.2.2.1) rfl).to) hC, ?_⟩
  refine List.forall_mem_cons.mpr ⟨am_Snd.toF ((s_iloadn (am_dp pw_L_law_800 dd_L_law_800b.2.2.2.2.2.2.2) rfl).to) hC, ?_⟩
  exact fun _ h => absurd h List.not_mem_nil
theorem snL_9 (hC : am_Cx G RL code 4 (some .boolean) nm p s m args meth c) (hX : va_X (G.2.1.1 0) L xs s s.heap) (hb : G.2.1.1 0 < G.1) : ∀ q ∈ tL_9 xs L, am_SndF am_P0 G 4 p l e R s m args below meth c q.1 q.2 := by
  unfold tL_9
  refine List.forall_mem_cons.mpr ⟨am_Snd.toF ((s_iconst (am_dp pw_L_law_800 dd_L_law_800c.1) (by decide)).to) hC, ?_⟩
  refine List.forall_mem_cons.mpr ⟨am_Snd.toF ((s_iadd (am_dp pw_L_law_800 dd_L_law_800c.2.1)).to) hC, ?_⟩
  refine List.forall_mem_cons.mpr ⟨f_sld hC hX hb (am_dp pw_L_law_800 dd_L_law_800c.2.2.1), ?_⟩
  refine List.forall_mem_cons.mpr ⟨am_Snd.toF ((s_aloadn (am_dp pw_L_law_800 dd_L_law_800c.2.2.2.1) rfl).to) hC, ?_⟩
  refine List.forall_mem_cons.mpr ⟨am_Snd.toF ((s_iloadn (am_dp pw_L_law_800 dd_L_law_800c.2.2.2.2.1) rfl).to) hC, ?_⟩
  refine List.forall_mem_cons.mpr ⟨am_Snd.toF ((s_iconst (am_dp pw_L_law_800 dd_L_law_800c.2.2.2.2.2.1) (by decide)).to) hC, ?_⟩
  refine List.forall_mem_cons.mpr ⟨am_Snd.toF ((s_iadd (am_dp pw_L_law_800 dd_L_law_800c.2.2.2.2.2.2.1)).to) hC, ?_⟩
  refine List.forall_mem_cons.mpr ⟨f_sld hC hX hb (am_dp pw_L_law_800 dd_L_law_800c.2.2.2.2.2.2.2), ?_⟩
  refine List.forall_mem_cons.mpr ⟨am_Snd.toF (zw_cv270 (am_dp pw_L_law_800 dd_L_law_800d.1) wd2010) hC, ?_⟩
  refine List.forall_mem_cons.mpr ⟨am_Snd.toF ((s_pop (am_dp pw_L_law_800 dd_L_law_800d.2)).to) hC, ?_⟩
  refine List.forall_mem_cons.mpr ⟨am_Snd.toF ((s_goto (am_dp pw_L_law_832 dd_L_law_832a.1) (by decide)).to) hC, ?_⟩
  refine List.forall_mem_cons.mpr ⟨am_Snd.toF ((s_aloadn (am_dp pw_L_law_832 dd_L_law_832a.2.1) rfl).to) hC, ?_⟩
  refine List.forall_mem_cons.mpr ⟨am_Snd.toF ((s_aloadn (am_dp pw_L_law_832 dd_L_law_832a.2.2.1) rfl).to) hC, ?_⟩
  refine List.forall_mem_cons.mpr ⟨am_Snd.toF ((s_iloadn (am_dp pw_L_law_832 dd_L_law_832a.2.2.2.1) rfl).to) hC, ?_⟩
  refine List.forall_mem_cons.mpr ⟨am_Snd.toF ((s_iconst (am_dp pw_L_law_832 dd_L_law_832a.2.2.2.2.1) (by decide)).to) hC, ?_⟩
  refine List.forall_mem_cons.mpr ⟨am_Snd.toF ((s_iadd (am_dp pw_L_law_832 dd_L_law_832a.2.2.2.2.2.1)).to) hC, ?_⟩
  refine List.forall_mem_cons.mpr ⟨f_sld hC hX hb (am_dp pw_L_law_832 dd_L_law_832a.2.2.2.2.2.2.1), ?_⟩
  refine List.forall_mem_cons.mpr ⟨am_Snd.toF (zw_cv126 (am_dp pw_L_law_832 dd_L_law_832a.2.2.2.2.2.2.2) wd1158) hC, ?_⟩
  refine List.forall_mem_cons.mpr ⟨am_Snd.toF ((s_pop (am_dp pw_L_law_832 dd_L_law_832b.1)).to) hC, ?_⟩
  refine List.forall_mem_cons.mpr ⟨am_Snd.toF ((s_aloadn (am_dp pw_L_law_832 dd_L_law_832b.2.1) rfl).to) hC, ?_⟩
  refine List.forall_mem_cons.mpr ⟨am_Snd.toF ((s_aloadn (am_dp pw_L_law_832 dd_L_law_832b.2.2.1) rfl).to) hC, ?_⟩
  refine List.forall_mem_cons.mpr ⟨am_Snd.toF ((s_iloadn (am_dp pw_L_law_832 dd_L_law_832b.2.2.2.1) rfl).to) hC, ?_⟩
  refine List.forall_mem_cons.mpr ⟨am_Snd.toF ((s_iconst (am_dp pw_L_law_832 dd_L_law_832b.2.2.2.2.1) (by decide)).to) hC, ?_⟩
  refine List.forall_mem_cons.mpr ⟨am_Snd.toF ((s_iadd (am_dp pw_L_law_832 dd_L_law_832b.2.2.2.2.2.1)).to) hC, ?_⟩
  refine List.forall_mem_cons.mpr ⟨f_sld hC hX hb (am_dp pw_L_law_832 dd_L_law_832b.2.2.2.2.2.2.1), ?_⟩
  refine List.forall_mem_cons.mpr ⟨am_Snd.toF (zw_cv271 (am_dp pw_L_law_832 dd_L_law_832b.2.2.2.2.2.2.2) wd2014) hC, ?_⟩
  refine List.forall_mem_cons.mpr ⟨am_Snd.toF ((s_pop (am_dp pw_L_law_832 dd_L_law_832c.1)).to) hC, ?_⟩
  refine List.forall_mem_cons.mpr ⟨am_Snd.toF ((s_goto (am_dp pw_L_law_832 dd_L_law_832c.2.1) (by decide)).to) hC, ?_⟩
  refine List.forall_mem_cons.mpr ⟨am_Snd.toF ((s_aloadn (am_dp pw_L_law_832 dd_L_law_832c.2.2.1) rfl).to) hC, ?_⟩
  refine List.forall_mem_cons.mpr ⟨am_Snd.toF ((s_aloadn (am_dp pw_L_law_832 dd_L_law_832c.2.2.2.1) rfl).to) hC, ?_⟩
  refine List.forall_mem_cons.mpr ⟨am_Snd.toF ((s_iloadn (am_dp pw_L_law_832 dd_L_law_832c.2.2.2.2.1) rfl).to) hC, ?_⟩
  refine List.forall_mem_cons.mpr ⟨am_Snd.toF ((s_iconst (am_dp pw_L_law_832 dd_L_law_832c.2.2.2.2.2.1) (by decide)).to) hC, ?_⟩
  refine List.forall_mem_cons.mpr ⟨am_Snd.toF ((s_iadd (am_dp pw_L_law_832 dd_L_law_832c.2.2.2.2.2.2.1)).to) hC, ?_⟩
  refine List.forall_mem_cons.mpr ⟨f_sld hC hX hb (am_dp pw_L_law_832 dd_L_law_832c.2.2.2.2.2.2.2), ?_⟩
  refine List.forall_mem_cons.mpr ⟨am_Snd.toF ((s_aloadn (am_dp pw_L_law_864 dd_L_law_864a.1) rfl).to) hC, ?_⟩
  refine List.forall_mem_cons.mpr ⟨am_Snd.toF ((s_iloadn (am_dp pw_L_law_864 dd_L_law_864a.2.1) rfl).to) hC, ?_⟩
  refine List.forall_mem_cons.mpr ⟨am_Snd.toF ((s_iconst (am_dp pw_L_law_864 dd_L_law_864a.2.2.1) (by decide)).to) hC, ?_⟩
  refine List.forall_mem_cons.mpr ⟨am_Snd.toF ((s_iadd (am_dp pw_L_law_864 dd_L_law_864a.2.2.2.1)).to) hC, ?_⟩
  refine List.forall_mem_cons.mpr ⟨f_sld hC hX hb (am_dp pw_L_law_864 dd_L_law_864a.2.2.2.2.1), ?_⟩
  refine List.forall_mem_cons.mpr ⟨am_Snd.toF (zw_cv127 (am_dp pw_L_law_864 dd_L_law_864a.2.2.2.2.2.1) wd1162) hC, ?_⟩
  refine List.forall_mem_cons.mpr ⟨am_Snd.toF ((s_pop (am_dp pw_L_law_864 dd_L_law_864a.2.2.2.2.2.2.1)).to) hC, ?_⟩
  refine List.forall_mem_cons.mpr ⟨am_Snd.toF ((s_aloadn (am_dp pw_L_law_864 dd_L_law_864a.2.2.2.2.2.2.2) rfl).to) hC, ?_⟩
  refine List.forall_mem_cons.mpr ⟨am_Snd.toF ((s_aloadn (am_dp pw_L_law_864 dd_L_law_864b.1) rfl).to) hC, ?_⟩
  refine List.forall_mem_cons.mpr ⟨am_Snd.toF ((s_iloadn (am_dp pw_L_law_864 dd_L_law_864b.2.1) rfl).to) hC, ?_⟩
  refine List.forall_mem_cons.mpr ⟨am_Snd.toF ((s_iconst (am_dp pw_L_law_864 dd_L_law_864b.2.2.1) (by decide)).to) hC, ?_⟩
  refine List.forall_mem_cons.mpr ⟨am_Snd.toF ((s_iadd (am_dp pw_L_law_864 dd_L_law_864b.2.2.2.1)).to) hC, ?_⟩
  refine List.forall_mem_cons.mpr ⟨f_sld hC hX hb (am_dp pw_L_law_864 dd_L_law_864b.2.2.2.2.1), ?_⟩
  refine List.forall_mem_cons.mpr ⟨am_Snd.toF ((s_aloadn (am_dp pw_L_law_864 dd_L_law_864b.2.2.2.2.2.1) rfl).to) hC, ?_⟩
  refine List.forall_mem_cons.mpr ⟨am_Snd.toF ((s_iloadn (am_dp pw_L_law_864 dd_L_law_864b.2.2.2.2.2.2.1) rfl).to) hC, ?_⟩
  refine List.forall_mem_cons.mpr ⟨am_Snd.toF ((s_iconst (am_dp pw_L_law_864 dd_L_law_864b.2.2.2.2.2.2.2) (by decide)).to) hC, ?_⟩
  refine List.forall_mem_cons.mpr ⟨am_Snd.toF ((s_iadd (am_dp pw_L_law_864 dd_L_law_864c.1)).to) hC, ?_⟩
  refine List.forall_mem_cons.mpr ⟨f_sld hC hX hb (am_dp pw_L_law_864 dd_L_law_864c.2.1), ?_⟩
  refine List.forall_mem_cons.mpr ⟨am_Snd.toF (zw_cv273 (am_dp pw_L_law_864 dd_L_law_864c.2.2.1) wd2018) hC, ?_⟩
  refine List.forall_mem_cons.mpr ⟨am_Snd.toF ((s_pop (am_dp pw_L_law_864 dd_L_law_864c.2.2.2.1)).to) hC, ?_⟩
  refine List.forall_mem_cons.mpr ⟨am_Snd.toF ((s_goto (am_dp pw_L_law_864 dd_L_law_864c.2.2.2.2.1) (by decide)).to) hC, ?_⟩
  refine List.forall_mem_cons.mpr ⟨am_Snd.toF ((s_aloadn (am_dp pw_L_law_864 dd_L_law_864c.2.2.2.2.2.1) rfl).to) hC, ?_⟩
  refine List.forall_mem_cons.mpr ⟨am_Snd.toF ((s_aloadn (am_dp pw_L_law_864 dd_L_law_864c.2.2.2.2.2.2.1) rfl).to) hC, ?_⟩
  refine List.forall_mem_cons.mpr ⟨am_Snd.toF ((s_iloadn (am_dp pw_L_law_864 dd_L_law_864c.2.2.2.2.2.2.2) rfl).to) hC, ?_⟩
  refine List.forall_mem_cons.mpr ⟨am_Snd.toF ((s_iconst (am_dp pw_L_law_864 dd_L_law_864d.1) (by decide)).to) hC, ?_⟩
  refine List.forall_mem_cons.mpr ⟨am_Snd.toF ((s_iadd (am_dp pw_L_law_864 dd_L_law_864d.2)).to) hC, ?_⟩
  exact fun _ h => absurd h List.not_mem_nil
theorem snL_10 (hC : am_Cx G RL code 4 (some .boolean) nm p s m args meth c) (hX : va_X (G.2.1.1 0) L xs s s.heap) (hb : G.2.1.1 0 < G.1) : ∀ q ∈ tL_10 xs L, am_SndF am_P0 G 4 p l e R s m args below meth c q.1 q.2 := by
  unfold tL_10
  refine List.forall_mem_cons.mpr ⟨f_sld hC hX hb (am_dp pw_L_law_896 dd_L_law_896a.1), ?_⟩
  refine List.forall_mem_cons.mpr ⟨am_Snd.toF (zw_cv128 (am_dp pw_L_law_896 dd_L_law_896a.2.1) wd1166) hC, ?_⟩
  refine List.forall_mem_cons.mpr ⟨am_Snd.toF ((s_pop (am_dp pw_L_law_896 dd_L_law_896a.2.2.1)).to) hC, ?_⟩
  refine List.forall_mem_cons.mpr ⟨am_Snd.toF ((s_aloadn (am_dp pw_L_law_896 dd_L_law_896a.2.2.2.1) rfl).to) hC, ?_⟩
  refine List.forall_mem_cons.mpr ⟨am_Snd.toF ((s_aloadn (am_dp pw_L_law_896 dd_L_law_896a.2.2.2.2.1) rfl).to) hC, ?_⟩
  refine List.forall_mem_cons.mpr ⟨am_Snd.toF ((s_iloadn (am_dp pw_L_law_896 dd_L_law_896a.2.2.2.2.2.1) rfl).to) hC, ?_⟩
  refine List.forall_mem_cons.mpr ⟨am_Snd.toF ((s_iconst (am_dp pw_L_law_896 dd_L_law_896a.2.2.2.2.2.2.1) (by decide)).to) hC, ?_⟩
  refine List.forall_mem_cons.mpr ⟨am_Snd.toF ((s_iadd (am_dp pw_L_law_896 dd_L_law_896a.2.2.2.2.2.2.2)).to) hC, ?_⟩
  refine List.forall_mem_cons.mpr ⟨f_sld hC hX hb (am_dp pw_L_law_896 dd_L_law_896b.1), ?_⟩
  refine List.forall_mem_cons.mpr ⟨am_Snd.toF (zw_cv274 (am_dp pw_L_law_896 dd_L_law_896b.2.1) wd2026) hC, ?_⟩
  refine List.forall_mem_cons.mpr ⟨am_Snd.toF ((s_pop (am_dp pw_L_law_896 dd_L_law_896b.2.2.1)).to) hC, ?_⟩
  refine List.forall_mem_cons.mpr ⟨am_Snd.toF ((s_goto (am_dp pw_L_law_896 dd_L_law_896b.2.2.2.1) (by decide)).to) hC, ?_⟩
  refine List.forall_mem_cons.mpr ⟨am_Snd.toF ((s_aloadn (am_dp pw_L_law_896 dd_L_law_896b.2.2.2.2.1) rfl).to) hC, ?_⟩
  refine List.forall_mem_cons.mpr ⟨am_Snd.toF (zw_cv129 (am_dp pw_L_law_896 dd_L_law_896b.2.2.2.2.2.1) wd1173) hC, ?_⟩
  refine List.forall_mem_cons.mpr ⟨am_Snd.toF ((s_pop (am_dp pw_L_law_896 dd_L_law_896b.2.2.2.2.2.2.1)).to) hC, ?_⟩
  refine List.forall_mem_cons.mpr ⟨am_Snd.toF ((s_aloadn (am_dp pw_L_law_896 dd_L_law_896b.2.2.2.2.2.2.2) rfl).to) hC, ?_⟩
  refine List.forall_mem_cons.mpr ⟨am_Snd.toF (zw_cv276 (am_dp pw_L_law_896 dd_L_law_896c.1) wd2030) hC, ?_⟩
  refine List.forall_mem_cons.mpr ⟨am_Snd.toF ((s_pop (am_dp pw_L_law_896 dd_L_law_896c.2.1)).to) hC, ?_⟩
  refine List.forall_mem_cons.mpr ⟨am_Snd.toF ((s_goto (am_dp pw_L_law_896 dd_L_law_896c.2.2.1) (by decide)).to) hC, ?_⟩
  refine List.forall_mem_cons.mpr ⟨am_Snd.toF ((s_aloadn (am_dp pw_L_law_896 dd_L_law_896c.2.2.2) rfl).to) hC, ?_⟩
  refine List.forall_mem_cons.mpr ⟨am_Snd.toF ((s_aloadn (am_dp pw_L_law_928 dd_L_law_928a.1) rfl).to) hC, ?_⟩
  refine List.forall_mem_cons.mpr ⟨am_Snd.toF ((s_iloadn (am_dp pw_L_law_928 dd_L_law_928a.2.1) rfl).to) hC, ?_⟩
  refine List.forall_mem_cons.mpr ⟨am_Snd.toF ((s_iconst (am_dp pw_L_law_928 dd_L_law_928a.2.2.1) (by decide)).to) hC, ?_⟩
  refine List.forall_mem_cons.mpr ⟨am_Snd.toF ((s_iadd (am_dp pw_L_law_928 dd_L_law_928a.2.2.2.1)).to) hC, ?_⟩
  refine List.forall_mem_cons.mpr ⟨f_sld hC hX hb (am_dp pw_L_law_928 dd_L_law_928a.2.2.2.2.1), ?_⟩
  refine List.forall_mem_cons.mpr ⟨am_Snd.toF ((s_aloadn (am_dp pw_L_law_928 dd_L_law_928a.2.2.2.2.2.1) rfl).to) hC, ?_⟩
  refine List.forall_mem_cons.mpr ⟨am_Snd.toF ((s_iloadn (am_dp pw_L_law_928 dd_L_law_928a.2.2.2.2.2.2.1) rfl).to) hC, ?_⟩
  refine List.forall_mem_cons.mpr ⟨am_Snd.toF ((s_iconst (am_dp pw_L_law_928 dd_L_law_928a.2.2.2.2.2.2.2) (by decide)).to) hC, ?_⟩
  refine List.forall_mem_cons.mpr ⟨am_Snd.toF ((s_iadd (am_dp pw_L_law_928 dd_L_law_928b.1)).to) hC, ?_⟩
  refine List.forall_mem_cons.mpr ⟨f_sld hC hX hb (am_dp pw_L_law_928 dd_L_law_928b.2.1), ?_⟩
  refine List.forall_mem_cons.mpr ⟨am_Snd.toF ((s_aloadn (am_dp pw_L_law_928 dd_L_law_928b.2.2.1) rfl).to) hC, ?_⟩
  refine List.forall_mem_cons.mpr ⟨am_Snd.toF ((s_iloadn (am_dp pw_L_law_928 dd_L_law_928b.2.2.2.1) rfl).to) hC, ?_⟩
  refine List.forall_mem_cons.mpr ⟨am_Snd.toF ((s_iconst (am_dp pw_L_law_928 dd_L_law_928b.2.2.2.2.1) (by decide)).to) hC, ?_⟩
  refine List.forall_mem_cons.mpr ⟨am_Snd.toF ((s_iadd (am_dp pw_L_law_928 dd_L_law_928b.2.2.2.2.2.1)).to) hC, ?_⟩
  refine List.forall_mem_cons.mpr ⟨f_sld hC hX hb (am_dp pw_L_law_928 dd_L_law_928b.2.2.2.2.2.2.1), ?_⟩
  refine List.forall_mem_cons.mpr ⟨am_Snd.toF (zw_cv130 (am_dp pw_L_law_928 dd_L_law_928b.2.2.2.2.2.2.2) wd1177) hC, ?_⟩
  refine List.forall_mem_cons.mpr ⟨am_Snd.toF ((s_pop (am_dp pw_L_law_928 dd_L_law_928c.1)).to) hC, ?_⟩
  refine List.forall_mem_cons.mpr ⟨am_Snd.toF ((s_aloadn (am_dp pw_L_law_928 dd_L_law_928c.2.1) rfl).to) hC, ?_⟩
  refine List.forall_mem_cons.mpr ⟨am_Snd.toF ((s_aloadn (am_dp pw_L_law_928 dd_L_law_928c.2.2.1) rfl).to) hC, ?_⟩
  refine List.forall_mem_cons.mpr ⟨am_Snd.toF ((s_iloadn (am_dp pw_L_law_928 dd_L_law_928c.2.2.2.1) rfl).to) hC, ?_⟩
  refine List.forall_mem_cons.mpr ⟨am_Snd.toF ((s_iconst (am_dp pw_L_law_928 dd_L_law_928c.2.2.2.2.1) (by decide)).to) hC, ?_⟩
  refine List.forall_mem_cons.mpr ⟨am_Snd.toF ((s_iadd (am_dp pw_L_law_928 dd_L_law_928c.2.2.2.2.2.1)).to) hC, ?_⟩
  refine List.forall_mem_cons.mpr ⟨f_sld hC hX hb (am_dp pw_L_law_928 dd_L_law_928c.2.2.2.2.2.2.1), ?_⟩
  refine List.forall_mem_cons.mpr ⟨am_Snd.toF ((s_aloadn (am_dp pw_L_law_928 dd_L_law_928c.2.2.2.2.2.2.2) rfl).to) hC, ?_⟩
  refine List.forall_mem_cons.mpr ⟨am_Snd.toF ((s_iloadn (am_dp pw_L_law_928 dd_L_law_928d.1) rfl).to) hC, ?_⟩
  refine List.forall_mem_cons.mpr ⟨am_Snd.toF ((s_iconst (am_dp pw_L_law_928 dd_L_law_928d.2.1) (by decide)).to) hC, ?_⟩
  refine List.forall_mem_cons.mpr ⟨am_Snd.toF ((s_iadd (am_dp pw_L_law_928 dd_L_law_928d.2.2.1)).to) hC, ?_⟩
  refine List.forall_mem_cons.mpr ⟨f_sld hC hX hb (am_dp pw_L_law_928 dd_L_law_928d.2.2.2.1), ?_⟩
  refine List.forall_mem_cons.mpr ⟨am_Snd.toF ((s_aloadn (am_dp pw_L_law_928 dd_L_law_928d.2.2.2.2.1) rfl).to) hC, ?_⟩
  refine List.forall_mem_cons.mpr ⟨am_Snd.toF ((s_iloadn (am_dp pw_L_law_928 dd_L_law_928d.2.2.2.2.2) rfl).to) hC, ?_⟩
  refine List.forall_mem_cons.mpr ⟨am_Snd.toF ((s_iconst (am_dp pw_L_law_960 dd_L_law_960a.1) (by decide)).to) hC, ?_⟩
  refine List.forall_mem_cons.mpr ⟨am_Snd.toF ((s_iadd (am_dp pw_L_law_960 dd_L_law_960a.2.1)).to) hC, ?_⟩
  refine List.forall_mem_cons.mpr ⟨f_sld hC hX hb (am_dp pw_L_law_960 dd_L_law_960a.2.2.1), ?_⟩
  refine List.forall_mem_cons.mpr ⟨am_Snd.toF (zw_cv278 (am_dp pw_L_law_960 dd_L_law_960a.2.2.2.1) wd2038) hC, ?_⟩
  refine List.forall_mem_cons.mpr ⟨am_Snd.toF ((s_pop (am_dp pw_L_law_960 dd_L_law_960a.2.2.2.2.1)).to) hC, ?_⟩
  refine List.forall_mem_cons.mpr ⟨am_Snd.toF ((s_goto (am_dp pw_L_law_960 dd_L_law_960a.2.2.2.2.2.1) (by decide)).to) hC, ?_⟩
  refine List.forall_mem_cons.mpr ⟨am_Snd.toF ((s_aloadn (am_dp pw_L_law_960 dd_L_law_960a.2.2.2.2.2.2.1) rfl).to) hC, ?_⟩
  refine List.forall_mem_cons.mpr ⟨am_Snd.toF ((s_aloadn (am_dp pw_L_law_960 dd_L_law_960a.2.2.2.2.2.2.2) rfl).to) hC, ?_⟩
  refine List.forall_mem_cons.mpr ⟨am_Snd.toF ((s_iloadn (am_dp pw_L_law_960 dd_L_law_960b.1) rfl).to) hC, ?_⟩
  refine List.forall_mem_cons.mpr ⟨am_Snd.toF ((s_iconst (am_dp pw_L_law_960 dd_L_law_960b.2.1) (by decide)).to) hC, ?_⟩
  exact fun _ h => absurd h List.not_mem_nil
theorem snL_11 (hC : am_Cx G RL code 4 (some .boolean) nm p s m args meth c) (hX : va_X (G.2.1.1 0) L xs s s.heap) (hb : G.2.1.1 0 < G.1) : ∀ q ∈ tL_11 xs L, am_SndF am_P0 G 4 p l e R s m args below meth c q.1 q.2 := by
  unfold tL_11
  refine List.forall_mem_cons.mpr ⟨am_Snd.toF ((s_iadd (am_dp pw_L_law_960 dd_L_law_960b.2.2.1)).to) hC, ?_⟩
  refine List.forall_mem_cons.mpr ⟨f_sld hC hX hb (am_dp pw_L_law_960 dd_L_law_960b.2.2.2.1), ?_⟩
  refine List.forall_mem_cons.mpr ⟨am_Snd.toF ((s_aloadn (am_dp pw_L_law_960 dd_L_law_960b.2.2.2.2.1) rfl).to) hC, ?_⟩
  refine List.forall_mem_cons.mpr ⟨am_Snd.toF ((s_iloadn (am_dp pw_L_law_960 dd_L_law_960b.2.2.2.2.2.1) rfl).to) hC, ?_⟩
  refine List.forall_mem_cons.mpr ⟨am_Snd.toF ((s_iconst (am_dp pw_L_law_960 dd_L_law_960b.2.2.2.2.2.2.1) (by decide)).to) hC, ?_⟩
  refine List.forall_mem_cons.mpr ⟨am_Snd.toF ((s_iadd (am_dp pw_L_law_960 dd_L_law_960b.2.2.2.2.2.2.2)).to) hC, ?_⟩
  refine List.forall_mem_cons.mpr ⟨f_sld hC hX hb (am_dp pw_L_law_960 dd_L_law_960c.1), ?_⟩
  refine List.forall_mem_cons.mpr ⟨am_Snd.toF (zw_cv131 (am_dp pw_L_law_960 dd_L_law_960c.2.1) wd1186) hC, ?_⟩
  refine List.forall_mem_cons.mpr ⟨am_Snd.toF ((s_pop (am_dp pw_L_law_960 dd_L_law_960c.2.2.1)).to) hC, ?_⟩
  refine List.forall_mem_cons.mpr ⟨am_Snd.toF ((s_aloadn (am_dp pw_L_law_960 dd_L_law_960c.2.2.2.1) rfl).to) hC, ?_⟩
  refine List.forall_mem_cons.mpr ⟨am_Snd.toF ((s_aloadn (am_dp pw_L_law_960 dd_L_law_960c.2.2.2.2.1) rfl).to) hC, ?_⟩
  refine List.forall_mem_cons.mpr ⟨am_Snd.toF ((s_iloadn (am_dp pw_L_law_960 dd_L_law_960c.2.2.2.2.2.1) rfl).to) hC, ?_⟩
  refine List.forall_mem_cons.mpr ⟨am_Snd.toF ((s_iconst (am_dp pw_L_law_960 dd_L_law_960c.2.2.2.2.2.2.1) (by decide)).to) hC, ?_⟩
  refine List.forall_mem_cons.mpr ⟨am_Snd.toF ((s_iadd (am_dp pw_L_law_960 dd_L_law_960c.2.2.2.2.2.2.2)).to) hC, ?_⟩
  refine List.forall_mem_cons.mpr ⟨f_sld hC hX hb (am_dp pw_L_law_960 dd_L_law_960d.1), ?_⟩
  refine List.forall_mem_cons.mpr ⟨am_Snd.toF ((s_aloadn (am_dp pw_L_law_960 dd_L_law_960d.2) rfl).to) hC, ?_⟩
  refine List.forall_mem_cons.mpr ⟨am_Snd.toF ((s_iloadn (am_dp pw_L_law_992 dd_L_law_992a.1) rfl).to) hC, ?_⟩
  refine List.forall_mem_cons.mpr ⟨am_Snd.toF ((s_iconst (am_dp pw_L_law_992 dd_L_law_992a.2.1) (by decide)).to) hC, ?_⟩
  refine List.forall_mem_cons.mpr ⟨am_Snd.toF ((s_iadd (am_dp pw_L_law_992 dd_L_law_992a.2.2.1)).to) hC, ?_⟩
  refine List.forall_mem_cons.mpr ⟨f_sld hC hX hb (am_dp pw_L_law_992 dd_L_law_992a.2.2.2.1), ?_⟩
  refine List.forall_mem_cons.mpr ⟨am_Snd.toF (zw_cv280 (am_dp pw_L_law_992 dd_L_law_992a.2.2.2.2.1) wd2046) hC, ?_⟩
  refine List.forall_mem_cons.mpr ⟨am_Snd.toF ((s_pop (am_dp pw_L_law_992 dd_L_law_992a.2.2.2.2.2.1)).to) hC, ?_⟩
  refine List.forall_mem_cons.mpr ⟨am_Snd.toF ((s_goto (am_dp pw_L_law_992 dd_L_law_992a.2.2.2.2.2.2.1) (by decide)).to) hC, ?_⟩
  refine List.forall_mem_cons.mpr ⟨am_Snd.toF ((s_aloadn (am_dp pw_L_law_992 dd_L_law_992a.2.2.2.2.2.2.2) rfl).to) hC, ?_⟩
  refine List.forall_mem_cons.mpr ⟨am_Snd.toF (zw_cv132 (am_dp pw_L_law_992 dd_L_law_992b.1) wd1194) hC, ?_⟩
  refine List.forall_mem_cons.mpr ⟨am_Snd.toF ((s_pop (am_dp pw_L_law_992 dd_L_law_992b.2.1)).to) hC, ?_⟩
  refine List.forall_mem_cons.mpr ⟨am_Snd.toF ((s_aloadn (am_dp pw_L_law_992 dd_L_law_992b.2.2.1) rfl).to) hC, ?_⟩
  refine List.forall_mem_cons.mpr ⟨am_Snd.toF (zw_cv281 (am_dp pw_L_law_992 dd_L_law_992b.2.2.2.1) wd2054) hC, ?_⟩
  refine List.forall_mem_cons.mpr ⟨am_Snd.toF ((s_pop (am_dp pw_L_law_992 dd_L_law_992b.2.2.2.2.1)).to) hC, ?_⟩
  refine List.forall_mem_cons.mpr ⟨am_Snd.toF ((s_goto (am_dp pw_L_law_992 dd_L_law_992b.2.2.2.2.2.1) (by decide)).to) hC, ?_⟩
  refine List.forall_mem_cons.mpr ⟨am_Snd.toF ((s_aloadn (am_dp pw_L_law_992 dd_L_law_992b.2.2.2.2.2.2.1) rfl).to) hC, ?_⟩
  refine List.forall_mem_cons.mpr ⟨am_Snd.toF (zw_cv133 (am_dp pw_L_law_992 dd_L_law_992b.2.2.2.2.2.2.2) wd1198) hC, ?_⟩
  refine List.forall_mem_cons.mpr ⟨am_Snd.toF ((s_pop (am_dp pw_L_law_992 dd_L_law_992c.1)).to) hC, ?_⟩
  refine List.forall_mem_cons.mpr ⟨am_Snd.toF ((s_aloadn (am_dp pw_L_law_992 dd_L_law_992c.2.1) rfl).to) hC, ?_⟩
  refine List.forall_mem_cons.mpr ⟨am_Snd.toF (zw_cv282 (am_dp pw_L_law_992 dd_L_law_992c.2.2) wd2058) hC, ?_⟩
  refine List.forall_mem_cons.mpr ⟨am_Snd.toF ((s_pop (am_dp pw_L_law_1024 dd_L_law_1024a.1)).to) hC, ?_⟩
  refine List.forall_mem_cons.mpr ⟨am_Snd.toF ((s_goto (am_dp pw_L_law_1024 dd_L_law_1024a.2.1) (by decide)).to) hC, ?_⟩
  refine List.forall_mem_cons.mpr ⟨am_Snd.toF ((s_aloadn (am_dp pw_L_law_1024 dd_L_law_1024a.2.2.1) rfl).to) hC, ?_⟩
  refine List.forall_mem_cons.mpr ⟨am_Snd.toF ((s_aloadn (am_dp pw_L_law_1024 dd_L_law_1024a.2.2.2.1) rfl).to) hC, ?_⟩
  refine List.forall_mem_cons.mpr ⟨am_Snd.toF ((s_iloadn (am_dp pw_L_law_1024 dd_L_law_1024a.2.2.2.2.1) rfl).to) hC, ?_⟩
  refine List.forall_mem_cons.mpr ⟨am_Snd.toF ((s_iconst (am_dp pw_L_law_1024 dd_L_law_1024a.2.2.2.2.2.1) (by decide)).to) hC, ?_⟩
  refine List.forall_mem_cons.mpr ⟨am_Snd.toF ((s_iadd (am_dp pw_L_law_1024 dd_L_law_1024a.2.2.2.2.2.2.1)).to) hC, ?_⟩
  refine List.forall_mem_cons.mpr ⟨f_sld hC hX hb (am_dp pw_L_law_1024 dd_L_law_1024a.2.2.2.2.2.2.2), ?_⟩
  refine List.forall_mem_cons.mpr ⟨am_Snd.toF ((s_aloadn (am_dp pw_L_law_1024 dd_L_law_1024b.1) rfl).to) hC, ?_⟩
  refine List.forall_mem_cons.mpr ⟨am_Snd.toF ((s_iloadn (am_dp pw_L_law_1024 dd_L_law_1024b.2.1) rfl).to) hC, ?_⟩
  refine List.forall_mem_cons.mpr ⟨am_Snd.toF ((s_iconst (am_dp pw_L_law_1024 dd_L_law_1024b.2.2.1) (by decide)).to) hC, ?_⟩
  refine List.forall_mem_cons.mpr ⟨am_Snd.toF ((s_iadd (am_dp pw_L_law_1024 dd_L_law_1024b.2.2.2.1)).to) hC, ?_⟩
  refine List.forall_mem_cons.mpr ⟨f_sld hC hX hb (am_dp pw_L_law_1024 dd_L_law_1024b.2.2.2.2.1), ?_⟩
  refine List.forall_mem_cons.mpr ⟨am_Snd.toF (zw_cv134 (am_dp pw_L_law_1024 dd_L_law_1024b.2.2.2.2.2.1) wd1202) hC, ?_⟩
  refine List.forall_mem_cons.mpr ⟨am_Snd.toF ((s_pop (am_dp pw_L_law_1024 dd_L_law_1024b.2.2.2.2.2.2.1)).to) hC, ?_⟩
  refine List.forall_mem_cons.mpr ⟨am_Snd.toF ((s_aloadn (am_dp pw_L_law_1024 dd_L_law_1024b.2.2.2.2.2.2.2) rfl).to) hC, ?_⟩
  refine List.forall_mem_cons.mpr ⟨am_Snd.toF ((s_aloadn (am_dp pw_L_law_1024 dd_L_law_1024c.1) rfl).to) hC, ?_⟩
  refine List.forall_mem_cons.mpr ⟨am_Snd.toF ((s_iloadn (am_dp pw_L_law_1024 dd_L_law_1024c.2.1) rfl).to) hC, ?_⟩
  refine List.forall_mem_cons.mpr ⟨am_Snd.toF ((s_iconst (am_dp pw_L_law_1024 dd_L_law_1024c.2.2.1) (by decide)).to) hC, ?_⟩
  refine List.forall_mem_cons.mpr ⟨am_Snd.toF ((s_iadd (am_dp pw_L_law_1024 dd_L_law_1024c.2.2.2.1)).to) hC, ?_⟩
  refine List.forall_mem_cons.mpr ⟨f_sld hC hX hb (am_dp pw_L_law_1024 dd_L_law_1024c.2.2.2.2.1), ?_⟩
  refine List.forall_mem_cons.mpr ⟨am_Snd.toF ((s_aloadn (am_dp pw_L_law_1024 dd_L_law_1024c.2.2.2.2.2.1) rfl).to) hC, ?_⟩
  refine List.forall_mem_cons.mpr ⟨am_Snd.toF ((s_iloadn (am_dp pw_L_law_1024 dd_L_law_1024c.2.2.2.2.2.2.1) rfl).to) hC, ?_⟩
  refine List.forall_mem_cons.mpr ⟨am_Snd.toF ((s_iconst (am_dp pw_L_law_1024 dd_L_law_1024c.2.2.2.2.2.2.2) (by decide)).to) hC, ?_⟩
  refine List.forall_mem_cons.mpr ⟨am_Snd.toF ((s_iadd (am_dp pw_L_law_1024 dd_L_law_1024d.1)).to) hC, ?_⟩
  exact fun _ h => absurd h List.not_mem_nil
theorem snL_12 (hC : am_Cx G RL code 4 (some .boolean) nm p s m args meth c) (hX : va_X (G.2.1.1 0) L xs s s.heap) (hb : G.2.1.1 0 < G.1) : ∀ q ∈ tL_12 xs L, am_SndF am_P0 G 4 p l e R s m args below meth c q.1 q.2 := by
  unfold tL_12
  refine List.forall_mem_cons.mpr ⟨f_sld hC hX hb (am_dp pw_L_law_1024 dd_L_law_1024d.2.1), ?_⟩
  refine List.forall_mem_cons.mpr ⟨am_Snd.toF (zw_cv283 (am_dp pw_L_law_1024 dd_L_law_1024d.2.2) wd2062) hC, ?_⟩
  refine List.forall_mem_cons.mpr ⟨am_Snd.toF ((s_pop (am_dp pw_L_law_1056 dd_L_law_1056a.1)).to) hC, ?_⟩
  refine List.forall_mem_cons.mpr ⟨am_Snd.toF ((s_goto (am_dp pw_L_law_1056 dd_L_law_1056a.2.1) (by decide)).to) hC, ?_⟩
  refine List.forall_mem_cons.mpr ⟨am_Snd.toF ((s_aloadn (am_dp pw_L_law_1056 dd_L_law_1056a.2.2.1) rfl).to) hC, ?_⟩
  refine List.forall_mem_cons.mpr ⟨am_Snd.toF ((s_aloadn (am_dp pw_L_law_1056 dd_L_law_1056a.2.2.2.1) rfl).to) hC, ?_⟩
  refine List.forall_mem_cons.mpr ⟨am_Snd.toF ((s_iloadn (am_dp pw_L_law_1056 dd_L_law_1056a.2.2.2.2.1) rfl).to) hC, ?_⟩
  refine List.forall_mem_cons.mpr ⟨am_Snd.toF ((s_iconst (am_dp pw_L_law_1056 dd_L_law_1056a.2.2.2.2.2.1) (by decide)).to) hC, ?_⟩
  refine List.forall_mem_cons.mpr ⟨am_Snd.toF ((s_iadd (am_dp pw_L_law_1056 dd_L_law_1056a.2.2.2.2.2.2.1)).to) hC, ?_⟩
  refine List.forall_mem_cons.mpr ⟨f_sld hC hX hb (am_dp pw_L_law_1056 dd_L_law_1056a.2.2.2.2.2.2.2), ?_⟩
  refine List.forall_mem_cons.mpr ⟨am_Snd.toF (zw_cv135 (am_dp pw_L_law_1056 dd_L_law_1056b.1) wd1206) hC, ?_⟩
  refine List.forall_mem_cons.mpr ⟨f_pop2 hC (am_dp pw_L_law_1056 dd_L_law_1056b.2.1), ?_⟩
  refine List.forall_mem_cons.mpr ⟨am_Snd.toF ((s_aloadn (am_dp pw_L_law_1056 dd_L_law_1056b.2.2.1) rfl).to) hC, ?_⟩
  refine List.forall_mem_cons.mpr ⟨am_Snd.toF ((s_aloadn (am_dp pw_L_law_1056 dd_L_law_1056b.2.2.2.1) rfl).to) hC, ?_⟩
  refine List.forall_mem_cons.mpr ⟨am_Snd.toF ((s_iloadn (am_dp pw_L_law_1056 dd_L_law_1056b.2.2.2.2.1) rfl).to) hC, ?_⟩
  refine List.forall_mem_cons.mpr ⟨am_Snd.toF ((s_iconst (am_dp pw_L_law_1056 dd_L_law_1056b.2.2.2.2.2.1) (by decide)).to) hC, ?_⟩
  refine List.forall_mem_cons.mpr ⟨am_Snd.toF ((s_iadd (am_dp pw_L_law_1056 dd_L_law_1056b.2.2.2.2.2.2.1)).to) hC, ?_⟩
  refine List.forall_mem_cons.mpr ⟨f_sld hC hX hb (am_dp pw_L_law_1056 dd_L_law_1056b.2.2.2.2.2.2.2), ?_⟩
  refine List.forall_mem_cons.mpr ⟨am_Snd.toF (zw_cv285 (am_dp pw_L_law_1056 dd_L_law_1056c.1) wd2066) hC, ?_⟩
  refine List.forall_mem_cons.mpr ⟨f_pop2 hC (am_dp pw_L_law_1056 dd_L_law_1056c.2.1), ?_⟩
  refine List.forall_mem_cons.mpr ⟨am_Snd.toF ((s_goto (am_dp pw_L_law_1056 dd_L_law_1056c.2.2.1) (by decide)).to) hC, ?_⟩
  refine List.forall_mem_cons.mpr ⟨am_Snd.toF ((s_aloadn (am_dp pw_L_law_1056 dd_L_law_1056c.2.2.2.1) rfl).to) hC, ?_⟩
  refine List.forall_mem_cons.mpr ⟨am_Snd.toF (zw_cv136 (am_dp pw_L_law_1056 dd_L_law_1056c.2.2.2.2) wd1223) hC, ?_⟩
  refine List.forall_mem_cons.mpr ⟨am_Snd.toF ((s_pop (am_dp pw_L_law_1088 dd_L_law_1088a.1)).to) hC, ?_⟩
  refine List.forall_mem_cons.mpr ⟨am_Snd.toF ((s_aloadn (am_dp pw_L_law_1088 dd_L_law_1088a.2.1) rfl).to) hC, ?_⟩
  refine List.forall_mem_cons.mpr ⟨am_Snd.toF (zw_cv286 (am_dp pw_L_law_1088 dd_L_law_1088a.2.2.1) wd2077) hC, ?_⟩
  refine List.forall_mem_cons.mpr ⟨am_Snd.toF ((s_pop (am_dp pw_L_law_1088 dd_L_law_1088a.2.2.2.1)).to) hC, ?_⟩
  refine List.forall_mem_cons.mpr ⟨am_Snd.toF ((s_goto (am_dp pw_L_law_1088 dd_L_law_1088a.2.2.2.2.1) (by decide)).to) hC, ?_⟩
  refine List.forall_mem_cons.mpr ⟨am_Snd.toF ((s_aloadn (am_dp pw_L_law_1088 dd_L_law_1088a.2.2.2.2.2.1) rfl).to) hC, ?_⟩
  refine List.forall_mem_cons.mpr ⟨am_Snd.toF ((s_aloadn (am_dp pw_L_law_1088 dd_L_law_1088a.2.2.2.2.2.2.1) rfl).to) hC, ?_⟩
  refine List.forall_mem_cons.mpr ⟨am_Snd.toF ((s_iloadn (am_dp pw_L_law_1088 dd_L_law_1088a.2.2.2.2.2.2.2) rfl).to) hC, ?_⟩
  refine List.forall_mem_cons.mpr ⟨am_Snd.toF ((s_iconst (am_dp pw_L_law_1088 dd_L_law_1088b.1) (by decide)).to) hC, ?_⟩
  refine List.forall_mem_cons.mpr ⟨am_Snd.toF ((s_iadd (am_dp pw_L_law_1088 dd_L_law_1088b.2.1)).to) hC, ?_⟩
  refine List.forall_mem_cons.mpr ⟨f_sld hC hX hb (am_dp pw_L_law_1088 dd_L_law_1088b.2.2.1), ?_⟩
  refine List.forall_mem_cons.mpr ⟨am_Snd.toF ((s_aloadn (am_dp pw_L_law_1088 dd_L_law_1088b.2.2.2.1) rfl).to) hC, ?_⟩
  refine List.forall_mem_cons.mpr ⟨am_Snd.toF ((s_iloadn (am_dp pw_L_law_1088 dd_L_law_1088b.2.2.2.2.1) rfl).to) hC, ?_⟩
  refine List.forall_mem_cons.mpr ⟨am_Snd.toF ((s_iconst (am_dp pw_L_law_1088 dd_L_law_1088b.2.2.2.2.2.1) (by decide)).to) hC, ?_⟩
  refine List.forall_mem_cons.mpr ⟨am_Snd.toF ((s_iadd (am_dp pw_L_law_1088 dd_L_law_1088b.2.2.2.2.2.2.1)).to) hC, ?_⟩
  refine List.forall_mem_cons.mpr ⟨f_sld hC hX hb (am_dp pw_L_law_1088 dd_L_law_1088b.2.2.2.2.2.2.2), ?_⟩
  refine List.forall_mem_cons.mpr ⟨am_Snd.toF ((s_aloadn (am_dp pw_L_law_1088 dd_L_law_1088c.1) rfl).to) hC, ?_⟩
  refine List.forall_mem_cons.mpr ⟨am_Snd.toF ((s_iloadn (am_dp pw_L_law_1088 dd_L_law_1088c.2.1) rfl).to) hC, ?_⟩
  refine List.forall_mem_cons.mpr ⟨am_Snd.toF ((s_iconst (am_dp pw_L_law_1088 dd_L_law_1088c.2.2.1) (by decide)).to) hC, ?_⟩
  refine List.forall_mem_cons.mpr ⟨am_Snd.toF ((s_iadd (am_dp pw_L_law_1088 dd_L_law_1088c.2.2.2.1)).to) hC, ?_⟩
  refine List.forall_mem_cons.mpr ⟨f_sld hC hX hb (am_dp pw_L_law_1088 dd_L_law_1088c.2.2.2.2.1), ?_⟩
  refine List.forall_mem_cons.mpr ⟨am_Snd.toF (zw_cv137 (am_dp pw_L_law_1088 dd_L_law_1088c.2.2.2.2.2.1) wd1228) hC, ?_⟩
  refine List.forall_mem_cons.mpr ⟨am_Snd.toF ((s_pop (am_dp pw_L_law_1088 dd_L_law_1088c.2.2.2.2.2.2.1)).to) hC, ?_⟩
  refine List.forall_mem_cons.mpr ⟨am_Snd.toF ((s_aloadn (am_dp pw_L_law_1088 dd_L_law_1088c.2.2.2.2.2.2.2) rfl).to) hC, ?_⟩
  refine List.forall_mem_cons.mpr ⟨am_Snd.toF ((s_aloadn (am_dp pw_L_law_1088 dd_L_law_1088d) rfl).to) hC, ?_⟩
  refine List.forall_mem_cons.mpr ⟨am_Snd.toF ((s_iloadn (am_dp pw_L_law_1120 dd_L_law_1120a.1) rfl).to) hC, ?_⟩
  refine List.forall_mem_cons.mpr ⟨am_Snd.toF ((s_iconst (am_dp pw_L_law_1120 dd_L_law_1120a.2.1) (by decide)).to) hC, ?_⟩
  refine List.forall_mem_cons.mpr ⟨am_Snd.toF ((s_iadd (am_dp pw_L_law_1120 dd_L_law_1120a.2.2.1)).to) hC, ?_⟩
  refine List.forall_mem_cons.mpr ⟨f_sld hC hX hb (am_dp pw_L_law_1120 dd_L_law_1120a.2.2.2.1), ?_⟩
  refine List.forall_mem_cons.mpr ⟨am_Snd.toF ((s_aloadn (am_dp pw_L_law_1120 dd_L_law_1120a.2.2.2.2.1) rfl).to) hC, ?_⟩
  refine List.forall_mem_cons.mpr ⟨am_Snd.toF ((s_iloadn (am_dp pw_L_law_1120 dd_L_law_1120a.2.2.2.2.2.1) rfl).to) hC, ?_⟩
  refine List.forall_mem_cons.mpr ⟨am_Snd.toF ((s_iconst (am_dp pw_L_law_1120 dd_L_law_1120a.2.2.2.2.2.2.1) (by decide)).to) hC, ?_⟩
  refine List.forall_mem_cons.mpr ⟨am_Snd.toF ((s_iadd (am_dp pw_L_law_1120 dd_L_law_1120a.2.2.2.2.2.2.2)).to) hC, ?_⟩
  refine List.forall_mem_cons.mpr ⟨f_sld hC hX hb (am_dp pw_L_law_1120 dd_L_law_1120b.1), ?_⟩
  refine List.forall_mem_cons.mpr ⟨am_Snd.toF ((s_aloadn (am_dp pw_L_law_1120 dd_L_law_1120b.2.1) rfl).to) hC, ?_⟩
  refine List.forall_mem_cons.mpr ⟨am_Snd.toF ((s_iloadn (am_dp pw_L_law_1120 dd_L_law_1120b.2.2.1) rfl).to) hC, ?_⟩
  refine List.forall_mem_cons.mpr ⟨am_Snd.toF ((s_iconst (am_dp pw_L_law_1120 dd_L_law_1120b.2.2.2.1) (by decide)).to) hC, ?_⟩
  exact fun _ h => absurd h List.not_mem_nil
theorem snL_13 (hC : am_Cx G RL code 4 (some .boolean) nm p s m args meth c) (hX : va_X (G.2.1.1 0) L xs s s.heap) (hb : G.2.1.1 0 < G.1) : ∀ q ∈ tL_13 xs L, am_SndF am_P0 G 4 p l e R s m args below meth c q.1 q.2 := by
  unfold tL_13
  refine List.forall_mem_cons.mpr ⟨am_Snd.toF ((s_iadd (am_dp pw_L_law_1120 dd_L_law_1120b.2.2.2.2.1)).to) hC, ?_⟩
  refine List.forall_mem_cons.mpr ⟨f_sld hC hX hb (am_dp pw_L_law_1120 dd_L_law_1120b.2.2.2.2.2.1), ?_⟩
  refine List.forall_mem_cons.mpr ⟨am_Snd.toF (zw_cv288 (am_dp pw_L_law_1120 dd_L_law_1120b.2.2.2.2.2.2.1) wd2082) hC, ?_⟩
  refine List.forall_mem_cons.mpr ⟨am_Snd.toF ((s_pop (am_dp pw_L_law_1120 dd_L_law_1120b.2.2.2.2.2.2.2)).to) hC, ?_⟩
  refine List.forall_mem_cons.mpr ⟨am_Snd.toF ((s_goto (am_dp pw_L_law_1120 dd_L_law_1120c.1) (by decide)).to) hC, ?_⟩
  refine List.forall_mem_cons.mpr ⟨am_Snd.toF ((s_aloadn (am_dp pw_L_law_1120 dd_L_law_1120c.2.1) rfl).to) hC, ?_⟩
  refine List.forall_mem_cons.mpr ⟨am_Snd.toF ((s_aloadn (am_dp pw_L_law_1120 dd_L_law_1120c.2.2.1) rfl).to) hC, ?_⟩
  refine List.forall_mem_cons.mpr ⟨am_Snd.toF ((s_iloadn (am_dp pw_L_law_1120 dd_L_law_1120c.2.2.2.1) rfl).to) hC, ?_⟩
  refine List.forall_mem_cons.mpr ⟨am_Snd.toF ((s_iconst (am_dp pw_L_law_1120 dd_L_law_1120c.2.2.2.2.1) (by decide)).to) hC, ?_⟩
  refine List.forall_mem_cons.mpr ⟨am_Snd.toF ((s_iadd (am_dp pw_L_law_1120 dd_L_law_1120c.2.2.2.2.2.1)).to) hC, ?_⟩
  refine List.forall_mem_cons.mpr ⟨f_sld hC hX hb (am_dp pw_L_law_1120 dd_L_law_1120c.2.2.2.2.2.2.1), ?_⟩
  refine List.forall_mem_cons.mpr ⟨am_Snd.toF (zw_cv138 (am_dp pw_L_law_1120 dd_L_law_1120c.2.2.2.2.2.2.2) wd1232) hC, ?_⟩
  refine List.forall_mem_cons.mpr ⟨am_Snd.toF ((s_pop (am_dp pw_L_law_1120 dd_L_law_1120d.1)).to) hC, ?_⟩
  refine List.forall_mem_cons.mpr ⟨am_Snd.toF ((s_aloadn (am_dp pw_L_law_1120 dd_L_law_1120d.2) rfl).to) hC, ?_⟩
  refine List.forall_mem_cons.mpr ⟨am_Snd.toF ((s_aloadn (am_dp pw_L_law_1152 dd_L_law_1152a.1) rfl).to) hC, ?_⟩
  refine List.forall_mem_cons.mpr ⟨am_Snd.toF ((s_iloadn (am_dp pw_L_law_1152 dd_L_law_1152a.2.1) rfl).to) hC, ?_⟩
  refine List.forall_mem_cons.mpr ⟨am_Snd.toF ((s_iconst (am_dp pw_L_law_1152 dd_L_law_1152a.2.2.1) (by decide)).to) hC, ?_⟩
  refine List.forall_mem_cons.mpr ⟨am_Snd.toF ((s_iadd (am_dp pw_L_law_1152 dd_L_law_1152a.2.2.2.1)).to) hC, ?_⟩
  refine List.forall_mem_cons.mpr ⟨f_sld hC hX hb (am_dp pw_L_law_1152 dd_L_law_1152a.2.2.2.2.1), ?_⟩
  refine List.forall_mem_cons.mpr ⟨am_Snd.toF (zw_cv289 (am_dp pw_L_law_1152 dd_L_law_1152a.2.2.2.2.2.1) wd2090) hC, ?_⟩
  refine List.forall_mem_cons.mpr ⟨am_Snd.toF ((s_pop (am_dp pw_L_law_1152 dd_L_law_1152a.2.2.2.2.2.2.1)).to) hC, ?_⟩
  refine List.forall_mem_cons.mpr ⟨am_Snd.toF ((s_goto (am_dp pw_L_law_1152 dd_L_law_1152a.2.2.2.2.2.2.2) (by decide)).to) hC, ?_⟩
  refine List.forall_mem_cons.mpr ⟨am_Snd.toF ((s_aloadn (am_dp pw_L_law_1152 dd_L_law_1152b.1) rfl).to) hC, ?_⟩
  refine List.forall_mem_cons.mpr ⟨am_Snd.toF ((s_aloadn (am_dp pw_L_law_1152 dd_L_law_1152b.2.1) rfl).to) hC, ?_⟩
  refine List.forall_mem_cons.mpr ⟨am_Snd.toF ((s_iloadn (am_dp pw_L_law_1152 dd_L_law_1152b.2.2.1) rfl).to) hC, ?_⟩
  refine List.forall_mem_cons.mpr ⟨am_Snd.toF ((s_iconst (am_dp pw_L_law_1152 dd_L_law_1152b.2.2.2.1) (by decide)).to) hC, ?_⟩
  refine List.forall_mem_cons.mpr ⟨am_Snd.toF ((s_iadd (am_dp pw_L_law_1152 dd_L_law_1152b.2.2.2.2.1)).to) hC, ?_⟩
  refine List.forall_mem_cons.mpr ⟨f_sld hC hX hb (am_dp pw_L_law_1152 dd_L_law_1152b.2.2.2.2.2.1), ?_⟩
  refine List.forall_mem_cons.mpr ⟨am_Snd.toF (zw_cv139 (am_dp pw_L_law_1152 dd_L_law_1152b.2.2.2.2.2.2.1) wd1251) hC, ?_⟩
  refine List.forall_mem_cons.mpr ⟨am_Snd.toF ((s_pop (am_dp pw_L_law_1152 dd_L_law_1152b.2.2.2.2.2.2.2)).to) hC, ?_⟩
  refine List.forall_mem_cons.mpr ⟨am_Snd.toF ((s_aloadn (am_dp pw_L_law_1152 dd_L_law_1152c.1) rfl).to) hC, ?_⟩
  refine List.forall_mem_cons.mpr ⟨am_Snd.toF ((s_aloadn (am_dp pw_L_law_1152 dd_L_law_1152c.2.1) rfl).to) hC, ?_⟩
  refine List.forall_mem_cons.mpr ⟨am_Snd.toF ((s_iloadn (am_dp pw_L_law_1152 dd_L_law_1152c.2.2.1) rfl).to) hC, ?_⟩
  refine List.forall_mem_cons.mpr ⟨am_Snd.toF ((s_iconst (am_dp pw_L_law_1152 dd_L_law_1152c.2.2.2.1) (by decide)).to) hC, ?_⟩
  refine List.forall_mem_cons.mpr ⟨am_Snd.toF ((s_iadd (am_dp pw_L_law_1152 dd_L_law_1152c.2.2.2.2.1)).to) hC, ?_⟩
  refine List.forall_mem_cons.mpr ⟨f_sld hC hX hb (am_dp pw_L_law_1152 dd_L_law_1152c.2.2.2.2.2.1), ?_⟩
  refine List.forall_mem_cons.mpr ⟨am_Snd.toF (zw_cv291 (am_dp pw_L_law_1152 dd_L_law_1152c.2.2.2.2.2.2.1) wd2094) hC, ?_⟩
  refine List.forall_mem_cons.mpr ⟨am_Snd.toF ((s_pop (am_dp pw_L_law_1152 dd_L_law_1152c.2.2.2.2.2.2.2)).to) hC, ?_⟩
  refine List.forall_mem_cons.mpr ⟨am_Snd.toF ((s_goto (am_dp pw_L_law_1184 dd_L_law_1184a.1) (by decide)).to) hC, ?_⟩
  refine List.forall_mem_cons.mpr ⟨am_Snd.toF ((s_aloadn (am_dp pw_L_law_1184 dd_L_law_1184a.2.1) rfl).to) hC, ?_⟩
  refine List.forall_mem_cons.mpr ⟨am_Snd.toF (zw_cv140 (am_dp pw_L_law_1184 dd_L_law_1184a.2.2.1) wd1264) hC, ?_⟩
  refine List.forall_mem_cons.mpr ⟨am_Snd.toF ((s_pop (am_dp pw_L_law_1184 dd_L_law_1184a.2.2.2.1)).to) hC, ?_⟩
  refine List.forall_mem_cons.mpr ⟨am_Snd.toF ((s_aloadn (am_dp pw_L_law_1184 dd_L_law_1184a.2.2.2.2.1) rfl).to) hC, ?_⟩
  refine List.forall_mem_cons.mpr ⟨am_Snd.toF (zw_cv292 (am_dp pw_L_law_1184 dd_L_law_1184a.2.2.2.2.2.1) wd2102) hC, ?_⟩
  refine List.forall_mem_cons.mpr ⟨am_Snd.toF ((s_pop (am_dp pw_L_law_1184 dd_L_law_1184a.2.2.2.2.2.2.1)).to) hC, ?_⟩
  refine List.forall_mem_cons.mpr ⟨am_Snd.toF ((s_goto (am_dp pw_L_law_1184 dd_L_law_1184a.2.2.2.2.2.2.2) (by decide)).to) hC, ?_⟩
  refine List.forall_mem_cons.mpr ⟨am_Snd.toF ((s_aloadn (am_dp pw_L_law_1184 dd_L_law_1184b.1) rfl).to) hC, ?_⟩
  refine List.forall_mem_cons.mpr ⟨am_Snd.toF ((s_aloadn (am_dp pw_L_law_1184 dd_L_law_1184b.2.1) rfl).to) hC, ?_⟩
  refine List.forall_mem_cons.mpr ⟨am_Snd.toF ((s_iloadn (am_dp pw_L_law_1184 dd_L_law_1184b.2.2.1) rfl).to) hC, ?_⟩
  refine List.forall_mem_cons.mpr ⟨am_Snd.toF ((s_iconst (am_dp pw_L_law_1184 dd_L_law_1184b.2.2.2.1) (by decide)).to) hC, ?_⟩
  refine List.forall_mem_cons.mpr ⟨am_Snd.toF ((s_iadd (am_dp pw_L_law_1184 dd_L_law_1184b.2.2.2.2.1)).to) hC, ?_⟩
  refine List.forall_mem_cons.mpr ⟨f_sld hC hX hb (am_dp pw_L_law_1184 dd_L_law_1184b.2.2.2.2.2.1), ?_⟩
  refine List.forall_mem_cons.mpr ⟨am_Snd.toF ((s_aloadn (am_dp pw_L_law_1184 dd_L_law_1184b.2.2.2.2.2.2.1) rfl).to) hC, ?_⟩
  refine List.forall_mem_cons.mpr ⟨am_Snd.toF ((s_iloadn (am_dp pw_L_law_1184 dd_L_law_1184b.2.2.2.2.2.2.2) rfl).to) hC, ?_⟩
  refine List.forall_mem_cons.mpr ⟨am_Snd.toF ((s_iconst (am_dp pw_L_law_1184 dd_L_law_1184c.1) (by decide)).to) hC, ?_⟩
  refine List.forall_mem_cons.mpr ⟨am_Snd.toF ((s_iadd (am_dp pw_L_law_1184 dd_L_law_1184c.2.1)).to) hC, ?_⟩
  refine List.forall_mem_cons.mpr ⟨f_sld hC hX hb (am_dp pw_L_law_1184 dd_L_law_1184c.2.2.1), ?_⟩
  refine List.forall_mem_cons.mpr ⟨am_Snd.toF ((s_aloadn (am_dp pw_L_law_1184 dd_L_law_1184c.2.2.2.1) rfl).to) hC, ?_⟩
  refine List.forall_mem_cons.mpr ⟨am_Snd.toF ((s_iloadn (am_dp pw_L_law_1184 dd_L_law_1184c.2.2.2.2.1) rfl).to) hC, ?_⟩
  refine List.forall_mem_cons.mpr ⟨am_Snd.toF ((s_iconst (am_dp pw_L_law_1184 dd_L_law_1184c.2.2.2.2.2.1) (by decide)).to) hC, ?_⟩
  exact fun _ h => absurd h List.not_mem_nil
theorem snL_14 (hC : am_Cx G RL code 4 (some .boolean) nm p s m args meth c) (hX : va_X (G.2.1.1 0) L xs s s.heap) (hb : G.2.1.1 0 < G.1) : ∀ q ∈ tL_14 xs L, am_SndF am_P0 G 4 p l e R s m args below meth c q.1 q.2 := by
  unfold tL_14
  refine List.forall_mem_cons.mpr ⟨am_Snd.toF ((s_iadd (am_dp pw_L_law_1184 dd_L_law_1184c.2.2.2.2.2.2.1)).to) hC, ?_⟩
  refine List.forall_mem_cons.mpr ⟨f_sld hC hX hb (am_dp pw_L_law_1184 dd_L_law_1184c.2.2.2.2.2.2.2), ?_⟩
  refine List.forall_mem_cons.mpr ⟨am_Snd.toF ((s_aloadn (am_dp pw_L_law_1216 dd_L_law_1216a.1) rfl).to) hC, ?_⟩
  refine List.forall_mem_cons.mpr ⟨am_Snd.toF ((s_iloadn (am_dp pw_L_law_1216 dd_L_law_1216a.2.1) rfl).to) hC, ?_⟩
  refine List.forall_mem_cons.mpr ⟨am_Snd.toF ((s_iconst (am_dp pw_L_law_1216 dd_L_law_1216a.2.2.1) (by decide)).to) hC, ?_⟩
  refine List.forall_mem_cons.mpr ⟨am_Snd.toF ((s_iadd (am_dp pw_L_law_1216 dd_L_law_1216a.2.2.2.1)).to) hC, ?_⟩
  refine List.forall_mem_cons.mpr ⟨f_sld hC hX hb (am_dp pw_L_law_1216 dd_L_law_1216a.2.2.2.2.1), ?_⟩
  refine List.forall_mem_cons.mpr ⟨am_Snd.toF ((s_aloadn (am_dp pw_L_law_1216 dd_L_law_1216a.2.2.2.2.2.1) rfl).to) hC, ?_⟩
  refine List.forall_mem_cons.mpr ⟨am_Snd.toF ((s_iloadn (am_dp pw_L_law_1216 dd_L_law_1216a.2.2.2.2.2.2.1) rfl).to) hC, ?_⟩
  refine List.forall_mem_cons.mpr ⟨am_Snd.toF ((s_iconst (am_dp pw_L_law_1216 dd_L_law_1216a.2.2.2.2.2.2.2) (by decide)).to) hC, ?_⟩
  refine List.forall_mem_cons.mpr ⟨am_Snd.toF ((s_iadd (am_dp pw_L_law_1216 dd_L_law_1216b.1)).to) hC, ?_⟩
  refine List.forall_mem_cons.mpr ⟨f_sld hC hX hb (am_dp pw_L_law_1216 dd_L_law_1216b.2.1), ?_⟩
  refine List.forall_mem_cons.mpr ⟨am_Snd.toF ((s_if_eq (am_dp pw_L_law_1216 dd_L_law_1216b.2.2.1) (by decide)).to) hC, ?_⟩
  refine List.forall_mem_cons.mpr ⟨am_Snd.toF ((s_iconst (am_dp pw_L_law_1216 dd_L_law_1216b.2.2.2.1) (by decide)).to) hC, ?_⟩
  refine List.forall_mem_cons.mpr ⟨am_Snd.toF ((s_goto (am_dp pw_L_law_1216 dd_L_law_1216b.2.2.2.2.1) (by decide)).to) hC, ?_⟩
  refine List.forall_mem_cons.mpr ⟨am_Snd.toF ((s_iconst (am_dp pw_L_law_1216 dd_L_law_1216b.2.2.2.2.2.1) (by decide)).to) hC, ?_⟩
  refine List.forall_mem_cons.mpr ⟨am_Snd.toF (zw_cv141 (am_dp pw_L_law_1216 dd_L_law_1216b.2.2.2.2.2.2.1) wd1268) hC, ?_⟩
  refine List.forall_mem_cons.mpr ⟨am_Snd.toF ((s_pop (am_dp pw_L_law_1216 dd_L_law_1216b.2.2.2.2.2.2.2)).to) hC, ?_⟩
  refine List.forall_mem_cons.mpr ⟨am_Snd.toF ((s_aloadn (am_dp pw_L_law_1216 dd_L_law_1216c.1) rfl).to) hC, ?_⟩
  refine List.forall_mem_cons.mpr ⟨am_Snd.toF ((s_aloadn (am_dp pw_L_law_1216 dd_L_law_1216c.2.1) rfl).to) hC, ?_⟩
  refine List.forall_mem_cons.mpr ⟨am_Snd.toF ((s_iloadn (am_dp pw_L_law_1216 dd_L_law_1216c.2.2.1) rfl).to) hC, ?_⟩
  refine List.forall_mem_cons.mpr ⟨am_Snd.toF ((s_iconst (am_dp pw_L_law_1216 dd_L_law_1216c.2.2.2.1) (by decide)).to) hC, ?_⟩
  refine List.forall_mem_cons.mpr ⟨am_Snd.toF ((s_iadd (am_dp pw_L_law_1216 dd_L_law_1216c.2.2.2.2.1)).to) hC, ?_⟩
  refine List.forall_mem_cons.mpr ⟨f_sld hC hX hb (am_dp pw_L_law_1216 dd_L_law_1216c.2.2.2.2.2.1), ?_⟩
  refine List.forall_mem_cons.mpr ⟨am_Snd.toF ((s_aloadn (am_dp pw_L_law_1216 dd_L_law_1216c.2.2.2.2.2.2.1) rfl).to) hC, ?_⟩
  refine List.forall_mem_cons.mpr ⟨am_Snd.toF ((s_iloadn (am_dp pw_L_law_1216 dd_L_law_1216c.2.2.2.2.2.2.2) rfl).to) hC, ?_⟩
  refine List.forall_mem_cons.mpr ⟨am_Snd.toF ((s_iconst (am_dp pw_L_law_1216 dd_L_law_1216d.1) (by decide)).to) hC, ?_⟩
  refine List.forall_mem_cons.mpr ⟨am_Snd.toF ((s_iadd (am_dp pw_L_law_1216 dd_L_law_1216d.2)).to) hC, ?_⟩
  refine List.forall_mem_cons.mpr ⟨f_sld hC hX hb (am_dp pw_L_law_1248 dd_L_law_1248a.1), ?_⟩
  refine List.forall_mem_cons.mpr ⟨am_Snd.toF ((s_aloadn (am_dp pw_L_law_1248 dd_L_law_1248a.2.1) rfl).to) hC, ?_⟩
  refine List.forall_mem_cons.mpr ⟨am_Snd.toF ((s_iloadn (am_dp pw_L_law_1248 dd_L_law_1248a.2.2.1) rfl).to) hC, ?_⟩
  refine List.forall_mem_cons.mpr ⟨am_Snd.toF ((s_iconst (am_dp pw_L_law_1248 dd_L_law_1248a.2.2.2.1) (by decide)).to) hC, ?_⟩
  refine List.forall_mem_cons.mpr ⟨am_Snd.toF ((s_iadd (am_dp pw_L_law_1248 dd_L_law_1248a.2.2.2.2.1)).to) hC, ?_⟩
  refine List.forall_mem_cons.mpr ⟨f_sld hC hX hb (am_dp pw_L_law_1248 dd_L_law_1248a.2.2.2.2.2.1), ?_⟩
  refine List.forall_mem_cons.mpr ⟨am_Snd.toF ((s_aloadn (am_dp pw_L_law_1248 dd_L_law_1248a.2.2.2.2.2.2.1) rfl).to) hC, ?_⟩
  refine List.forall_mem_cons.mpr ⟨am_Snd.toF ((s_iloadn (am_dp pw_L_law_1248 dd_L_law_1248a.2.2.2.2.2.2.2) rfl).to) hC, ?_⟩
  refine List.forall_mem_cons.mpr ⟨am_Snd.toF ((s_iconst (am_dp pw_L_law_1248 dd_L_law_1248b.1) (by decide)).to) hC, ?_⟩
  refine List.forall_mem_cons.mpr ⟨am_Snd.toF ((s_iadd (am_dp pw_L_law_1248 dd_L_law_1248b.2.1)).to) hC, ?_⟩
  refine List.forall_mem_cons.mpr ⟨f_sld hC hX hb (am_dp pw_L_law_1248 dd_L_law_1248b.2.2.1), ?_⟩
  refine List.forall_mem_cons.mpr ⟨am_Snd.toF ((s_aloadn (am_dp pw_L_law_1248 dd_L_law_1248b.2.2.2.1) rfl).to) hC, ?_⟩
  refine List.forall_mem_cons.mpr ⟨am_Snd.toF ((s_iloadn (am_dp pw_L_law_1248 dd_L_law_1248b.2.2.2.2.1) rfl).to) hC, ?_⟩
  refine List.forall_mem_cons.mpr ⟨am_Snd.toF ((s_iconst (am_dp pw_L_law_1248 dd_L_law_1248b.2.2.2.2.2.1) (by decide)).to) hC, ?_⟩
  refine List.forall_mem_cons.mpr ⟨am_Snd.toF ((s_iadd (am_dp pw_L_law_1248 dd_L_law_1248b.2.2.2.2.2.2.1)).to) hC, ?_⟩
  refine List.forall_mem_cons.mpr ⟨f_sld hC hX hb (am_dp pw_L_law_1248 dd_L_law_1248b.2.2.2.2.2.2.2), ?_⟩
  refine List.forall_mem_cons.mpr ⟨am_Snd.toF ((s_if_eq (am_dp pw_L_law_1248 dd_L_law_1248c.1) (by decide)).to) hC, ?_⟩
  refine List.forall_mem_cons.mpr ⟨am_Snd.toF ((s_iconst (am_dp pw_L_law_1248 dd_L_law_1248c.2.1) (by decide)).to) hC, ?_⟩
  refine List.forall_mem_cons.mpr ⟨am_Snd.toF ((s_goto (am_dp pw_L_law_1248 dd_L_law_1248c.2.2.1) (by decide)).to) hC, ?_⟩
  refine List.forall_mem_cons.mpr ⟨am_Snd.toF ((s_iconst (am_dp pw_L_law_1248 dd_L_law_1248c.2.2.2.1) (by decide)).to) hC, ?_⟩
  refine List.forall_mem_cons.mpr ⟨am_Snd.toF (zw_cv294 (am_dp pw_L_law_1248 dd_L_law_1248c.2.2.2.2.1) wd2106) hC, ?_⟩
  refine List.forall_mem_cons.mpr ⟨am_Snd.toF ((s_pop (am_dp pw_L_law_1248 dd_L_law_1248c.2.2.2.2.2.1)).to) hC, ?_⟩
  refine List.forall_mem_cons.mpr ⟨am_Snd.toF ((s_goto (am_dp pw_L_law_1248 dd_L_law_1248c.2.2.2.2.2.2.1) (by decide)).to) hC, ?_⟩
  refine List.forall_mem_cons.mpr ⟨am_Snd.toF ((s_aloadn (am_dp pw_L_law_1248 dd_L_law_1248c.2.2.2.2.2.2.2) rfl).to) hC, ?_⟩
  refine List.forall_mem_cons.mpr ⟨am_Snd.toF ((s_aloadn (am_dp pw_L_law_1280 dd_L_law_1280a.1) rfl).to) hC, ?_⟩
  refine List.forall_mem_cons.mpr ⟨am_Snd.toF ((s_iloadn (am_dp pw_L_law_1280 dd_L_law_1280a.2.1) rfl).to) hC, ?_⟩
  refine List.forall_mem_cons.mpr ⟨am_Snd.toF ((s_iconst (am_dp pw_L_law_1280 dd_L_law_1280a.2.2.1) (by decide)).to) hC, ?_⟩
  refine List.forall_mem_cons.mpr ⟨am_Snd.toF ((s_iadd (am_dp pw_L_law_1280 dd_L_law_1280a.2.2.2.1)).to) hC, ?_⟩
  refine List.forall_mem_cons.mpr ⟨f_sld hC hX hb (am_dp pw_L_law_1280 dd_L_law_1280a.2.2.2.2.1), ?_⟩
  refine List.forall_mem_cons.mpr ⟨am_Snd.toF ((s_aloadn (am_dp pw_L_law_1280 dd_L_law_1280a.2.2.2.2.2.1) rfl).to) hC, ?_⟩
  refine List.forall_mem_cons.mpr ⟨am_Snd.toF ((s_iloadn (am_dp pw_L_law_1280 dd_L_law_1280a.2.2.2.2.2.2.1) rfl).to) hC, ?_⟩
  refine List.forall_mem_cons.mpr ⟨am_Snd.toF ((s_iconst (am_dp pw_L_law_1280 dd_L_law_1280a.2.2.2.2.2.2.2) (by decide)).to) hC, ?_⟩
  exact fun _ h => absurd h List.not_mem_nil
theorem snL_15 (hC : am_Cx G RL code 4 (some .boolean) nm p s m args meth c) (hX : va_X (G.2.1.1 0) L xs s s.heap) (hb : G.2.1.1 0 < G.1) : ∀ q ∈ tL_15 xs L, am_SndF am_P0 G 4 p l e R s m args below meth c q.1 q.2 := by
  unfold tL_15
  refine List.forall_mem_cons.mpr ⟨am_Snd.toF ((s_iadd (am_dp pw_L_law_1280 dd_L_law_1280b.1)).to) hC, ?_⟩
  refine List.forall_mem_cons.mpr ⟨f_sld hC hX hb (am_dp pw_L_law_1280 dd_L_law_1280b.2.1), ?_⟩
  refine List.forall_mem_cons.mpr ⟨am_Snd.toF (zw_cv142 (am_dp pw_L_law_1280 dd_L_law_1280b.2.2.1) wd1279) hC, ?_⟩
  refine List.forall_mem_cons.mpr ⟨am_Snd.toF ((s_pop (am_dp pw_L_law_1280 dd_L_law_1280b.2.2.2.1)).to) hC, ?_⟩
  refine List.forall_mem_cons.mpr ⟨am_Snd.toF ((s_aloadn (am_dp pw_L_law_1280 dd_L_law_1280b.2.2.2.2.1) rfl).to) hC, ?_⟩
  refine List.forall_mem_cons.mpr ⟨am_Snd.toF ((s_aloadn (am_dp pw_L_law_1280 dd_L_law_1280b.2.2.2.2.2.1) rfl).to) hC, ?_⟩
  refine List.forall_mem_cons.mpr ⟨am_Snd.toF ((s_iloadn (am_dp pw_L_law_1280 dd_L_law_1280b.2.2.2.2.2.2.1) rfl).to) hC, ?_⟩
  refine List.forall_mem_cons.mpr ⟨am_Snd.toF ((s_iconst (am_dp pw_L_law_1280 dd_L_law_1280b.2.2.2.2.2.2.2) (by decide)).to) hC, ?_⟩
  refine List.forall_mem_cons.mpr ⟨am_Snd.toF ((s_iadd (am_dp pw_L_law_1280 dd_L_law_1280c.1)).to) hC, ?_⟩
  refine List.forall_mem_cons.mpr ⟨f_sld hC hX hb (am_dp pw_L_law_1280 dd_L_law_1280c.2.1), ?_⟩
  refine List.forall_mem_cons.mpr ⟨am_Snd.toF ((s_aloadn (am_dp pw_L_law_1280 dd_L_law_1280c.2.2.1) rfl).to) hC, ?_⟩
  refine List.forall_mem_cons.mpr ⟨am_Snd.toF ((s_iloadn (am_dp pw_L_law_1280 dd_L_law_1280c.2.2.2.1) rfl).to) hC, ?_⟩
  refine List.forall_mem_cons.mpr ⟨am_Snd.toF ((s_iconst (am_dp pw_L_law_1280 dd_L_law_1280c.2.2.2.2.1) (by decide)).to) hC, ?_⟩
  refine List.forall_mem_cons.mpr ⟨am_Snd.toF ((s_iadd (am_dp pw_L_law_1280 dd_L_law_1280c.2.2.2.2.2.1)).to) hC, ?_⟩
  refine List.forall_mem_cons.mpr ⟨f_sld hC hX hb (am_dp pw_L_law_1280 dd_L_law_1280c.2.2.2.2.2.2.1), ?_⟩
  refine List.forall_mem_cons.mpr ⟨am_Snd.toF (zw_cv295 (am_dp pw_L_law_1280 dd_L_law_1280c.2.2.2.2.2.2.2) wd2118) hC, ?_⟩
  refine List.forall_mem_cons.mpr ⟨am_Snd.toF ((s_pop (am_dp pw_L_law_1280 dd_L_law_1280d.1)).to) hC, ?_⟩
  refine List.forall_mem_cons.mpr ⟨am_Snd.toF ((s_goto (am_dp pw_L_law_1280 dd_L_law_1280d.2) (by decide)).to) hC, ?_⟩
  refine List.forall_mem_cons.mpr ⟨am_Snd.toF ((s_aloadn (am_dp pw_L_law_1312 dd_L_law_1312a.1) rfl).to) hC, ?_⟩
  refine List.forall_mem_cons.mpr ⟨am_Snd.toF ((s_aloadn (am_dp pw_L_law_1312 dd_L_law_1312a.2.1) rfl).to) hC, ?_⟩
  refine List.forall_mem_cons.mpr ⟨am_Snd.toF ((s_iloadn (am_dp pw_L_law_1312 dd_L_law_1312a.2.2.1) rfl).to) hC, ?_⟩
  refine List.forall_mem_cons.mpr ⟨am_Snd.toF ((s_iconst (am_dp pw_L_law_1312 dd_L_law_1312a.2.2.2.1) (by decide)).to) hC, ?_⟩
  refine List.forall_mem_cons.mpr ⟨am_Snd.toF ((s_iadd (am_dp pw_L_law_1312 dd_L_law_1312a.2.2.2.2.1)).to) hC, ?_⟩
  refine List.forall_mem_cons.mpr ⟨f_sld hC hX hb (am_dp pw_L_law_1312 dd_L_law_1312a.2.2.2.2.2.1), ?_⟩
  refine List.forall_mem_cons.mpr ⟨am_Snd.toF ((s_aloadn (am_dp pw_L_law_1312 dd_L_law_1312a.2.2.2.2.2.2.1) rfl).to) hC, ?_⟩
  refine List.forall_mem_cons.mpr ⟨am_Snd.toF ((s_iloadn (am_dp pw_L_law_1312 dd_L_law_1312a.2.2.2.2.2.2.2) rfl).to) hC, ?_⟩
  refine List.forall_mem_cons.mpr ⟨am_Snd.toF ((s_iconst (am_dp pw_L_law_1312 dd_L_law_1312b.1) (by decide)).to) hC, ?_⟩
  refine List.forall_mem_cons.mpr ⟨am_Snd.toF ((s_iadd (am_dp pw_L_law_1312 dd_L_law_1312b.2.1)).to) hC, ?_⟩
  refine List.forall_mem_cons.mpr ⟨f_sld hC hX hb (am_dp pw_L_law_1312 dd_L_law_1312b.2.2.1), ?_⟩
  refine List.forall_mem_cons.mpr ⟨am_Snd.toF ((s_aloadn (am_dp pw_L_law_1312 dd_L_law_1312b.2.2.2.1) rfl).to) hC, ?_⟩
  refine List.forall_mem_cons.mpr ⟨am_Snd.toF ((s_iloadn (am_dp pw_L_law_1312 dd_L_law_1312b.2.2.2.2.1) rfl).to) hC, ?_⟩
  refine List.forall_mem_cons.mpr ⟨am_Snd.toF ((s_iconst (am_dp pw_L_law_1312 dd_L_law_1312b.2.2.2.2.2.1) (by decide)).to) hC, ?_⟩
  refine List.forall_mem_cons.mpr ⟨am_Snd.toF ((s_iadd (am_dp pw_L_law_1312 dd_L_law_1312b.2.2.2.2.2.2.1)).to) hC, ?_⟩
  refine List.forall_mem_cons.mpr ⟨f_sld hC hX hb (am_dp pw_L_law_1312 dd_L_law_1312b.2.2.2.2.2.2.2), ?_⟩
  refine List.forall_mem_cons.mpr ⟨am_Snd.toF ((s_aloadn (am_dp pw_L_law_1312 dd_L_law_1312c.1) rfl).to) hC, ?_⟩
  refine List.forall_mem_cons.mpr ⟨am_Snd.toF ((s_iloadn (am_dp pw_L_law_1312 dd_L_law_1312c.2.1) rfl).to) hC, ?_⟩
  refine List.forall_mem_cons.mpr ⟨am_Snd.toF ((s_iconst (am_dp pw_L_law_1312 dd_L_law_1312c.2.2.1) (by decide)).to) hC, ?_⟩
  refine List.forall_mem_cons.mpr ⟨am_Snd.toF ((s_iadd (am_dp pw_L_law_1312 dd_L_law_1312c.2.2.2.1)).to) hC, ?_⟩
  refine List.forall_mem_cons.mpr ⟨f_sld hC hX hb (am_dp pw_L_law_1312 dd_L_law_1312c.2.2.2.2.1), ?_⟩
  refine List.forall_mem_cons.mpr ⟨am_Snd.toF (zw_cv143 (am_dp pw_L_law_1312 dd_L_law_1312c.2.2.2.2.2.1) wd1287) hC, ?_⟩
  refine List.forall_mem_cons.mpr ⟨am_Snd.toF ((s_pop (am_dp pw_L_law_1312 dd_L_law_1312c.2.2.2.2.2.2.1)).to) hC, ?_⟩
  refine List.forall_mem_cons.mpr ⟨am_Snd.toF ((s_aloadn (am_dp pw_L_law_1312 dd_L_law_1312c.2.2.2.2.2.2.2) rfl).to) hC, ?_⟩
  refine List.forall_mem_cons.mpr ⟨am_Snd.toF ((s_aloadn (am_dp pw_L_law_1312 dd_L_law_1312d.1) rfl).to) hC, ?_⟩
  refine List.forall_mem_cons.mpr ⟨am_Snd.toF ((s_iloadn (am_dp pw_L_law_1312 dd_L_law_1312d.2.1) rfl).to) hC, ?_⟩
  refine List.forall_mem_cons.mpr ⟨am_Snd.toF ((s_iconst (am_dp pw_L_law_1312 dd_L_law_1312d.2.2.1) (by decide)).to) hC, ?_⟩
  refine List.forall_mem_cons.mpr ⟨am_Snd.toF ((s_iadd (am_dp pw_L_law_1312 dd_L_law_1312d.2.2.2.1)).to) hC, ?_⟩
  refine List.forall_mem_cons.mpr ⟨f_sld hC hX hb (am_dp pw_L_law_1312 dd_L_law_1312d.2.2.2.2.1), ?_⟩
  refine List.forall_mem_cons.mpr ⟨am_Snd.toF ((s_aloadn (am_dp pw_L_law_1312 dd_L_law_1312d.2.2.2.2.2) rfl).to) hC, ?_⟩
  refine List.forall_mem_cons.mpr ⟨am_Snd.toF ((s_iloadn (am_dp pw_L_law_1344 dd_L_law_1344a.1) rfl).to) hC, ?_⟩
  refine List.forall_mem_cons.mpr ⟨am_Snd.toF ((s_iconst (am_dp pw_L_law_1344 dd_L_law_1344a.2.1) (by decide)).to) hC, ?_⟩
  refine List.forall_mem_cons.mpr ⟨am_Snd.toF ((s_iadd (am_dp pw_L_law_1344 dd_L_law_1344a.2.2.1)).to) hC, ?_⟩
  refine List.forall_mem_cons.mpr ⟨f_sld hC hX hb (am_dp pw_L_law_1344 dd_L_law_1344a.2.2.2.1), ?_⟩
  refine List.forall_mem_cons.mpr ⟨am_Snd.toF ((s_aloadn (am_dp pw_L_law_1344 dd_L_law_1344a.2.2.2.2.1) rfl).to) hC, ?_⟩
  refine List.forall_mem_cons.mpr ⟨am_Snd.toF ((s_iloadn (am_dp pw_L_law_1344 dd_L_law_1344a.2.2.2.2.2.1) rfl).to) hC, ?_⟩
  refine List.forall_mem_cons.mpr ⟨am_Snd.toF ((s_iconst (am_dp pw_L_law_1344 dd_L_law_1344a.2.2.2.2.2.2.1) (by decide)).to) hC, ?_⟩
  refine List.forall_mem_cons.mpr ⟨am_Snd.toF ((s_iadd (am_dp pw_L_law_1344 dd_L_law_1344a.2.2.2.2.2.2.2)).to) hC, ?_⟩
  refine List.forall_mem_cons.mpr ⟨f_sld hC hX hb (am_dp pw_L_law_1344 dd_L_law_1344b.1), ?_⟩
  refine List.forall_mem_cons.mpr ⟨am_Snd.toF ((s_aloadn (am_dp pw_L_law_1344 dd_L_law_1344b.2.1) rfl).to) hC, ?_⟩
  refine List.forall_mem_cons.mpr ⟨am_Snd.toF ((s_iloadn (am_dp pw_L_law_1344 dd_L_law_1344b.2.2.1) rfl).to) hC, ?_⟩
  refine List.forall_mem_cons.mpr ⟨am_Snd.toF ((s_iconst (am_dp pw_L_law_1344 dd_L_law_1344b.2.2.2.1) (by decide)).to) hC, ?_⟩
  exact fun _ h => absurd h List.not_mem_nil
theorem snL_16 (hC : am_Cx G RL code 4 (some .boolean) nm p s m args meth c) (hX : va_X (G.2.1.1 0) L xs s s.heap) (hb : G.2.1.1 0 < G.1) : ∀ q ∈ tL_16 xs L, am_SndF am_P0 G 4 p l e R s m args below meth c q.1 q.2 := by
  unfold tL_16
  refine List.forall_mem_cons.mpr ⟨am_Snd.toF ((s_iadd (am_dp pw_L_law_1344 dd_L_law_1344b.2.2.2.2.1)).to) hC, ?_⟩
  refine List.forall_mem_cons.mpr ⟨f_sld hC hX hb (am_dp pw_L_law_1344 dd_L_law_1344b.2.2.2.2.2.1), ?_⟩
  refine List.forall_mem_cons.mpr ⟨am_Snd.toF (zw_cv297 (am_dp pw_L_law_1344 dd_L_law_1344b.2.2.2.2.2.2.1) wd2122) hC, ?_⟩
  refine List.forall_mem_cons.mpr ⟨am_Snd.toF ((s_pop (am_dp pw_L_law_1344 dd_L_law_1344b.2.2.2.2.2.2.2)).to) hC, ?_⟩
  refine List.forall_mem_cons.mpr ⟨am_Snd.toF ((s_goto (am_dp pw_L_law_1344 dd_L_law_1344c.1) (by decide)).to) hC, ?_⟩
  refine List.forall_mem_cons.mpr ⟨am_Snd.toF ((s_aloadn (am_dp pw_L_law_1344 dd_L_law_1344c.2.1) rfl).to) hC, ?_⟩
  refine List.forall_mem_cons.mpr ⟨am_Snd.toF (zw_cv144 (am_dp pw_L_law_1344 dd_L_law_1344c.2.2.1) wd1292) hC, ?_⟩
  refine List.forall_mem_cons.mpr ⟨am_Snd.toF ((s_pop (am_dp pw_L_law_1344 dd_L_law_1344c.2.2.2.1)).to) hC, ?_⟩
  refine List.forall_mem_cons.mpr ⟨am_Snd.toF ((s_aloadn (am_dp pw_L_law_1344 dd_L_law_1344c.2.2.2.2.1) rfl).to) hC, ?_⟩
  refine List.forall_mem_cons.mpr ⟨am_Snd.toF (zw_cv299 (am_dp pw_L_law_1344 dd_L_law_1344c.2.2.2.2.2.1) wd2130) hC, ?_⟩
  refine List.forall_mem_cons.mpr ⟨am_Snd.toF ((s_pop (am_dp pw_L_law_1344 dd_L_law_1344c.2.2.2.2.2.2.1)).to) hC, ?_⟩
  refine List.forall_mem_cons.mpr ⟨am_Snd.toF ((s_goto (am_dp pw_L_law_1344 dd_L_law_1344c.2.2.2.2.2.2.2) (by decide)).to) hC, ?_⟩
  refine List.forall_mem_cons.mpr ⟨am_Snd.toF ((s_aloadn (am_dp pw_L_law_1376 dd_L_law_1376a.1) rfl).to) hC, ?_⟩
  refine List.forall_mem_cons.mpr ⟨am_Snd.toF ((s_aloadn (am_dp pw_L_law_1376 dd_L_law_1376a.2.1) rfl).to) hC, ?_⟩
  refine List.forall_mem_cons.mpr ⟨am_Snd.toF ((s_iloadn (am_dp pw_L_law_1376 dd_L_law_1376a.2.2.1) rfl).to) hC, ?_⟩
  refine List.forall_mem_cons.mpr ⟨am_Snd.toF ((s_iconst (am_dp pw_L_law_1376 dd_L_law_1376a.2.2.2.1) (by decide)).to) hC, ?_⟩
  refine List.forall_mem_cons.mpr ⟨am_Snd.toF ((s_iadd (am_dp pw_L_law_1376 dd_L_law_1376a.2.2.2.2.1)).to) hC, ?_⟩
  refine List.forall_mem_cons.mpr ⟨f_sld hC hX hb (am_dp pw_L_law_1376 dd_L_law_1376a.2.2.2.2.2.1), ?_⟩
  refine List.forall_mem_cons.mpr ⟨am_Snd.toF (zw_cv145 (am_dp pw_L_law_1376 dd_L_law_1376a.2.2.2.2.2.2.1) wd1303) hC, ?_⟩
  refine List.forall_mem_cons.mpr ⟨am_Snd.toF ((s_pop (am_dp pw_L_law_1376 dd_L_law_1376a.2.2.2.2.2.2.2)).to) hC, ?_⟩
  refine List.forall_mem_cons.mpr ⟨am_Snd.toF ((s_aloadn (am_dp pw_L_law_1376 dd_L_law_1376b.1) rfl).to) hC, ?_⟩
  refine List.forall_mem_cons.mpr ⟨am_Snd.toF ((s_aloadn (am_dp pw_L_law_1376 dd_L_law_1376b.2.1) rfl).to) hC, ?_⟩
  refine List.forall_mem_cons.mpr ⟨am_Snd.toF ((s_iloadn (am_dp pw_L_law_1376 dd_L_law_1376b.2.2.1) rfl).to) hC, ?_⟩
  refine List.forall_mem_cons.mpr ⟨am_Snd.toF ((s_iconst (am_dp pw_L_law_1376 dd_L_law_1376b.2.2.2.1) (by decide)).to) hC, ?_⟩
  refine List.forall_mem_cons.mpr ⟨am_Snd.toF ((s_iadd (am_dp pw_L_law_1376 dd_L_law_1376b.2.2.2.2.1)).to) hC, ?_⟩
  refine List.forall_mem_cons.mpr ⟨f_sld hC hX hb (am_dp pw_L_law_1376 dd_L_law_1376b.2.2.2.2.2.1), ?_⟩
  refine List.forall_mem_cons.mpr ⟨am_Snd.toF (zw_cv300 (am_dp pw_L_law_1376 dd_L_law_1376b.2.2.2.2.2.2.1) wd2138) hC, ?_⟩
  refine List.forall_mem_cons.mpr ⟨am_Snd.toF ((s_pop (am_dp pw_L_law_1376 dd_L_law_1376b.2.2.2.2.2.2.2)).to) hC, ?_⟩
  refine List.forall_mem_cons.mpr ⟨am_Snd.toF ((s_goto (am_dp pw_L_law_1376 dd_L_law_1376c.1) (by decide)).to) hC, ?_⟩
  refine List.forall_mem_cons.mpr ⟨am_Snd.toF ((s_aloadn (am_dp pw_L_law_1376 dd_L_law_1376c.2.1) rfl).to) hC, ?_⟩
  refine List.forall_mem_cons.mpr ⟨am_Snd.toF (zw_cv146 (am_dp pw_L_law_1376 dd_L_law_1376c.2.2.1) wd1307) hC, ?_⟩
  refine List.forall_mem_cons.mpr ⟨am_Snd.toF ((s_pop (am_dp pw_L_law_1376 dd_L_law_1376c.2.2.2.1)).to) hC, ?_⟩
  refine List.forall_mem_cons.mpr ⟨am_Snd.toF ((s_aloadn (am_dp pw_L_law_1376 dd_L_law_1376c.2.2.2.2.1) rfl).to) hC, ?_⟩
  refine List.forall_mem_cons.mpr ⟨am_Snd.toF (zw_cv302 (am_dp pw_L_law_1376 dd_L_law_1376c.2.2.2.2.2) wd2142) hC, ?_⟩
  refine List.forall_mem_cons.mpr ⟨am_Snd.toF ((s_pop (am_dp pw_L_law_1408 dd_L_law_1408a.1)).to) hC, ?_⟩
  refine List.forall_mem_cons.mpr ⟨am_Snd.toF ((s_goto (am_dp pw_L_law_1408 dd_L_law_1408a.2.1) (by decide)).to) hC, ?_⟩
  refine List.forall_mem_cons.mpr ⟨am_Snd.toF ((s_aloadn (am_dp pw_L_law_1408 dd_L_law_1408a.2.2.1) rfl).to) hC, ?_⟩
  refine List.forall_mem_cons.mpr ⟨am_Snd.toF ((s_aloadn (am_dp pw_L_law_1408 dd_L_law_1408a.2.2.2.1) rfl).to) hC, ?_⟩
  refine List.forall_mem_cons.mpr ⟨am_Snd.toF ((s_iloadn (am_dp pw_L_law_1408 dd_L_law_1408a.2.2.2.2.1) rfl).to) hC, ?_⟩
  refine List.forall_mem_cons.mpr ⟨am_Snd.toF ((s_iconst (am_dp pw_L_law_1408 dd_L_law_1408a.2.2.2.2.2.1) (by decide)).to) hC, ?_⟩
  refine List.forall_mem_cons.mpr ⟨am_Snd.toF ((s_iadd (am_dp pw_L_law_1408 dd_L_law_1408a.2.2.2.2.2.2.1)).to) hC, ?_⟩
  refine List.forall_mem_cons.mpr ⟨f_sld hC hX hb (am_dp pw_L_law_1408 dd_L_law_1408a.2.2.2.2.2.2.2), ?_⟩
  refine List.forall_mem_cons.mpr ⟨am_Snd.toF (zw_cv147 (am_dp pw_L_law_1408 dd_L_law_1408b.1) wd1323) hC, ?_⟩
  refine List.forall_mem_cons.mpr ⟨am_Snd.toF ((s_pop (am_dp pw_L_law_1408 dd_L_law_1408b.2.1)).to) hC, ?_⟩
  refine List.forall_mem_cons.mpr ⟨am_Snd.toF ((s_aloadn (am_dp pw_L_law_1408 dd_L_law_1408b.2.2.1) rfl).to) hC, ?_⟩
  refine List.forall_mem_cons.mpr ⟨am_Snd.toF ((s_aloadn (am_dp pw_L_law_1408 dd_L_law_1408b.2.2.2.1) rfl).to) hC, ?_⟩
  refine List.forall_mem_cons.mpr ⟨am_Snd.toF ((s_iloadn (am_dp pw_L_law_1408 dd_L_law_1408b.2.2.2.2.1) rfl).to) hC, ?_⟩
  refine List.forall_mem_cons.mpr ⟨am_Snd.toF ((s_iconst (am_dp pw_L_law_1408 dd_L_law_1408b.2.2.2.2.2.1) (by decide)).to) hC, ?_⟩
  refine List.forall_mem_cons.mpr ⟨am_Snd.toF ((s_iadd (am_dp pw_L_law_1408 dd_L_law_1408b.2.2.2.2.2.2.1)).to) hC, ?_⟩
  refine List.forall_mem_cons.mpr ⟨f_sld hC hX hb (am_dp pw_L_law_1408 dd_L_law_1408b.2.2.2.2.2.2.2), ?_⟩
  refine List.forall_mem_cons.mpr ⟨am_Snd.toF (zw_cv209 (am_dp pw_L_law_1408 dd_L_law_1408c.1) wd1811) hC, ?_⟩
  refine List.forall_mem_cons.mpr ⟨am_Snd.toF ((s_pop (am_dp pw_L_law_1408 dd_L_law_1408c.2.1)).to) hC, ?_⟩
  refine List.forall_mem_cons.mpr ⟨am_Snd.toF ((s_goto (am_dp pw_L_law_1408 dd_L_law_1408c.2.2.1) (by decide)).to) hC, ?_⟩
  refine List.forall_mem_cons.mpr ⟨am_Snd.toF ((s_iinc (am_dp pw_L_law_1408 dd_L_law_1408c.2.2.2) (by decide) (by decide)).to) hC, ?_⟩
  refine List.forall_mem_cons.mpr ⟨am_Snd.toF ((s_goto (am_dp pw_L_law_1440 dd_L_law_1440a.1) (by decide)).to) hC, ?_⟩
  refine List.forall_mem_cons.mpr ⟨am_Snd.toF ((s_iconst (am_dp pw_L_law_1440 dd_L_law_1440a.2.1) (by decide)).to) hC, ?_⟩
  refine List.forall_mem_cons.mpr ⟨am_Snd.toF (s_zret (am_dp pw_L_law_1440 dd_L_law_1440a.2.2) rfl) hC, ?_⟩
  exact fun _ h => absurd h List.not_mem_nil
theorem snL (hC : am_Cx G RL code 4 (some .boolean) nm p s m args meth c) (hX : va_X (G.2.1.1 0) L xs s s.heap) (hb : G.2.1.1 0 < G.1) : ∀ q ∈ tL xs L, am_SndF am_P0 G 4 p l e R s m args below meth c q.1 q.2 := List.forall_mem_append.mpr ⟨snL_0 hC hX hb, List.forall_mem_append.mpr ⟨snL_1 hC hX hb, List.forall_mem_append.mpr ⟨snL_2 hC hX hb, List.forall_mem_append.mpr ⟨snL_3 hC hX hb, List.forall_mem_append.mpr ⟨snL_4 hC hX hb, List.forall_mem_append.mpr ⟨snL_5 hC hX hb, List.forall_mem_append.mpr ⟨snL_6 hC hX hb, List.forall_mem_append.mpr ⟨snL_7 hC hX hb, List.forall_mem_append.mpr ⟨snL_8 hC hX hb, List.forall_mem_append.mpr ⟨snL_9 hC hX hb, List.forall_mem_append.mpr ⟨snL_10 hC hX hb, List.forall_mem_append.mpr ⟨snL_11 hC hX hb, List.forall_mem_append.mpr ⟨snL_12 hC hX hb, List.forall_mem_append.mpr ⟨snL_13 hC hX hb, List.forall_mem_append.mpr ⟨snL_14 hC hX hb, List.forall_mem_append.mpr ⟨snL_15 hC hX hb, snL_16 hC hX hb⟩⟩⟩⟩⟩⟩⟩⟩⟩⟩⟩⟩⟩⟩⟩⟩
end
