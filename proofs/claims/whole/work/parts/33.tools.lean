/-! TOOLS: each place by its own rewriting, views of the memory -/
theorem ok_mk {ci n : Nat} {a : Int} (h : shk SHX a = (ci, n)) {P : Prop} : ook SHX ci a P = P := propext (ook_iff.trans ⟨fun p => p.2, fun p => ⟨by rw [h], p⟩⟩)
theorem ak_mk {kd n : Nat} {a : Int} (h : shk SHX a = (kd, n)) {i : Int} {P : Prop} : aok SHX kd a i P = (0 ≤ i ∧ i < (n : Int) ∧ P) := propext (by rw [aok_iff, h]; exact ⟨fun p => p.2, fun p => ⟨rfl, p⟩⟩)
theorem fs1 : shk SHX 1 = (4, 0) := by decide +kernel
theorem fs2 : shk SHX 2 = (100, 10) := by decide +kernel
theorem fs3 : shk SHX 3 = (100, 10) := by decide +kernel
theorem fs4 : shk SHX 4 = (100, 10) := by decide +kernel
theorem fs5 : shk SHX 5 = (100, 10) := by decide +kernel
theorem fs6 : shk SHX 6 = (100, 3) := by decide +kernel
theorem fs7 : shk SHX 7 = (100, 16) := by decide +kernel
theorem fs8 : shk SHX 8 = (100, 16) := by decide +kernel
theorem fs9 : shk SHX 9 = (100, 16) := by decide +kernel
theorem fs10 : shk SHX 10 = (100, 6) := by decide +kernel
theorem fs11 : shk SHX 11 = (100, 6) := by decide +kernel
theorem fs12 : shk SHX 12 = (100, 1600) := by decide +kernel
theorem fs13 : shk SHX 13 = (100, 32) := by decide +kernel
theorem fs14 : shk SHX 14 = (4, 0) := by decide +kernel
theorem fs15 : shk SHX 15 = (100, 10) := by decide +kernel
theorem fs16 : shk SHX 16 = (100, 10) := by decide +kernel
theorem fs17 : shk SHX 17 = (100, 10) := by decide +kernel
theorem fs18 : shk SHX 18 = (100, 10) := by decide +kernel
theorem fs19 : shk SHX 19 = (100, 3) := by decide +kernel
theorem fs20 : shk SHX 20 = (100, 16) := by decide +kernel
theorem fs21 : shk SHX 21 = (100, 16) := by decide +kernel
theorem fs22 : shk SHX 22 = (100, 16) := by decide +kernel
theorem fs23 : shk SHX 23 = (100, 6) := by decide +kernel
theorem fs24 : shk SHX 24 = (100, 6) := by decide +kernel
theorem fs25 : shk SHX 25 = (100, 1600) := by decide +kernel
theorem fs26 : shk SHX 26 = (100, 32) := by decide +kernel
theorem fs27 : shk SHX 27 = (9, 0) := by decide +kernel
theorem fs28 : shk SHX 28 = (100, 1600) := by decide +kernel
theorem fs29 : shk SHX 29 = (101, 18) := by decide +kernel
theorem fs30 : shk SHX 30 = (100, 1601) := by decide +kernel
theorem fs31 : shk SHX 31 = (100, 1601) := by decide +kernel
theorem fs32 : shk SHX 32 = (101, 1601) := by decide +kernel
theorem fs33 : shk SHX 33 = (5, 0) := by decide +kernel
theorem fs34 : shk SHX 34 = (101, 10) := by decide +kernel
theorem fs35 : shk SHX 35 = (101, 6) := by decide +kernel
theorem fs36 : shk SHX 36 = (0, 0) := by decide +kernel
theorem fs37 : shk SHX 37 = (104, 41) := by decide +kernel
theorem fs38 : shk SHX 38 = (8, 0) := by decide +kernel
theorem fs39 : shk SHX 39 = (100, 256) := by decide +kernel
theorem fs40 : shk SHX 40 = (100, 10) := by decide +kernel
theorem fs41 : shk SHX 41 = (100, 10) := by decide +kernel
theorem fs42 : shk SHX 42 = (100, 10) := by decide +kernel
theorem fs43 : shk SHX 43 = (8, 0) := by decide +kernel
theorem fs44 : shk SHX 44 = (100, 256) := by decide +kernel
theorem fs45 : shk SHX 45 = (100, 10) := by decide +kernel
theorem fs46 : shk SHX 46 = (100, 10) := by decide +kernel
theorem fs47 : shk SHX 47 = (100, 10) := by decide +kernel
theorem fs48 : shk SHX 48 = (8, 0) := by decide +kernel
theorem fs49 : shk SHX 49 = (100, 256) := by decide +kernel
theorem fs50 : shk SHX 50 = (100, 10) := by decide +kernel
theorem fs51 : shk SHX 51 = (100, 10) := by decide +kernel
theorem fs52 : shk SHX 52 = (100, 10) := by decide +kernel
theorem fs53 : shk SHX 53 = (8, 0) := by decide +kernel
theorem fs54 : shk SHX 54 = (100, 256) := by decide +kernel
theorem fs55 : shk SHX 55 = (100, 10) := by decide +kernel
theorem fs56 : shk SHX 56 = (100, 10) := by decide +kernel
theorem fs57 : shk SHX 57 = (100, 10) := by decide +kernel
theorem fs58 : shk SHX 58 = (8, 0) := by decide +kernel
theorem fs59 : shk SHX 59 = (100, 256) := by decide +kernel
theorem fs60 : shk SHX 60 = (100, 10) := by decide +kernel
theorem fs61 : shk SHX 61 = (100, 10) := by decide +kernel
theorem fs62 : shk SHX 62 = (100, 10) := by decide +kernel
theorem fs63 : shk SHX 63 = (8, 0) := by decide +kernel
theorem fs64 : shk SHX 64 = (100, 256) := by decide +kernel
theorem fs65 : shk SHX 65 = (100, 10) := by decide +kernel
theorem fs66 : shk SHX 66 = (100, 10) := by decide +kernel
theorem fs67 : shk SHX 67 = (100, 10) := by decide +kernel
theorem fs68 : shk SHX 68 = (8, 0) := by decide +kernel
theorem fs69 : shk SHX 69 = (100, 256) := by decide +kernel
theorem fs70 : shk SHX 70 = (100, 10) := by decide +kernel
theorem fs71 : shk SHX 71 = (100, 10) := by decide +kernel
theorem fs72 : shk SHX 72 = (100, 10) := by decide +kernel
theorem fs73 : shk SHX 73 = (8, 0) := by decide +kernel
theorem fs74 : shk SHX 74 = (100, 256) := by decide +kernel
theorem fs75 : shk SHX 75 = (100, 10) := by decide +kernel
theorem fs76 : shk SHX 76 = (100, 10) := by decide +kernel
theorem fs77 : shk SHX 77 = (100, 10) := by decide +kernel
theorem fs78 : shk SHX 78 = (8, 0) := by decide +kernel
theorem fs79 : shk SHX 79 = (100, 256) := by decide +kernel
theorem fs80 : shk SHX 80 = (100, 10) := by decide +kernel
theorem fs81 : shk SHX 81 = (100, 10) := by decide +kernel
theorem fs82 : shk SHX 82 = (100, 10) := by decide +kernel
theorem fs83 : shk SHX 83 = (8, 0) := by decide +kernel
theorem fs84 : shk SHX 84 = (100, 256) := by decide +kernel
theorem fs85 : shk SHX 85 = (100, 10) := by decide +kernel
theorem fs86 : shk SHX 86 = (100, 10) := by decide +kernel
theorem fs87 : shk SHX 87 = (100, 10) := by decide +kernel
theorem fs88 : shk SHX 88 = (8, 0) := by decide +kernel
theorem fs89 : shk SHX 89 = (100, 256) := by decide +kernel
theorem fs90 : shk SHX 90 = (100, 10) := by decide +kernel
theorem fs91 : shk SHX 91 = (100, 10) := by decide +kernel
theorem fs92 : shk SHX 92 = (100, 10) := by decide +kernel
theorem fs93 : shk SHX 93 = (8, 0) := by decide +kernel
theorem fs94 : shk SHX 94 = (100, 256) := by decide +kernel
theorem fs95 : shk SHX 95 = (100, 10) := by decide +kernel
theorem fs96 : shk SHX 96 = (100, 10) := by decide +kernel
theorem fs97 : shk SHX 97 = (100, 10) := by decide +kernel
theorem fs98 : shk SHX 98 = (8, 0) := by decide +kernel
theorem fs99 : shk SHX 99 = (100, 256) := by decide +kernel
theorem fs100 : shk SHX 100 = (100, 10) := by decide +kernel
theorem fs101 : shk SHX 101 = (100, 10) := by decide +kernel
theorem fs102 : shk SHX 102 = (100, 10) := by decide +kernel
theorem fs103 : shk SHX 103 = (8, 0) := by decide +kernel
theorem fs104 : shk SHX 104 = (100, 256) := by decide +kernel
theorem fs105 : shk SHX 105 = (100, 10) := by decide +kernel
theorem fs106 : shk SHX 106 = (100, 10) := by decide +kernel
theorem fs107 : shk SHX 107 = (100, 10) := by decide +kernel
theorem fs108 : shk SHX 108 = (8, 0) := by decide +kernel
theorem fs109 : shk SHX 109 = (100, 256) := by decide +kernel
theorem fs110 : shk SHX 110 = (100, 10) := by decide +kernel
theorem fs111 : shk SHX 111 = (100, 10) := by decide +kernel
theorem fs112 : shk SHX 112 = (100, 10) := by decide +kernel
theorem fs113 : shk SHX 113 = (8, 0) := by decide +kernel
theorem fs114 : shk SHX 114 = (100, 256) := by decide +kernel
theorem fs115 : shk SHX 115 = (100, 10) := by decide +kernel
theorem fs116 : shk SHX 116 = (100, 10) := by decide +kernel
theorem fs117 : shk SHX 117 = (100, 10) := by decide +kernel
theorem fs118 : shk SHX 118 = (8, 0) := by decide +kernel
theorem fs119 : shk SHX 119 = (100, 256) := by decide +kernel
theorem fs120 : shk SHX 120 = (100, 10) := by decide +kernel
theorem fs121 : shk SHX 121 = (100, 10) := by decide +kernel
theorem fs122 : shk SHX 122 = (100, 10) := by decide +kernel
theorem fs123 : shk SHX 123 = (8, 0) := by decide +kernel
theorem fs124 : shk SHX 124 = (100, 256) := by decide +kernel
theorem fs125 : shk SHX 125 = (100, 10) := by decide +kernel
theorem fs126 : shk SHX 126 = (100, 10) := by decide +kernel
theorem fs127 : shk SHX 127 = (100, 10) := by decide +kernel
theorem fs128 : shk SHX 128 = (8, 0) := by decide +kernel
theorem fs129 : shk SHX 129 = (100, 256) := by decide +kernel
theorem fs130 : shk SHX 130 = (100, 10) := by decide +kernel
theorem fs131 : shk SHX 131 = (100, 10) := by decide +kernel
theorem fs132 : shk SHX 132 = (100, 10) := by decide +kernel
theorem fs133 : shk SHX 133 = (8, 0) := by decide +kernel
theorem fs134 : shk SHX 134 = (100, 256) := by decide +kernel
theorem fs135 : shk SHX 135 = (100, 10) := by decide +kernel
theorem fs136 : shk SHX 136 = (100, 10) := by decide +kernel
theorem fs137 : shk SHX 137 = (100, 10) := by decide +kernel
theorem fs138 : shk SHX 138 = (8, 0) := by decide +kernel
theorem fs139 : shk SHX 139 = (100, 256) := by decide +kernel
theorem fs140 : shk SHX 140 = (100, 10) := by decide +kernel
theorem fs141 : shk SHX 141 = (100, 10) := by decide +kernel
theorem fs142 : shk SHX 142 = (100, 10) := by decide +kernel
theorem fs143 : shk SHX 143 = (8, 0) := by decide +kernel
theorem fs144 : shk SHX 144 = (100, 256) := by decide +kernel
theorem fs145 : shk SHX 145 = (100, 10) := by decide +kernel
theorem fs146 : shk SHX 146 = (100, 10) := by decide +kernel
theorem fs147 : shk SHX 147 = (100, 10) := by decide +kernel
theorem fs148 : shk SHX 148 = (8, 0) := by decide +kernel
theorem fs149 : shk SHX 149 = (100, 256) := by decide +kernel
theorem fs150 : shk SHX 150 = (100, 10) := by decide +kernel
theorem fs151 : shk SHX 151 = (100, 10) := by decide +kernel
theorem fs152 : shk SHX 152 = (100, 10) := by decide +kernel
theorem fs153 : shk SHX 153 = (8, 0) := by decide +kernel
theorem fs154 : shk SHX 154 = (100, 256) := by decide +kernel
theorem fs155 : shk SHX 155 = (100, 10) := by decide +kernel
theorem fs156 : shk SHX 156 = (100, 10) := by decide +kernel
theorem fs157 : shk SHX 157 = (100, 10) := by decide +kernel
theorem fs158 : shk SHX 158 = (8, 0) := by decide +kernel
theorem fs159 : shk SHX 159 = (100, 256) := by decide +kernel
theorem fs160 : shk SHX 160 = (100, 10) := by decide +kernel
theorem fs161 : shk SHX 161 = (100, 10) := by decide +kernel
theorem fs162 : shk SHX 162 = (100, 10) := by decide +kernel
theorem fs163 : shk SHX 163 = (8, 0) := by decide +kernel
theorem fs164 : shk SHX 164 = (100, 256) := by decide +kernel
theorem fs165 : shk SHX 165 = (100, 10) := by decide +kernel
theorem fs166 : shk SHX 166 = (100, 10) := by decide +kernel
theorem fs167 : shk SHX 167 = (100, 10) := by decide +kernel
theorem fs168 : shk SHX 168 = (8, 0) := by decide +kernel
theorem fs169 : shk SHX 169 = (100, 256) := by decide +kernel
theorem fs170 : shk SHX 170 = (100, 10) := by decide +kernel
theorem fs171 : shk SHX 171 = (100, 10) := by decide +kernel
theorem fs172 : shk SHX 172 = (100, 10) := by decide +kernel
theorem fs173 : shk SHX 173 = (8, 0) := by decide +kernel
theorem fs174 : shk SHX 174 = (100, 256) := by decide +kernel
theorem fs175 : shk SHX 175 = (100, 10) := by decide +kernel
theorem fs176 : shk SHX 176 = (100, 10) := by decide +kernel
theorem fs177 : shk SHX 177 = (100, 10) := by decide +kernel
theorem fs178 : shk SHX 178 = (8, 0) := by decide +kernel
theorem fs179 : shk SHX 179 = (100, 256) := by decide +kernel
theorem fs180 : shk SHX 180 = (100, 10) := by decide +kernel
theorem fs181 : shk SHX 181 = (100, 10) := by decide +kernel
theorem fs182 : shk SHX 182 = (100, 10) := by decide +kernel
theorem fs183 : shk SHX 183 = (8, 0) := by decide +kernel
theorem fs184 : shk SHX 184 = (100, 256) := by decide +kernel
theorem fs185 : shk SHX 185 = (100, 10) := by decide +kernel
theorem fs186 : shk SHX 186 = (100, 10) := by decide +kernel
theorem fs187 : shk SHX 187 = (100, 10) := by decide +kernel
theorem fs188 : shk SHX 188 = (8, 0) := by decide +kernel
theorem fs189 : shk SHX 189 = (100, 256) := by decide +kernel
theorem fs190 : shk SHX 190 = (100, 10) := by decide +kernel
theorem fs191 : shk SHX 191 = (100, 10) := by decide +kernel
theorem fs192 : shk SHX 192 = (100, 10) := by decide +kernel
theorem fs193 : shk SHX 193 = (8, 0) := by decide +kernel
theorem fs194 : shk SHX 194 = (100, 256) := by decide +kernel
theorem fs195 : shk SHX 195 = (100, 10) := by decide +kernel
theorem fs196 : shk SHX 196 = (100, 10) := by decide +kernel
theorem fs197 : shk SHX 197 = (100, 10) := by decide +kernel
theorem fs198 : shk SHX 198 = (8, 0) := by decide +kernel
theorem fs199 : shk SHX 199 = (100, 256) := by decide +kernel
theorem fs200 : shk SHX 200 = (100, 10) := by decide +kernel
theorem fs201 : shk SHX 201 = (100, 10) := by decide +kernel
theorem fs202 : shk SHX 202 = (100, 10) := by decide +kernel
theorem fs203 : shk SHX 203 = (8, 0) := by decide +kernel
theorem fs204 : shk SHX 204 = (100, 256) := by decide +kernel
theorem fs205 : shk SHX 205 = (100, 10) := by decide +kernel
theorem fs206 : shk SHX 206 = (100, 10) := by decide +kernel
theorem fs207 : shk SHX 207 = (100, 10) := by decide +kernel
theorem fs208 : shk SHX 208 = (8, 0) := by decide +kernel
theorem fs209 : shk SHX 209 = (100, 256) := by decide +kernel
theorem fs210 : shk SHX 210 = (100, 10) := by decide +kernel
theorem fs211 : shk SHX 211 = (100, 10) := by decide +kernel
theorem fs212 : shk SHX 212 = (100, 10) := by decide +kernel
theorem fs213 : shk SHX 213 = (8, 0) := by decide +kernel
theorem fs214 : shk SHX 214 = (100, 256) := by decide +kernel
theorem fs215 : shk SHX 215 = (100, 10) := by decide +kernel
theorem fs216 : shk SHX 216 = (100, 10) := by decide +kernel
theorem fs217 : shk SHX 217 = (100, 10) := by decide +kernel
theorem fs218 : shk SHX 218 = (8, 0) := by decide +kernel
theorem fs219 : shk SHX 219 = (100, 256) := by decide +kernel
theorem fs220 : shk SHX 220 = (100, 10) := by decide +kernel
theorem fs221 : shk SHX 221 = (100, 10) := by decide +kernel
theorem fs222 : shk SHX 222 = (100, 10) := by decide +kernel
theorem fs223 : shk SHX 223 = (8, 0) := by decide +kernel
theorem fs224 : shk SHX 224 = (100, 256) := by decide +kernel
theorem fs225 : shk SHX 225 = (100, 10) := by decide +kernel
theorem fs226 : shk SHX 226 = (100, 10) := by decide +kernel
theorem fs227 : shk SHX 227 = (100, 10) := by decide +kernel
theorem fs228 : shk SHX 228 = (8, 0) := by decide +kernel
theorem fs229 : shk SHX 229 = (100, 256) := by decide +kernel
theorem fs230 : shk SHX 230 = (100, 10) := by decide +kernel
theorem fs231 : shk SHX 231 = (100, 10) := by decide +kernel
theorem fs232 : shk SHX 232 = (100, 10) := by decide +kernel
theorem fs233 : shk SHX 233 = (8, 0) := by decide +kernel
theorem fs234 : shk SHX 234 = (100, 256) := by decide +kernel
theorem fs235 : shk SHX 235 = (100, 10) := by decide +kernel
theorem fs236 : shk SHX 236 = (100, 10) := by decide +kernel
theorem fs237 : shk SHX 237 = (100, 10) := by decide +kernel
theorem fs238 : shk SHX 238 = (8, 0) := by decide +kernel
theorem fs239 : shk SHX 239 = (100, 256) := by decide +kernel
theorem fs240 : shk SHX 240 = (100, 10) := by decide +kernel
theorem fs241 : shk SHX 241 = (100, 10) := by decide +kernel
theorem fs242 : shk SHX 242 = (100, 10) := by decide +kernel
theorem fs243 : shk SHX 243 = (104, 3) := by decide +kernel
theorem fs244 : shk SHX 244 = (8, 0) := by decide +kernel
theorem fs245 : shk SHX 245 = (100, 256) := by decide +kernel
theorem fs246 : shk SHX 246 = (100, 10) := by decide +kernel
theorem fs247 : shk SHX 247 = (100, 10) := by decide +kernel
theorem fs248 : shk SHX 248 = (100, 10) := by decide +kernel
theorem fs249 : shk SHX 249 = (8, 0) := by decide +kernel
theorem fs250 : shk SHX 250 = (100, 256) := by decide +kernel
theorem fs251 : shk SHX 251 = (100, 10) := by decide +kernel
theorem fs252 : shk SHX 252 = (100, 10) := by decide +kernel
theorem fs253 : shk SHX 253 = (100, 10) := by decide +kernel
theorem fs254 : shk SHX 254 = (8, 0) := by decide +kernel
theorem fs255 : shk SHX 255 = (100, 256) := by decide +kernel
theorem fs256 : shk SHX 256 = (100, 10) := by decide +kernel
theorem fs257 : shk SHX 257 = (100, 10) := by decide +kernel
theorem fs258 : shk SHX 258 = (100, 10) := by decide +kernel
theorem fs259 : shk SHX 259 = (103, 3) := by decide +kernel
theorem fs260 : shk SHX 260 = (100, 3) := by decide +kernel
theorem fs261 : shk SHX 261 = (10, 0) := by decide +kernel
theorem fs262 : shk SHX 262 = (8, 0) := by decide +kernel
theorem fs263 : shk SHX 263 = (100, 256) := by decide +kernel
theorem fs264 : shk SHX 264 = (100, 10) := by decide +kernel
theorem fs265 : shk SHX 265 = (100, 10) := by decide +kernel
theorem fs266 : shk SHX 266 = (100, 10) := by decide +kernel
theorem fs267 : shk SHX 267 = (8, 0) := by decide +kernel
theorem fs268 : shk SHX 268 = (100, 256) := by decide +kernel
theorem fs269 : shk SHX 269 = (100, 10) := by decide +kernel
theorem fs270 : shk SHX 270 = (100, 10) := by decide +kernel
theorem fs271 : shk SHX 271 = (100, 10) := by decide +kernel
theorem fs272 : shk SHX 272 = (100, 3) := by decide +kernel
theorem fs273 : shk SHX 273 = (100, 41) := by decide +kernel
theorem fs274 : shk SHX 274 = (6, 0) := by decide +kernel
theorem fs275 : shk SHX 275 = (105, 61) := by decide +kernel
theorem fs276 : shk SHX 276 = (100, 10) := by decide +kernel
theorem fs277 : shk SHX 277 = (100, 10) := by decide +kernel
theorem fs278 : shk SHX 278 = (100, 10) := by decide +kernel
theorem fs279 : shk SHX 279 = (100, 10) := by decide +kernel
theorem fs280 : shk SHX 280 = (100, 10) := by decide +kernel
theorem fs281 : shk SHX 281 = (100, 10) := by decide +kernel
theorem fs282 : shk SHX 282 = (100, 10) := by decide +kernel
theorem fs283 : shk SHX 283 = (100, 10) := by decide +kernel
theorem fs284 : shk SHX 284 = (100, 10) := by decide +kernel
theorem fs285 : shk SHX 285 = (100, 10) := by decide +kernel
theorem fs286 : shk SHX 286 = (100, 10) := by decide +kernel
theorem fs287 : shk SHX 287 = (100, 10) := by decide +kernel
theorem fs288 : shk SHX 288 = (100, 10) := by decide +kernel
theorem fs289 : shk SHX 289 = (100, 10) := by decide +kernel
theorem fs290 : shk SHX 290 = (100, 10) := by decide +kernel
theorem fs291 : shk SHX 291 = (100, 10) := by decide +kernel
theorem fs292 : shk SHX 292 = (100, 10) := by decide +kernel
theorem fs293 : shk SHX 293 = (100, 10) := by decide +kernel
theorem fs294 : shk SHX 294 = (100, 10) := by decide +kernel
theorem fs295 : shk SHX 295 = (100, 10) := by decide +kernel
theorem fs296 : shk SHX 296 = (100, 10) := by decide +kernel
theorem fs297 : shk SHX 297 = (100, 10) := by decide +kernel
theorem fs298 : shk SHX 298 = (100, 10) := by decide +kernel
theorem fs299 : shk SHX 299 = (100, 10) := by decide +kernel
theorem fs300 : shk SHX 300 = (100, 10) := by decide +kernel
theorem fs301 : shk SHX 301 = (100, 10) := by decide +kernel
theorem fs302 : shk SHX 302 = (100, 10) := by decide +kernel
theorem fs303 : shk SHX 303 = (100, 10) := by decide +kernel
theorem fs304 : shk SHX 304 = (100, 10) := by decide +kernel
theorem fs305 : shk SHX 305 = (100, 10) := by decide +kernel
theorem fs306 : shk SHX 306 = (100, 10) := by decide +kernel
theorem fs307 : shk SHX 307 = (100, 10) := by decide +kernel
theorem fs308 : shk SHX 308 = (100, 10) := by decide +kernel
theorem fs309 : shk SHX 309 = (100, 10) := by decide +kernel
theorem fs310 : shk SHX 310 = (100, 10) := by decide +kernel
theorem fs311 : shk SHX 311 = (100, 10) := by decide +kernel
theorem fs312 : shk SHX 312 = (100, 10) := by decide +kernel
theorem fs313 : shk SHX 313 = (100, 10) := by decide +kernel
theorem fs314 : shk SHX 314 = (100, 10) := by decide +kernel
theorem fs315 : shk SHX 315 = (100, 10) := by decide +kernel
theorem fs316 : shk SHX 316 = (100, 10) := by decide +kernel
theorem fs317 : shk SHX 317 = (100, 10) := by decide +kernel
theorem fs318 : shk SHX 318 = (100, 10) := by decide +kernel
theorem fs319 : shk SHX 319 = (100, 10) := by decide +kernel
theorem fs320 : shk SHX 320 = (100, 10) := by decide +kernel
theorem fs321 : shk SHX 321 = (100, 10) := by decide +kernel
theorem fs322 : shk SHX 322 = (100, 10) := by decide +kernel
theorem fs323 : shk SHX 323 = (100, 10) := by decide +kernel
theorem fs324 : shk SHX 324 = (100, 10) := by decide +kernel
theorem fs325 : shk SHX 325 = (100, 10) := by decide +kernel
theorem fs326 : shk SHX 326 = (100, 10) := by decide +kernel
theorem fs327 : shk SHX 327 = (100, 10) := by decide +kernel
theorem fs328 : shk SHX 328 = (100, 10) := by decide +kernel
theorem fs329 : shk SHX 329 = (100, 10) := by decide +kernel
theorem fs330 : shk SHX 330 = (100, 10) := by decide +kernel
theorem fs331 : shk SHX 331 = (100, 10) := by decide +kernel
theorem fs332 : shk SHX 332 = (100, 10) := by decide +kernel
theorem fs333 : shk SHX 333 = (100, 10) := by decide +kernel
theorem fs334 : shk SHX 334 = (100, 10) := by decide +kernel
theorem fs335 : shk SHX 335 = (100, 10) := by decide +kernel
theorem fs336 : shk SHX 336 = (100, 10) := by decide +kernel
theorem fs337 : shk SHX 337 = (100, 10) := by decide +kernel
theorem fs338 : shk SHX 338 = (3, 0) := by decide +kernel
theorem fs339 : shk SHX 339 = (100, 8) := by decide +kernel
theorem fs340 : shk SHX 340 = (2, 0) := by decide +kernel
theorem fs341 : shk SHX 341 = (100, 3) := by decide +kernel
theorem fs342 : shk SHX 342 = (1, 0) := by decide +kernel
theorem fs343 : shk SHX 343 = (100, 4) := by decide +kernel
theorem fs344 : shk SHX 344 = (105, 9) := by decide +kernel
theorem fs345 : shk SHX 345 = (100, 4) := by decide +kernel
theorem fs346 : shk SHX 346 = (100, 4) := by decide +kernel
theorem fs347 : shk SHX 347 = (100, 4) := by decide +kernel
theorem fs348 : shk SHX 348 = (100, 4) := by decide +kernel
theorem fs349 : shk SHX 349 = (100, 4) := by decide +kernel
theorem fs350 : shk SHX 350 = (100, 4) := by decide +kernel
theorem fs351 : shk SHX 351 = (100, 4) := by decide +kernel
theorem fs352 : shk SHX 352 = (100, 4) := by decide +kernel
theorem fs353 : shk SHX 353 = (100, 4) := by decide +kernel
theorem fs354 : shk SHX 354 = (100, 8) := by decide +kernel
theorem fs355 : shk SHX 355 = (7, 0) := by decide +kernel
theorem fs356 : shk SHX 356 = (100, 20) := by decide +kernel
theorem fs357 : shk SHX 357 = (100, 20) := by decide +kernel
theorem fs358 : shk SHX 358 = (100, 20) := by decide +kernel
theorem fs359 : shk SHX 359 = (100, 20) := by decide +kernel
theorem fs360 : shk SHX 360 = (100, 20) := by decide +kernel
theorem fs361 : shk SHX 361 = (100, 3) := by decide +kernel
theorem fs362 : shk SHX 362 = (100, 3) := by decide +kernel
theorem fs363 : shk SHX 363 = (103, 3) := by decide +kernel
theorem ok0 {P : Prop} : ook SHX 11 0 P = P := ok_mk (n := 0) (by decide +kernel)
theorem ok27 {P : Prop} : ook SHX 9 27 P = P := ok_mk fs27
theorem ak28 {i : Int} {P : Prop} : aok SHX 100 28 i P = (0 ≤ i ∧ i < 1600 ∧ P) := ak_mk fs28
theorem ak29 {i : Int} {P : Prop} : aok SHX 101 29 i P = (0 ≤ i ∧ i < 18 ∧ P) := ak_mk fs29
theorem ak30 {i : Int} {P : Prop} : aok SHX 100 30 i P = (0 ≤ i ∧ i < 1601 ∧ P) := ak_mk fs30
theorem ak31 {i : Int} {P : Prop} : aok SHX 100 31 i P = (0 ≤ i ∧ i < 1601 ∧ P) := ak_mk fs31
theorem ak32 {i : Int} {P : Prop} : aok SHX 101 32 i P = (0 ≤ i ∧ i < 1601 ∧ P) := ak_mk fs32
theorem ok33 {P : Prop} : ook SHX 5 33 P = P := ok_mk fs33
theorem ak34 {i : Int} {P : Prop} : aok SHX 101 34 i P = (0 ≤ i ∧ i < 10 ∧ P) := ak_mk fs34
theorem ak35 {i : Int} {P : Prop} : aok SHX 101 35 i P = (0 ≤ i ∧ i < 6 ∧ P) := ak_mk fs35
theorem ok36 {P : Prop} : ook SHX 0 36 P = P := ok_mk fs36
theorem ak37 {i : Int} {P : Prop} : aok SHX 104 37 i P = (0 ≤ i ∧ i < 41 ∧ P) := ak_mk fs37
theorem ak243 {i : Int} {P : Prop} : aok SHX 104 243 i P = (0 ≤ i ∧ i < 3 ∧ P) := ak_mk fs243
theorem ak259 {i : Int} {P : Prop} : aok SHX 103 259 i P = (0 ≤ i ∧ i < 3 ∧ P) := ak_mk fs259
theorem ak260 {i : Int} {P : Prop} : aok SHX 100 260 i P = (0 ≤ i ∧ i < 3 ∧ P) := ak_mk fs260
theorem ok261 {P : Prop} : ook SHX 10 261 P = P := ok_mk fs261
theorem ak272 {i : Int} {P : Prop} : aok SHX 100 272 i P = (0 ≤ i ∧ i < 3 ∧ P) := ak_mk fs272
theorem ak273 {i : Int} {P : Prop} : aok SHX 100 273 i P = (0 ≤ i ∧ i < 41 ∧ P) := ak_mk fs273
theorem ok274 {P : Prop} : ook SHX 6 274 P = P := ok_mk fs274
theorem ak275 {i : Int} {P : Prop} : aok SHX 105 275 i P = (0 ≤ i ∧ i < 61 ∧ P) := ak_mk fs275
theorem ak276 {i : Int} {P : Prop} : aok SHX 100 276 i P = (0 ≤ i ∧ i < 10 ∧ P) := ak_mk fs276
theorem ak277 {i : Int} {P : Prop} : aok SHX 100 277 i P = (0 ≤ i ∧ i < 10 ∧ P) := ak_mk fs277
theorem ak278 {i : Int} {P : Prop} : aok SHX 100 278 i P = (0 ≤ i ∧ i < 10 ∧ P) := ak_mk fs278
theorem ak279 {i : Int} {P : Prop} : aok SHX 100 279 i P = (0 ≤ i ∧ i < 10 ∧ P) := ak_mk fs279
theorem ak280 {i : Int} {P : Prop} : aok SHX 100 280 i P = (0 ≤ i ∧ i < 10 ∧ P) := ak_mk fs280
theorem ak281 {i : Int} {P : Prop} : aok SHX 100 281 i P = (0 ≤ i ∧ i < 10 ∧ P) := ak_mk fs281
theorem ak282 {i : Int} {P : Prop} : aok SHX 100 282 i P = (0 ≤ i ∧ i < 10 ∧ P) := ak_mk fs282
theorem ak283 {i : Int} {P : Prop} : aok SHX 100 283 i P = (0 ≤ i ∧ i < 10 ∧ P) := ak_mk fs283
theorem ak284 {i : Int} {P : Prop} : aok SHX 100 284 i P = (0 ≤ i ∧ i < 10 ∧ P) := ak_mk fs284
theorem ak285 {i : Int} {P : Prop} : aok SHX 100 285 i P = (0 ≤ i ∧ i < 10 ∧ P) := ak_mk fs285
theorem ak286 {i : Int} {P : Prop} : aok SHX 100 286 i P = (0 ≤ i ∧ i < 10 ∧ P) := ak_mk fs286
theorem ak287 {i : Int} {P : Prop} : aok SHX 100 287 i P = (0 ≤ i ∧ i < 10 ∧ P) := ak_mk fs287
theorem ak288 {i : Int} {P : Prop} : aok SHX 100 288 i P = (0 ≤ i ∧ i < 10 ∧ P) := ak_mk fs288
theorem ak289 {i : Int} {P : Prop} : aok SHX 100 289 i P = (0 ≤ i ∧ i < 10 ∧ P) := ak_mk fs289
theorem ak290 {i : Int} {P : Prop} : aok SHX 100 290 i P = (0 ≤ i ∧ i < 10 ∧ P) := ak_mk fs290
theorem ak291 {i : Int} {P : Prop} : aok SHX 100 291 i P = (0 ≤ i ∧ i < 10 ∧ P) := ak_mk fs291
theorem ak292 {i : Int} {P : Prop} : aok SHX 100 292 i P = (0 ≤ i ∧ i < 10 ∧ P) := ak_mk fs292
theorem ak293 {i : Int} {P : Prop} : aok SHX 100 293 i P = (0 ≤ i ∧ i < 10 ∧ P) := ak_mk fs293
theorem ak294 {i : Int} {P : Prop} : aok SHX 100 294 i P = (0 ≤ i ∧ i < 10 ∧ P) := ak_mk fs294
theorem ak295 {i : Int} {P : Prop} : aok SHX 100 295 i P = (0 ≤ i ∧ i < 10 ∧ P) := ak_mk fs295
theorem ak296 {i : Int} {P : Prop} : aok SHX 100 296 i P = (0 ≤ i ∧ i < 10 ∧ P) := ak_mk fs296
theorem ak297 {i : Int} {P : Prop} : aok SHX 100 297 i P = (0 ≤ i ∧ i < 10 ∧ P) := ak_mk fs297
theorem ak298 {i : Int} {P : Prop} : aok SHX 100 298 i P = (0 ≤ i ∧ i < 10 ∧ P) := ak_mk fs298
theorem ak299 {i : Int} {P : Prop} : aok SHX 100 299 i P = (0 ≤ i ∧ i < 10 ∧ P) := ak_mk fs299
theorem ak300 {i : Int} {P : Prop} : aok SHX 100 300 i P = (0 ≤ i ∧ i < 10 ∧ P) := ak_mk fs300
theorem ak301 {i : Int} {P : Prop} : aok SHX 100 301 i P = (0 ≤ i ∧ i < 10 ∧ P) := ak_mk fs301
theorem ak302 {i : Int} {P : Prop} : aok SHX 100 302 i P = (0 ≤ i ∧ i < 10 ∧ P) := ak_mk fs302
theorem ak303 {i : Int} {P : Prop} : aok SHX 100 303 i P = (0 ≤ i ∧ i < 10 ∧ P) := ak_mk fs303
theorem ak304 {i : Int} {P : Prop} : aok SHX 100 304 i P = (0 ≤ i ∧ i < 10 ∧ P) := ak_mk fs304
theorem ak305 {i : Int} {P : Prop} : aok SHX 100 305 i P = (0 ≤ i ∧ i < 10 ∧ P) := ak_mk fs305
theorem ak306 {i : Int} {P : Prop} : aok SHX 100 306 i P = (0 ≤ i ∧ i < 10 ∧ P) := ak_mk fs306
theorem ak307 {i : Int} {P : Prop} : aok SHX 100 307 i P = (0 ≤ i ∧ i < 10 ∧ P) := ak_mk fs307
theorem ak308 {i : Int} {P : Prop} : aok SHX 100 308 i P = (0 ≤ i ∧ i < 10 ∧ P) := ak_mk fs308
theorem ak309 {i : Int} {P : Prop} : aok SHX 100 309 i P = (0 ≤ i ∧ i < 10 ∧ P) := ak_mk fs309
theorem ak310 {i : Int} {P : Prop} : aok SHX 100 310 i P = (0 ≤ i ∧ i < 10 ∧ P) := ak_mk fs310
theorem ak311 {i : Int} {P : Prop} : aok SHX 100 311 i P = (0 ≤ i ∧ i < 10 ∧ P) := ak_mk fs311
theorem ak312 {i : Int} {P : Prop} : aok SHX 100 312 i P = (0 ≤ i ∧ i < 10 ∧ P) := ak_mk fs312
theorem ak313 {i : Int} {P : Prop} : aok SHX 100 313 i P = (0 ≤ i ∧ i < 10 ∧ P) := ak_mk fs313
theorem ak314 {i : Int} {P : Prop} : aok SHX 100 314 i P = (0 ≤ i ∧ i < 10 ∧ P) := ak_mk fs314
theorem ak315 {i : Int} {P : Prop} : aok SHX 100 315 i P = (0 ≤ i ∧ i < 10 ∧ P) := ak_mk fs315
theorem ak316 {i : Int} {P : Prop} : aok SHX 100 316 i P = (0 ≤ i ∧ i < 10 ∧ P) := ak_mk fs316
theorem ak317 {i : Int} {P : Prop} : aok SHX 100 317 i P = (0 ≤ i ∧ i < 10 ∧ P) := ak_mk fs317
theorem ak318 {i : Int} {P : Prop} : aok SHX 100 318 i P = (0 ≤ i ∧ i < 10 ∧ P) := ak_mk fs318
theorem ak319 {i : Int} {P : Prop} : aok SHX 100 319 i P = (0 ≤ i ∧ i < 10 ∧ P) := ak_mk fs319
theorem ak320 {i : Int} {P : Prop} : aok SHX 100 320 i P = (0 ≤ i ∧ i < 10 ∧ P) := ak_mk fs320
theorem ak321 {i : Int} {P : Prop} : aok SHX 100 321 i P = (0 ≤ i ∧ i < 10 ∧ P) := ak_mk fs321
theorem ak322 {i : Int} {P : Prop} : aok SHX 100 322 i P = (0 ≤ i ∧ i < 10 ∧ P) := ak_mk fs322
theorem ak323 {i : Int} {P : Prop} : aok SHX 100 323 i P = (0 ≤ i ∧ i < 10 ∧ P) := ak_mk fs323
theorem ak324 {i : Int} {P : Prop} : aok SHX 100 324 i P = (0 ≤ i ∧ i < 10 ∧ P) := ak_mk fs324
theorem ak325 {i : Int} {P : Prop} : aok SHX 100 325 i P = (0 ≤ i ∧ i < 10 ∧ P) := ak_mk fs325
theorem ak326 {i : Int} {P : Prop} : aok SHX 100 326 i P = (0 ≤ i ∧ i < 10 ∧ P) := ak_mk fs326
theorem ak327 {i : Int} {P : Prop} : aok SHX 100 327 i P = (0 ≤ i ∧ i < 10 ∧ P) := ak_mk fs327
theorem ak328 {i : Int} {P : Prop} : aok SHX 100 328 i P = (0 ≤ i ∧ i < 10 ∧ P) := ak_mk fs328
theorem ak329 {i : Int} {P : Prop} : aok SHX 100 329 i P = (0 ≤ i ∧ i < 10 ∧ P) := ak_mk fs329
theorem ak330 {i : Int} {P : Prop} : aok SHX 100 330 i P = (0 ≤ i ∧ i < 10 ∧ P) := ak_mk fs330
theorem ak331 {i : Int} {P : Prop} : aok SHX 100 331 i P = (0 ≤ i ∧ i < 10 ∧ P) := ak_mk fs331
theorem ak332 {i : Int} {P : Prop} : aok SHX 100 332 i P = (0 ≤ i ∧ i < 10 ∧ P) := ak_mk fs332
theorem ak333 {i : Int} {P : Prop} : aok SHX 100 333 i P = (0 ≤ i ∧ i < 10 ∧ P) := ak_mk fs333
theorem ak334 {i : Int} {P : Prop} : aok SHX 100 334 i P = (0 ≤ i ∧ i < 10 ∧ P) := ak_mk fs334
theorem ak335 {i : Int} {P : Prop} : aok SHX 100 335 i P = (0 ≤ i ∧ i < 10 ∧ P) := ak_mk fs335
theorem ak336 {i : Int} {P : Prop} : aok SHX 100 336 i P = (0 ≤ i ∧ i < 10 ∧ P) := ak_mk fs336
theorem ak337 {i : Int} {P : Prop} : aok SHX 100 337 i P = (0 ≤ i ∧ i < 10 ∧ P) := ak_mk fs337
theorem ok338 {P : Prop} : ook SHX 3 338 P = P := ok_mk fs338
theorem ak339 {i : Int} {P : Prop} : aok SHX 100 339 i P = (0 ≤ i ∧ i < 8 ∧ P) := ak_mk fs339
theorem ok340 {P : Prop} : ook SHX 2 340 P = P := ok_mk fs340
theorem ak341 {i : Int} {P : Prop} : aok SHX 100 341 i P = (0 ≤ i ∧ i < 3 ∧ P) := ak_mk fs341
theorem ok342 {P : Prop} : ook SHX 1 342 P = P := ok_mk fs342
theorem ak343 {i : Int} {P : Prop} : aok SHX 100 343 i P = (0 ≤ i ∧ i < 4 ∧ P) := ak_mk fs343
theorem ak344 {i : Int} {P : Prop} : aok SHX 105 344 i P = (0 ≤ i ∧ i < 9 ∧ P) := ak_mk fs344
theorem ak345 {i : Int} {P : Prop} : aok SHX 100 345 i P = (0 ≤ i ∧ i < 4 ∧ P) := ak_mk fs345
theorem ak346 {i : Int} {P : Prop} : aok SHX 100 346 i P = (0 ≤ i ∧ i < 4 ∧ P) := ak_mk fs346
theorem ak347 {i : Int} {P : Prop} : aok SHX 100 347 i P = (0 ≤ i ∧ i < 4 ∧ P) := ak_mk fs347
theorem ak348 {i : Int} {P : Prop} : aok SHX 100 348 i P = (0 ≤ i ∧ i < 4 ∧ P) := ak_mk fs348
theorem ak349 {i : Int} {P : Prop} : aok SHX 100 349 i P = (0 ≤ i ∧ i < 4 ∧ P) := ak_mk fs349
theorem ak350 {i : Int} {P : Prop} : aok SHX 100 350 i P = (0 ≤ i ∧ i < 4 ∧ P) := ak_mk fs350
theorem ak351 {i : Int} {P : Prop} : aok SHX 100 351 i P = (0 ≤ i ∧ i < 4 ∧ P) := ak_mk fs351
theorem ak352 {i : Int} {P : Prop} : aok SHX 100 352 i P = (0 ≤ i ∧ i < 4 ∧ P) := ak_mk fs352
theorem ak353 {i : Int} {P : Prop} : aok SHX 100 353 i P = (0 ≤ i ∧ i < 4 ∧ P) := ak_mk fs353
theorem ak354 {i : Int} {P : Prop} : aok SHX 100 354 i P = (0 ≤ i ∧ i < 8 ∧ P) := ak_mk fs354
theorem ok355 {P : Prop} : ook SHX 7 355 P = P := ok_mk fs355
theorem ak356 {i : Int} {P : Prop} : aok SHX 100 356 i P = (0 ≤ i ∧ i < 20 ∧ P) := ak_mk fs356
theorem ak357 {i : Int} {P : Prop} : aok SHX 100 357 i P = (0 ≤ i ∧ i < 20 ∧ P) := ak_mk fs357
theorem ak358 {i : Int} {P : Prop} : aok SHX 100 358 i P = (0 ≤ i ∧ i < 20 ∧ P) := ak_mk fs358
theorem ak359 {i : Int} {P : Prop} : aok SHX 100 359 i P = (0 ≤ i ∧ i < 20 ∧ P) := ak_mk fs359
theorem ak360 {i : Int} {P : Prop} : aok SHX 100 360 i P = (0 ≤ i ∧ i < 20 ∧ P) := ak_mk fs360
theorem ak361 {i : Int} {P : Prop} : aok SHX 100 361 i P = (0 ≤ i ∧ i < 3 ∧ P) := ak_mk fs361
theorem ak362 {i : Int} {P : Prop} : aok SHX 100 362 i P = (0 ≤ i ∧ i < 3 ∧ P) := ak_mk fs362
theorem ak363 {i : Int} {P : Prop} : aok SHX 103 363 i P = (0 ≤ i ∧ i < 3 ∧ P) := ak_mk fs363
theorem ok364 {P : Prop} : ook SHX 12 364 P = P := ok_mk fs364
theorem ak365 {i : Int} {P : Prop} : aok SHX 102 365 i P = (0 ≤ i ∧ i < 1620 ∧ P) := ak_mk fs365
theorem ak366 {i : Int} {P : Prop} : aok SHX 102 366 i P = (0 ≤ i ∧ i < 1600 ∧ P) := ak_mk fs366
theorem ak367 {i : Int} {P : Prop} : aok SHX 100 367 i P = (0 ≤ i ∧ i < 2 ∧ P) := ak_mk fs367
theorem ak368 {i : Int} {P : Prop} : aok SHX 100 368 i P = (0 ≤ i ∧ i < 2 ∧ P) := ak_mk fs368
theorem ak369 {i : Int} {P : Prop} : aok SHX 100 369 i P = (0 ≤ i ∧ i < 2 ∧ P) := ak_mk fs369
theorem ak370 {i : Int} {P : Prop} : aok SHX 100 370 i P = (0 ≤ i ∧ i < 2 ∧ P) := ak_mk fs370
theorem ak371 {i : Int} {P : Prop} : aok SHX 100 371 i P = (0 ≤ i ∧ i < 2 ∧ P) := ak_mk fs371
theorem ak372 {i : Int} {P : Prop} : aok SHX 100 372 i P = (0 ≤ i ∧ i < 2 ∧ P) := ak_mk fs372
theorem ak373 {i : Int} {P : Prop} : aok SHX 100 373 i P = (0 ≤ i ∧ i < 20 ∧ P) := ak_mk fs373
theorem ak374 {i : Int} {P : Prop} : aok SHX 100 374 i P = (0 ≤ i ∧ i < 20 ∧ P) := ak_mk fs374
theorem ak375 {i : Int} {P : Prop} : aok SHX 100 375 i P = (0 ≤ i ∧ i < 6 ∧ P) := ak_mk fs375
theorem ak376 {i : Int} {P : Prop} : aok SHX 100 376 i P = (0 ≤ i ∧ i < 32 ∧ P) := ak_mk fs376
theorem ak377 {i : Int} {P : Prop} : aok SHX 100 377 i P = (0 ≤ i ∧ i < 32 ∧ P) := ak_mk fs377
theorem ak378 {i : Int} {P : Prop} : aok SHX 100 378 i P = (0 ≤ i ∧ i < 32 ∧ P) := ak_mk fs378
theorem ak379 {i : Int} {P : Prop} : aok SHX 100 379 i P = (0 ≤ i ∧ i < 20 ∧ P) := ak_mk fs379
theorem ak380 {i : Int} {P : Prop} : aok SHX 100 380 i P = (0 ≤ i ∧ i < 20 ∧ P) := ak_mk fs380
theorem ak381 {i : Int} {P : Prop} : aok SHX 100 381 i P = (0 ≤ i ∧ i < 12 ∧ P) := ak_mk fs381
theorem ak382 {i : Int} {P : Prop} : aok SHX 100 382 i P = (0 ≤ i ∧ i < 12 ∧ P) := ak_mk fs382
theorem ak383 {i : Int} {P : Prop} : aok SHX 100 383 i P = (0 ≤ i ∧ i < 12 ∧ P) := ak_mk fs383
theorem ak384 {i : Int} {P : Prop} : aok SHX 103 384 i P = (0 ≤ i ∧ i < 2 ∧ P) := ak_mk fs384
theorem ak385 {i : Int} {P : Prop} : aok SHX 101 385 i P = (0 ≤ i ∧ i < 20 ∧ P) := ak_mk fs385
theorem ak386 {i : Int} {P : Prop} : aok SHX 101 386 i P = (0 ≤ i ∧ i < 12 ∧ P) := ak_mk fs386
theorem ak387 {i : Int} {P : Prop} : aok SHX 100 387 i P = (0 ≤ i ∧ i < 1200 ∧ P) := ak_mk fs387
theorem ak388 {i : Int} {P : Prop} : aok SHX 100 388 i P = (0 ≤ i ∧ i < 1200 ∧ P) := ak_mk fs388
theorem ak389 {i : Int} {P : Prop} : aok SHX 100 389 i P = (0 ≤ i ∧ i < 90 ∧ P) := ak_mk fs389
theorem ak390 {i : Int} {P : Prop} : aok SHX 100 390 i P = (0 ≤ i ∧ i < 90 ∧ P) := ak_mk fs390
theorem ak391 {i : Int} {P : Prop} : aok SHX 100 391 i P = (0 ≤ i ∧ i < 60 ∧ P) := ak_mk fs391
theorem ak392 {i : Int} {P : Prop} : aok SHX 100 392 i P = (0 ≤ i ∧ i < 218 ∧ P) := ak_mk fs392
theorem ak393 {i : Int} {P : Prop} : aok SHX 100 393 i P = (0 ≤ i ∧ i < 218 ∧ P) := ak_mk fs393
theorem ak394 {i : Int} {P : Prop} : aok SHX 100 394 i P = (0 ≤ i ∧ i < 16 ∧ P) := ak_mk fs394
theorem ak395 {i : Int} {P : Prop} : aok SHX 100 395 i P = (0 ≤ i ∧ i < 10 ∧ P) := ak_mk fs395
theorem ak396 {i : Int} {P : Prop} : aok SHX 100 396 i P = (0 ≤ i ∧ i < 3 ∧ P) := ak_mk fs396
theorem ak397 {i : Int} {P : Prop} : aok SHX 100 397 i P = (0 ≤ i ∧ i < 8938 ∧ P) := ak_mk fs397
theorem ak398 {i : Int} {P : Prop} : aok SHX 100 398 i P = (0 ≤ i ∧ i < 8 ∧ P) := ak_mk fs398
theorem ak399 {i : Int} {P : Prop} : aok SHX 100 399 i P = (0 ≤ i ∧ i < 3 ∧ P) := ak_mk fs399
theorem ak400 {i : Int} {P : Prop} : aok SHX 100 400 i P = (0 ≤ i ∧ i < 41 ∧ P) := ak_mk fs400
theorem ak401 {i : Int} {P : Prop} : aok SHX 100 401 i P = (0 ≤ i ∧ i < 610 ∧ P) := ak_mk fs401
theorem ak402 {i : Int} {P : Prop} : aok SHX 103 402 i P = (0 ≤ i ∧ i < 61 ∧ P) := ak_mk fs402
theorem ak403 {i : Int} {P : Prop} : aok SHX 100 403 i P = (0 ≤ i ∧ i < 4 ∧ P) := ak_mk fs403
theorem ak404 {i : Int} {P : Prop} : aok SHX 100 404 i P = (0 ≤ i ∧ i < 4 ∧ P) := ak_mk fs404
theorem ak405 {i : Int} {P : Prop} : aok SHX 100 405 i P = (0 ≤ i ∧ i < 20 ∧ P) := ak_mk fs405
theorem ak406 {i : Int} {P : Prop} : aok SHX 100 406 i P = (0 ≤ i ∧ i < 20 ∧ P) := ak_mk fs406
theorem ak407 {i : Int} {P : Prop} : aok SHX 100 407 i P = (0 ≤ i ∧ i < 20 ∧ P) := ak_mk fs407
theorem ak408 {i : Int} {P : Prop} : aok SHX 100 408 i P = (0 ≤ i ∧ i < 20 ∧ P) := ak_mk fs408
theorem ak409 {i : Int} {P : Prop} : aok SHX 100 409 i P = (0 ≤ i ∧ i < 20 ∧ P) := ak_mk fs409
theorem ak410 {i : Int} {P : Prop} : aok SHX 100 410 i P = (0 ≤ i ∧ i < 3 ∧ P) := ak_mk fs410
theorem ak411 {i : Int} {P : Prop} : aok SHX 100 411 i P = (0 ≤ i ∧ i < 3 ∧ P) := ak_mk fs411
theorem ak412 {i : Int} {P : Prop} : aok SHX 100 412 i P = (0 ≤ i ∧ i < 3 ∧ P) := ak_mk fs412
theorem ak413 {i : Int} {P : Prop} : aok SHX 100 413 i P = (0 ≤ i ∧ i < 654 ∧ P) := ak_mk fs413
theorem ak414 {i : Int} {P : Prop} : aok SHX 103 414 i P = (0 ≤ i ∧ i < 3 ∧ P) := ak_mk fs414
def rcL : List (Int × Int × Int) := [(0, 0, 27), (0, 1, 33), (0, 2, 36), (0, 3, 243), (0, 4, 259), (0, 5, 260), (0, 6, 261), (0, 7, 340), (0, 8, 274), (0, 9, 342), (0, 10, 355), (0, 11, 338), (27, 0, 28), (27, 2, 29), (27, 3, 30), (27, 4, 31), (27, 5, 32), (33, 2, 27), (33, 3, 34), (33, 4, 35), (36, 0, 37), (261, 0, 262), (261, 1, 267), (261, 2, 272), (261, 3, 273), (274, 0, 275), (274, 1, 337), (338, 0, 339), (340, 0, 261), (340, 1, 274), (340, 2, 338), (340, 3, 341), (342, 1, 343), (342, 2, 344), (342, 3, 354), (342, 4, 338), (355, 1, 356), (355, 2, 357), (355, 3, 358), (355, 4, 359), (355, 5, 360), (355, 6, 261), (355, 7, 361), (355, 9, 362), (355, 10, 363)]
/-- a sky stands at a -/
def SR (R : MEM) (a : Int) : Prop := (R a 0 = a + 1 ∧ R a 1 = a + 2 ∧ R a 2 = a + 3 ∧ R a 3 = a + 4) ∧ (shk SHX a = (8, 0) ∧ shk SHX (a + 1) = (100, 256) ∧ shk SHX (a + 2) = (100, 10) ∧ shk SHX (a + 3) = (100, 10) ∧ shk SHX (a + 4) = (100, 10)) ∧ 38 ≤ a ∧ a ≤ 267
/-- a net stands at n -/
def NR (R : MEM) (n : Int) : Prop := (R n 1 = n + 1 ∧ R n 2 = n + 2 ∧ R n 3 = n + 3 ∧ R n 4 = n + 4 ∧ R n 6 = n + 5 ∧ R n 8 = n + 6 ∧ R n 9 = n + 7 ∧ R n 10 = n + 8 ∧ R n 12 = n + 9 ∧ R n 13 = n + 10 ∧ R n 14 = n + 11 ∧ R n 16 = n + 12) ∧ (shk SHX n = (4, 0) ∧ shk SHX (n + 1) = (100, 10) ∧ shk SHX (n + 2) = (100, 10) ∧ shk SHX (n + 3) = (100, 10) ∧ shk SHX (n + 4) = (100, 10) ∧ shk SHX (n + 5) = (100, 3) ∧ shk SHX (n + 6) = (100, 16) ∧ shk SHX (n + 7) = (100, 16) ∧ shk SHX (n + 8) = (100, 16) ∧ shk SHX (n + 9) = (100, 6) ∧ shk SHX (n + 10) = (100, 6) ∧ shk SHX (n + 11) = (100, 1600) ∧ shk SHX (n + 12) = (100, 32)) ∧ 1 ≤ n ∧ n ≤ 14
/-- the class's references that never change -/
def RC (R : MEM) : Prop := (∀ q ∈ rcL, R q.1 q.2.1 = q.2.2) ∧ (∀ k : Nat, k < 41 → R 37 (k : Int) = 38 + 5 * (k : Int) ∧ SR R (38 + 5 * (k : Int))) ∧ (∀ k : Nat, k < 3 → R 243 (k : Int) = 244 + 5 * (k : Int) ∧ SR R (244 + 5 * (k : Int))) ∧ (SR R 262 ∧ SR R 267) ∧ (NR R 1 ∧ NR R 14) ∧ (∀ k : Nat, k < 61 → R 275 (k : Int) = 276 + (k : Int)) ∧ (∀ k : Nat, k < 9 → R 344 (k : Int) = 345 + (k : Int))
theorem rc0_0 {R : MEM} (h : RC R) : R 0 0 = 27 := h.1 (0, 0, 27) (by decide)
theorem rc0_1 {R : MEM} (h : RC R) : R 0 1 = 33 := h.1 (0, 1, 33) (by decide)
theorem rc0_2 {R : MEM} (h : RC R) : R 0 2 = 36 := h.1 (0, 2, 36) (by decide)
theorem rc0_3 {R : MEM} (h : RC R) : R 0 3 = 243 := h.1 (0, 3, 243) (by decide)
theorem rc0_4 {R : MEM} (h : RC R) : R 0 4 = 259 := h.1 (0, 4, 259) (by decide)
theorem rc0_5 {R : MEM} (h : RC R) : R 0 5 = 260 := h.1 (0, 5, 260) (by decide)
theorem rc0_6 {R : MEM} (h : RC R) : R 0 6 = 261 := h.1 (0, 6, 261) (by decide)
theorem rc0_7 {R : MEM} (h : RC R) : R 0 7 = 340 := h.1 (0, 7, 340) (by decide)
theorem rc0_8 {R : MEM} (h : RC R) : R 0 8 = 274 := h.1 (0, 8, 274) (by decide)
theorem rc0_9 {R : MEM} (h : RC R) : R 0 9 = 342 := h.1 (0, 9, 342) (by decide)
theorem rc0_10 {R : MEM} (h : RC R) : R 0 10 = 355 := h.1 (0, 10, 355) (by decide)
theorem rc0_11 {R : MEM} (h : RC R) : R 0 11 = 338 := h.1 (0, 11, 338) (by decide)
theorem rc27_0 {R : MEM} (h : RC R) : R 27 0 = 28 := h.1 (27, 0, 28) (by decide)
theorem rc27_2 {R : MEM} (h : RC R) : R 27 2 = 29 := h.1 (27, 2, 29) (by decide)
theorem rc27_3 {R : MEM} (h : RC R) : R 27 3 = 30 := h.1 (27, 3, 30) (by decide)
theorem rc27_4 {R : MEM} (h : RC R) : R 27 4 = 31 := h.1 (27, 4, 31) (by decide)
theorem rc27_5 {R : MEM} (h : RC R) : R 27 5 = 32 := h.1 (27, 5, 32) (by decide)
theorem rc33_2 {R : MEM} (h : RC R) : R 33 2 = 27 := h.1 (33, 2, 27) (by decide)
theorem rc33_3 {R : MEM} (h : RC R) : R 33 3 = 34 := h.1 (33, 3, 34) (by decide)
theorem rc33_4 {R : MEM} (h : RC R) : R 33 4 = 35 := h.1 (33, 4, 35) (by decide)
theorem rc36_0 {R : MEM} (h : RC R) : R 36 0 = 37 := h.1 (36, 0, 37) (by decide)
theorem rc261_0 {R : MEM} (h : RC R) : R 261 0 = 262 := h.1 (261, 0, 262) (by decide)
theorem rc261_1 {R : MEM} (h : RC R) : R 261 1 = 267 := h.1 (261, 1, 267) (by decide)
theorem rc261_2 {R : MEM} (h : RC R) : R 261 2 = 272 := h.1 (261, 2, 272) (by decide)
theorem rc261_3 {R : MEM} (h : RC R) : R 261 3 = 273 := h.1 (261, 3, 273) (by decide)
theorem rc274_0 {R : MEM} (h : RC R) : R 274 0 = 275 := h.1 (274, 0, 275) (by decide)
theorem rc274_1 {R : MEM} (h : RC R) : R 274 1 = 337 := h.1 (274, 1, 337) (by decide)
theorem rc338_0 {R : MEM} (h : RC R) : R 338 0 = 339 := h.1 (338, 0, 339) (by decide)
theorem rc340_0 {R : MEM} (h : RC R) : R 340 0 = 261 := h.1 (340, 0, 261) (by decide)
theorem rc340_1 {R : MEM} (h : RC R) : R 340 1 = 274 := h.1 (340, 1, 274) (by decide)
theorem rc340_2 {R : MEM} (h : RC R) : R 340 2 = 338 := h.1 (340, 2, 338) (by decide)
theorem rc340_3 {R : MEM} (h : RC R) : R 340 3 = 341 := h.1 (340, 3, 341) (by decide)
theorem rc342_1 {R : MEM} (h : RC R) : R 342 1 = 343 := h.1 (342, 1, 343) (by decide)
theorem rc342_2 {R : MEM} (h : RC R) : R 342 2 = 344 := h.1 (342, 2, 344) (by decide)
theorem rc342_3 {R : MEM} (h : RC R) : R 342 3 = 354 := h.1 (342, 3, 354) (by decide)
theorem rc342_4 {R : MEM} (h : RC R) : R 342 4 = 338 := h.1 (342, 4, 338) (by decide)
theorem rc355_1 {R : MEM} (h : RC R) : R 355 1 = 356 := h.1 (355, 1, 356) (by decide)
theorem rc355_2 {R : MEM} (h : RC R) : R 355 2 = 357 := h.1 (355, 2, 357) (by decide)
theorem rc355_3 {R : MEM} (h : RC R) : R 355 3 = 358 := h.1 (355, 3, 358) (by decide)
theorem rc355_4 {R : MEM} (h : RC R) : R 355 4 = 359 := h.1 (355, 4, 359) (by decide)
theorem rc355_5 {R : MEM} (h : RC R) : R 355 5 = 360 := h.1 (355, 5, 360) (by decide)
theorem rc355_6 {R : MEM} (h : RC R) : R 355 6 = 261 := h.1 (355, 6, 261) (by decide)
theorem rc355_7 {R : MEM} (h : RC R) : R 355 7 = 361 := h.1 (355, 7, 361) (by decide)
theorem rc355_9 {R : MEM} (h : RC R) : R 355 9 = 362 := h.1 (355, 9, 362) (by decide)
theorem rc355_10 {R : MEM} (h : RC R) : R 355 10 = 363 := h.1 (355, 10, 363) (by decide)
theorem okS {R : MEM} {a : Int} (h : SR R a) {P : Prop} : ook SHX 8 a P = P := ok_mk h.2.1.1
theorem aS1 {R : MEM} {a : Int} (h : SR R a) {i : Int} {P : Prop} : aok SHX 100 (a + 1) i P = (0 ≤ i ∧ i < 256 ∧ P) := ak_mk h.2.1.2.1
theorem aS2 {R : MEM} {a : Int} (h : SR R a) {i : Int} {P : Prop} : aok SHX 100 (a + 2) i P = (0 ≤ i ∧ i < 10 ∧ P) := ak_mk h.2.1.2.2.1
theorem aS3 {R : MEM} {a : Int} (h : SR R a) {i : Int} {P : Prop} : aok SHX 100 (a + 3) i P = (0 ≤ i ∧ i < 10 ∧ P) := ak_mk h.2.1.2.2.2.1
theorem aS4 {R : MEM} {a : Int} (h : SR R a) {i : Int} {P : Prop} : aok SHX 100 (a + 4) i P = (0 ≤ i ∧ i < 10 ∧ P) := ak_mk h.2.1.2.2.2.2
theorem sr0 {R : MEM} {a : Int} (h : SR R a) : R a 0 = a + 1 := h.1.1
theorem sr1 {R : MEM} {a : Int} (h : SR R a) : R a 1 = a + 2 := h.1.2.1
theorem sr2 {R : MEM} {a : Int} (h : SR R a) : R a 2 = a + 3 := h.1.2.2.1
theorem sr3 {R : MEM} {a : Int} (h : SR R a) : R a 3 = a + 4 := h.1.2.2.2
theorem okN {R : MEM} {n : Int} (h : NR R n) {P : Prop} : ook SHX 4 n P = P := ok_mk h.2.1.1
theorem aN1 {R : MEM} {n : Int} (h : NR R n) {i : Int} {P : Prop} : aok SHX 100 (n + 1) i P = (0 ≤ i ∧ i < 10 ∧ P) := ak_mk h.2.1.2.1
theorem aN2 {R : MEM} {n : Int} (h : NR R n) {i : Int} {P : Prop} : aok SHX 100 (n + 2) i P = (0 ≤ i ∧ i < 10 ∧ P) := ak_mk h.2.1.2.2.1
theorem aN3 {R : MEM} {n : Int} (h : NR R n) {i : Int} {P : Prop} : aok SHX 100 (n + 3) i P = (0 ≤ i ∧ i < 10 ∧ P) := ak_mk h.2.1.2.2.2.1
theorem aN4 {R : MEM} {n : Int} (h : NR R n) {i : Int} {P : Prop} : aok SHX 100 (n + 4) i P = (0 ≤ i ∧ i < 10 ∧ P) := ak_mk h.2.1.2.2.2.2.1
theorem aN5 {R : MEM} {n : Int} (h : NR R n) {i : Int} {P : Prop} : aok SHX 100 (n + 5) i P = (0 ≤ i ∧ i < 3 ∧ P) := ak_mk h.2.1.2.2.2.2.2.1
theorem aN6 {R : MEM} {n : Int} (h : NR R n) {i : Int} {P : Prop} : aok SHX 100 (n + 6) i P = (0 ≤ i ∧ i < 16 ∧ P) := ak_mk h.2.1.2.2.2.2.2.2.1
theorem aN7 {R : MEM} {n : Int} (h : NR R n) {i : Int} {P : Prop} : aok SHX 100 (n + 7) i P = (0 ≤ i ∧ i < 16 ∧ P) := ak_mk h.2.1.2.2.2.2.2.2.2.1
theorem aN8 {R : MEM} {n : Int} (h : NR R n) {i : Int} {P : Prop} : aok SHX 100 (n + 8) i P = (0 ≤ i ∧ i < 16 ∧ P) := ak_mk h.2.1.2.2.2.2.2.2.2.2.1
theorem aN9 {R : MEM} {n : Int} (h : NR R n) {i : Int} {P : Prop} : aok SHX 100 (n + 9) i P = (0 ≤ i ∧ i < 6 ∧ P) := ak_mk h.2.1.2.2.2.2.2.2.2.2.2.1
theorem aN10 {R : MEM} {n : Int} (h : NR R n) {i : Int} {P : Prop} : aok SHX 100 (n + 10) i P = (0 ≤ i ∧ i < 6 ∧ P) := ak_mk h.2.1.2.2.2.2.2.2.2.2.2.2.1
theorem aN11 {R : MEM} {n : Int} (h : NR R n) {i : Int} {P : Prop} : aok SHX 100 (n + 11) i P = (0 ≤ i ∧ i < 1600 ∧ P) := ak_mk h.2.1.2.2.2.2.2.2.2.2.2.2.2.1
theorem aN12 {R : MEM} {n : Int} (h : NR R n) {i : Int} {P : Prop} : aok SHX 100 (n + 12) i P = (0 ≤ i ∧ i < 32 ∧ P) := ak_mk h.2.1.2.2.2.2.2.2.2.2.2.2.2.2
theorem nr1 {R : MEM} {n : Int} (h : NR R n) : R n 1 = n + 1 := h.1.1
theorem nr2 {R : MEM} {n : Int} (h : NR R n) : R n 2 = n + 2 := h.1.2.1
theorem nr3 {R : MEM} {n : Int} (h : NR R n) : R n 3 = n + 3 := h.1.2.2.1
theorem nr4 {R : MEM} {n : Int} (h : NR R n) : R n 4 = n + 4 := h.1.2.2.2.1
theorem nr6 {R : MEM} {n : Int} (h : NR R n) : R n 6 = n + 5 := h.1.2.2.2.2.1
theorem nr8 {R : MEM} {n : Int} (h : NR R n) : R n 8 = n + 6 := h.1.2.2.2.2.2.1
theorem nr9 {R : MEM} {n : Int} (h : NR R n) : R n 9 = n + 7 := h.1.2.2.2.2.2.2.1
theorem nr10 {R : MEM} {n : Int} (h : NR R n) : R n 10 = n + 8 := h.1.2.2.2.2.2.2.2.1
theorem nr12 {R : MEM} {n : Int} (h : NR R n) : R n 12 = n + 9 := h.1.2.2.2.2.2.2.2.2.1
theorem nr13 {R : MEM} {n : Int} (h : NR R n) : R n 13 = n + 10 := h.1.2.2.2.2.2.2.2.2.2.1
theorem nr14 {R : MEM} {n : Int} (h : NR R n) : R n 14 = n + 11 := h.1.2.2.2.2.2.2.2.2.2.2.1
theorem nr16 {R : MEM} {n : Int} (h : NR R n) : R n 16 = n + 12 := h.1.2.2.2.2.2.2.2.2.2.2.2
theorem NR_all : ∀ n : Int, n = 1 ∨ n = 14 → (shk SHX n = (4, 0) ∧ shk SHX (n + 1) = (100, 10) ∧ shk SHX (n + 2) = (100, 10) ∧ shk SHX (n + 3) = (100, 10) ∧ shk SHX (n + 4) = (100, 10) ∧ shk SHX (n + 5) = (100, 3) ∧ shk SHX (n + 6) = (100, 16) ∧ shk SHX (n + 7) = (100, 16) ∧ shk SHX (n + 8) = (100, 16) ∧ shk SHX (n + 9) = (100, 6) ∧ shk SHX (n + 10) = (100, 6) ∧ shk SHX (n + 11) = (100, 1600) ∧ shk SHX (n + 12) = (100, 32)) := by
  intro n h
  rcases h with rfl | rfl <;> decide +kernel
theorem sky37 {R : MEM} (h : RC R) {i : Int} (h0 : 0 ≤ i) (h1 : i < 41) : R 37 i = 38 + 5 * i := by
  have := (h.2.1 i.toNat (by omega)).1
  rwa [Int.toNat_of_nonneg h0] at this
theorem SR37 {R : MEM} (h : RC R) {i : Int} (h0 : 0 ≤ i) (h1 : i < 41) : SR R (38 + 5 * i) := by
  have := (h.2.1 i.toNat (by omega)).2
  rwa [Int.toNat_of_nonneg h0] at this
theorem sky243 {R : MEM} (h : RC R) {i : Int} (h0 : 0 ≤ i) (h1 : i < 3) : R 243 i = 244 + 5 * i := by
  have := (h.2.2.1 i.toNat (by omega)).1
  rwa [Int.toNat_of_nonneg h0] at this
theorem SR243 {R : MEM} (h : RC R) {i : Int} (h0 : 0 ≤ i) (h1 : i < 3) : SR R (244 + 5 * i) := by
  have := (h.2.2.1 i.toNat (by omega)).2
  rwa [Int.toNat_of_nonneg h0] at this
theorem rc275 {R : MEM} (h : RC R) {i : Int} (h0 : 0 ≤ i) (h1 : i < 61) : R 275 i = 276 + i := by
  have := h.2.2.2.2.2.1 i.toNat (by omega)
  rwa [Int.toNat_of_nonneg h0] at this
theorem rc344 {R : MEM} (h : RC R) {i : Int} (h0 : 0 ≤ i) (h1 : i < 9) : R 344 i = 345 + i := by
  have := h.2.2.2.2.2.2 i.toNat (by omega)
  rwa [Int.toNat_of_nonneg h0] at this
theorem SR262 {R : MEM} (h : RC R) : SR R 262 := h.2.2.2.1.1
theorem SR267 {R : MEM} (h : RC R) : SR R 267 := h.2.2.2.1.2
theorem NR1 {R : MEM} (h : RC R) : NR R 1 := h.2.2.2.2.1.1
theorem NR14 {R : MEM} (h : RC R) : NR R 14 := h.2.2.2.2.1.2
/-- all of it: the references, with the net at hand -/
def RG (R : MEM) (b : Int) : Prop := RC R ∧ RM R ∧ R 0 12 = 1 + 13 * b ∧ R 0 13 = 14 - 13 * b ∧ 0 ≤ b ∧ b ≤ 1
/-! a function changed at a place -/
def upf (f : Int → Int) (i v : Int) : Int → Int := fun j => if j = i then v else f j
theorem upf_eq {f : Int → Int} {i v j : Int} (h : j = i) : upf f i v j = v := if_pos h
theorem upf_hit {f : Int → Int} {i v : Int} : upf f i v i = v := if_pos rfl
theorem upf_ne {f : Int → Int} {i v j : Int} (h : j ≠ i) : upf f i v j = f j := if_neg h
theorem upto {G : Int → Prop} {N : Int} (hN : G N) (hs : ∀ i, 0 ≤ i → i < N → G (i + 1) → G i) : ∀ i, 0 ≤ i → i ≤ N → G i := by
  have key : ∀ (n : Nat) (i : Int), 0 ≤ i → i + (n : Int) = N → G i := by
    intro n
    induction n with
    | zero =>
      intro i _ h
      have e : i = N := by omega
      rw [e]; exact hN
    | succ n ih => exact fun i h0 h1 => hs i h0 (by omega) (ih (i + 1) (by omega) (by omega))
  exact fun i h0 h1 => key (N - i).toNat i h0 (by omega)
theorem uptoN {G : Nat → Prop} {N : Nat} (hN : G N) (hs : ∀ i, i < N → G (i + 1) → G i) : ∀ i, i ≤ N → G i := by
  have key : ∀ (n i : Nat), i + n = N → G i := by
    intro n
    induction n with
    | zero => exact fun i h => by have e : i = N := by omega
                                  rw [e]; exact hN
    | succ n ih => exact fun i h => hs i (by omega) (ih (i + 1) (by omega))
  exact fun i h => key (N - i) i (by omega)
theorem upfrom {G : Int → Prop} {L N : Int} (hN : G N) (hs : ∀ i, L ≤ i → i < N → G (i + 1) → G i) : ∀ i, L ≤ i → i ≤ N → G i := by
  have key : ∀ (n : Nat) (i : Int), L ≤ i → i + (n : Int) = N → G i := by
    intro n
    induction n with
    | zero =>
      intro i _ h
      have e : i = N := by omega
      rw [e]; exact hN
    | succ n ih => exact fun i h0 h1 => hs i h0 (by omega) (ih (i + 1) (by omega) (by omega))
  exact fun i h0 h1 => key (N - i).toNat i h0 (by omega)
/-- a row set as a whole -/
def rset (M : MEM) (q : Int) (f : Int → Int) : MEM := fun p => if p = q then f else M p
theorem rset_hit {M : MEM} {q : Int} {f : Int → Int} : rset M q f q = f := if_pos rfl
theorem rset_ne {M : MEM} {q p : Int} {f : Int → Int} (h : p ≠ q) : rset M q f p = M p := if_neg h
theorem stm_rset {M : MEM} {q i v : Int} {f : Int → Int} : stm (rset M q f) q i v = rset M q (upf f i v) := by
  funext p j
  simp only [stm, rset, upf]
  by_cases h : p = q <;> simp [h, upf]
theorem stm_rset_ne {M : MEM} {q p i v : Int} {f : Int → Int} (h : p ≠ q) : stm (rset M q f) p i v = rset (stm M p i v) q f := by
  funext r j
  simp only [stm, rset]
  by_cases h1 : r = q
  · subst h1; simp [Ne.symm h]
  · simp [h1, stm]
theorem rset_self {M : MEM} {q : Int} : rset M q (M q) = M := by
  funext p
  unfold rset
  by_cases h : p = q <;> simp [h]
theorem rset_rset {M : MEM} {q : Int} {f g : Int → Int} : rset (rset M q f) q g = rset M q g := by
  funext p
  unfold rset
  by_cases h : p = q <;> simp [h]
theorem stm_as {M : MEM} {q i v : Int} : stm M q i v = rset M q (upf (M q) i v) := by
  funext p j
  simp only [stm, rset, upf]
  by_cases h : p = q <;> simp [h, upf]
/-! the reference in flight: its sky S (with 'did one set out' at 218), its flocks F, over M -/
def FM (M : MEM) (S F : Int → Int) : MEM := fun q i => if q = 392 then (if i < 218 then S i else M 392 i) else if q = 395 then F i else if q = 364 then (if i = 49 then S 218 else M 364 i) else M q i
theorem FM_all {M : MEM} {S F : Int → Int} {i : Int} (h : i < 218) : FM M S F 392 i = S i := by simp [FM, h]
theorem FM_flo {M : MEM} {S F : Int → Int} {i : Int} : FM M S F 395 i = F i := by simp [FM]
theorem FM_did {M : MEM} {S F : Int → Int} : FM M S F 364 49 = S 218 := by simp [FM]
theorem FM_fld {M : MEM} {S F : Int → Int} {j : Int} (h : j ≠ 49) : FM M S F 364 j = M 364 j := by simp [FM, h]
theorem FM_ne {M : MEM} {S F : Int → Int} {q : Int} (h1 : q ≠ 392) (h2 : q ≠ 395) (h3 : q ≠ 364) : FM M S F q = M q := by
  funext i
  simp [FM, h1, h2, h3]
theorem FM_ne2 {M : MEM} {S F : Int → Int} {q i : Int} (h1 : q ≠ 392) (h2 : q ≠ 395) (h3 : q ≠ 364) : FM M S F q i = M q i := by
  simp [FM, h1, h2, h3]
theorem stm_FM_all {M : MEM} {S F : Int → Int} {i v : Int} (h : i < 218) : stm (FM M S F) 392 i v = FM M (upf S i v) F := by
  funext q j
  have h3 : (218 : Int) ≠ i := by omega
  simp only [stm, FM, upf]
  by_cases h1 : q = 392
  · by_cases h2 : j = i
    · simp [h1, h2, h]
    · simp [h1, h2]
  · simp [h1, h3]
theorem stm_FM_flo {M : MEM} {S F : Int → Int} {i v : Int} : stm (FM M S F) 395 i v = FM M S (upf F i v) := by
  funext q j
  simp only [stm, FM, upf]
  by_cases h1 : q = 395
  · by_cases h2 : j = i
    · simp [h1, h2]
    · simp [h1, h2]
  · simp [h1]
theorem stm_FM_did {M : MEM} {S F : Int → Int} {v : Int} : stm (FM M S F) 364 49 v = FM M (upf S 218 v) F := by
  funext q j
  simp only [stm, FM, upf]
  by_cases h1 : q = 364
  · by_cases h2 : j = 49
    · simp [h1, h2]
    · simp [h1, h2]
  · by_cases h2 : q = 392
    · by_cases h3 : j < 218
      · have h4 : j ≠ 218 := by omega
        simp [h2, h3, h4]
      · simp [h2, h3]
    · simp [h1, h2]
theorem FM_self (M : MEM) : FM M (fun i => if i = 218 then M 364 49 else M 392 i) (M 395) = M := by
  funext q j
  simp only [FM]
  by_cases h1 : q = 392
  · by_cases h2 : j < 218
    · have : j ≠ 218 := by omega
      simp [h1, h2, this]
    · simp [h1, h2]
  · by_cases h2 : q = 395
    · simp [h2]
    · by_cases h3 : q = 364
      · by_cases h4 : j = 49
        · simp [h3, h4]
        · simp [h3, h4]
      · simp [h1, h2, h3]
/-! the class's sky at a: five rows A, over M -/
def CS (M : MEM) (a : Int) (A : MEM) : MEM := fun q => if a ≤ q ∧ q < a + 5 then A (q - a) else M q
theorem CS_0 {M A : MEM} {a : Int} : CS M a A a = A 0 := by
  unfold CS
  rw [if_pos (by omega), show a - a = 0 by omega]
theorem CS_k {M A : MEM} {a k : Int} (h0 : 0 ≤ k) (h1 : k < 5) : CS M a A (a + k) = A k := by
  unfold CS
  rw [if_pos (by omega), show a + k - a = k by omega]
theorem CS_ne {M A : MEM} {a q : Int} (h : q < a ∨ a + 5 ≤ q) : CS M a A q = M q := by
  unfold CS
  rw [if_neg (by omega)]
theorem stm_CS {M A : MEM} {a k i v : Int} (h0 : 0 ≤ k) (h1 : k < 5) : stm (CS M a A) (a + k) i v = CS M a (stm A k i v) := by
  funext q j
  simp only [stm, CS]
  by_cases h2 : a ≤ q ∧ q < a + 5
  · rw [if_pos h2, if_pos h2]
    by_cases h3 : q = a + k
    · subst h3
      rw [show a + k - a = k by omega]
      simp [stm]
    · have h4 : q - a ≠ k := by omega
      simp [h3, h4, stm]
  · rw [if_neg h2, if_neg h2]
    have h3 : q ≠ a + k := by omega
    simp [h3]
theorem stm_CS0 {M A : MEM} {a i v : Int} : stm (CS M a A) a i v = CS M a (stm A 0 i v) := by
  have := stm_CS (M := M) (A := A) (a := a) (k := 0) (i := i) (v := v) (by decide) (by decide)
  rwa [show a + 0 = a by omega] at this
theorem stm_CS_ne {M A : MEM} {a q i v : Int} (h : q < a ∨ a + 5 ≤ q) : stm (CS M a A) q i v = CS (stm M q i v) a A := by
  funext p j
  simp only [stm, CS]
  by_cases h2 : a ≤ p ∧ p < a + 5
  · rw [if_pos h2, if_pos h2]
    have h3 : p ≠ q := by omega
    simp [h3]
  · rw [if_neg h2, if_neg h2]
    rfl
theorem CS_self (M : MEM) (a : Int) : CS M a (fun r => M (a + r)) = M := by
  funext q
  unfold CS
  by_cases h : a ≤ q ∧ q < a + 5
  · rw [if_pos h]
    show M (a + (q - a)) = M q
    rw [show a + (q - a) = q by omega]
  · rw [if_neg h]
theorem CS_CS {M A B : MEM} {a : Int} : CS (CS M a A) a B = CS M a B := by
  funext q
  unfold CS
  by_cases h : a ≤ q ∧ q < a + 5
  · rw [if_pos h, if_pos h]
  · rw [if_neg h, if_neg h, if_neg h]
theorem upf_upf {f : Int → Int} {i a b : Int} : upf (upf f i a) i b = upf f i b := by
  funext j
  unfold upf
  by_cases h : j = i <;> simp [h]
theorem upf_comm {f : Int → Int} {i j a b : Int} (h : i ≠ j) : upf (upf f i a) j b = upf (upf f j b) i a := by
  funext k
  unfold upf
  by_cases h1 : k = i
  · have h2 : k ≠ j := by omega
    simp [h1, h]
  · simp [h1]
theorem upf_self {f : Int → Int} {i v : Int} (h : f i = v) : upf f i v = f := by
  funext j
  unfold upf
  by_cases h1 : j = i
  · rw [if_pos h1, h1, h]
  · rw [if_neg h1]
theorem o_div (x y : Int) : Int32.ofInt x / Int32.ofInt y = Int32.ofInt (idiv x y) := (Int32.ofInt_toInt _).symm
theorem irem_of {x y : Int} (h1 : 0 ≤ x) (h2 : x ≤ 2147483647) (h3 : 0 < y) (h4 : y ≤ 2147483647) : irem x y = x % y := by
  unfold irem
  rw [o_div, o_mul, o_sub, show (Int32.ofInt (isub x (imul (idiv x y) y))).toInt = isub x (imul (idiv x y) y) from ti32 (w32_rng _), idiv_of h1 h2 h3 h4]
  have e1 := Int.emod_add_mul_ediv x y
  have e2 := Int.emod_nonneg x (show y ≠ 0 by omega)
  have e3 := Int.emod_lt_of_pos x h3
  have e4 : x / y * y = y * (x / y) := Int.mul_comm _ _
  rw [imul_of (by omega) (by omega), isub_of (by omega) (by omega)]
  omega
theorem imin_def (x y : Int) : imin x y = if y < x then y else x := rfl
theorem imax_def (x y : Int) : imax x y = if x < y then y else x := rfl
theorem bud_true {P : Prop} : bud true P = P := rfl
