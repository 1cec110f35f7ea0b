theorem vp_lt {i : Int32} {n : Nat} (c : vp_in i n) : i.toNatClampNeg < n := Nat.not_le.mp fun q => c (Or.inr q)
theorem SR_ne {t c j : Nat} (o : Ob t c) (hc : c ≠ 4) {μ : MM} (h : SR μ) : μ.2.2 t j = R0 t j := h t j (fun q => hc (by rw [← o.2, q.1]; decide +kernel))
theorem SR_arr {t c j r : Nat} (o : Ob t c) (hc : 12 < c) (e : R0 t j = some r) {μ : MM} (h : SR μ) : gR μ t j = some r := (SR_ne o (by omega) h).trans e
theorem ob0 : Ob 0 11 := ⟨by decide +kernel, by decide +kernel⟩
theorem ob1 : Ob 1 10 := ⟨by decide +kernel, by decide +kernel⟩
theorem ob2 : Ob 2 13 := ⟨by decide +kernel, by decide +kernel⟩
theorem ob3 : Ob 3 13 := ⟨by decide +kernel, by decide +kernel⟩
theorem ob4 : Ob 4 13 := ⟨by decide +kernel, by decide +kernel⟩
theorem ob5 : Ob 5 13 := ⟨by decide +kernel, by decide +kernel⟩
theorem ob6 : Ob 6 13 := ⟨by decide +kernel, by decide +kernel⟩
theorem ob7 : Ob 7 13 := ⟨by decide +kernel, by decide +kernel⟩
theorem ob8 : Ob 8 13 := ⟨by decide +kernel, by decide +kernel⟩
theorem ob9 : Ob 9 18 := ⟨by decide +kernel, by decide +kernel⟩
theorem ob10 : Ob 10 17 := ⟨by decide +kernel, by decide +kernel⟩
theorem ob11 : Ob 11 17 := ⟨by decide +kernel, by decide +kernel⟩
theorem ob12 : Ob 12 13 := ⟨by decide +kernel, by decide +kernel⟩
theorem ob13 : Ob 13 13 := ⟨by decide +kernel, by decide +kernel⟩
theorem ob14 : Ob 14 13 := ⟨by decide +kernel, by decide +kernel⟩
theorem ob15 : Ob 15 20 := ⟨by decide +kernel, by decide +kernel⟩
theorem ob16 : Ob 16 13 := ⟨by decide +kernel, by decide +kernel⟩
theorem ob17 : Ob 17 13 := ⟨by decide +kernel, by decide +kernel⟩
theorem ob18 : Ob 18 13 := ⟨by decide +kernel, by decide +kernel⟩
theorem ob19 : Ob 19 5 := ⟨by decide +kernel, by decide +kernel⟩
theorem ob20 : Ob 20 5 := ⟨by decide +kernel, by decide +kernel⟩
theorem ob21 : Ob 21 5 := ⟨by decide +kernel, by decide +kernel⟩
theorem ob22 : Ob 22 5 := ⟨by decide +kernel, by decide +kernel⟩
theorem ob23 : Ob 23 5 := ⟨by decide +kernel, by decide +kernel⟩
theorem ob24 : Ob 24 5 := ⟨by decide +kernel, by decide +kernel⟩
theorem ob25 : Ob 25 5 := ⟨by decide +kernel, by decide +kernel⟩
theorem ob26 : Ob 26 5 := ⟨by decide +kernel, by decide +kernel⟩
theorem ob27 : Ob 27 5 := ⟨by decide +kernel, by decide +kernel⟩
theorem ob28 : Ob 28 5 := ⟨by decide +kernel, by decide +kernel⟩
theorem ob29 : Ob 29 5 := ⟨by decide +kernel, by decide +kernel⟩
theorem ob30 : Ob 30 5 := ⟨by decide +kernel, by decide +kernel⟩
theorem ob31 : Ob 31 5 := ⟨by decide +kernel, by decide +kernel⟩
theorem ob32 : Ob 32 5 := ⟨by decide +kernel, by decide +kernel⟩
theorem ob33 : Ob 33 5 := ⟨by decide +kernel, by decide +kernel⟩
theorem ob34 : Ob 34 5 := ⟨by decide +kernel, by decide +kernel⟩
theorem ob35 : Ob 35 5 := ⟨by decide +kernel, by decide +kernel⟩
theorem ob36 : Ob 36 5 := ⟨by decide +kernel, by decide +kernel⟩
theorem ob37 : Ob 37 5 := ⟨by decide +kernel, by decide +kernel⟩
theorem ob38 : Ob 38 5 := ⟨by decide +kernel, by decide +kernel⟩
theorem ob39 : Ob 39 5 := ⟨by decide +kernel, by decide +kernel⟩
theorem ob40 : Ob 40 5 := ⟨by decide +kernel, by decide +kernel⟩
theorem ob41 : Ob 41 5 := ⟨by decide +kernel, by decide +kernel⟩
theorem ob42 : Ob 42 5 := ⟨by decide +kernel, by decide +kernel⟩
theorem ob43 : Ob 43 5 := ⟨by decide +kernel, by decide +kernel⟩
theorem ob44 : Ob 44 5 := ⟨by decide +kernel, by decide +kernel⟩
theorem ob45 : Ob 45 5 := ⟨by decide +kernel, by decide +kernel⟩
theorem ob46 : Ob 46 5 := ⟨by decide +kernel, by decide +kernel⟩
theorem ob47 : Ob 47 5 := ⟨by decide +kernel, by decide +kernel⟩
theorem ob48 : Ob 48 5 := ⟨by decide +kernel, by decide +kernel⟩
theorem ob49 : Ob 49 5 := ⟨by decide +kernel, by decide +kernel⟩
theorem ob50 : Ob 50 5 := ⟨by decide +kernel, by decide +kernel⟩
theorem ob51 : Ob 51 5 := ⟨by decide +kernel, by decide +kernel⟩
theorem ob52 : Ob 52 5 := ⟨by decide +kernel, by decide +kernel⟩
theorem ob53 : Ob 53 5 := ⟨by decide +kernel, by decide +kernel⟩
theorem ob54 : Ob 54 5 := ⟨by decide +kernel, by decide +kernel⟩
theorem ob55 : Ob 55 5 := ⟨by decide +kernel, by decide +kernel⟩
theorem ob56 : Ob 56 5 := ⟨by decide +kernel, by decide +kernel⟩
theorem ob57 : Ob 57 5 := ⟨by decide +kernel, by decide +kernel⟩
theorem ob58 : Ob 58 5 := ⟨by decide +kernel, by decide +kernel⟩
theorem ob59 : Ob 59 5 := ⟨by decide +kernel, by decide +kernel⟩
theorem ob60 : Ob 60 5 := ⟨by decide +kernel, by decide +kernel⟩
theorem ob61 : Ob 61 5 := ⟨by decide +kernel, by decide +kernel⟩
theorem ob62 : Ob 62 5 := ⟨by decide +kernel, by decide +kernel⟩
theorem ob63 : Ob 63 5 := ⟨by decide +kernel, by decide +kernel⟩
theorem ob64 : Ob 64 5 := ⟨by decide +kernel, by decide +kernel⟩
theorem ob65 : Ob 65 5 := ⟨by decide +kernel, by decide +kernel⟩
theorem ob66 : Ob 66 5 := ⟨by decide +kernel, by decide +kernel⟩
theorem ob67 : Ob 67 5 := ⟨by decide +kernel, by decide +kernel⟩
theorem ob68 : Ob 68 5 := ⟨by decide +kernel, by decide +kernel⟩
theorem ob69 : Ob 69 5 := ⟨by decide +kernel, by decide +kernel⟩
theorem ob70 : Ob 70 5 := ⟨by decide +kernel, by decide +kernel⟩
theorem ob71 : Ob 71 5 := ⟨by decide +kernel, by decide +kernel⟩
theorem ob72 : Ob 72 5 := ⟨by decide +kernel, by decide +kernel⟩
theorem ob73 : Ob 73 5 := ⟨by decide +kernel, by decide +kernel⟩
theorem ob74 : Ob 74 5 := ⟨by decide +kernel, by decide +kernel⟩
theorem ob75 : Ob 75 5 := ⟨by decide +kernel, by decide +kernel⟩
theorem ob76 : Ob 76 5 := ⟨by decide +kernel, by decide +kernel⟩
theorem ob77 : Ob 77 5 := ⟨by decide +kernel, by decide +kernel⟩
theorem ob78 : Ob 78 5 := ⟨by decide +kernel, by decide +kernel⟩
theorem ob79 : Ob 79 5 := ⟨by decide +kernel, by decide +kernel⟩
theorem ob80 : Ob 80 5 := ⟨by decide +kernel, by decide +kernel⟩
theorem ob81 : Ob 81 5 := ⟨by decide +kernel, by decide +kernel⟩
theorem ob82 : Ob 82 5 := ⟨by decide +kernel, by decide +kernel⟩
theorem ob83 : Ob 83 5 := ⟨by decide +kernel, by decide +kernel⟩
theorem ob84 : Ob 84 5 := ⟨by decide +kernel, by decide +kernel⟩
theorem ob85 : Ob 85 5 := ⟨by decide +kernel, by decide +kernel⟩
theorem ob86 : Ob 86 5 := ⟨by decide +kernel, by decide +kernel⟩
theorem ob87 : Ob 87 5 := ⟨by decide +kernel, by decide +kernel⟩
theorem ob88 : Ob 88 5 := ⟨by decide +kernel, by decide +kernel⟩
theorem ob89 : Ob 89 5 := ⟨by decide +kernel, by decide +kernel⟩
theorem ob90 : Ob 90 5 := ⟨by decide +kernel, by decide +kernel⟩
theorem ob91 : Ob 91 5 := ⟨by decide +kernel, by decide +kernel⟩
theorem ob92 : Ob 92 5 := ⟨by decide +kernel, by decide +kernel⟩
theorem ob93 : Ob 93 5 := ⟨by decide +kernel, by decide +kernel⟩
theorem ob94 : Ob 94 5 := ⟨by decide +kernel, by decide +kernel⟩
theorem ob95 : Ob 95 5 := ⟨by decide +kernel, by decide +kernel⟩
theorem ob96 : Ob 96 5 := ⟨by decide +kernel, by decide +kernel⟩
theorem ob97 : Ob 97 5 := ⟨by decide +kernel, by decide +kernel⟩
theorem ob98 : Ob 98 5 := ⟨by decide +kernel, by decide +kernel⟩
theorem ob99 : Ob 99 5 := ⟨by decide +kernel, by decide +kernel⟩
theorem ob100 : Ob 100 5 := ⟨by decide +kernel, by decide +kernel⟩
theorem ob101 : Ob 101 5 := ⟨by decide +kernel, by decide +kernel⟩
theorem ob102 : Ob 102 5 := ⟨by decide +kernel, by decide +kernel⟩
theorem ob103 : Ob 103 5 := ⟨by decide +kernel, by decide +kernel⟩
theorem ob104 : Ob 104 5 := ⟨by decide +kernel, by decide +kernel⟩
theorem ob105 : Ob 105 5 := ⟨by decide +kernel, by decide +kernel⟩
theorem ob106 : Ob 106 5 := ⟨by decide +kernel, by decide +kernel⟩
theorem ob107 : Ob 107 5 := ⟨by decide +kernel, by decide +kernel⟩
theorem ob108 : Ob 108 5 := ⟨by decide +kernel, by decide +kernel⟩
theorem ob109 : Ob 109 5 := ⟨by decide +kernel, by decide +kernel⟩
theorem ob110 : Ob 110 5 := ⟨by decide +kernel, by decide +kernel⟩
theorem ob111 : Ob 111 5 := ⟨by decide +kernel, by decide +kernel⟩
theorem ob112 : Ob 112 5 := ⟨by decide +kernel, by decide +kernel⟩
theorem ob113 : Ob 113 5 := ⟨by decide +kernel, by decide +kernel⟩
theorem ob114 : Ob 114 5 := ⟨by decide +kernel, by decide +kernel⟩
theorem ob115 : Ob 115 3 := ⟨by decide +kernel, by decide +kernel⟩
theorem ob116 : Ob 116 13 := ⟨by decide +kernel, by decide +kernel⟩
theorem ob117 : Ob 117 13 := ⟨by decide +kernel, by decide +kernel⟩
theorem ob118 : Ob 118 3 := ⟨by decide +kernel, by decide +kernel⟩
theorem ob119 : Ob 119 13 := ⟨by decide +kernel, by decide +kernel⟩
theorem ob120 : Ob 120 13 := ⟨by decide +kernel, by decide +kernel⟩
theorem ob121 : Ob 121 3 := ⟨by decide +kernel, by decide +kernel⟩
theorem ob122 : Ob 122 13 := ⟨by decide +kernel, by decide +kernel⟩
theorem ob123 : Ob 123 13 := ⟨by decide +kernel, by decide +kernel⟩
theorem ob124 : Ob 124 3 := ⟨by decide +kernel, by decide +kernel⟩
theorem ob125 : Ob 125 13 := ⟨by decide +kernel, by decide +kernel⟩
theorem ob126 : Ob 126 13 := ⟨by decide +kernel, by decide +kernel⟩
theorem ob127 : Ob 127 3 := ⟨by decide +kernel, by decide +kernel⟩
theorem ob128 : Ob 128 13 := ⟨by decide +kernel, by decide +kernel⟩
theorem ob129 : Ob 129 13 := ⟨by decide +kernel, by decide +kernel⟩
theorem ob130 : Ob 130 3 := ⟨by decide +kernel, by decide +kernel⟩
theorem ob131 : Ob 131 13 := ⟨by decide +kernel, by decide +kernel⟩
theorem ob132 : Ob 132 13 := ⟨by decide +kernel, by decide +kernel⟩
theorem ob133 : Ob 133 3 := ⟨by decide +kernel, by decide +kernel⟩
theorem ob134 : Ob 134 13 := ⟨by decide +kernel, by decide +kernel⟩
theorem ob135 : Ob 135 13 := ⟨by decide +kernel, by decide +kernel⟩
theorem ob136 : Ob 136 3 := ⟨by decide +kernel, by decide +kernel⟩
theorem ob137 : Ob 137 13 := ⟨by decide +kernel, by decide +kernel⟩
theorem ob138 : Ob 138 13 := ⟨by decide +kernel, by decide +kernel⟩
theorem ob139 : Ob 139 3 := ⟨by decide +kernel, by decide +kernel⟩
theorem ob140 : Ob 140 13 := ⟨by decide +kernel, by decide +kernel⟩
theorem ob141 : Ob 141 13 := ⟨by decide +kernel, by decide +kernel⟩
theorem ob142 : Ob 142 3 := ⟨by decide +kernel, by decide +kernel⟩
theorem ob143 : Ob 143 13 := ⟨by decide +kernel, by decide +kernel⟩
theorem ob144 : Ob 144 13 := ⟨by decide +kernel, by decide +kernel⟩
theorem ob145 : Ob 145 3 := ⟨by decide +kernel, by decide +kernel⟩
theorem ob146 : Ob 146 13 := ⟨by decide +kernel, by decide +kernel⟩
theorem ob147 : Ob 147 13 := ⟨by decide +kernel, by decide +kernel⟩
theorem ob148 : Ob 148 3 := ⟨by decide +kernel, by decide +kernel⟩
theorem ob149 : Ob 149 13 := ⟨by decide +kernel, by decide +kernel⟩
theorem ob150 : Ob 150 13 := ⟨by decide +kernel, by decide +kernel⟩
theorem ob151 : Ob 151 7 := ⟨by decide +kernel, by decide +kernel⟩
theorem ob152 : Ob 152 14 := ⟨by decide +kernel, by decide +kernel⟩
theorem ob153 : Ob 153 8 := ⟨by decide +kernel, by decide +kernel⟩
theorem ob154 : Ob 154 9 := ⟨by decide +kernel, by decide +kernel⟩
theorem ob155 : Ob 155 13 := ⟨by decide +kernel, by decide +kernel⟩
theorem ob156 : Ob 156 13 := ⟨by decide +kernel, by decide +kernel⟩
theorem ob157 : Ob 157 9 := ⟨by decide +kernel, by decide +kernel⟩
theorem ob158 : Ob 158 13 := ⟨by decide +kernel, by decide +kernel⟩
theorem ob159 : Ob 159 13 := ⟨by decide +kernel, by decide +kernel⟩
theorem ob160 : Ob 160 9 := ⟨by decide +kernel, by decide +kernel⟩
theorem ob161 : Ob 161 13 := ⟨by decide +kernel, by decide +kernel⟩
theorem ob162 : Ob 162 13 := ⟨by decide +kernel, by decide +kernel⟩
theorem ob163 : Ob 163 14 := ⟨by decide +kernel, by decide +kernel⟩
theorem ob164 : Ob 164 13 := ⟨by decide +kernel, by decide +kernel⟩
theorem ob165 : Ob 165 13 := ⟨by decide +kernel, by decide +kernel⟩
theorem ob166 : Ob 166 13 := ⟨by decide +kernel, by decide +kernel⟩
theorem ob167 : Ob 167 14 := ⟨by decide +kernel, by decide +kernel⟩
theorem ob168 : Ob 168 4 := ⟨by decide +kernel, by decide +kernel⟩
theorem ob169 : Ob 169 13 := ⟨by decide +kernel, by decide +kernel⟩
theorem ob170 : Ob 170 13 := ⟨by decide +kernel, by decide +kernel⟩
theorem ob171 : Ob 171 13 := ⟨by decide +kernel, by decide +kernel⟩
theorem ob172 : Ob 172 21 := ⟨by decide +kernel, by decide +kernel⟩
theorem ob173 : Ob 173 14 := ⟨by decide +kernel, by decide +kernel⟩
theorem ob174 : Ob 174 14 := ⟨by decide +kernel, by decide +kernel⟩
theorem ob175 : Ob 175 14 := ⟨by decide +kernel, by decide +kernel⟩
theorem ob176 : Ob 176 14 := ⟨by decide +kernel, by decide +kernel⟩
theorem ob177 : Ob 177 14 := ⟨by decide +kernel, by decide +kernel⟩
theorem ob178 : Ob 178 14 := ⟨by decide +kernel, by decide +kernel⟩
theorem ob179 : Ob 179 14 := ⟨by decide +kernel, by decide +kernel⟩
theorem ob180 : Ob 180 14 := ⟨by decide +kernel, by decide +kernel⟩
theorem ob181 : Ob 181 14 := ⟨by decide +kernel, by decide +kernel⟩
theorem ob182 : Ob 182 14 := ⟨by decide +kernel, by decide +kernel⟩
theorem ob183 : Ob 183 14 := ⟨by decide +kernel, by decide +kernel⟩
theorem ob184 : Ob 184 14 := ⟨by decide +kernel, by decide +kernel⟩
theorem ob185 : Ob 185 14 := ⟨by decide +kernel, by decide +kernel⟩
theorem ob186 : Ob 186 14 := ⟨by decide +kernel, by decide +kernel⟩
theorem ob187 : Ob 187 14 := ⟨by decide +kernel, by decide +kernel⟩
theorem ob188 : Ob 188 14 := ⟨by decide +kernel, by decide +kernel⟩
theorem ob189 : Ob 189 14 := ⟨by decide +kernel, by decide +kernel⟩
theorem ob190 : Ob 190 14 := ⟨by decide +kernel, by decide +kernel⟩
theorem ob191 : Ob 191 14 := ⟨by decide +kernel, by decide +kernel⟩
theorem ob192 : Ob 192 14 := ⟨by decide +kernel, by decide +kernel⟩
theorem ob193 : Ob 193 14 := ⟨by decide +kernel, by decide +kernel⟩
theorem ob194 : Ob 194 14 := ⟨by decide +kernel, by decide +kernel⟩
theorem ob195 : Ob 195 14 := ⟨by decide +kernel, by decide +kernel⟩
theorem ob196 : Ob 196 14 := ⟨by decide +kernel, by decide +kernel⟩
theorem ob197 : Ob 197 13 := ⟨by decide +kernel, by decide +kernel⟩
theorem ob198 : Ob 198 0 := ⟨by decide +kernel, by decide +kernel⟩
theorem ob199 : Ob 199 14 := ⟨by decide +kernel, by decide +kernel⟩
theorem ob200 : Ob 200 0 := ⟨by decide +kernel, by decide +kernel⟩
theorem ob201 : Ob 201 14 := ⟨by decide +kernel, by decide +kernel⟩
theorem ob202 : Ob 202 2 := ⟨by decide +kernel, by decide +kernel⟩
theorem ob203 : Ob 203 9 := ⟨by decide +kernel, by decide +kernel⟩
theorem ob204 : Ob 204 13 := ⟨by decide +kernel, by decide +kernel⟩
theorem ob205 : Ob 205 13 := ⟨by decide +kernel, by decide +kernel⟩
theorem ob206 : Ob 206 19 := ⟨by decide +kernel, by decide +kernel⟩
theorem ob207 : Ob 207 9 := ⟨by decide +kernel, by decide +kernel⟩
theorem ob208 : Ob 208 13 := ⟨by decide +kernel, by decide +kernel⟩
theorem ob209 : Ob 209 13 := ⟨by decide +kernel, by decide +kernel⟩
theorem ob210 : Ob 210 9 := ⟨by decide +kernel, by decide +kernel⟩
theorem ob211 : Ob 211 13 := ⟨by decide +kernel, by decide +kernel⟩
theorem ob212 : Ob 212 13 := ⟨by decide +kernel, by decide +kernel⟩
theorem ob213 : Ob 213 9 := ⟨by decide +kernel, by decide +kernel⟩
theorem ob214 : Ob 214 13 := ⟨by decide +kernel, by decide +kernel⟩
theorem ob215 : Ob 215 13 := ⟨by decide +kernel, by decide +kernel⟩
theorem ob216 : Ob 216 9 := ⟨by decide +kernel, by decide +kernel⟩
theorem ob217 : Ob 217 13 := ⟨by decide +kernel, by decide +kernel⟩
theorem ob218 : Ob 218 13 := ⟨by decide +kernel, by decide +kernel⟩
theorem ob219 : Ob 219 9 := ⟨by decide +kernel, by decide +kernel⟩
theorem ob220 : Ob 220 13 := ⟨by decide +kernel, by decide +kernel⟩
theorem ob221 : Ob 221 13 := ⟨by decide +kernel, by decide +kernel⟩
theorem ob222 : Ob 222 9 := ⟨by decide +kernel, by decide +kernel⟩
theorem ob223 : Ob 223 13 := ⟨by decide +kernel, by decide +kernel⟩
theorem ob224 : Ob 224 13 := ⟨by decide +kernel, by decide +kernel⟩
theorem ob225 : Ob 225 9 := ⟨by decide +kernel, by decide +kernel⟩
theorem ob226 : Ob 226 13 := ⟨by decide +kernel, by decide +kernel⟩
theorem ob227 : Ob 227 13 := ⟨by decide +kernel, by decide +kernel⟩
theorem ob228 : Ob 228 9 := ⟨by decide +kernel, by decide +kernel⟩
theorem ob229 : Ob 229 13 := ⟨by decide +kernel, by decide +kernel⟩
theorem ob230 : Ob 230 13 := ⟨by decide +kernel, by decide +kernel⟩
theorem ob231 : Ob 231 9 := ⟨by decide +kernel, by decide +kernel⟩
theorem ob232 : Ob 232 13 := ⟨by decide +kernel, by decide +kernel⟩
theorem ob233 : Ob 233 13 := ⟨by decide +kernel, by decide +kernel⟩
theorem ob234 : Ob 234 9 := ⟨by decide +kernel, by decide +kernel⟩
theorem ob235 : Ob 235 13 := ⟨by decide +kernel, by decide +kernel⟩
theorem ob236 : Ob 236 13 := ⟨by decide +kernel, by decide +kernel⟩
theorem ob237 : Ob 237 6 := ⟨by decide +kernel, by decide +kernel⟩
theorem ob238 : Ob 238 13 := ⟨by decide +kernel, by decide +kernel⟩
theorem ob239 : Ob 239 13 := ⟨by decide +kernel, by decide +kernel⟩
theorem ob240 : Ob 240 13 := ⟨by decide +kernel, by decide +kernel⟩
theorem ob241 : Ob 241 20 := ⟨by decide +kernel, by decide +kernel⟩
theorem ob242 : Ob 242 13 := ⟨by decide +kernel, by decide +kernel⟩
theorem ob243 : Ob 243 13 := ⟨by decide +kernel, by decide +kernel⟩
theorem ob244 : Ob 244 13 := ⟨by decide +kernel, by decide +kernel⟩
theorem ob245 : Ob 245 13 := ⟨by decide +kernel, by decide +kernel⟩
theorem ob246 : Ob 246 13 := ⟨by decide +kernel, by decide +kernel⟩
theorem ob247 : Ob 247 13 := ⟨by decide +kernel, by decide +kernel⟩
theorem ob248 : Ob 248 13 := ⟨by decide +kernel, by decide +kernel⟩
theorem ob249 : Ob 249 1 := ⟨by decide +kernel, by decide +kernel⟩
theorem ob250 : Ob 250 16 := ⟨by decide +kernel, by decide +kernel⟩
theorem ob251 : Ob 251 16 := ⟨by decide +kernel, by decide +kernel⟩
theorem ob252 : Ob 252 16 := ⟨by decide +kernel, by decide +kernel⟩
theorem ob253 : Ob 253 0 := ⟨by decide +kernel, by decide +kernel⟩
theorem ob254 : Ob 254 14 := ⟨by decide +kernel, by decide +kernel⟩
theorem ob255 : Ob 255 0 := ⟨by decide +kernel, by decide +kernel⟩
theorem ob256 : Ob 256 14 := ⟨by decide +kernel, by decide +kernel⟩
theorem ob257 : Ob 257 0 := ⟨by decide +kernel, by decide +kernel⟩
theorem ob258 : Ob 258 14 := ⟨by decide +kernel, by decide +kernel⟩
theorem ob259 : Ob 259 0 := ⟨by decide +kernel, by decide +kernel⟩
theorem ob260 : Ob 260 14 := ⟨by decide +kernel, by decide +kernel⟩
theorem ob261 : Ob 261 0 := ⟨by decide +kernel, by decide +kernel⟩
theorem ob262 : Ob 262 14 := ⟨by decide +kernel, by decide +kernel⟩
theorem ob263 : Ob 263 0 := ⟨by decide +kernel, by decide +kernel⟩
theorem ob264 : Ob 264 14 := ⟨by decide +kernel, by decide +kernel⟩
theorem ob265 : Ob 265 0 := ⟨by decide +kernel, by decide +kernel⟩
theorem ob266 : Ob 266 14 := ⟨by decide +kernel, by decide +kernel⟩
theorem ob267 : Ob 267 0 := ⟨by decide +kernel, by decide +kernel⟩
theorem ob268 : Ob 268 14 := ⟨by decide +kernel, by decide +kernel⟩
theorem ob269 : Ob 269 0 := ⟨by decide +kernel, by decide +kernel⟩
theorem ob270 : Ob 270 14 := ⟨by decide +kernel, by decide +kernel⟩
theorem ob271 : Ob 271 0 := ⟨by decide +kernel, by decide +kernel⟩
theorem ob272 : Ob 272 14 := ⟨by decide +kernel, by decide +kernel⟩
theorem ob273 : Ob 273 0 := ⟨by decide +kernel, by decide +kernel⟩
theorem ob274 : Ob 274 14 := ⟨by decide +kernel, by decide +kernel⟩
theorem ob275 : Ob 275 0 := ⟨by decide +kernel, by decide +kernel⟩
theorem ob276 : Ob 276 14 := ⟨by decide +kernel, by decide +kernel⟩
theorem ob277 : Ob 277 0 := ⟨by decide +kernel, by decide +kernel⟩
theorem ob278 : Ob 278 14 := ⟨by decide +kernel, by decide +kernel⟩
theorem ob279 : Ob 279 0 := ⟨by decide +kernel, by decide +kernel⟩
theorem ob280 : Ob 280 14 := ⟨by decide +kernel, by decide +kernel⟩
theorem ob281 : Ob 281 0 := ⟨by decide +kernel, by decide +kernel⟩
theorem ob282 : Ob 282 14 := ⟨by decide +kernel, by decide +kernel⟩
theorem ob283 : Ob 283 0 := ⟨by decide +kernel, by decide +kernel⟩
theorem ob284 : Ob 284 14 := ⟨by decide +kernel, by decide +kernel⟩
theorem ob285 : Ob 285 0 := ⟨by decide +kernel, by decide +kernel⟩
theorem ob286 : Ob 286 14 := ⟨by decide +kernel, by decide +kernel⟩
theorem ob287 : Ob 287 0 := ⟨by decide +kernel, by decide +kernel⟩
theorem ob288 : Ob 288 14 := ⟨by decide +kernel, by decide +kernel⟩
theorem ob289 : Ob 289 0 := ⟨by decide +kernel, by decide +kernel⟩
theorem ob290 : Ob 290 14 := ⟨by decide +kernel, by decide +kernel⟩
theorem ob291 : Ob 291 0 := ⟨by decide +kernel, by decide +kernel⟩
theorem ob292 : Ob 292 14 := ⟨by decide +kernel, by decide +kernel⟩
theorem ob293 : Ob 293 0 := ⟨by decide +kernel, by decide +kernel⟩
theorem ob294 : Ob 294 14 := ⟨by decide +kernel, by decide +kernel⟩
theorem ob295 : Ob 295 0 := ⟨by decide +kernel, by decide +kernel⟩
theorem ob296 : Ob 296 14 := ⟨by decide +kernel, by decide +kernel⟩
theorem ob297 : Ob 297 0 := ⟨by decide +kernel, by decide +kernel⟩
theorem ob298 : Ob 298 14 := ⟨by decide +kernel, by decide +kernel⟩
theorem ob299 : Ob 299 0 := ⟨by decide +kernel, by decide +kernel⟩
theorem ob300 : Ob 300 14 := ⟨by decide +kernel, by decide +kernel⟩
theorem ob301 : Ob 301 0 := ⟨by decide +kernel, by decide +kernel⟩
theorem ob302 : Ob 302 14 := ⟨by decide +kernel, by decide +kernel⟩
theorem ob303 : Ob 303 0 := ⟨by decide +kernel, by decide +kernel⟩
theorem ob304 : Ob 304 14 := ⟨by decide +kernel, by decide +kernel⟩
theorem ob305 : Ob 305 0 := ⟨by decide +kernel, by decide +kernel⟩
theorem ob306 : Ob 306 14 := ⟨by decide +kernel, by decide +kernel⟩
theorem ob307 : Ob 307 0 := ⟨by decide +kernel, by decide +kernel⟩
theorem ob308 : Ob 308 14 := ⟨by decide +kernel, by decide +kernel⟩
theorem ob309 : Ob 309 0 := ⟨by decide +kernel, by decide +kernel⟩
theorem ob310 : Ob 310 14 := ⟨by decide +kernel, by decide +kernel⟩
theorem ob311 : Ob 311 0 := ⟨by decide +kernel, by decide +kernel⟩
theorem ob312 : Ob 312 14 := ⟨by decide +kernel, by decide +kernel⟩
theorem ob313 : Ob 313 0 := ⟨by decide +kernel, by decide +kernel⟩
theorem ob314 : Ob 314 14 := ⟨by decide +kernel, by decide +kernel⟩
theorem ob315 : Ob 315 0 := ⟨by decide +kernel, by decide +kernel⟩
theorem ob316 : Ob 316 14 := ⟨by decide +kernel, by decide +kernel⟩
theorem ob317 : Ob 317 0 := ⟨by decide +kernel, by decide +kernel⟩
theorem ob318 : Ob 318 14 := ⟨by decide +kernel, by decide +kernel⟩
theorem ob319 : Ob 319 0 := ⟨by decide +kernel, by decide +kernel⟩
theorem ob320 : Ob 320 14 := ⟨by decide +kernel, by decide +kernel⟩
theorem ob321 : Ob 321 0 := ⟨by decide +kernel, by decide +kernel⟩
theorem ob322 : Ob 322 14 := ⟨by decide +kernel, by decide +kernel⟩
theorem ob323 : Ob 323 0 := ⟨by decide +kernel, by decide +kernel⟩
theorem ob324 : Ob 324 14 := ⟨by decide +kernel, by decide +kernel⟩
theorem ob325 : Ob 325 0 := ⟨by decide +kernel, by decide +kernel⟩
theorem ob326 : Ob 326 14 := ⟨by decide +kernel, by decide +kernel⟩
theorem ob327 : Ob 327 0 := ⟨by decide +kernel, by decide +kernel⟩
theorem ob328 : Ob 328 14 := ⟨by decide +kernel, by decide +kernel⟩
theorem ob329 : Ob 329 0 := ⟨by decide +kernel, by decide +kernel⟩
theorem ob330 : Ob 330 14 := ⟨by decide +kernel, by decide +kernel⟩
theorem ob331 : Ob 331 0 := ⟨by decide +kernel, by decide +kernel⟩
theorem ob332 : Ob 332 14 := ⟨by decide +kernel, by decide +kernel⟩
theorem ob333 : Ob 333 0 := ⟨by decide +kernel, by decide +kernel⟩
theorem ob334 : Ob 334 14 := ⟨by decide +kernel, by decide +kernel⟩
theorem ob335 : Ob 335 0 := ⟨by decide +kernel, by decide +kernel⟩
theorem ob336 : Ob 336 14 := ⟨by decide +kernel, by decide +kernel⟩
theorem ob337 : Ob 337 0 := ⟨by decide +kernel, by decide +kernel⟩
theorem ob338 : Ob 338 14 := ⟨by decide +kernel, by decide +kernel⟩
theorem ob339 : Ob 339 0 := ⟨by decide +kernel, by decide +kernel⟩
theorem ob340 : Ob 340 14 := ⟨by decide +kernel, by decide +kernel⟩
theorem ob341 : Ob 341 0 := ⟨by decide +kernel, by decide +kernel⟩
theorem ob342 : Ob 342 14 := ⟨by decide +kernel, by decide +kernel⟩
theorem ob343 : Ob 343 0 := ⟨by decide +kernel, by decide +kernel⟩
theorem ob344 : Ob 344 14 := ⟨by decide +kernel, by decide +kernel⟩
theorem ob345 : Ob 345 0 := ⟨by decide +kernel, by decide +kernel⟩
theorem ob346 : Ob 346 14 := ⟨by decide +kernel, by decide +kernel⟩
theorem ob347 : Ob 347 0 := ⟨by decide +kernel, by decide +kernel⟩
theorem ob348 : Ob 348 14 := ⟨by decide +kernel, by decide +kernel⟩
theorem ob349 : Ob 349 0 := ⟨by decide +kernel, by decide +kernel⟩
theorem ob350 : Ob 350 14 := ⟨by decide +kernel, by decide +kernel⟩
theorem ob351 : Ob 351 0 := ⟨by decide +kernel, by decide +kernel⟩
theorem ob352 : Ob 352 14 := ⟨by decide +kernel, by decide +kernel⟩
theorem ob353 : Ob 353 0 := ⟨by decide +kernel, by decide +kernel⟩
theorem ob354 : Ob 354 14 := ⟨by decide +kernel, by decide +kernel⟩
theorem ob355 : Ob 355 0 := ⟨by decide +kernel, by decide +kernel⟩
theorem ob356 : Ob 356 14 := ⟨by decide +kernel, by decide +kernel⟩
theorem ob357 : Ob 357 13 := ⟨by decide +kernel, by decide +kernel⟩
theorem ob358 : Ob 358 12 := ⟨by decide +kernel, by decide +kernel⟩
theorem ob359 : Ob 359 14 := ⟨by decide +kernel, by decide +kernel⟩
theorem ob360 : Ob 360 13 := ⟨by decide +kernel, by decide +kernel⟩
theorem ob361 : Ob 361 13 := ⟨by decide +kernel, by decide +kernel⟩
theorem ob362 : Ob 362 13 := ⟨by decide +kernel, by decide +kernel⟩
theorem ob363 : Ob 363 13 := ⟨by decide +kernel, by decide +kernel⟩
theorem ob364 : Ob 364 13 := ⟨by decide +kernel, by decide +kernel⟩
theorem ob365 : Ob 365 13 := ⟨by decide +kernel, by decide +kernel⟩
theorem ob366 : Ob 366 13 := ⟨by decide +kernel, by decide +kernel⟩
theorem ob367 : Ob 367 13 := ⟨by decide +kernel, by decide +kernel⟩
theorem ob368 : Ob 368 13 := ⟨by decide +kernel, by decide +kernel⟩
theorem ob369 : Ob 369 13 := ⟨by decide +kernel, by decide +kernel⟩
theorem ob370 : Ob 370 13 := ⟨by decide +kernel, by decide +kernel⟩
theorem ob371 : Ob 371 13 := ⟨by decide +kernel, by decide +kernel⟩
theorem ob372 : Ob 372 13 := ⟨by decide +kernel, by decide +kernel⟩
theorem ob373 : Ob 373 15 := ⟨by decide +kernel, by decide +kernel⟩
theorem ob374 : Ob 374 15 := ⟨by decide +kernel, by decide +kernel⟩
theorem ob375 : Ob 375 13 := ⟨by decide +kernel, by decide +kernel⟩
theorem ob376 : Ob 376 13 := ⟨by decide +kernel, by decide +kernel⟩
theorem ob377 : Ob 377 13 := ⟨by decide +kernel, by decide +kernel⟩
theorem ob378 : Ob 378 13 := ⟨by decide +kernel, by decide +kernel⟩
theorem ob379 : Ob 379 13 := ⟨by decide +kernel, by decide +kernel⟩
theorem ob380 : Ob 380 13 := ⟨by decide +kernel, by decide +kernel⟩
theorem ob381 : Ob 381 13 := ⟨by decide +kernel, by decide +kernel⟩
theorem ob382 : Ob 382 13 := ⟨by decide +kernel, by decide +kernel⟩
theorem ob383 : Ob 383 14 := ⟨by decide +kernel, by decide +kernel⟩
theorem ob384 : Ob 384 14 := ⟨by decide +kernel, by decide +kernel⟩
theorem ob385 : Ob 385 13 := ⟨by decide +kernel, by decide +kernel⟩
theorem ob386 : Ob 386 13 := ⟨by decide +kernel, by decide +kernel⟩
theorem ob387 : Ob 387 13 := ⟨by decide +kernel, by decide +kernel⟩
theorem ob388 : Ob 388 13 := ⟨by decide +kernel, by decide +kernel⟩
theorem ob389 : Ob 389 13 := ⟨by decide +kernel, by decide +kernel⟩
theorem ob390 : Ob 390 13 := ⟨by decide +kernel, by decide +kernel⟩
theorem ob391 : Ob 391 13 := ⟨by decide +kernel, by decide +kernel⟩
theorem ob392 : Ob 392 13 := ⟨by decide +kernel, by decide +kernel⟩
theorem ob393 : Ob 393 13 := ⟨by decide +kernel, by decide +kernel⟩
theorem ob394 : Ob 394 14 := ⟨by decide +kernel, by decide +kernel⟩
theorem ob395 : Ob 395 13 := ⟨by decide +kernel, by decide +kernel⟩
theorem ob396 : Ob 396 13 := ⟨by decide +kernel, by decide +kernel⟩
theorem ob397 : Ob 397 14 := ⟨by decide +kernel, by decide +kernel⟩
theorem ob398 : Ob 398 13 := ⟨by decide +kernel, by decide +kernel⟩
theorem ob399 : Ob 399 13 := ⟨by decide +kernel, by decide +kernel⟩
theorem ob400 : Ob 400 13 := ⟨by decide +kernel, by decide +kernel⟩
theorem ob401 : Ob 401 13 := ⟨by decide +kernel, by decide +kernel⟩
theorem ob402 : Ob 402 13 := ⟨by decide +kernel, by decide +kernel⟩
theorem ob403 : Ob 403 13 := ⟨by decide +kernel, by decide +kernel⟩
theorem ob404 : Ob 404 13 := ⟨by decide +kernel, by decide +kernel⟩
theorem ob405 : Ob 405 13 := ⟨by decide +kernel, by decide +kernel⟩
theorem ob406 : Ob 406 13 := ⟨by decide +kernel, by decide +kernel⟩
theorem ob407 : Ob 407 13 := ⟨by decide +kernel, by decide +kernel⟩
theorem ob408 : Ob 408 13 := ⟨by decide +kernel, by decide +kernel⟩
theorem ob409 : Ob 409 13 := ⟨by decide +kernel, by decide +kernel⟩
theorem ob410 : Ob 410 14 := ⟨by decide +kernel, by decide +kernel⟩
theorem r_0_0 {μ : MM} (h : SR μ) : gR μ 0 0 = some 1 := (h 0 0 (by decide)).trans (by decide +kernel)
theorem r_0_1 {μ : MM} (h : SR μ) : gR μ 0 1 = some 151 := (h 0 1 (by decide)).trans (by decide +kernel)
theorem r_0_2 {μ : MM} (h : SR μ) : gR μ 0 2 = some 153 := (h 0 2 (by decide)).trans (by decide +kernel)
theorem r_0_3 {μ : MM} (h : SR μ) : gR μ 0 3 = some 168 := (h 0 3 (by decide)).trans (by decide +kernel)
theorem r_0_4 {μ : MM} (h : SR μ) : gR μ 0 4 = some 202 := (h 0 4 (by decide)).trans (by decide +kernel)
theorem r_0_5 {μ : MM} (h : SR μ) : gR μ 0 5 = some 237 := (h 0 5 (by decide)).trans (by decide +kernel)
theorem r_0_6 {μ : MM} (h : SR μ) : gR μ 0 6 = some 249 := (h 0 6 (by decide)).trans (by decide +kernel)
theorem r_0_7 {μ : MM} (h : SR μ) : gR μ 0 7 = some 357 := (h 0 7 (by decide)).trans (by decide +kernel)
theorem r_1_0 {μ : MM} (h : SR μ) : gR μ 1 0 = some 2 := (h 1 0 (by decide)).trans (by decide +kernel)
theorem r_1_1 {μ : MM} (h : SR μ) : gR μ 1 1 = some 3 := (h 1 1 (by decide)).trans (by decide +kernel)
theorem r_1_2 {μ : MM} (h : SR μ) : gR μ 1 2 = some 4 := (h 1 2 (by decide)).trans (by decide +kernel)
theorem r_1_3 {μ : MM} (h : SR μ) : gR μ 1 3 = some 5 := (h 1 3 (by decide)).trans (by decide +kernel)
theorem r_1_5 {μ : MM} (h : SR μ) : gR μ 1 5 = some 6 := (h 1 5 (by decide)).trans (by decide +kernel)
theorem r_1_6 {μ : MM} (h : SR μ) : gR μ 1 6 = some 7 := (h 1 6 (by decide)).trans (by decide +kernel)
theorem r_1_7 {μ : MM} (h : SR μ) : gR μ 1 7 = some 8 := (h 1 7 (by decide)).trans (by decide +kernel)
theorem r_1_9 {μ : MM} (h : SR μ) : gR μ 1 9 = some 9 := (h 1 9 (by decide)).trans (by decide +kernel)
theorem r_1_11 {μ : MM} (h : SR μ) : gR μ 1 11 = some 10 := (h 1 11 (by decide)).trans (by decide +kernel)
theorem r_1_12 {μ : MM} (h : SR μ) : gR μ 1 12 = some 11 := (h 1 12 (by decide)).trans (by decide +kernel)
theorem r_1_13 {μ : MM} (h : SR μ) : gR μ 1 13 = some 12 := (h 1 13 (by decide)).trans (by decide +kernel)
theorem r_1_15 {μ : MM} (h : SR μ) : gR μ 1 15 = some 13 := (h 1 15 (by decide)).trans (by decide +kernel)
theorem r_1_16 {μ : MM} (h : SR μ) : gR μ 1 16 = some 14 := (h 1 16 (by decide)).trans (by decide +kernel)
theorem r_1_17 {μ : MM} (h : SR μ) : gR μ 1 17 = some 15 := (h 1 17 (by decide)).trans (by decide +kernel)
theorem r_115_0 {μ : MM} (h : SR μ) : gR μ 115 0 = some 116 := (h 115 0 (by decide)).trans (by decide +kernel)
theorem r_115_2 {μ : MM} (h : SR μ) : gR μ 115 2 = some 117 := (h 115 2 (by decide)).trans (by decide +kernel)
theorem r_118_0 {μ : MM} (h : SR μ) : gR μ 118 0 = some 119 := (h 118 0 (by decide)).trans (by decide +kernel)
theorem r_118_2 {μ : MM} (h : SR μ) : gR μ 118 2 = some 120 := (h 118 2 (by decide)).trans (by decide +kernel)
theorem r_121_0 {μ : MM} (h : SR μ) : gR μ 121 0 = some 122 := (h 121 0 (by decide)).trans (by decide +kernel)
theorem r_121_2 {μ : MM} (h : SR μ) : gR μ 121 2 = some 123 := (h 121 2 (by decide)).trans (by decide +kernel)
theorem r_124_0 {μ : MM} (h : SR μ) : gR μ 124 0 = some 125 := (h 124 0 (by decide)).trans (by decide +kernel)
theorem r_124_2 {μ : MM} (h : SR μ) : gR μ 124 2 = some 126 := (h 124 2 (by decide)).trans (by decide +kernel)
theorem r_127_0 {μ : MM} (h : SR μ) : gR μ 127 0 = some 128 := (h 127 0 (by decide)).trans (by decide +kernel)
theorem r_127_2 {μ : MM} (h : SR μ) : gR μ 127 2 = some 129 := (h 127 2 (by decide)).trans (by decide +kernel)
theorem r_130_0 {μ : MM} (h : SR μ) : gR μ 130 0 = some 131 := (h 130 0 (by decide)).trans (by decide +kernel)
theorem r_130_2 {μ : MM} (h : SR μ) : gR μ 130 2 = some 132 := (h 130 2 (by decide)).trans (by decide +kernel)
theorem r_133_0 {μ : MM} (h : SR μ) : gR μ 133 0 = some 134 := (h 133 0 (by decide)).trans (by decide +kernel)
theorem r_133_2 {μ : MM} (h : SR μ) : gR μ 133 2 = some 135 := (h 133 2 (by decide)).trans (by decide +kernel)
theorem r_136_0 {μ : MM} (h : SR μ) : gR μ 136 0 = some 137 := (h 136 0 (by decide)).trans (by decide +kernel)
theorem r_136_2 {μ : MM} (h : SR μ) : gR μ 136 2 = some 138 := (h 136 2 (by decide)).trans (by decide +kernel)
theorem r_139_0 {μ : MM} (h : SR μ) : gR μ 139 0 = some 140 := (h 139 0 (by decide)).trans (by decide +kernel)
theorem r_139_2 {μ : MM} (h : SR μ) : gR μ 139 2 = some 141 := (h 139 2 (by decide)).trans (by decide +kernel)
theorem r_142_0 {μ : MM} (h : SR μ) : gR μ 142 0 = some 143 := (h 142 0 (by decide)).trans (by decide +kernel)
theorem r_142_2 {μ : MM} (h : SR μ) : gR μ 142 2 = some 144 := (h 142 2 (by decide)).trans (by decide +kernel)
theorem r_145_0 {μ : MM} (h : SR μ) : gR μ 145 0 = some 146 := (h 145 0 (by decide)).trans (by decide +kernel)
theorem r_145_2 {μ : MM} (h : SR μ) : gR μ 145 2 = some 147 := (h 145 2 (by decide)).trans (by decide +kernel)
theorem r_148_0 {μ : MM} (h : SR μ) : gR μ 148 0 = some 149 := (h 148 0 (by decide)).trans (by decide +kernel)
theorem r_148_2 {μ : MM} (h : SR μ) : gR μ 148 2 = some 150 := (h 148 2 (by decide)).trans (by decide +kernel)
theorem r_151_0 {μ : MM} (h : SR μ) : gR μ 151 0 = some 152 := (h 151 0 (by decide)).trans (by decide +kernel)
theorem r_153_0 {μ : MM} (h : SR μ) : gR μ 153 0 = some 1 := (h 153 0 (by decide)).trans (by decide +kernel)
theorem r_153_1 {μ : MM} (h : SR μ) : gR μ 153 1 = some 151 := (h 153 1 (by decide)).trans (by decide +kernel)
theorem r_153_2 {μ : MM} (h : SR μ) : gR μ 153 2 = some 154 := (h 153 2 (by decide)).trans (by decide +kernel)
theorem r_153_3 {μ : MM} (h : SR μ) : gR μ 153 3 = some 157 := (h 153 3 (by decide)).trans (by decide +kernel)
theorem r_153_4 {μ : MM} (h : SR μ) : gR μ 153 4 = some 160 := (h 153 4 (by decide)).trans (by decide +kernel)
theorem r_153_5 {μ : MM} (h : SR μ) : gR μ 153 5 = some 163 := (h 153 5 (by decide)).trans (by decide +kernel)
theorem r_153_6 {μ : MM} (h : SR μ) : gR μ 153 6 = some 164 := (h 153 6 (by decide)).trans (by decide +kernel)
theorem r_153_7 {μ : MM} (h : SR μ) : gR μ 153 7 = some 165 := (h 153 7 (by decide)).trans (by decide +kernel)
theorem r_153_8 {μ : MM} (h : SR μ) : gR μ 153 8 = some 166 := (h 153 8 (by decide)).trans (by decide +kernel)
theorem r_153_9 {μ : MM} (h : SR μ) : gR μ 153 9 = some 167 := (h 153 9 (by decide)).trans (by decide +kernel)
theorem r_154_0 {μ : MM} (h : SR μ) : gR μ 154 0 = some 155 := (h 154 0 (by decide)).trans (by decide +kernel)
theorem r_154_1 {μ : MM} (h : SR μ) : gR μ 154 1 = some 156 := (h 154 1 (by decide)).trans (by decide +kernel)
theorem r_157_0 {μ : MM} (h : SR μ) : gR μ 157 0 = some 158 := (h 157 0 (by decide)).trans (by decide +kernel)
theorem r_157_1 {μ : MM} (h : SR μ) : gR μ 157 1 = some 159 := (h 157 1 (by decide)).trans (by decide +kernel)
theorem r_160_0 {μ : MM} (h : SR μ) : gR μ 160 0 = some 161 := (h 160 0 (by decide)).trans (by decide +kernel)
theorem r_160_1 {μ : MM} (h : SR μ) : gR μ 160 1 = some 162 := (h 160 1 (by decide)).trans (by decide +kernel)
theorem r_168_0 {μ : MM} (h : SR μ) : gR μ 168 0 = some 1 := (h 168 0 (by decide)).trans (by decide +kernel)
theorem r_168_1 {μ : MM} (h : SR μ) : gR μ 168 1 = some 151 := (h 168 1 (by decide)).trans (by decide +kernel)
theorem r_168_2 {μ : MM} (h : SR μ) : gR μ 168 2 = some 169 := (h 168 2 (by decide)).trans (by decide +kernel)
theorem r_168_3 {μ : MM} (h : SR μ) : gR μ 168 3 = some 170 := (h 168 3 (by decide)).trans (by decide +kernel)
theorem r_168_4 {μ : MM} (h : SR μ) : gR μ 168 4 = some 171 := (h 168 4 (by decide)).trans (by decide +kernel)
theorem r_168_5 {μ : MM} (h : SR μ) : gR μ 168 5 = some 172 := (h 168 5 (by decide)).trans (by decide +kernel)
theorem r_168_6 {μ : MM} (h : SR μ) : gR μ 168 6 = some 197 := (h 168 6 (by decide)).trans (by decide +kernel)
theorem r_198_0 {μ : MM} (h : SR μ) : gR μ 198 0 = some 199 := (h 198 0 (by decide)).trans (by decide +kernel)
theorem r_200_0 {μ : MM} (h : SR μ) : gR μ 200 0 = some 201 := (h 200 0 (by decide)).trans (by decide +kernel)
theorem r_202_0 {μ : MM} (h : SR μ) : gR μ 202 0 = some 1 := (h 202 0 (by decide)).trans (by decide +kernel)
theorem r_202_1 {μ : MM} (h : SR μ) : gR μ 202 1 = some 151 := (h 202 1 (by decide)).trans (by decide +kernel)
theorem r_202_2 {μ : MM} (h : SR μ) : gR μ 202 2 = some 203 := (h 202 2 (by decide)).trans (by decide +kernel)
theorem r_202_3 {μ : MM} (h : SR μ) : gR μ 202 3 = some 206 := (h 202 3 (by decide)).trans (by decide +kernel)
theorem r_203_0 {μ : MM} (h : SR μ) : gR μ 203 0 = some 204 := (h 203 0 (by decide)).trans (by decide +kernel)
theorem r_203_1 {μ : MM} (h : SR μ) : gR μ 203 1 = some 205 := (h 203 1 (by decide)).trans (by decide +kernel)
theorem r_207_0 {μ : MM} (h : SR μ) : gR μ 207 0 = some 208 := (h 207 0 (by decide)).trans (by decide +kernel)
theorem r_207_1 {μ : MM} (h : SR μ) : gR μ 207 1 = some 209 := (h 207 1 (by decide)).trans (by decide +kernel)
theorem r_210_0 {μ : MM} (h : SR μ) : gR μ 210 0 = some 211 := (h 210 0 (by decide)).trans (by decide +kernel)
theorem r_210_1 {μ : MM} (h : SR μ) : gR μ 210 1 = some 212 := (h 210 1 (by decide)).trans (by decide +kernel)
theorem r_213_0 {μ : MM} (h : SR μ) : gR μ 213 0 = some 214 := (h 213 0 (by decide)).trans (by decide +kernel)
theorem r_213_1 {μ : MM} (h : SR μ) : gR μ 213 1 = some 215 := (h 213 1 (by decide)).trans (by decide +kernel)
theorem r_216_0 {μ : MM} (h : SR μ) : gR μ 216 0 = some 217 := (h 216 0 (by decide)).trans (by decide +kernel)
theorem r_216_1 {μ : MM} (h : SR μ) : gR μ 216 1 = some 218 := (h 216 1 (by decide)).trans (by decide +kernel)
theorem r_219_0 {μ : MM} (h : SR μ) : gR μ 219 0 = some 220 := (h 219 0 (by decide)).trans (by decide +kernel)
theorem r_219_1 {μ : MM} (h : SR μ) : gR μ 219 1 = some 221 := (h 219 1 (by decide)).trans (by decide +kernel)
theorem r_222_0 {μ : MM} (h : SR μ) : gR μ 222 0 = some 223 := (h 222 0 (by decide)).trans (by decide +kernel)
theorem r_222_1 {μ : MM} (h : SR μ) : gR μ 222 1 = some 224 := (h 222 1 (by decide)).trans (by decide +kernel)
theorem r_225_0 {μ : MM} (h : SR μ) : gR μ 225 0 = some 226 := (h 225 0 (by decide)).trans (by decide +kernel)
theorem r_225_1 {μ : MM} (h : SR μ) : gR μ 225 1 = some 227 := (h 225 1 (by decide)).trans (by decide +kernel)
theorem r_228_0 {μ : MM} (h : SR μ) : gR μ 228 0 = some 229 := (h 228 0 (by decide)).trans (by decide +kernel)
theorem r_228_1 {μ : MM} (h : SR μ) : gR μ 228 1 = some 230 := (h 228 1 (by decide)).trans (by decide +kernel)
theorem r_231_0 {μ : MM} (h : SR μ) : gR μ 231 0 = some 232 := (h 231 0 (by decide)).trans (by decide +kernel)
theorem r_231_1 {μ : MM} (h : SR μ) : gR μ 231 1 = some 233 := (h 231 1 (by decide)).trans (by decide +kernel)
theorem r_234_0 {μ : MM} (h : SR μ) : gR μ 234 0 = some 235 := (h 234 0 (by decide)).trans (by decide +kernel)
theorem r_234_1 {μ : MM} (h : SR μ) : gR μ 234 1 = some 236 := (h 234 1 (by decide)).trans (by decide +kernel)
theorem r_237_0 {μ : MM} (h : SR μ) : gR μ 237 0 = some 1 := (h 237 0 (by decide)).trans (by decide +kernel)
theorem r_237_1 {μ : MM} (h : SR μ) : gR μ 237 1 = some 151 := (h 237 1 (by decide)).trans (by decide +kernel)
theorem r_237_2 {μ : MM} (h : SR μ) : gR μ 237 2 = some 238 := (h 237 2 (by decide)).trans (by decide +kernel)
theorem r_237_3 {μ : MM} (h : SR μ) : gR μ 237 3 = some 239 := (h 237 3 (by decide)).trans (by decide +kernel)
theorem r_237_4 {μ : MM} (h : SR μ) : gR μ 237 4 = some 240 := (h 237 4 (by decide)).trans (by decide +kernel)
theorem r_237_6 {μ : MM} (h : SR μ) : gR μ 237 6 = some 241 := (h 237 6 (by decide)).trans (by decide +kernel)
theorem r_237_7 {μ : MM} (h : SR μ) : gR μ 237 7 = some 248 := (h 237 7 (by decide)).trans (by decide +kernel)
theorem r_249_0 {μ : MM} (h : SR μ) : gR μ 249 0 = some 151 := (h 249 0 (by decide)).trans (by decide +kernel)
theorem r_249_1 {μ : MM} (h : SR μ) : gR μ 249 1 = some 250 := (h 249 1 (by decide)).trans (by decide +kernel)
theorem r_249_2 {μ : MM} (h : SR μ) : gR μ 249 2 = some 251 := (h 249 2 (by decide)).trans (by decide +kernel)
theorem r_249_3 {μ : MM} (h : SR μ) : gR μ 249 3 = some 252 := (h 249 3 (by decide)).trans (by decide +kernel)
theorem r_249_4 {μ : MM} (h : SR μ) : gR μ 249 4 = some 253 := (h 249 4 (by decide)).trans (by decide +kernel)
theorem r_253_0 {μ : MM} (h : SR μ) : gR μ 253 0 = some 254 := (h 253 0 (by decide)).trans (by decide +kernel)
theorem r_255_0 {μ : MM} (h : SR μ) : gR μ 255 0 = some 256 := (h 255 0 (by decide)).trans (by decide +kernel)
theorem r_257_0 {μ : MM} (h : SR μ) : gR μ 257 0 = some 258 := (h 257 0 (by decide)).trans (by decide +kernel)
theorem r_259_0 {μ : MM} (h : SR μ) : gR μ 259 0 = some 260 := (h 259 0 (by decide)).trans (by decide +kernel)
theorem r_261_0 {μ : MM} (h : SR μ) : gR μ 261 0 = some 262 := (h 261 0 (by decide)).trans (by decide +kernel)
theorem r_263_0 {μ : MM} (h : SR μ) : gR μ 263 0 = some 264 := (h 263 0 (by decide)).trans (by decide +kernel)
theorem r_265_0 {μ : MM} (h : SR μ) : gR μ 265 0 = some 266 := (h 265 0 (by decide)).trans (by decide +kernel)
theorem r_267_0 {μ : MM} (h : SR μ) : gR μ 267 0 = some 268 := (h 267 0 (by decide)).trans (by decide +kernel)
theorem r_269_0 {μ : MM} (h : SR μ) : gR μ 269 0 = some 270 := (h 269 0 (by decide)).trans (by decide +kernel)
theorem r_271_0 {μ : MM} (h : SR μ) : gR μ 271 0 = some 272 := (h 271 0 (by decide)).trans (by decide +kernel)
theorem r_273_0 {μ : MM} (h : SR μ) : gR μ 273 0 = some 274 := (h 273 0 (by decide)).trans (by decide +kernel)
theorem r_275_0 {μ : MM} (h : SR μ) : gR μ 275 0 = some 276 := (h 275 0 (by decide)).trans (by decide +kernel)
theorem r_277_0 {μ : MM} (h : SR μ) : gR μ 277 0 = some 278 := (h 277 0 (by decide)).trans (by decide +kernel)
theorem r_279_0 {μ : MM} (h : SR μ) : gR μ 279 0 = some 280 := (h 279 0 (by decide)).trans (by decide +kernel)
theorem r_281_0 {μ : MM} (h : SR μ) : gR μ 281 0 = some 282 := (h 281 0 (by decide)).trans (by decide +kernel)
theorem r_283_0 {μ : MM} (h : SR μ) : gR μ 283 0 = some 284 := (h 283 0 (by decide)).trans (by decide +kernel)
theorem r_285_0 {μ : MM} (h : SR μ) : gR μ 285 0 = some 286 := (h 285 0 (by decide)).trans (by decide +kernel)
theorem r_287_0 {μ : MM} (h : SR μ) : gR μ 287 0 = some 288 := (h 287 0 (by decide)).trans (by decide +kernel)
theorem r_289_0 {μ : MM} (h : SR μ) : gR μ 289 0 = some 290 := (h 289 0 (by decide)).trans (by decide +kernel)
theorem r_291_0 {μ : MM} (h : SR μ) : gR μ 291 0 = some 292 := (h 291 0 (by decide)).trans (by decide +kernel)
theorem r_293_0 {μ : MM} (h : SR μ) : gR μ 293 0 = some 294 := (h 293 0 (by decide)).trans (by decide +kernel)
theorem r_295_0 {μ : MM} (h : SR μ) : gR μ 295 0 = some 296 := (h 295 0 (by decide)).trans (by decide +kernel)
theorem r_297_0 {μ : MM} (h : SR μ) : gR μ 297 0 = some 298 := (h 297 0 (by decide)).trans (by decide +kernel)
theorem r_299_0 {μ : MM} (h : SR μ) : gR μ 299 0 = some 300 := (h 299 0 (by decide)).trans (by decide +kernel)
theorem r_301_0 {μ : MM} (h : SR μ) : gR μ 301 0 = some 302 := (h 301 0 (by decide)).trans (by decide +kernel)
theorem r_303_0 {μ : MM} (h : SR μ) : gR μ 303 0 = some 304 := (h 303 0 (by decide)).trans (by decide +kernel)
theorem r_305_0 {μ : MM} (h : SR μ) : gR μ 305 0 = some 306 := (h 305 0 (by decide)).trans (by decide +kernel)
theorem r_307_0 {μ : MM} (h : SR μ) : gR μ 307 0 = some 308 := (h 307 0 (by decide)).trans (by decide +kernel)
theorem r_309_0 {μ : MM} (h : SR μ) : gR μ 309 0 = some 310 := (h 309 0 (by decide)).trans (by decide +kernel)
theorem r_311_0 {μ : MM} (h : SR μ) : gR μ 311 0 = some 312 := (h 311 0 (by decide)).trans (by decide +kernel)
theorem r_313_0 {μ : MM} (h : SR μ) : gR μ 313 0 = some 314 := (h 313 0 (by decide)).trans (by decide +kernel)
theorem r_315_0 {μ : MM} (h : SR μ) : gR μ 315 0 = some 316 := (h 315 0 (by decide)).trans (by decide +kernel)
theorem r_317_0 {μ : MM} (h : SR μ) : gR μ 317 0 = some 318 := (h 317 0 (by decide)).trans (by decide +kernel)
theorem r_319_0 {μ : MM} (h : SR μ) : gR μ 319 0 = some 320 := (h 319 0 (by decide)).trans (by decide +kernel)
theorem r_321_0 {μ : MM} (h : SR μ) : gR μ 321 0 = some 322 := (h 321 0 (by decide)).trans (by decide +kernel)
theorem r_323_0 {μ : MM} (h : SR μ) : gR μ 323 0 = some 324 := (h 323 0 (by decide)).trans (by decide +kernel)
theorem r_325_0 {μ : MM} (h : SR μ) : gR μ 325 0 = some 326 := (h 325 0 (by decide)).trans (by decide +kernel)
theorem r_327_0 {μ : MM} (h : SR μ) : gR μ 327 0 = some 328 := (h 327 0 (by decide)).trans (by decide +kernel)
theorem r_329_0 {μ : MM} (h : SR μ) : gR μ 329 0 = some 330 := (h 329 0 (by decide)).trans (by decide +kernel)
theorem r_331_0 {μ : MM} (h : SR μ) : gR μ 331 0 = some 332 := (h 331 0 (by decide)).trans (by decide +kernel)
theorem r_333_0 {μ : MM} (h : SR μ) : gR μ 333 0 = some 334 := (h 333 0 (by decide)).trans (by decide +kernel)
theorem r_335_0 {μ : MM} (h : SR μ) : gR μ 335 0 = some 336 := (h 335 0 (by decide)).trans (by decide +kernel)
theorem r_337_0 {μ : MM} (h : SR μ) : gR μ 337 0 = some 338 := (h 337 0 (by decide)).trans (by decide +kernel)
theorem r_339_0 {μ : MM} (h : SR μ) : gR μ 339 0 = some 340 := (h 339 0 (by decide)).trans (by decide +kernel)
theorem r_341_0 {μ : MM} (h : SR μ) : gR μ 341 0 = some 342 := (h 341 0 (by decide)).trans (by decide +kernel)
theorem r_343_0 {μ : MM} (h : SR μ) : gR μ 343 0 = some 344 := (h 343 0 (by decide)).trans (by decide +kernel)
theorem r_345_0 {μ : MM} (h : SR μ) : gR μ 345 0 = some 346 := (h 345 0 (by decide)).trans (by decide +kernel)
theorem r_347_0 {μ : MM} (h : SR μ) : gR μ 347 0 = some 348 := (h 347 0 (by decide)).trans (by decide +kernel)
theorem r_349_0 {μ : MM} (h : SR μ) : gR μ 349 0 = some 350 := (h 349 0 (by decide)).trans (by decide +kernel)
theorem r_351_0 {μ : MM} (h : SR μ) : gR μ 351 0 = some 352 := (h 351 0 (by decide)).trans (by decide +kernel)
theorem r_353_0 {μ : MM} (h : SR μ) : gR μ 353 0 = some 354 := (h 353 0 (by decide)).trans (by decide +kernel)
theorem r_355_0 {μ : MM} (h : SR μ) : gR μ 355 0 = some 356 := (h 355 0 (by decide)).trans (by decide +kernel)
theorem r_358_2 {μ : MM} (h : SR μ) : gR μ 358 2 = some 359 := (h 358 2 (by decide)).trans (by decide +kernel)
theorem r_358_4 {μ : MM} (h : SR μ) : gR μ 358 4 = some 360 := (h 358 4 (by decide)).trans (by decide +kernel)
theorem r_358_5 {μ : MM} (h : SR μ) : gR μ 358 5 = some 361 := (h 358 5 (by decide)).trans (by decide +kernel)
theorem r_358_6 {μ : MM} (h : SR μ) : gR μ 358 6 = some 362 := (h 358 6 (by decide)).trans (by decide +kernel)
theorem r_358_7 {μ : MM} (h : SR μ) : gR μ 358 7 = some 363 := (h 358 7 (by decide)).trans (by decide +kernel)
theorem r_358_9 {μ : MM} (h : SR μ) : gR μ 358 9 = some 364 := (h 358 9 (by decide)).trans (by decide +kernel)
theorem r_358_10 {μ : MM} (h : SR μ) : gR μ 358 10 = some 365 := (h 358 10 (by decide)).trans (by decide +kernel)
theorem r_358_11 {μ : MM} (h : SR μ) : gR μ 358 11 = some 366 := (h 358 11 (by decide)).trans (by decide +kernel)
theorem r_358_13 {μ : MM} (h : SR μ) : gR μ 358 13 = some 367 := (h 358 13 (by decide)).trans (by decide +kernel)
theorem r_358_14 {μ : MM} (h : SR μ) : gR μ 358 14 = some 368 := (h 358 14 (by decide)).trans (by decide +kernel)
theorem r_358_15 {μ : MM} (h : SR μ) : gR μ 358 15 = some 369 := (h 358 15 (by decide)).trans (by decide +kernel)
theorem r_358_16 {μ : MM} (h : SR μ) : gR μ 358 16 = some 370 := (h 358 16 (by decide)).trans (by decide +kernel)
theorem r_358_17 {μ : MM} (h : SR μ) : gR μ 358 17 = some 371 := (h 358 17 (by decide)).trans (by decide +kernel)
theorem r_358_18 {μ : MM} (h : SR μ) : gR μ 358 18 = some 372 := (h 358 18 (by decide)).trans (by decide +kernel)
theorem r_358_19 {μ : MM} (h : SR μ) : gR μ 358 19 = some 373 := (h 358 19 (by decide)).trans (by decide +kernel)
theorem r_358_20 {μ : MM} (h : SR μ) : gR μ 358 20 = some 374 := (h 358 20 (by decide)).trans (by decide +kernel)
theorem r_358_21 {μ : MM} (h : SR μ) : gR μ 358 21 = some 375 := (h 358 21 (by decide)).trans (by decide +kernel)
theorem r_358_23 {μ : MM} (h : SR μ) : gR μ 358 23 = some 376 := (h 358 23 (by decide)).trans (by decide +kernel)
theorem r_358_24 {μ : MM} (h : SR μ) : gR μ 358 24 = some 377 := (h 358 24 (by decide)).trans (by decide +kernel)
theorem r_358_25 {μ : MM} (h : SR μ) : gR μ 358 25 = some 378 := (h 358 25 (by decide)).trans (by decide +kernel)
theorem r_358_26 {μ : MM} (h : SR μ) : gR μ 358 26 = some 379 := (h 358 26 (by decide)).trans (by decide +kernel)
theorem r_358_27 {μ : MM} (h : SR μ) : gR μ 358 27 = some 380 := (h 358 27 (by decide)).trans (by decide +kernel)
theorem r_358_36 {μ : MM} (h : SR μ) : gR μ 358 36 = some 381 := (h 358 36 (by decide)).trans (by decide +kernel)
theorem r_358_37 {μ : MM} (h : SR μ) : gR μ 358 37 = some 382 := (h 358 37 (by decide)).trans (by decide +kernel)
theorem r_358_38 {μ : MM} (h : SR μ) : gR μ 358 38 = some 383 := (h 358 38 (by decide)).trans (by decide +kernel)
theorem r_358_39 {μ : MM} (h : SR μ) : gR μ 358 39 = some 384 := (h 358 39 (by decide)).trans (by decide +kernel)
theorem r_358_40 {μ : MM} (h : SR μ) : gR μ 358 40 = some 385 := (h 358 40 (by decide)).trans (by decide +kernel)
theorem r_358_41 {μ : MM} (h : SR μ) : gR μ 358 41 = some 386 := (h 358 41 (by decide)).trans (by decide +kernel)
theorem r_358_45 {μ : MM} (h : SR μ) : gR μ 358 45 = some 387 := (h 358 45 (by decide)).trans (by decide +kernel)
theorem r_358_46 {μ : MM} (h : SR μ) : gR μ 358 46 = some 388 := (h 358 46 (by decide)).trans (by decide +kernel)
theorem r_358_47 {μ : MM} (h : SR μ) : gR μ 358 47 = some 389 := (h 358 47 (by decide)).trans (by decide +kernel)
theorem r_358_48 {μ : MM} (h : SR μ) : gR μ 358 48 = some 390 := (h 358 48 (by decide)).trans (by decide +kernel)
theorem r_358_49 {μ : MM} (h : SR μ) : gR μ 358 49 = some 391 := (h 358 49 (by decide)).trans (by decide +kernel)
theorem r_358_50 {μ : MM} (h : SR μ) : gR μ 358 50 = some 392 := (h 358 50 (by decide)).trans (by decide +kernel)
theorem r_358_51 {μ : MM} (h : SR μ) : gR μ 358 51 = some 393 := (h 358 51 (by decide)).trans (by decide +kernel)
theorem r_358_52 {μ : MM} (h : SR μ) : gR μ 358 52 = some 394 := (h 358 52 (by decide)).trans (by decide +kernel)
theorem r_358_53 {μ : MM} (h : SR μ) : gR μ 358 53 = some 395 := (h 358 53 (by decide)).trans (by decide +kernel)
theorem r_358_54 {μ : MM} (h : SR μ) : gR μ 358 54 = some 396 := (h 358 54 (by decide)).trans (by decide +kernel)
theorem r_358_55 {μ : MM} (h : SR μ) : gR μ 358 55 = some 397 := (h 358 55 (by decide)).trans (by decide +kernel)
theorem r_358_56 {μ : MM} (h : SR μ) : gR μ 358 56 = some 398 := (h 358 56 (by decide)).trans (by decide +kernel)
theorem r_358_57 {μ : MM} (h : SR μ) : gR μ 358 57 = some 399 := (h 358 57 (by decide)).trans (by decide +kernel)
theorem r_358_58 {μ : MM} (h : SR μ) : gR μ 358 58 = some 400 := (h 358 58 (by decide)).trans (by decide +kernel)
theorem r_358_62 {μ : MM} (h : SR μ) : gR μ 358 62 = some 401 := (h 358 62 (by decide)).trans (by decide +kernel)
theorem r_358_63 {μ : MM} (h : SR μ) : gR μ 358 63 = some 402 := (h 358 63 (by decide)).trans (by decide +kernel)
theorem r_358_64 {μ : MM} (h : SR μ) : gR μ 358 64 = some 403 := (h 358 64 (by decide)).trans (by decide +kernel)
theorem r_358_65 {μ : MM} (h : SR μ) : gR μ 358 65 = some 404 := (h 358 65 (by decide)).trans (by decide +kernel)
theorem r_358_66 {μ : MM} (h : SR μ) : gR μ 358 66 = some 405 := (h 358 66 (by decide)).trans (by decide +kernel)
theorem r_358_67 {μ : MM} (h : SR μ) : gR μ 358 67 = some 406 := (h 358 67 (by decide)).trans (by decide +kernel)
theorem r_358_68 {μ : MM} (h : SR μ) : gR μ 358 68 = some 407 := (h 358 68 (by decide)).trans (by decide +kernel)
theorem r_358_69 {μ : MM} (h : SR μ) : gR μ 358 69 = some 408 := (h 358 69 (by decide)).trans (by decide +kernel)
theorem r_358_70 {μ : MM} (h : SR μ) : gR μ 358 70 = some 409 := (h 358 70 (by decide)).trans (by decide +kernel)
theorem r_206_0 {μ : MM} (h : SR μ) : gR μ 206 0 = some 207 := (h 206 0 (by decide)).trans (by decide +kernel)
theorem r_206_1 {μ : MM} (h : SR μ) : gR μ 206 1 = some 210 := (h 206 1 (by decide)).trans (by decide +kernel)
theorem qF0_0 : ∀ t, t < NC → sh t = 0 → R0 t 0 = some (t + 1) ∧ t + 1 < NC ∧ sh (t + 1) = 14 := by decide +kernel
theorem rF0_0 {t : Nat} (o : Ob t 0) {μ : MM} (h : SR μ) : gR μ t 0 = some (t + 1) := (SR_ne o (by decide) h).trans (qF0_0 t o.1 o.2).1
theorem obF0_0 {t : Nat} (o : Ob t 0) : Ob (t + 1) 14 := (qF0_0 t o.1 o.2).2
theorem qF3_0 : ∀ t, t < NC → sh t = 3 → R0 t 0 = some (t + 1) ∧ t + 1 < NC ∧ sh (t + 1) = 13 := by decide +kernel
theorem rF3_0 {t : Nat} (o : Ob t 3) {μ : MM} (h : SR μ) : gR μ t 0 = some (t + 1) := (SR_ne o (by decide) h).trans (qF3_0 t o.1 o.2).1
theorem obF3_0 {t : Nat} (o : Ob t 3) : Ob (t + 1) 13 := (qF3_0 t o.1 o.2).2
theorem qL3_0 : ∀ t, t < NC → sh t = 3 → ln (t + 1) = 40 := by decide +kernel
theorem lnF3_0 {t : Nat} (o : Ob t 3) : ln (t + 1) = 40 := qL3_0 t o.1 o.2
theorem qF3_2 : ∀ t, t < NC → sh t = 3 → R0 t 2 = some (t + 2) ∧ t + 2 < NC ∧ sh (t + 2) = 13 := by decide +kernel
theorem rF3_2 {t : Nat} (o : Ob t 3) {μ : MM} (h : SR μ) : gR μ t 2 = some (t + 2) := (SR_ne o (by decide) h).trans (qF3_2 t o.1 o.2).1
theorem obF3_2 {t : Nat} (o : Ob t 3) : Ob (t + 2) 13 := (qF3_2 t o.1 o.2).2
theorem qL3_2 : ∀ t, t < NC → sh t = 3 → ln (t + 2) = 40 := by decide +kernel
theorem lnF3_2 {t : Nat} (o : Ob t 3) : ln (t + 2) = 40 := qL3_2 t o.1 o.2
theorem qF9_0 : ∀ t, t < NC → sh t = 9 → R0 t 0 = some (t + 1) ∧ t + 1 < NC ∧ sh (t + 1) = 13 := by decide +kernel
theorem rF9_0 {t : Nat} (o : Ob t 9) {μ : MM} (h : SR μ) : gR μ t 0 = some (t + 1) := (SR_ne o (by decide) h).trans (qF9_0 t o.1 o.2).1
theorem obF9_0 {t : Nat} (o : Ob t 9) : Ob (t + 1) 13 := (qF9_0 t o.1 o.2).2
theorem qL9_0 : ∀ t, t < NC → sh t = 9 → ln (t + 1) = 2 := by decide +kernel
theorem lnF9_0 {t : Nat} (o : Ob t 9) : ln (t + 1) = 2 := qL9_0 t o.1 o.2
theorem qF9_1 : ∀ t, t < NC → sh t = 9 → R0 t 1 = some (t + 2) ∧ t + 2 < NC ∧ sh (t + 2) = 13 := by decide +kernel
theorem rF9_1 {t : Nat} (o : Ob t 9) {μ : MM} (h : SR μ) : gR μ t 1 = some (t + 2) := (SR_ne o (by decide) h).trans (qF9_1 t o.1 o.2).1
theorem obF9_1 {t : Nat} (o : Ob t 9) : Ob (t + 2) 13 := (qF9_1 t o.1 o.2).2
theorem qL9_1 : ∀ t, t < NC → sh t = 9 → ln (t + 2) = 2 := by decide +kernel
theorem lnF9_1 {t : Nat} (o : Ob t 9) : ln (t + 2) = 2 := qL9_1 t o.1 o.2
theorem qA9 : ∀ j, j < 96 → R0 9 j = some (19 + j) ∧ 19 + j < NC ∧ sh (19 + j) = 5 := by decide +kernel
theorem rA9 {i : Int32} (c : vp_in i 96) {μ : MM} (h : SR μ) : gR μ 9 i.toNatClampNeg = some (19 + i.toNatClampNeg) := (h 9 _ (by omega)).trans (qA9 _ (vp_lt c)).1
theorem obA9 {i : Int32} (c : vp_in i 96) : Ob (19 + i.toNatClampNeg) 5 := (qA9 _ (vp_lt c)).2
theorem qA10 : ∀ j, j < 6 → R0 10 j = some (115 + 6 * j) ∧ 115 + 6 * j < NC ∧ sh (115 + 6 * j) = 3 := by decide +kernel
theorem rA10 {i : Int32} (c : vp_in i 6) {μ : MM} (h : SR μ) : gR μ 10 i.toNatClampNeg = some (115 + 6 * i.toNatClampNeg) := (h 10 _ (by omega)).trans (qA10 _ (vp_lt c)).1
theorem obA10 {i : Int32} (c : vp_in i 6) : Ob (115 + 6 * i.toNatClampNeg) 3 := (qA10 _ (vp_lt c)).2
theorem qA11 : ∀ j, j < 6 → R0 11 j = some (118 + 6 * j) ∧ 118 + 6 * j < NC ∧ sh (118 + 6 * j) = 3 := by decide +kernel
theorem rA11 {i : Int32} (c : vp_in i 6) {μ : MM} (h : SR μ) : gR μ 11 i.toNatClampNeg = some (118 + 6 * i.toNatClampNeg) := (h 11 _ (by omega)).trans (qA11 _ (vp_lt c)).1
theorem obA11 {i : Int32} (c : vp_in i 6) : Ob (118 + 6 * i.toNatClampNeg) 3 := (qA11 _ (vp_lt c)).2
theorem qA15 : ∀ j, j < 3 → R0 15 j = some (16 + j) ∧ 16 + j < NC ∧ sh (16 + j) = 13 := by decide +kernel
theorem rA15 {i : Int32} (c : vp_in i 3) {μ : MM} (h : SR μ) : gR μ 15 i.toNatClampNeg = some (16 + i.toNatClampNeg) := (h 15 _ (by omega)).trans (qA15 _ (vp_lt c)).1
theorem obA15 {i : Int32} (c : vp_in i 3) : Ob (16 + i.toNatClampNeg) 13 := (qA15 _ (vp_lt c)).2
theorem qM15 : ∀ j, j < 3 → ln (16 + j) = 96 := by decide +kernel
theorem lnA15 {i : Int32} (c : vp_in i 3) : ln (16 + i.toNatClampNeg) = 96 := qM15 _ (vp_lt c)
theorem qA172 : ∀ j, j < 24 → R0 172 j = some (173 + j) ∧ 173 + j < NC ∧ sh (173 + j) = 14 := by decide +kernel
theorem rA172 {i : Int32} (c : vp_in i 24) {μ : MM} (h : SR μ) : gR μ 172 i.toNatClampNeg = some (173 + i.toNatClampNeg) := (h 172 _ (by omega)).trans (qA172 _ (vp_lt c)).1
theorem obA172 {i : Int32} (c : vp_in i 24) : Ob (173 + i.toNatClampNeg) 14 := (qA172 _ (vp_lt c)).2
theorem qM172 : ∀ j, j < 24 → ln (173 + j) = 4 := by decide +kernel
theorem lnA172 {i : Int32} (c : vp_in i 24) : ln (173 + i.toNatClampNeg) = 4 := qM172 _ (vp_lt c)
theorem qA206 : ∀ j, j < 10 → R0 206 j = some (207 + 3 * j) ∧ 207 + 3 * j < NC ∧ sh (207 + 3 * j) = 9 := by decide +kernel
theorem rA206 {i : Int32} (c : vp_in i 10) {μ : MM} (h : SR μ) : gR μ 206 i.toNatClampNeg = some (207 + 3 * i.toNatClampNeg) := (h 206 _ (by omega)).trans (qA206 _ (vp_lt c)).1
theorem obA206 {i : Int32} (c : vp_in i 10) : Ob (207 + 3 * i.toNatClampNeg) 9 := (qA206 _ (vp_lt c)).2
theorem qA241 : ∀ j, j < 6 → R0 241 j = some (242 + j) ∧ 242 + j < NC ∧ sh (242 + j) = 13 := by decide +kernel
theorem rA241 {i : Int32} (c : vp_in i 6) {μ : MM} (h : SR μ) : gR μ 241 i.toNatClampNeg = some (242 + i.toNatClampNeg) := (h 241 _ (by omega)).trans (qA241 _ (vp_lt c)).1
theorem obA241 {i : Int32} (c : vp_in i 6) : Ob (242 + i.toNatClampNeg) 13 := (qA241 _ (vp_lt c)).2
theorem qM241 : ∀ j, j < 6 → ln (242 + j) = 96 := by decide +kernel
theorem lnA241 {i : Int32} (c : vp_in i 6) : ln (242 + i.toNatClampNeg) = 96 := qM241 _ (vp_lt c)
theorem qA250 : ∀ j, j < 17 → R0 250 j = some (255 + 6 * j) ∧ 255 + 6 * j < NC ∧ sh (255 + 6 * j) = 0 := by decide +kernel
theorem rA250 {i : Int32} (c : vp_in i 17) {μ : MM} (h : SR μ) : gR μ 250 i.toNatClampNeg = some (255 + 6 * i.toNatClampNeg) := (h 250 _ (by omega)).trans (qA250 _ (vp_lt c)).1
theorem obA250 {i : Int32} (c : vp_in i 17) : Ob (255 + 6 * i.toNatClampNeg) 0 := (qA250 _ (vp_lt c)).2
theorem qA251 : ∀ j, j < 17 → R0 251 j = some (257 + 6 * j) ∧ 257 + 6 * j < NC ∧ sh (257 + 6 * j) = 0 := by decide +kernel
theorem rA251 {i : Int32} (c : vp_in i 17) {μ : MM} (h : SR μ) : gR μ 251 i.toNatClampNeg = some (257 + 6 * i.toNatClampNeg) := (h 251 _ (by omega)).trans (qA251 _ (vp_lt c)).1
theorem obA251 {i : Int32} (c : vp_in i 17) : Ob (257 + 6 * i.toNatClampNeg) 0 := (qA251 _ (vp_lt c)).2
theorem qA252 : ∀ j, j < 17 → R0 252 j = some (259 + 6 * j) ∧ 259 + 6 * j < NC ∧ sh (259 + 6 * j) = 0 := by decide +kernel
theorem rA252 {i : Int32} (c : vp_in i 17) {μ : MM} (h : SR μ) : gR μ 252 i.toNatClampNeg = some (259 + 6 * i.toNatClampNeg) := (h 252 _ (by omega)).trans (qA252 _ (vp_lt c)).1
theorem obA252 {i : Int32} (c : vp_in i 17) : Ob (259 + 6 * i.toNatClampNeg) 0 := (qA252 _ (vp_lt c)).2
theorem hyJ0 : RJ0 ≠ "java/lang/invoke/MethodHandle" ∧ RJ0 ≠ "java/lang/invoke/VarHandle" := ⟨by decide +kernel, by decide +kernel⟩
theorem plJ0 : plainName RJ0 = true := by decide +kernel
theorem hyJ1 : RJ1 ≠ "java/lang/invoke/MethodHandle" ∧ RJ1 ≠ "java/lang/invoke/VarHandle" := ⟨by decide +kernel, by decide +kernel⟩
theorem plJ1 : plainName RJ1 = true := by decide +kernel
theorem hyJ3 : RJ3 ≠ "java/lang/invoke/MethodHandle" ∧ RJ3 ≠ "java/lang/invoke/VarHandle" := ⟨by decide +kernel, by decide +kernel⟩
theorem plJ3 : plainName RJ3 = true := by decide +kernel
theorem hyJ6 : RJ6 ≠ "java/lang/invoke/MethodHandle" ∧ RJ6 ≠ "java/lang/invoke/VarHandle" := ⟨by decide +kernel, by decide +kernel⟩
theorem plJ6 : plainName RJ6 = true := by decide +kernel
theorem hyX0 : RX0 ≠ "java/lang/invoke/MethodHandle" ∧ RX0 ≠ "java/lang/invoke/VarHandle" := ⟨by decide +kernel, by decide +kernel⟩
theorem plX0 : plainName RX0 = true := by decide +kernel
theorem hyX1 : RX1 ≠ "java/lang/invoke/MethodHandle" ∧ RX1 ≠ "java/lang/invoke/VarHandle" := ⟨by decide +kernel, by decide +kernel⟩
theorem plX1 : plainName RX1 = true := by decide +kernel
theorem hyX10 : RX10 ≠ "java/lang/invoke/MethodHandle" ∧ RX10 ≠ "java/lang/invoke/VarHandle" := ⟨by decide +kernel, by decide +kernel⟩
theorem plX10 : plainName RX10 = true := by decide +kernel
theorem hyX11 : RX11 ≠ "java/lang/invoke/MethodHandle" ∧ RX11 ≠ "java/lang/invoke/VarHandle" := ⟨by decide +kernel, by decide +kernel⟩
theorem plX11 : plainName RX11 = true := by decide +kernel
theorem hyX12 : RX12 ≠ "java/lang/invoke/MethodHandle" ∧ RX12 ≠ "java/lang/invoke/VarHandle" := ⟨by decide +kernel, by decide +kernel⟩
theorem plX12 : plainName RX12 = true := by decide +kernel
theorem hyX2 : RX2 ≠ "java/lang/invoke/MethodHandle" ∧ RX2 ≠ "java/lang/invoke/VarHandle" := ⟨by decide +kernel, by decide +kernel⟩
theorem plX2 : plainName RX2 = true := by decide +kernel
theorem hyX3 : RX3 ≠ "java/lang/invoke/MethodHandle" ∧ RX3 ≠ "java/lang/invoke/VarHandle" := ⟨by decide +kernel, by decide +kernel⟩
theorem plX3 : plainName RX3 = true := by decide +kernel
theorem hyX4 : RX4 ≠ "java/lang/invoke/MethodHandle" ∧ RX4 ≠ "java/lang/invoke/VarHandle" := ⟨by decide +kernel, by decide +kernel⟩
theorem plX4 : plainName RX4 = true := by decide +kernel
theorem hyX5 : RX5 ≠ "java/lang/invoke/MethodHandle" ∧ RX5 ≠ "java/lang/invoke/VarHandle" := ⟨by decide +kernel, by decide +kernel⟩
theorem plX5 : plainName RX5 = true := by decide +kernel
theorem hyX6 : RX6 ≠ "java/lang/invoke/MethodHandle" ∧ RX6 ≠ "java/lang/invoke/VarHandle" := ⟨by decide +kernel, by decide +kernel⟩
theorem plX6 : plainName RX6 = true := by decide +kernel
theorem hyX7 : RX7 ≠ "java/lang/invoke/MethodHandle" ∧ RX7 ≠ "java/lang/invoke/VarHandle" := ⟨by decide +kernel, by decide +kernel⟩
theorem plX7 : plainName RX7 = true := by decide +kernel
theorem hyX8 : RX8 ≠ "java/lang/invoke/MethodHandle" ∧ RX8 ≠ "java/lang/invoke/VarHandle" := ⟨by decide +kernel, by decide +kernel⟩
theorem plX8 : plainName RX8 = true := by decide +kernel
theorem hyX9 : RX9 ≠ "java/lang/invoke/MethodHandle" ∧ RX9 ≠ "java/lang/invoke/VarHandle" := ⟨by decide +kernel, by decide +kernel⟩
theorem plX9 : plainName RX9 = true := by decide +kernel
theorem hnJ3_checkIndex_8e157 : (parseMethodDescriptor yJ3_checkIndex_8e157.desc).map (fun d => d.parameters.length) = some 3 := by decide +kernel
theorem hnJ0_checkIndex_df160 : (parseMethodDescriptor yJ0_checkIndex_df160.desc).map (fun d => d.parameters.length) = some 2 := by decide +kernel
abbrev GJ0_checkIndex_df160_dep : Nat := 2
theorem hnX11_within : (parseMethodDescriptor yX11_within.desc).map (fun d => d.parameters.length) = some 3 := by decide +kernel
abbrev G11_within_dep : Nat := 1
theorem hnX10_addName : (parseMethodDescriptor yX10_addName.desc).map (fun d => d.parameters.length) = some 3 := by decide +kernel
abbrev G10_addName_dep : Nat := 1
theorem hnX11_name : (parseMethodDescriptor yX11_name.desc).map (fun d => d.parameters.length) = some 3 := by decide +kernel
abbrev G11_name_dep : Nat := 2
theorem hnX10_addHouse : (parseMethodDescriptor yX10_addHouse.desc).map (fun d => d.parameters.length) = some 3 := by decide +kernel
abbrev G10_addHouse_dep : Nat := 1
theorem hnX11_house : (parseMethodDescriptor yX11_house.desc).map (fun d => d.parameters.length) = some 3 := by decide +kernel
abbrev G11_house_dep : Nat := 2
theorem hnX5_becomeState : (parseMethodDescriptor yX5_becomeState.desc).map (fun d => d.parameters.length) = some 1 := by decide +kernel
abbrev G5_becomeState_dep : Nat := 1
theorem hnX10_addLetter : (parseMethodDescriptor yX10_addLetter.desc).map (fun d => d.parameters.length) = some 5 := by decide +kernel
abbrev G10_addLetter_dep : Nat := 2
theorem hnX10_isHouse : (parseMethodDescriptor yX10_isHouse.desc).map (fun d => d.parameters.length) = some 1 := by decide +kernel
abbrev G10_isHouse_dep : Nat := 1
theorem hnX10_isName : (parseMethodDescriptor yX10_isName.desc).map (fun d => d.parameters.length) = some 1 := by decide +kernel
abbrev G10_isName_dep : Nat := 1
theorem hnX10_lettersTo : (parseMethodDescriptor yX10_lettersTo.desc).map (fun d => d.parameters.length) = some 1 := by decide +kernel
abbrev G10_lettersTo_dep : Nat := 1
theorem hnX11_letter : (parseMethodDescriptor yX11_letter.desc).map (fun d => d.parameters.length) = some 5 := by decide +kernel
abbrev G11_letter_dep : Nat := 3
theorem hnX10_draw : (parseMethodDescriptor yX10_draw.desc).map (fun d => d.parameters.length) = some 1 := by decide +kernel
abbrev G10_draw_dep : Nat := 1
theorem hnX10_isFree : (parseMethodDescriptor yX10_isFree.desc).map (fun d => d.parameters.length) = some 3 := by decide +kernel
abbrev G10_isFree_dep : Nat := 1
theorem hnX10_drawName : (parseMethodDescriptor yX10_drawName.desc).map (fun d => d.parameters.length) = some 2 := by decide +kernel
abbrev G10_drawName_dep : Nat := 2
theorem hnX10_dealTo : (parseMethodDescriptor yX10_dealTo.desc).map (fun d => d.parameters.length) = some 3 := by decide +kernel
abbrev G10_dealTo_dep : Nat := 3
theorem hnX10_namesOf : (parseMethodDescriptor yX10_namesOf.desc).map (fun d => d.parameters.length) = some 1 := by decide +kernel
abbrev G10_namesOf_dep : Nat := 1
theorem hnX11_deal : (parseMethodDescriptor yX11_deal.desc).map (fun d => d.parameters.length) = some 3 := by decide +kernel
abbrev G11_deal_dep : Nat := 4
theorem hnX5_told : (parseMethodDescriptor yX5_told.desc).map (fun d => d.parameters.length) = some 1 := by decide +kernel
abbrev G5_told_dep : Nat := 1
theorem hnX10_isLetter : (parseMethodDescriptor yX10_isLetter.desc).map (fun d => d.parameters.length) = some 1 := by decide +kernel
abbrev G10_isLetter_dep : Nat := 1
theorem hnX11_of : (parseMethodDescriptor yX11_of.desc).map (fun d => d.parameters.length) = some 2 := by decide +kernel
abbrev G11_of_dep : Nat := 6
theorem hnX11_sign : (parseMethodDescriptor yX11_sign.desc).map (fun d => d.parameters.length) = some 1 := by decide +kernel
abbrev G11_sign_dep : Nat := 1
theorem hnX11_end : (parseMethodDescriptor yX11_end.desc).map (fun d => d.parameters.length) = some 1 := by decide +kernel
abbrev G11_end_dep : Nat := 2
theorem hnX3_isDigit : (parseMethodDescriptor yX3_isDigit.desc).map (fun d => d.parameters.length) = some 1 := by decide +kernel
abbrev G3_isDigit_dep : Nat := 1
theorem hnX3_strength : (parseMethodDescriptor yX3_strength.desc).map (fun d => d.parameters.length) = some 1 := by decide +kernel
abbrev G3_strength_dep : Nat := 1
theorem hnX3_isJoining : (parseMethodDescriptor yX3_isJoining.desc).map (fun d => d.parameters.length) = some 1 := by decide +kernel
abbrev G3_isJoining_dep : Nat := 2
theorem hnX3_pop : (parseMethodDescriptor yX3_pop.desc).map (fun d => d.parameters.length) = some 0 := by decide +kernel
abbrev G3_pop_dep : Nat := 1
theorem hnX3_push : (parseMethodDescriptor yX3_push.desc).map (fun d => d.parameters.length) = some 1 := by decide +kernel
abbrev G3_push_dep : Nat := 1
theorem hnX3_put : (parseMethodDescriptor yX3_put.desc).map (fun d => d.parameters.length) = some 1 := by decide +kernel
abbrev G3_put_dep : Nat := 1
theorem hnX3_putDigit : (parseMethodDescriptor yX3_putDigit.desc).map (fun d => d.parameters.length) = some 2 := by decide +kernel
abbrev G3_putDigit_dep : Nat := 2
theorem hnX3_putStronger : (parseMethodDescriptor yX3_putStronger.desc).map (fun d => d.parameters.length) = some 1 := by decide +kernel
abbrev G3_putStronger_dep : Nat := 2
theorem hnJ0_isLatin1_aae02 : (parseMethodDescriptor yJ0_isLatin1_aae02.desc).map (fun d => d.parameters.length) = some 0 := by decide +kernel
abbrev GJ0_isLatin1_aae02_dep : Nat := 1
theorem hnJ0_coder_7d493 : (parseMethodDescriptor yJ0_coder_7d493.desc).map (fun d => d.parameters.length) = some 0 := by decide +kernel
abbrev GJ0_coder_7d493_dep : Nat := 1
theorem hnJ0_length_8abf5 : (parseMethodDescriptor yJ0_length_8abf5.desc).map (fun d => d.parameters.length) = some 0 := by decide +kernel
abbrev GJ0_length_8abf5_dep : Nat := 2
theorem hnJ1_canEncode_9a6ad : (parseMethodDescriptor yJ1_canEncode_9a6ad.desc).map (fun d => d.parameters.length) = some 1 := by decide +kernel
abbrev GJ1_canEncode_9a6ad_dep : Nat := 1
theorem hnJ1_indexOfChar_4cfef : (parseMethodDescriptor yJ1_indexOfChar_4cfef.desc).map (fun d => d.parameters.length) = some 4 := by decide +kernel
abbrev GJ1_indexOfChar_4cfef_dep : Nat := 1
theorem hnJ1_indexOf_4cfef : (parseMethodDescriptor yJ1_indexOf_4cfef.desc).map (fun d => d.parameters.length) = some 4 := by decide +kernel
abbrev GJ1_indexOf_4cfef_dep : Nat := 2
theorem hnJ0_indexOf_7cf53 : (parseMethodDescriptor yJ0_indexOf_7cf53.desc).map (fun d => d.parameters.length) = some 2 := by decide +kernel
abbrev GJ0_indexOf_7cf53_dep : Nat := 3
theorem hnJ0_indexOf_0f7a4 : (parseMethodDescriptor yJ0_indexOf_0f7a4.desc).map (fun d => d.parameters.length) = some 1 := by decide +kernel
abbrev GJ0_indexOf_0f7a4_dep : Nat := 4
theorem hnX3_become : (parseMethodDescriptor yX3_become.desc).map (fun d => d.parameters.length) = some 2 := by decide +kernel
abbrev G3_become_dep : Nat := 5
theorem hnX3_isThing : (parseMethodDescriptor yX3_isThing.desc).map (fun d => d.parameters.length) = some 2 := by decide +kernel
abbrev G3_isThing_dep : Nat := 5
theorem hnX3_firstWrong : (parseMethodDescriptor yX3_firstWrong.desc).map (fun d => d.parameters.length) = some 3 := by decide +kernel
abbrev G3_firstWrong_dep : Nat := 6
theorem hnX11_takeText : (parseMethodDescriptor yX11_takeText.desc).map (fun d => d.parameters.length) = some 3 := by decide +kernel
abbrev G11_takeText_dep : Nat := 7
theorem hnX11_law : (parseMethodDescriptor yX11_law.desc).map (fun d => d.parameters.length) = some 1 := by decide +kernel
abbrev G11_law_dep : Nat := 8
theorem hnX11_filter : (parseMethodDescriptor yX11_filter.desc).map (fun d => d.parameters.length) = some 1 := by decide +kernel
abbrev G11_filter_dep : Nat := 8
theorem hnX3_isTold : (parseMethodDescriptor yX3_isTold.desc).map (fun d => d.parameters.length) = some 0 := by decide +kernel
abbrev G3_isTold_dep : Nat := 1
theorem hnX10_isLaw : (parseMethodDescriptor yX10_isLaw.desc).map (fun d => d.parameters.length) = some 1 := by decide +kernel
abbrev G10_isLaw_dep : Nat := 2
theorem hnX3_joined : (parseMethodDescriptor yX3_joined.desc).map (fun d => d.parameters.length) = some 3 := by decide +kernel
abbrev G3_joined_dep : Nat := 1
theorem hnX3_operate : (parseMethodDescriptor yX3_operate.desc).map (fun d => d.parameters.length) = some 1 := by decide +kernel
abbrev G3_operate_dep : Nat := 2
theorem hnX3_result : (parseMethodDescriptor yX3_result.desc).map (fun d => d.parameters.length) = some 1 := by decide +kernel
abbrev G3_result_dep : Nat := 3
theorem hnX10_lookAt : (parseMethodDescriptor yX10_lookAt.desc).map (fun d => d.parameters.length) = some 1 := by decide +kernel
abbrev G10_lookAt_dep : Nat := 1
theorem hnX10_lookAtHouse : (parseMethodDescriptor yX10_lookAtHouse.desc).map (fun d => d.parameters.length) = some 1 := by decide +kernel
abbrev G10_lookAtHouse_dep : Nat := 1
theorem hnX10_lawFor : (parseMethodDescriptor yX10_lawFor.desc).map (fun d => d.parameters.length) = some 2 := by decide +kernel
abbrev G10_lawFor_dep : Nat := 4
theorem hnX11_value : (parseMethodDescriptor yX11_value.desc).map (fun d => d.parameters.length) = some 2 := by decide +kernel
abbrev G11_value_dep : Nat := 6
theorem hnX5_becomeRead : (parseMethodDescriptor yX5_becomeRead.desc).map (fun d => d.parameters.length) = some 1 := by decide +kernel
abbrev G5_becomeRead_dep : Nat := 1
theorem hnX10_isRungByHouse : (parseMethodDescriptor yX10_isRungByHouse.desc).map (fun d => d.parameters.length) = some 1 := by decide +kernel
abbrev G10_isRungByHouse_dep : Nat := 5
theorem hnX10_nextUnread : (parseMethodDescriptor yX10_nextUnread.desc).map (fun d => d.parameters.length) = some 0 := by decide +kernel
abbrev G10_nextUnread_dep : Nat := 1
theorem hnX10_readNext : (parseMethodDescriptor yX10_readNext.desc).map (fun d => d.parameters.length) = some 1 := by decide +kernel
abbrev G10_readNext_dep : Nat := 6
theorem hnX11_read : (parseMethodDescriptor yX11_read.desc).map (fun d => d.parameters.length) = some 1 := by decide +kernel
abbrev G11_read_dep : Nat := 7
theorem hnX11_ring : (parseMethodDescriptor yX11_ring.desc).map (fun d => d.parameters.length) = some 2 := by decide +kernel
abbrev G11_ring_dep : Nat := 2
theorem hnX10_readAllWithoutRings : (parseMethodDescriptor yX10_readAllWithoutRings.desc).map (fun d => d.parameters.length) = some 0 := by decide +kernel
abbrev G10_readAllWithoutRings_dep : Nat := 2
theorem hnX10_asHeld : (parseMethodDescriptor yX10_asHeld.desc).map (fun d => d.parameters.length) = some 2 := by decide +kernel
abbrev G10_asHeld_dep : Nat := 1
theorem hnX10_readAsBoxed : (parseMethodDescriptor yX10_readAsBoxed.desc).map (fun d => d.parameters.length) = some 4 := by decide +kernel
abbrev G10_readAsBoxed_dep : Nat := 2
theorem hnX11_box : (parseMethodDescriptor yX11_box.desc).map (fun d => d.parameters.length) = some 4 := by decide +kernel
abbrev G11_box_dep : Nat := 3
theorem hnX11_after : (parseMethodDescriptor yX11_after.desc).map (fun d => d.parameters.length) = some 2 := by decide +kernel
abbrev G11_after_dep : Nat := 2
theorem hnX11_seed : (parseMethodDescriptor yX11_seed.desc).map (fun d => d.parameters.length) = some 1 := by decide +kernel
abbrev G11_seed_dep : Nat := 1
theorem hnX11_greatestDivisor : (parseMethodDescriptor yX11_greatestDivisor.desc).map (fun d => d.parameters.length) = some 2 := by decide +kernel
abbrev G11_greatestDivisor_dep : Nat := 1
theorem hnX7_add : (parseMethodDescriptor yX7_add.desc).map (fun d => d.parameters.length) = some 1 := by decide +kernel
abbrev G7_add_dep : Nat := 1
theorem hnX7_addFraction : (parseMethodDescriptor yX7_addFraction.desc).map (fun d => d.parameters.length) = some 2 := by decide +kernel
abbrev G7_addFraction_dep : Nat := 2
theorem hnX7_clear : (parseMethodDescriptor yX7_clear.desc).map (fun d => d.parameters.length) = some 0 := by decide +kernel
abbrev G7_clear_dep : Nat := 1
theorem hnX9_clear : (parseMethodDescriptor yX9_clear.desc).map (fun d => d.parameters.length) = some 0 := by decide +kernel
abbrev G9_clear_dep : Nat := 1
theorem hnX9_note : (parseMethodDescriptor yX9_note.desc).map (fun d => d.parameters.length) = some 2 := by decide +kernel
abbrev G9_note_dep : Nat := 1
theorem hnX10_passes : (parseMethodDescriptor yX10_passes.desc).map (fun d => d.parameters.length) = some 2 := by decide +kernel
abbrev G10_passes_dep : Nat := 4
theorem hnX10_peopleOf : (parseMethodDescriptor yX10_peopleOf.desc).map (fun d => d.parameters.length) = some 1 := by decide +kernel
abbrev G10_peopleOf_dep : Nat := 1
theorem hnX8_gather : (parseMethodDescriptor yX8_gather.desc).map (fun d => d.parameters.length) = some 3 := by decide +kernel
abbrev G8_gather_dep : Nat := 5
theorem hnX9_all : (parseMethodDescriptor yX9_all.desc).map (fun d => d.parameters.length) = some 0 := by decide +kernel
abbrev G9_all_dep : Nat := 1
theorem hnX10_isFilter : (parseMethodDescriptor yX10_isFilter.desc).map (fun d => d.parameters.length) = some 1 := by decide +kernel
abbrev G10_isFilter_dep : Nat := 2
theorem hnX8_tellShare : (parseMethodDescriptor yX8_tellShare.desc).map (fun d => d.parameters.length) = some 1 := by decide +kernel
abbrev G8_tellShare_dep : Nat := 6
theorem hnX11_share : (parseMethodDescriptor yX11_share.desc).map (fun d => d.parameters.length) = some 1 := by decide +kernel
abbrev G11_share_dep : Nat := 7
theorem hnX9_asideLower : (parseMethodDescriptor yX9_asideLower.desc).map (fun d => d.parameters.length) = some 0 := by decide +kernel
abbrev G9_asideLower_dep : Nat := 1
theorem hnX9_asideUpper : (parseMethodDescriptor yX9_asideUpper.desc).map (fun d => d.parameters.length) = some 0 := by decide +kernel
abbrev G9_asideUpper_dep : Nat := 1
theorem hnX9_hasBoth : (parseMethodDescriptor yX9_hasBoth.desc).map (fun d => d.parameters.length) = some 0 := by decide +kernel
abbrev G9_hasBoth_dep : Nat := 1
theorem hnX8_tellAside : (parseMethodDescriptor yX8_tellAside.desc).map (fun d => d.parameters.length) = some 1 := by decide +kernel
abbrev G8_tellAside_dep : Nat := 6
theorem hnX11_aside : (parseMethodDescriptor yX11_aside.desc).map (fun d => d.parameters.length) = some 1 := by decide +kernel
abbrev G11_aside_dep : Nat := 7
theorem hnX11_choices : (parseMethodDescriptor yX11_choices.desc).map (fun d => d.parameters.length) = some 2 := by decide +kernel
abbrev G11_choices_dep : Nat := 1
theorem hnX8_joinWaysOfPart : (parseMethodDescriptor yX8_joinWaysOfPart.desc).map (fun d => d.parameters.length) = some 0 := by decide +kernel
abbrev G8_joinWaysOfPart_dep : Nat := 2
theorem hnX8_countWays : (parseMethodDescriptor yX8_countWays.desc).map (fun d => d.parameters.length) = some 1 := by decide +kernel
abbrev G8_countWays_dep : Nat := 6
theorem hnX8_tellOdds : (parseMethodDescriptor yX8_tellOdds.desc).map (fun d => d.parameters.length) = some 2 := by decide +kernel
abbrev G8_tellOdds_dep : Nat := 7
theorem hnX11_odds : (parseMethodDescriptor yX11_odds.desc).map (fun d => d.parameters.length) = some 2 := by decide +kernel
abbrev G11_odds_dep : Nat := 8
theorem hnX9_becomeWithout : (parseMethodDescriptor yX9_becomeWithout.desc).map (fun d => d.parameters.length) = some 2 := by decide +kernel
abbrev G9_becomeWithout_dep : Nat := 1
theorem hnX8_tellHeaviest : (parseMethodDescriptor yX8_tellHeaviest.desc).map (fun d => d.parameters.length) = some 0 := by decide +kernel
abbrev G8_tellHeaviest_dep : Nat := 6
theorem hnX11_weighs : (parseMethodDescriptor yX11_weighs.desc).map (fun d => d.parameters.length) = some 0 := by decide +kernel
abbrev G11_weighs_dep : Nat := 7
theorem hnX8_gatherNames : (parseMethodDescriptor yX8_gatherNames.desc).map (fun d => d.parameters.length) = some 0 := by decide +kernel
abbrev G8_gatherNames_dep : Nat := 1
theorem hnX8_tellName : (parseMethodDescriptor yX8_tellName.desc).map (fun d => d.parameters.length) = some 1 := by decide +kernel
abbrev G8_tellName_dep : Nat := 3
theorem hnX11_names : (parseMethodDescriptor yX11_names.desc).map (fun d => d.parameters.length) = some 1 := by decide +kernel
abbrev G11_names_dep : Nat := 4
theorem hnX11_leastMultiple : (parseMethodDescriptor yX11_leastMultiple.desc).map (fun d => d.parameters.length) = some 2 := by decide +kernel
abbrev G11_leastMultiple_dep : Nat := 2
theorem hnX8_scaleShares : (parseMethodDescriptor yX8_scaleShares.desc).map (fun d => d.parameters.length) = some 1 := by decide +kernel
abbrev G8_scaleShares_dep : Nat := 3
theorem hnX8_sumOfShares : (parseMethodDescriptor yX8_sumOfShares.desc).map (fun d => d.parameters.length) = some 2 := by decide +kernel
abbrev G8_sumOfShares_dep : Nat := 1
theorem hnJ6_bitCount_0f7a4 : (parseMethodDescriptor yJ6_bitCount_0f7a4.desc).map (fun d => d.parameters.length) = some 1 := by decide +kernel
abbrev GJ6_bitCount_0f7a4_dep : Nat := 1
theorem hnX8_tellDrawn : (parseMethodDescriptor yX8_tellDrawn.desc).map (fun d => d.parameters.length) = some 0 := by decide +kernel
abbrev G8_tellDrawn_dep : Nat := 4
theorem hnX11_drawn : (parseMethodDescriptor yX11_drawn.desc).map (fun d => d.parameters.length) = some 0 := by decide +kernel
abbrev G11_drawn_dep : Nat := 5
theorem hnJ6_compare_7cf53 : (parseMethodDescriptor yJ6_compare_7cf53.desc).map (fun d => d.parameters.length) = some 2 := by decide +kernel
abbrev GJ6_compare_7cf53_dep : Nat := 1
theorem hnX8_compareBy : (parseMethodDescriptor yX8_compareBy.desc).map (fun d => d.parameters.length) = some 3 := by decide +kernel
abbrev G8_compareBy_dep : Nat := 2
theorem hnX8_compareShares : (parseMethodDescriptor yX8_compareShares.desc).map (fun d => d.parameters.length) = some 2 := by decide +kernel
abbrev G8_compareShares_dep : Nat := 2
theorem hnX8_pairsGoing : (parseMethodDescriptor yX8_pairsGoing.desc).map (fun d => d.parameters.length) = some 3 := by decide +kernel
abbrev G8_pairsGoing_dep : Nat := 3
theorem hnX8_tellGoing : (parseMethodDescriptor yX8_tellGoing.desc).map (fun d => d.parameters.length) = some 1 := by decide +kernel
abbrev G8_tellGoing_dep : Nat := 4
theorem hnX11_goes : (parseMethodDescriptor yX11_goes.desc).map (fun d => d.parameters.length) = some 1 := by decide +kernel
abbrev G11_goes_dep : Nat := 5
theorem hnX8_tellSaid : (parseMethodDescriptor yX8_tellSaid.desc).map (fun d => d.parameters.length) = some 0 := by decide +kernel
abbrev G8_tellSaid_dep : Nat := 4
theorem hnX11_says : (parseMethodDescriptor yX11_says.desc).map (fun d => d.parameters.length) = some 0 := by decide +kernel
abbrev G11_says_dep : Nat := 5
theorem hnX8_isChildPair : (parseMethodDescriptor yX8_isChildPair.desc).map (fun d => d.parameters.length) = some 3 := by decide +kernel
abbrev G8_isChildPair_dep : Nat := 1
theorem hnX8_tellChild : (parseMethodDescriptor yX8_tellChild.desc).map (fun d => d.parameters.length) = some 1 := by decide +kernel
abbrev G8_tellChild_dep : Nat := 3
theorem hnX11_child : (parseMethodDescriptor yX11_child.desc).map (fun d => d.parameters.length) = some 1 := by decide +kernel
abbrev G11_child_dep : Nat := 4
theorem hnX4_rungIn : (parseMethodDescriptor yX4_rungIn.desc).map (fun d => d.parameters.length) = some 2 := by decide +kernel
abbrev G4_rungIn_dep : Nat := 2
theorem hnX10_hasRead : (parseMethodDescriptor yX10_hasRead.desc).map (fun d => d.parameters.length) = some 1 := by decide +kernel
abbrev G10_hasRead_dep : Nat := 1
theorem hnX4_housesWith : (parseMethodDescriptor yX4_housesWith.desc).map (fun d => d.parameters.length) = some 2 := by decide +kernel
abbrev G4_housesWith_dep : Nat := 3
theorem hnX11_table : (parseMethodDescriptor yX11_table.desc).map (fun d => d.parameters.length) = some 2 := by decide +kernel
abbrev G11_table_dep : Nat := 4
theorem hnX4_become : (parseMethodDescriptor yX4_become.desc).map (fun d => d.parameters.length) = some 3 := by decide +kernel
abbrev G4_become_dep : Nat := 2
theorem hnX11_kind : (parseMethodDescriptor yX11_kind.desc).map (fun d => d.parameters.length) = some 3 := by decide +kernel
abbrev G11_kind_dep : Nat := 3
theorem hnX4_becomePart : (parseMethodDescriptor yX4_becomePart.desc).map (fun d => d.parameters.length) = some 2 := by decide +kernel
abbrev G4_becomePart_dep : Nat := 2
theorem hnX11_parts : (parseMethodDescriptor yX11_parts.desc).map (fun d => d.parameters.length) = some 2 := by decide +kernel
abbrev G11_parts_dep : Nat := 3
theorem hnX4_likelihood : (parseMethodDescriptor yX4_likelihood.desc).map (fun d => d.parameters.length) = some 2 := by decide +kernel
abbrev G4_likelihood_dep : Nat := 2
theorem hnX4_sumOfLikely : (parseMethodDescriptor yX4_sumOfLikely.desc).map (fun d => d.parameters.length) = some 2 := by decide +kernel
abbrev G4_sumOfLikely_dep : Nat := 3
theorem hnX4_howLikely : (parseMethodDescriptor yX4_howLikely.desc).map (fun d => d.parameters.length) = some 2 := by decide +kernel
abbrev G4_howLikely_dep : Nat := 4
theorem hnX11_likely : (parseMethodDescriptor yX11_likely.desc).map (fun d => d.parameters.length) = some 2 := by decide +kernel
abbrev G11_likely_dep : Nat := 5
theorem hnX0_stretch : (parseMethodDescriptor yX0_stretch.desc).map (fun d => d.parameters.length) = some 1 := by decide +kernel
abbrev G0_stretch_dep : Nat := 1
theorem hnX0_carry : (parseMethodDescriptor yX0_carry.desc).map (fun d => d.parameters.length) = some 0 := by decide +kernel
abbrev G0_carry_dep : Nat := 2
theorem hnX0_become : (parseMethodDescriptor yX0_become.desc).map (fun d => d.parameters.length) = some 1 := by decide +kernel
abbrev G0_become_dep : Nat := 3
theorem hnX0_isMoreThan : (parseMethodDescriptor yX0_isMoreThan.desc).map (fun d => d.parameters.length) = some 1 := by decide +kernel
abbrev G0_isMoreThan_dep : Nat := 1
theorem hnX0_times : (parseMethodDescriptor yX0_times.desc).map (fun d => d.parameters.length) = some 1 := by decide +kernel
abbrev G0_times_dep : Nat := 3
theorem hnX4_tenths : (parseMethodDescriptor yX4_tenths.desc).map (fun d => d.parameters.length) = some 2 := by decide +kernel
abbrev G4_tenths_dep : Nat := 1
theorem hnX4_isLikelier : (parseMethodDescriptor yX4_isLikelier.desc).map (fun d => d.parameters.length) = some 2 := by decide +kernel
abbrev G4_isLikelier_dep : Nat := 4
theorem hnX4_tellFit : (parseMethodDescriptor yX4_tellFit.desc).map (fun d => d.parameters.length) = some 0 := by decide +kernel
abbrev G4_tellFit_dep : Nat := 5
theorem hnX11_fit : (parseMethodDescriptor yX11_fit.desc).map (fun d => d.parameters.length) = some 0 := by decide +kernel
abbrev G11_fit_dep : Nat := 6
theorem hnX4_fillSums : (parseMethodDescriptor yX4_fillSums.desc).map (fun d => d.parameters.length) = some 1 := by decide +kernel
abbrev G4_fillSums_dep : Nat := 4
theorem hnX4_isNamed : (parseMethodDescriptor yX4_isNamed.desc).map (fun d => d.parameters.length) = some 2 := by decide +kernel
abbrev G4_isNamed_dep : Nat := 1
theorem hnX4_wronglyNamed : (parseMethodDescriptor yX4_wronglyNamed.desc).map (fun d => d.parameters.length) = some 1 := by decide +kernel
abbrev G4_wronglyNamed_dep : Nat := 2
theorem hnX4_tellNamed : (parseMethodDescriptor yX4_tellNamed.desc).map (fun d => d.parameters.length) = some 2 := by decide +kernel
abbrev G4_tellNamed_dep : Nat := 5
theorem hnX11_named : (parseMethodDescriptor yX11_named.desc).map (fun d => d.parameters.length) = some 2 := by decide +kernel
abbrev G11_named_dep : Nat := 6
theorem hnX4_leastLine : (parseMethodDescriptor yX4_leastLine.desc).map (fun d => d.parameters.length) = some 2 := by decide +kernel
abbrev G4_leastLine_dep : Nat := 5
theorem hnX11_sure : (parseMethodDescriptor yX11_sure.desc).map (fun d => d.parameters.length) = some 2 := by decide +kernel
abbrev G11_sure_dep : Nat := 6
theorem hnX4_fewerIn : (parseMethodDescriptor yX4_fewerIn.desc).map (fun d => d.parameters.length) = some 1 := by decide +kernel
abbrev G4_fewerIn_dep : Nat := 3
theorem hnX4_tellMost : (parseMethodDescriptor yX4_tellMost.desc).map (fun d => d.parameters.length) = some 0 := by decide +kernel
abbrev G4_tellMost_dep : Nat := 4
theorem hnX11_most : (parseMethodDescriptor yX11_most.desc).map (fun d => d.parameters.length) = some 0 := by decide +kernel
abbrev G11_most_dep : Nat := 5
theorem hnX2_gatherWorth : (parseMethodDescriptor yX2_gatherWorth.desc).map (fun d => d.parameters.length) = some 3 := by decide +kernel
abbrev G2_gatherWorth_dep : Nat := 2
theorem hnX2_tellBoth : (parseMethodDescriptor yX2_tellBoth.desc).map (fun d => d.parameters.length) = some 1 := by decide +kernel
abbrev G2_tellBoth_dep : Nat := 3
theorem hnX11_both : (parseMethodDescriptor yX11_both.desc).map (fun d => d.parameters.length) = some 1 := by decide +kernel
abbrev G11_both_dep : Nat := 4
theorem hnX2_valueOf : (parseMethodDescriptor yX2_valueOf.desc).map (fun d => d.parameters.length) = some 2 := by decide +kernel
abbrev G2_valueOf_dep : Nat := 1
theorem hnX2_gatherBy : (parseMethodDescriptor yX2_gatherBy.desc).map (fun d => d.parameters.length) = some 1 := by decide +kernel
abbrev G2_gatherBy_dep : Nat := 2
theorem hnX9_asideTimes : (parseMethodDescriptor yX9_asideTimes.desc).map (fun d => d.parameters.length) = some 1 := by decide +kernel
abbrev G9_asideTimes_dep : Nat := 2
theorem hnX2_tellExplained : (parseMethodDescriptor yX2_tellExplained.desc).map (fun d => d.parameters.length) = some 1 := by decide +kernel
abbrev G2_tellExplained_dep : Nat := 3
theorem hnX11_explains : (parseMethodDescriptor yX11_explains.desc).map (fun d => d.parameters.length) = some 1 := by decide +kernel
abbrev G11_explains_dep : Nat := 4
theorem hnX2_tellJoined : (parseMethodDescriptor yX2_tellJoined.desc).map (fun d => d.parameters.length) = some 1 := by decide +kernel
abbrev G2_tellJoined_dep : Nat := 3
theorem hnX11_join : (parseMethodDescriptor yX11_join.desc).map (fun d => d.parameters.length) = some 1 := by decide +kernel
abbrev G11_join_dep : Nat := 4
theorem hnX2_tellBounds : (parseMethodDescriptor yX2_tellBounds.desc).map (fun d => d.parameters.length) = some 1 := by decide +kernel
abbrev G2_tellBounds_dep : Nat := 3
theorem hnX11_bounds : (parseMethodDescriptor yX11_bounds.desc).map (fun d => d.parameters.length) = some 1 := by decide +kernel
abbrev G11_bounds_dep : Nat := 4
theorem hnX2_tellYears : (parseMethodDescriptor yX2_tellYears.desc).map (fun d => d.parameters.length) = some 1 := by decide +kernel
abbrev G2_tellYears_dep : Nat := 3
theorem hnX11_years : (parseMethodDescriptor yX11_years.desc).map (fun d => d.parameters.length) = some 1 := by decide +kernel
abbrev G11_years_dep : Nat := 4
theorem hnX2_tellMornings : (parseMethodDescriptor yX2_tellMornings.desc).map (fun d => d.parameters.length) = some 3 := by decide +kernel
abbrev G2_tellMornings_dep : Nat := 2
theorem hnX11_mornings : (parseMethodDescriptor yX11_mornings.desc).map (fun d => d.parameters.length) = some 3 := by decide +kernel
abbrev G11_mornings_dep : Nat := 3
theorem hnX6_noteAsking : (parseMethodDescriptor yX6_noteAsking.desc).map (fun d => d.parameters.length) = some 3 := by decide +kernel
abbrev G6_noteAsking_dep : Nat := 2
theorem hnX11_asked : (parseMethodDescriptor yX11_asked.desc).map (fun d => d.parameters.length) = some 3 := by decide +kernel
abbrev G11_asked_dep : Nat := 3
theorem hnX6_goesAgainst : (parseMethodDescriptor yX6_goesAgainst.desc).map (fun d => d.parameters.length) = some 4 := by decide +kernel
abbrev G6_goesAgainst_dep : Nat := 2
theorem hnX6_weigh : (parseMethodDescriptor yX6_weigh.desc).map (fun d => d.parameters.length) = some 0 := by decide +kernel
abbrev G6_weigh_dep : Nat := 4
theorem hnX6_weighedWithin : (parseMethodDescriptor yX6_weighedWithin.desc).map (fun d => d.parameters.length) = some 1 := by decide +kernel
abbrev G6_weighedWithin_dep : Nat := 3
theorem hnX6_tellPairs : (parseMethodDescriptor yX6_tellPairs.desc).map (fun d => d.parameters.length) = some 0 := by decide +kernel
abbrev G6_tellPairs_dep : Nat := 5
theorem hnX11_pairs : (parseMethodDescriptor yX11_pairs.desc).map (fun d => d.parameters.length) = some 0 := by decide +kernel
abbrev G11_pairs_dep : Nat := 6
theorem hnX6_mostLeft : (parseMethodDescriptor yX6_mostLeft.desc).map (fun d => d.parameters.length) = some 3 := by decide +kernel
abbrev G6_mostLeft_dep : Nat := 2
theorem hnX6_tellNext : (parseMethodDescriptor yX6_tellNext.desc).map (fun d => d.parameters.length) = some 0 := by decide +kernel
abbrev G6_tellNext_dep : Nat := 5
theorem hnX11_ask : (parseMethodDescriptor yX11_ask.desc).map (fun d => d.parameters.length) = some 0 := by decide +kernel
abbrev G11_ask_dep : Nat := 6
theorem hnX6_lawsWithin : (parseMethodDescriptor yX6_lawsWithin.desc).map (fun d => d.parameters.length) = some 1 := by decide +kernel
abbrev G6_lawsWithin_dep : Nat := 5
theorem hnX11_nearly : (parseMethodDescriptor yX11_nearly.desc).map (fun d => d.parameters.length) = some 1 := by decide +kernel
abbrev G11_nearly_dep : Nat := 6
theorem hnX0_addProduct : (parseMethodDescriptor yX0_addProduct.desc).map (fun d => d.parameters.length) = some 2 := by decide +kernel
abbrev G0_addProduct_dep : Nat := 3
theorem hnX0_limb : (parseMethodDescriptor yX0_limb.desc).map (fun d => d.parameters.length) = some 1 := by decide +kernel
abbrev G0_limb_dep : Nat := 1
theorem hnX0_cutBy : (parseMethodDescriptor yX0_cutBy.desc).map (fun d => d.parameters.length) = some 1 := by decide +kernel
abbrev G0_cutBy_dep : Nat := 2
theorem hnX1_chance : (parseMethodDescriptor yX1_chance.desc).map (fun d => d.parameters.length) = some 3 := by decide +kernel
abbrev G1_chance_dep : Nat := 4
theorem hnX0_add : (parseMethodDescriptor yX0_add.desc).map (fun d => d.parameters.length) = some 1 := by decide +kernel
abbrev G0_add_dep : Nat := 3
theorem hnX1_fillWays : (parseMethodDescriptor yX1_fillWays.desc).map (fun d => d.parameters.length) = some 4 := by decide +kernel
abbrev G1_fillWays_dep : Nat := 4
theorem hnX1_fill : (parseMethodDescriptor yX1_fill.desc).map (fun d => d.parameters.length) = some 3 := by decide +kernel
abbrev G1_fill_dep : Nat := 5
theorem hnX1_chanceOf : (parseMethodDescriptor yX1_chanceOf.desc).map (fun d => d.parameters.length) = some 4 := by decide +kernel
abbrev G1_chanceOf_dep : Nat := 6
theorem hnX11_shows : (parseMethodDescriptor yX11_shows.desc).map (fun d => d.parameters.length) = some 4 := by decide +kernel
abbrev G11_shows_dep : Nat := 7
theorem hnX1_tellLeast : (parseMethodDescriptor yX1_tellLeast.desc).map (fun d => d.parameters.length) = some 4 := by decide +kernel
abbrev G1_tellLeast_dep : Nat := 6
theorem hnX11_least : (parseMethodDescriptor yX11_least.desc).map (fun d => d.parameters.length) = some 4 := by decide +kernel
abbrev G11_least_dep : Nat := 7
theorem hnX5_state : (parseMethodDescriptor yX5_state.desc).map (fun d => d.parameters.length) = some 0 := by decide +kernel
abbrev G5_state_dep : Nat := 1
theorem hnX10_keepUnder : (parseMethodDescriptor yX10_keepUnder.desc).map (fun d => d.parameters.length) = some 1 := by decide +kernel
abbrev G10_keepUnder_dep : Nat := 2
theorem hnX11_keep : (parseMethodDescriptor yX11_keep.desc).map (fun d => d.parameters.length) = some 1 := by decide +kernel
abbrev G11_keep_dep : Nat := 3
theorem hnX10_bringBack : (parseMethodDescriptor yX10_bringBack.desc).map (fun d => d.parameters.length) = some 1 := by decide +kernel
abbrev G10_bringBack_dep : Nat := 2
theorem hnX11_again : (parseMethodDescriptor yX11_again.desc).map (fun d => d.parameters.length) = some 1 := by decide +kernel
abbrev G11_again_dep : Nat := 3
theorem hnX11_toldBits : (parseMethodDescriptor yX11_toldBits.desc).map (fun d => d.parameters.length) = some 1 := by decide +kernel
abbrev G11_toldBits_dep : Nat := 2
theorem hnX10_readCount : (parseMethodDescriptor yX10_readCount.desc).map (fun d => d.parameters.length) = some 0 := by decide +kernel
abbrev G10_readCount_dep : Nat := 1
theorem hnX10_rungCount : (parseMethodDescriptor yX10_rungCount.desc).map (fun d => d.parameters.length) = some 0 := by decide +kernel
abbrev G10_rungCount_dep : Nat := 1
theorem hnX11_count : (parseMethodDescriptor yX11_count.desc).map (fun d => d.parameters.length) = some 1 := by decide +kernel
abbrev G11_count_dep : Nat := 3
theorem hnX11_row : (parseMethodDescriptor yX11_row.desc).map (fun d => d.parameters.length) = some 1 := by decide +kernel
abbrev G11_row_dep : Nat := 6
theorem hnX12_thrown : (parseMethodDescriptor yX12_thrown.desc).map (fun d => d.parameters.length) = some 0 := by decide +kernel
abbrev G12_thrown_dep : Nat := 1
theorem hnX12_in : (parseMethodDescriptor yX12_in.desc).map (fun d => d.parameters.length) = some 3 := by decide +kernel
abbrev G12_in_dep : Nat := 1
theorem hnX12_has : (parseMethodDescriptor yX12_has.desc).map (fun d => d.parameters.length) = some 2 := by decide +kernel
abbrev G12_has_dep : Nat := 1
theorem hnX12_flag : (parseMethodDescriptor yX12_flag.desc).map (fun d => d.parameters.length) = some 1 := by decide +kernel
abbrev G12_flag_dep : Nat := 1
theorem hnX12_refuse : (parseMethodDescriptor yX12_refuse.desc).map (fun d => d.parameters.length) = some 0 := by decide +kernel
abbrev G12_refuse_dep : Nat := 1
theorem hnX12_enters : (parseMethodDescriptor yX12_enters.desc).map (fun d => d.parameters.length) = some 1 := by decide +kernel
abbrev G12_enters_dep : Nat := 1
theorem hnX12_common : (parseMethodDescriptor yX12_common.desc).map (fun d => d.parameters.length) = some 2 := by decide +kernel
abbrev G12_common_dep : Nat := 1
theorem hnX12_entersFraction : (parseMethodDescriptor yX12_entersFraction.desc).map (fun d => d.parameters.length) = some 2 := by decide +kernel
abbrev G12_entersFraction_dep : Nat := 2
theorem hnX12_draws : (parseMethodDescriptor yX12_draws.desc).map (fun d => d.parameters.length) = some 1 := by decide +kernel
abbrev G12_draws_dep : Nat := 1
theorem hnX12_isName : (parseMethodDescriptor yX12_isName.desc).map (fun d => d.parameters.length) = some 1 := by decide +kernel
abbrev G12_isName_dep : Nat := 2
theorem hnX12_isHouse : (parseMethodDescriptor yX12_isHouse.desc).map (fun d => d.parameters.length) = some 1 := by decide +kernel
abbrev G12_isHouse_dep : Nat := 2
theorem hnX12_isLetter : (parseMethodDescriptor yX12_isLetter.desc).map (fun d => d.parameters.length) = some 1 := by decide +kernel
abbrev G12_isLetter_dep : Nat := 2
theorem hnX12_name : (parseMethodDescriptor yX12_name.desc).map (fun d => d.parameters.length) = some 3 := by decide +kernel
abbrev G12_name_dep : Nat := 2
theorem hnX12_house : (parseMethodDescriptor yX12_house.desc).map (fun d => d.parameters.length) = some 3 := by decide +kernel
abbrev G12_house_dep : Nat := 2
theorem hnX12_lettersTo : (parseMethodDescriptor yX12_lettersTo.desc).map (fun d => d.parameters.length) = some 1 := by decide +kernel
abbrev G12_lettersTo_dep : Nat := 2
theorem hnX12_lays : (parseMethodDescriptor yX12_lays.desc).map (fun d => d.parameters.length) = some 6 := by decide +kernel
abbrev G12_lays_dep : Nat := 1
theorem hnX12_letter : (parseMethodDescriptor yX12_letter.desc).map (fun d => d.parameters.length) = some 5 := by decide +kernel
abbrev G12_letter_dep : Nat := 3
theorem hnX12_namesOf : (parseMethodDescriptor yX12_namesOf.desc).map (fun d => d.parameters.length) = some 1 := by decide +kernel
abbrev G12_namesOf_dep : Nat := 2
theorem hnX12_freeName : (parseMethodDescriptor yX12_freeName.desc).map (fun d => d.parameters.length) = some 3 := by decide +kernel
abbrev G12_freeName_dep : Nat := 2
theorem hnX12_deal : (parseMethodDescriptor yX12_deal.desc).map (fun d => d.parameters.length) = some 3 := by decide +kernel
abbrev G12_deal_dep : Nat := 3
theorem hnX12_of : (parseMethodDescriptor yX12_of.desc).map (fun d => d.parameters.length) = some 2 := by decide +kernel
abbrev G12_of_dep : Nat := 3
theorem hnX12_sign : (parseMethodDescriptor yX12_sign.desc).map (fun d => d.parameters.length) = some 1 := by decide +kernel
abbrev G12_sign_dep : Nat := 1
theorem hnX12_end : (parseMethodDescriptor yX12_end.desc).map (fun d => d.parameters.length) = some 1 := by decide +kernel
abbrev G12_end_dep : Nat := 2
theorem hnX12_isDigit : (parseMethodDescriptor yX12_isDigit.desc).map (fun d => d.parameters.length) = some 0 := by decide +kernel
abbrev G12_isDigit_dep : Nat := 2
theorem hnJ1_charAt_3b067 : (parseMethodDescriptor yJ1_charAt_3b067.desc).map (fun d => d.parameters.length) = some 2 := by decide +kernel
abbrev GJ1_charAt_3b067_dep : Nat := 3
theorem hnJ0_charAt_5068e : (parseMethodDescriptor yJ0_charAt_5068e.desc).map (fun d => d.parameters.length) = some 1 := by decide +kernel
abbrev GJ0_charAt_5068e_dep : Nat := 4
theorem hnX12_among : (parseMethodDescriptor yX12_among.desc).map (fun d => d.parameters.length) = some 1 := by decide +kernel
abbrev G12_among_dep : Nat := 5
theorem hnX12_marks : (parseMethodDescriptor yX12_marks.desc).map (fun d => d.parameters.length) = some 1 := by decide +kernel
abbrev G12_marks_dep : Nat := 1
theorem hnX12_thing : (parseMethodDescriptor yX12_thing.desc).map (fun d => d.parameters.length) = some 0 := by decide +kernel
abbrev G12_thing_dep : Nat := 6
theorem hnX12_ahead : (parseMethodDescriptor yX12_ahead.desc).map (fun d => d.parameters.length) = some 0 := by decide +kernel
abbrev G12_ahead_dep : Nat := 6
theorem hnX12_ranked : (parseMethodDescriptor yX12_ranked.desc).map (fun d => d.parameters.length) = some 1 := by decide +kernel
abbrev G12_ranked_dep : Nat := 6
theorem hnX12_reads : (parseMethodDescriptor yX12_reads.desc).map (fun d => d.parameters.length) = some 2 := by decide +kernel
abbrev G12_reads_dep : Nat := 127
theorem hnX12_law : (parseMethodDescriptor yX12_law.desc).map (fun d => d.parameters.length) = some 1 := by decide +kernel
abbrev G12_law_dep : Nat := 128
theorem hnX12_filter : (parseMethodDescriptor yX12_filter.desc).map (fun d => d.parameters.length) = some 1 := by decide +kernel
abbrev G12_filter_dep : Nat := 128
theorem hnX12_countsTill : (parseMethodDescriptor yX12_countsTill.desc).map (fun d => d.parameters.length) = some 1 := by decide +kernel
abbrev G12_countsTill_dep : Nat := 2
theorem hnX12_countsNone : (parseMethodDescriptor yX12_countsNone.desc).map (fun d => d.parameters.length) = some 0 := by decide +kernel
abbrev G12_countsNone_dep : Nat := 1
theorem hnX12_valueOf : (parseMethodDescriptor yX12_valueOf.desc).map (fun d => d.parameters.length) = some 2 := by decide +kernel
abbrev G12_valueOf_dep : Nat := 2
theorem hnX12_acted : (parseMethodDescriptor yX12_acted.desc).map (fun d => d.parameters.length) = some 3 := by decide +kernel
abbrev G12_acted_dep : Nat := 2
theorem hnX12_worked : (parseMethodDescriptor yX12_worked.desc).map (fun d => d.parameters.length) = some 2 := by decide +kernel
abbrev G12_worked_dep : Nat := 3
theorem hnX12_isTold : (parseMethodDescriptor yX12_isTold.desc).map (fun d => d.parameters.length) = some 1 := by decide +kernel
abbrev G12_isTold_dep : Nat := 2
theorem hnX12_value : (parseMethodDescriptor yX12_value.desc).map (fun d => d.parameters.length) = some 2 := by decide +kernel
abbrev G12_value_dep : Nat := 4
theorem hnX12_read : (parseMethodDescriptor yX12_read.desc).map (fun d => d.parameters.length) = some 1 := by decide +kernel
abbrev G12_read_dep : Nat := 4
theorem hnX12_ring : (parseMethodDescriptor yX12_ring.desc).map (fun d => d.parameters.length) = some 2 := by decide +kernel
abbrev G12_ring_dep : Nat := 3
theorem hnX12_box : (parseMethodDescriptor yX12_box.desc).map (fun d => d.parameters.length) = some 4 := by decide +kernel
abbrev G12_box_dep : Nat := 2
theorem hnX12_after : (parseMethodDescriptor yX12_after.desc).map (fun d => d.parameters.length) = some 2 := by decide +kernel
abbrev G12_after_dep : Nat := 3
theorem hnX12_seed : (parseMethodDescriptor yX12_seed.desc).map (fun d => d.parameters.length) = some 1 := by decide +kernel
abbrev G12_seed_dep : Nat := 1
theorem hnX12_isFilter : (parseMethodDescriptor yX12_isFilter.desc).map (fun d => d.parameters.length) = some 1 := by decide +kernel
abbrev G12_isFilter_dep : Nat := 2
theorem hnX12_passes : (parseMethodDescriptor yX12_passes.desc).map (fun d => d.parameters.length) = some 2 := by decide +kernel
abbrev G12_passes_dep : Nat := 4
theorem hnX12_peopleOf : (parseMethodDescriptor yX12_peopleOf.desc).map (fun d => d.parameters.length) = some 1 := by decide +kernel
abbrev G12_peopleOf_dep : Nat := 1
theorem hnX12_counts : (parseMethodDescriptor yX12_counts.desc).map (fun d => d.parameters.length) = some 2 := by decide +kernel
abbrev G12_counts_dep : Nat := 5
theorem hnX12_share : (parseMethodDescriptor yX12_share.desc).map (fun d => d.parameters.length) = some 1 := by decide +kernel
abbrev G12_share_dep : Nat := 6
theorem hnX12_areBoth : (parseMethodDescriptor yX12_areBoth.desc).map (fun d => d.parameters.length) = some 0 := by decide +kernel
abbrev G12_areBoth_dep : Nat := 1
theorem hnX12_aside : (parseMethodDescriptor yX12_aside.desc).map (fun d => d.parameters.length) = some 1 := by decide +kernel
abbrev G12_aside_dep : Nat := 6
theorem hnX12_choices : (parseMethodDescriptor yX12_choices.desc).map (fun d => d.parameters.length) = some 2 := by decide +kernel
abbrev G12_choices_dep : Nat := 1
theorem hnX12_odds : (parseMethodDescriptor yX12_odds.desc).map (fun d => d.parameters.length) = some 2 := by decide +kernel
abbrev G12_odds_dep : Nat := 5
theorem hnX12_readMany : (parseMethodDescriptor yX12_readMany.desc).map (fun d => d.parameters.length) = some 0 := by decide +kernel
abbrev G12_readMany_dep : Nat := 2
theorem hnX12_weighs : (parseMethodDescriptor yX12_weighs.desc).map (fun d => d.parameters.length) = some 0 := by decide +kernel
abbrev G12_weighs_dep : Nat := 6
theorem hnX12_countsNames : (parseMethodDescriptor yX12_countsNames.desc).map (fun d => d.parameters.length) = some 0 := by decide +kernel
abbrev G12_countsNames_dep : Nat := 2
theorem hnX12_names : (parseMethodDescriptor yX12_names.desc).map (fun d => d.parameters.length) = some 1 := by decide +kernel
abbrev G12_names_dep : Nat := 3
theorem hnX12_drawn : (parseMethodDescriptor yX12_drawn.desc).map (fun d => d.parameters.length) = some 0 := by decide +kernel
abbrev G12_drawn_dep : Nat := 3
theorem hnX12_saysOf : (parseMethodDescriptor yX12_saysOf.desc).map (fun d => d.parameters.length) = some 2 := by decide +kernel
abbrev G12_saysOf_dep : Nat := 1
theorem hnX12_compares : (parseMethodDescriptor yX12_compares.desc).map (fun d => d.parameters.length) = some 2 := by decide +kernel
abbrev G12_compares_dep : Nat := 2
theorem hnJ6_signum_0f7a4 : (parseMethodDescriptor yJ6_signum_0f7a4.desc).map (fun d => d.parameters.length) = some 1 := by decide +kernel
abbrev GJ6_signum_0f7a4_dep : Nat := 1
theorem hnX12_pairsOf : (parseMethodDescriptor yX12_pairsOf.desc).map (fun d => d.parameters.length) = some 1 := by decide +kernel
abbrev G12_pairsOf_dep : Nat := 3
theorem hnX12_goes : (parseMethodDescriptor yX12_goes.desc).map (fun d => d.parameters.length) = some 1 := by decide +kernel
abbrev G12_goes_dep : Nat := 4
theorem hnX12_says : (parseMethodDescriptor yX12_says.desc).map (fun d => d.parameters.length) = some 0 := by decide +kernel
abbrev G12_says_dep : Nat := 4
theorem hnX12_child : (parseMethodDescriptor yX12_child.desc).map (fun d => d.parameters.length) = some 1 := by decide +kernel
abbrev G12_child_dep : Nat := 3
theorem hnX12_countsHouse : (parseMethodDescriptor yX12_countsHouse.desc).map (fun d => d.parameters.length) = some 1 := by decide +kernel
abbrev G12_countsHouse_dep : Nat := 2
theorem hnX12_table : (parseMethodDescriptor yX12_table.desc).map (fun d => d.parameters.length) = some 2 := by decide +kernel
abbrev G12_table_dep : Nat := 3
theorem hnX12_isKind : (parseMethodDescriptor yX12_isKind.desc).map (fun d => d.parameters.length) = some 1 := by decide +kernel
abbrev G12_isKind_dep : Nat := 2
theorem hnX12_kind : (parseMethodDescriptor yX12_kind.desc).map (fun d => d.parameters.length) = some 3 := by decide +kernel
abbrev G12_kind_dep : Nat := 3
theorem hnX12_parts : (parseMethodDescriptor yX12_parts.desc).map (fun d => d.parameters.length) = some 2 := by decide +kernel
abbrev G12_parts_dep : Nat := 3
theorem hnX12_power : (parseMethodDescriptor yX12_power.desc).map (fun d => d.parameters.length) = some 2 := by decide +kernel
abbrev G12_power_dep : Nat := 1
theorem hnX12_wouldBe : (parseMethodDescriptor yX12_wouldBe.desc).map (fun d => d.parameters.length) = some 1 := by decide +kernel
abbrev G12_wouldBe_dep : Nat := 2
theorem hnX12_allKinds : (parseMethodDescriptor yX12_allKinds.desc).map (fun d => d.parameters.length) = some 0 := by decide +kernel
abbrev G12_allKinds_dep : Nat := 3
theorem hnX12_likelyOf : (parseMethodDescriptor yX12_likelyOf.desc).map (fun d => d.parameters.length) = some 1 := by decide +kernel
abbrev G12_likelyOf_dep : Nat := 4
theorem hnX12_likely : (parseMethodDescriptor yX12_likely.desc).map (fun d => d.parameters.length) = some 2 := by decide +kernel
abbrev G12_likely_dep : Nat := 5
theorem hnX12_becomes : (parseMethodDescriptor yX12_becomes.desc).map (fun d => d.parameters.length) = some 2 := by decide +kernel
abbrev G12_becomes_dep : Nat := 1
theorem hnX12_isSmall : (parseMethodDescriptor yX12_isSmall.desc).map (fun d => d.parameters.length) = some 2 := by decide +kernel
abbrev G12_isSmall_dep : Nat := 1
theorem hnX12_times : (parseMethodDescriptor yX12_times.desc).map (fun d => d.parameters.length) = some 2 := by decide +kernel
abbrev G12_times_dep : Nat := 1
theorem hnX12_adds : (parseMethodDescriptor yX12_adds.desc).map (fun d => d.parameters.length) = some 2 := by decide +kernel
abbrev G12_adds_dep : Nat := 1
theorem hnX12_comparesGreat : (parseMethodDescriptor yX12_comparesGreat.desc).map (fun d => d.parameters.length) = some 2 := by decide +kernel
abbrev G12_comparesGreat_dep : Nat := 1
theorem hnX12_fit : (parseMethodDescriptor yX12_fit.desc).map (fun d => d.parameters.length) = some 0 := by decide +kernel
abbrev G12_fit_dep : Nat := 3
theorem hnX12_likelies : (parseMethodDescriptor yX12_likelies.desc).map (fun d => d.parameters.length) = some 1 := by decide +kernel
abbrev G12_likelies_dep : Nat := 5
theorem hnX12_named : (parseMethodDescriptor yX12_named.desc).map (fun d => d.parameters.length) = some 2 := by decide +kernel
abbrev G12_named_dep : Nat := 6
theorem hnX12_sure : (parseMethodDescriptor yX12_sure.desc).map (fun d => d.parameters.length) = some 2 := by decide +kernel
abbrev G12_sure_dep : Nat := 6
theorem hnX12_most : (parseMethodDescriptor yX12_most.desc).map (fun d => d.parameters.length) = some 0 := by decide +kernel
abbrev G12_most_dep : Nat := 3
theorem hnX12_both : (parseMethodDescriptor yX12_both.desc).map (fun d => d.parameters.length) = some 1 := by decide +kernel
abbrev G12_both_dep : Nat := 3
theorem hnX12_byWhat : (parseMethodDescriptor yX12_byWhat.desc).map (fun d => d.parameters.length) = some 2 := by decide +kernel
abbrev G12_byWhat_dep : Nat := 1
theorem hnX12_countsBy : (parseMethodDescriptor yX12_countsBy.desc).map (fun d => d.parameters.length) = some 2 := by decide +kernel
abbrev G12_countsBy_dep : Nat := 2
theorem hnX12_sums : (parseMethodDescriptor yX12_sums.desc).map (fun d => d.parameters.length) = some 2 := by decide +kernel
abbrev G12_sums_dep : Nat := 2
theorem hnX12_explains : (parseMethodDescriptor yX12_explains.desc).map (fun d => d.parameters.length) = some 1 := by decide +kernel
abbrev G12_explains_dep : Nat := 6
theorem hnX12_join : (parseMethodDescriptor yX12_join.desc).map (fun d => d.parameters.length) = some 1 := by decide +kernel
abbrev G12_join_dep : Nat := 3
theorem hnX12_bounds : (parseMethodDescriptor yX12_bounds.desc).map (fun d => d.parameters.length) = some 1 := by decide +kernel
abbrev G12_bounds_dep : Nat := 3
theorem hnX12_countsWorth : (parseMethodDescriptor yX12_countsWorth.desc).map (fun d => d.parameters.length) = some 2 := by decide +kernel
abbrev G12_countsWorth_dep : Nat := 2
theorem hnX12_years : (parseMethodDescriptor yX12_years.desc).map (fun d => d.parameters.length) = some 1 := by decide +kernel
abbrev G12_years_dep : Nat := 3
theorem hnX12_mornings : (parseMethodDescriptor yX12_mornings.desc).map (fun d => d.parameters.length) = some 3 := by decide +kernel
abbrev G12_mornings_dep : Nat := 2
theorem hnX12_asked : (parseMethodDescriptor yX12_asked.desc).map (fun d => d.parameters.length) = some 3 := by decide +kernel
abbrev G12_asked_dep : Nat := 3
theorem hnX12_isAgainst : (parseMethodDescriptor yX12_isAgainst.desc).map (fun d => d.parameters.length) = some 4 := by decide +kernel
abbrev G12_isAgainst_dep : Nat := 4
theorem hnX12_against : (parseMethodDescriptor yX12_against.desc).map (fun d => d.parameters.length) = some 1 := by decide +kernel
abbrev G12_against_dep : Nat := 5
theorem hnX12_couldBe : (parseMethodDescriptor yX12_couldBe.desc).map (fun d => d.parameters.length) = some 1 := by decide +kernel
abbrev G12_couldBe_dep : Nat := 6
theorem hnX12_pairs : (parseMethodDescriptor yX12_pairs.desc).map (fun d => d.parameters.length) = some 0 := by decide +kernel
abbrev G12_pairs_dep : Nat := 7
theorem hnX12_ask : (parseMethodDescriptor yX12_ask.desc).map (fun d => d.parameters.length) = some 0 := by decide +kernel
abbrev G12_ask_dep : Nat := 7
theorem hnX12_nearly : (parseMethodDescriptor yX12_nearly.desc).map (fun d => d.parameters.length) = some 1 := by decide +kernel
abbrev G12_nearly_dep : Nat := 7
theorem hnX12_laysAt : (parseMethodDescriptor yX12_laysAt.desc).map (fun d => d.parameters.length) = some 2 := by decide +kernel
abbrev G12_laysAt_dep : Nat := 1
theorem hnX12_takesFrom : (parseMethodDescriptor yX12_takesFrom.desc).map (fun d => d.parameters.length) = some 2 := by decide +kernel
abbrev G12_takesFrom_dep : Nat := 1
theorem hnX12_powers : (parseMethodDescriptor yX12_powers.desc).map (fun d => d.parameters.length) = some 3 := by decide +kernel
abbrev G12_powers_dep : Nat := 2
theorem hnX12_chances : (parseMethodDescriptor yX12_chances.desc).map (fun d => d.parameters.length) = some 3 := by decide +kernel
abbrev G12_chances_dep : Nat := 3
theorem hnX12_chanceOf : (parseMethodDescriptor yX12_chanceOf.desc).map (fun d => d.parameters.length) = some 2 := by decide +kernel
abbrev G12_chanceOf_dep : Nat := 2
theorem hnX12_isPercent : (parseMethodDescriptor yX12_isPercent.desc).map (fun d => d.parameters.length) = some 1 := by decide +kernel
abbrev G12_isPercent_dep : Nat := 2
theorem hnX12_shows : (parseMethodDescriptor yX12_shows.desc).map (fun d => d.parameters.length) = some 4 := by decide +kernel
abbrev G12_shows_dep : Nat := 4
theorem hnX12_least : (parseMethodDescriptor yX12_least.desc).map (fun d => d.parameters.length) = some 4 := by decide +kernel
abbrev G12_least_dep : Nat := 4
theorem hnX12_keep : (parseMethodDescriptor yX12_keep.desc).map (fun d => d.parameters.length) = some 1 := by decide +kernel
abbrev G12_keep_dep : Nat := 2
theorem hnX12_again : (parseMethodDescriptor yX12_again.desc).map (fun d => d.parameters.length) = some 1 := by decide +kernel
abbrev G12_again_dep : Nat := 2
theorem hnX12_toldBits : (parseMethodDescriptor yX12_toldBits.desc).map (fun d => d.parameters.length) = some 1 := by decide +kernel
abbrev G12_toldBits_dep : Nat := 1
theorem hnX12_rungMany : (parseMethodDescriptor yX12_rungMany.desc).map (fun d => d.parameters.length) = some 0 := by decide +kernel
abbrev G12_rungMany_dep : Nat := 2
theorem hnX12_count : (parseMethodDescriptor yX12_count.desc).map (fun d => d.parameters.length) = some 1 := by decide +kernel
abbrev G12_count_dep : Nat := 3
theorem hnX12_row : (parseMethodDescriptor yX12_row.desc).map (fun d => d.parameters.length) = some 1 := by decide +kernel
abbrev G12_row_dep : Nat := 2
abbrev G12_rankedT_dep : Nat := 126
abbrev G12_aheadT_dep : Nat := 126
abbrev G12_thingT_dep : Nat := 126
