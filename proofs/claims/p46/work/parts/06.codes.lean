def yok (y : Nat) : Bool := ywk (mB y) (mB y).data.toList 0 (mCd y) && (mCd y).all (mown (mCno y))
def yP_ok (y : Nat) : Prop := yok y = true
set_option maxRecDepth 100000 in
theorem yok0 : yok 0 = true := by decide +kernel
set_option maxRecDepth 100000 in
theorem yok1 : yok 1 = true := by decide +kernel
set_option maxRecDepth 100000 in
theorem yok2 : yok 2 = true := by decide +kernel
set_option maxRecDepth 100000 in
theorem yok3 : yok 3 = true := by decide +kernel
set_option maxRecDepth 100000 in
theorem yok4 : yok 4 = true := by decide +kernel
set_option maxRecDepth 100000 in
theorem yok5 : yok 5 = true := by decide +kernel
set_option maxRecDepth 100000 in
theorem yok6 : yok 6 = true := by decide +kernel
set_option maxRecDepth 100000 in
theorem yok7 : yok 7 = true := by decide +kernel
set_option maxRecDepth 100000 in
theorem yok8 : yok 8 = true := by decide +kernel
set_option maxRecDepth 100000 in
theorem yok9 : yok 9 = true := by decide +kernel
set_option maxRecDepth 100000 in
theorem yok10 : yok 10 = true := by decide +kernel
set_option maxRecDepth 100000 in
theorem yok11 : yok 11 = true := by decide +kernel
set_option maxRecDepth 100000 in
theorem yok12 : yok 12 = true := by decide +kernel
set_option maxRecDepth 100000 in
theorem yok13 : yok 13 = true := by decide +kernel
set_option maxRecDepth 100000 in
theorem yok14 : yok 14 = true := by decide +kernel
set_option maxRecDepth 100000 in
theorem yok15 : yok 15 = true := by decide +kernel
set_option maxRecDepth 100000 in
theorem yok16 : yok 16 = true := by decide +kernel
set_option maxRecDepth 100000 in
theorem yok17 : yok 17 = true := by decide +kernel
set_option maxRecDepth 100000 in
theorem yok18 : yok 18 = true := by decide +kernel
set_option maxRecDepth 100000 in
theorem yok19 : yok 19 = true := by decide +kernel
set_option maxRecDepth 100000 in
theorem yok20 : yok 20 = true := by decide +kernel
set_option maxRecDepth 100000 in
theorem yok21 : yok 21 = true := by decide +kernel
set_option maxRecDepth 100000 in
theorem yok22 : yok 22 = true := by decide +kernel
set_option maxRecDepth 100000 in
theorem yok23 : yok 23 = true := by decide +kernel
set_option maxRecDepth 100000 in
theorem yok24 : yok 24 = true := by decide +kernel
set_option maxRecDepth 100000 in
theorem yok25 : yok 25 = true := by decide +kernel
set_option maxRecDepth 100000 in
theorem yok26 : yok 26 = true := by decide +kernel
set_option maxRecDepth 100000 in
theorem yok27 : yok 27 = true := by decide +kernel
set_option maxRecDepth 100000 in
theorem yok28 : yok 28 = true := by decide +kernel
set_option maxRecDepth 100000 in
theorem yok29 : yok 29 = true := by decide +kernel
set_option maxRecDepth 100000 in
theorem yok30 : yok 30 = true := by decide +kernel
set_option maxRecDepth 100000 in
theorem yok31 : yok 31 = true := by decide +kernel
set_option maxRecDepth 100000 in
theorem yok32 : yok 32 = true := by decide +kernel
set_option maxRecDepth 100000 in
theorem yok33 : yok 33 = true := by decide +kernel
set_option maxRecDepth 100000 in
theorem yok34 : yok 34 = true := by decide +kernel
set_option maxRecDepth 100000 in
theorem yok35 : yok 35 = true := by decide +kernel
set_option maxRecDepth 100000 in
theorem yok36 : yok 36 = true := by decide +kernel
set_option maxRecDepth 100000 in
theorem yok37 : yok 37 = true := by decide +kernel
set_option maxRecDepth 100000 in
theorem yok38 : yok 38 = true := by decide +kernel
set_option maxRecDepth 100000 in
theorem yok39 : yok 39 = true := by decide +kernel
set_option maxRecDepth 100000 in
theorem yok40 : yok 40 = true := by decide +kernel
set_option maxRecDepth 100000 in
theorem yok41 : yok 41 = true := by decide +kernel
set_option maxRecDepth 100000 in
theorem yok42 : yok 42 = true := by decide +kernel
set_option maxRecDepth 100000 in
theorem yok43 : yok 43 = true := by decide +kernel
set_option maxRecDepth 100000 in
theorem yok44 : yok 44 = true := by decide +kernel
set_option maxRecDepth 100000 in
theorem yok45 : yok 45 = true := by decide +kernel
set_option maxRecDepth 100000 in
theorem yok46 : yok 46 = true := by decide +kernel
set_option maxRecDepth 100000 in
theorem yok47 : yok 47 = true := by decide +kernel
set_option maxRecDepth 100000 in
theorem yok48 : yok 48 = true := by decide +kernel
set_option maxRecDepth 100000 in
theorem yok49 : yok 49 = true := by decide +kernel
set_option maxRecDepth 100000 in
theorem yok50 : yok 50 = true := by decide +kernel
set_option maxRecDepth 100000 in
theorem yok51 : yok 51 = true := by decide +kernel
set_option maxRecDepth 100000 in
theorem yok52 : yok 52 = true := by decide +kernel
set_option maxRecDepth 100000 in
theorem yok53 : yok 53 = true := by decide +kernel
set_option maxRecDepth 100000 in
theorem yok54 : yok 54 = true := by decide +kernel
set_option maxRecDepth 100000 in
theorem yok55 : yok 55 = true := by decide +kernel
set_option maxRecDepth 100000 in
theorem yok56 : yok 56 = true := by decide +kernel
set_option maxRecDepth 100000 in
theorem yok57 : yok 57 = true := by decide +kernel
set_option maxRecDepth 100000 in
theorem yok58 : yok 58 = true := by decide +kernel
set_option maxRecDepth 100000 in
theorem yok59 : yok 59 = true := by decide +kernel
set_option maxRecDepth 100000 in
theorem yok60 : yok 60 = true := by decide +kernel
set_option maxRecDepth 100000 in
theorem yok61 : yok 61 = true := by decide +kernel
set_option maxRecDepth 100000 in
theorem yok62 : yok 62 = true := by decide +kernel
set_option maxRecDepth 100000 in
theorem yok63 : yok 63 = true := by decide +kernel
set_option maxRecDepth 100000 in
theorem yok64 : yok 64 = true := by decide +kernel
set_option maxRecDepth 100000 in
theorem yok65 : yok 65 = true := by decide +kernel
set_option maxRecDepth 100000 in
theorem yok66 : yok 66 = true := by decide +kernel
set_option maxRecDepth 100000 in
theorem yok67 : yok 67 = true := by decide +kernel
set_option maxRecDepth 100000 in
theorem yok68 : yok 68 = true := by decide +kernel
set_option maxRecDepth 100000 in
theorem yok69 : yok 69 = true := by decide +kernel
set_option maxRecDepth 100000 in
theorem yok70 : yok 70 = true := by decide +kernel
set_option maxRecDepth 100000 in
theorem yok71 : yok 71 = true := by decide +kernel
set_option maxRecDepth 100000 in
theorem yok72 : yok 72 = true := by decide +kernel
set_option maxRecDepth 100000 in
theorem yok73 : yok 73 = true := by decide +kernel
set_option maxRecDepth 100000 in
theorem yok74 : yok 74 = true := by decide +kernel
set_option maxRecDepth 100000 in
theorem yok75 : yok 75 = true := by decide +kernel
set_option maxRecDepth 100000 in
theorem yok76 : yok 76 = true := by decide +kernel
set_option maxRecDepth 100000 in
theorem yok77 : yok 77 = true := by decide +kernel
set_option maxRecDepth 100000 in
theorem yok78 : yok 78 = true := by decide +kernel
set_option maxRecDepth 100000 in
theorem yok79 : yok 79 = true := by decide +kernel
set_option maxRecDepth 100000 in
theorem yok80 : yok 80 = true := by decide +kernel
set_option maxRecDepth 100000 in
theorem yok81 : yok 81 = true := by decide +kernel
set_option maxRecDepth 100000 in
theorem yok82 : yok 82 = true := by decide +kernel
set_option maxRecDepth 100000 in
theorem yok83 : yok 83 = true := by decide +kernel
set_option maxRecDepth 100000 in
theorem yok84 : yok 84 = true := by decide +kernel
set_option maxRecDepth 100000 in
theorem yok85 : yok 85 = true := by decide +kernel
set_option maxRecDepth 100000 in
theorem yok86 : yok 86 = true := by decide +kernel
set_option maxRecDepth 100000 in
theorem yok87 : yok 87 = true := by decide +kernel
set_option maxRecDepth 100000 in
theorem yok88 : yok 88 = true := by decide +kernel
set_option maxRecDepth 100000 in
theorem yok89 : yok 89 = true := by decide +kernel
set_option maxRecDepth 100000 in
theorem yok90 : yok 90 = true := by decide +kernel
set_option maxRecDepth 100000 in
theorem yok91 : yok 91 = true := by decide +kernel
set_option maxRecDepth 100000 in
theorem yok92 : yok 92 = true := by decide +kernel
set_option maxRecDepth 100000 in
theorem yok93 : yok 93 = true := by decide +kernel
set_option maxRecDepth 100000 in
theorem yok94 : yok 94 = true := by decide +kernel
set_option maxRecDepth 100000 in
theorem yok95 : yok 95 = true := by decide +kernel
set_option maxRecDepth 100000 in
theorem yok96 : yok 96 = true := by decide +kernel
set_option maxRecDepth 100000 in
theorem yok97 : yok 97 = true := by decide +kernel
set_option maxRecDepth 100000 in
theorem yok98 : yok 98 = true := by decide +kernel
set_option maxRecDepth 100000 in
theorem yok99 : yok 99 = true := by decide +kernel
set_option maxRecDepth 100000 in
theorem yok100 : yok 100 = true := by decide +kernel
set_option maxRecDepth 100000 in
theorem yok101 : yok 101 = true := by decide +kernel
set_option maxRecDepth 100000 in
theorem yok102 : yok 102 = true := by decide +kernel
set_option maxRecDepth 100000 in
theorem yok103 : yok 103 = true := by decide +kernel
set_option maxRecDepth 100000 in
theorem yok104 : yok 104 = true := by decide +kernel
set_option maxRecDepth 100000 in
theorem yok105 : yok 105 = true := by decide +kernel
set_option maxRecDepth 100000 in
theorem yok106 : yok 106 = true := by decide +kernel
set_option maxRecDepth 100000 in
theorem yok107 : yok 107 = true := by decide +kernel
set_option maxRecDepth 100000 in
theorem yok108 : yok 108 = true := by decide +kernel
set_option maxRecDepth 100000 in
theorem yok109 : yok 109 = true := by decide +kernel
set_option maxRecDepth 100000 in
theorem yok110 : yok 110 = true := by decide +kernel
set_option maxRecDepth 100000 in
theorem yok111 : yok 111 = true := by decide +kernel
set_option maxRecDepth 100000 in
theorem yok112 : yok 112 = true := by decide +kernel
set_option maxRecDepth 100000 in
theorem yok113 : yok 113 = true := by decide +kernel
set_option maxRecDepth 100000 in
theorem yok114 : yok 114 = true := by decide +kernel
set_option maxRecDepth 100000 in
theorem yok115 : yok 115 = true := by decide +kernel
set_option maxRecDepth 100000 in
theorem yok116 : yok 116 = true := by decide +kernel
set_option maxRecDepth 100000 in
theorem yok117 : yok 117 = true := by decide +kernel
set_option maxRecDepth 100000 in
theorem yok118 : yok 118 = true := by decide +kernel
set_option maxRecDepth 100000 in
theorem yok119 : yok 119 = true := by decide +kernel
set_option maxRecDepth 100000 in
theorem yok120 : yok 120 = true := by decide +kernel
set_option maxRecDepth 100000 in
theorem yok121 : yok 121 = true := by decide +kernel
set_option maxRecDepth 100000 in
theorem yok122 : yok 122 = true := by decide +kernel
set_option maxRecDepth 100000 in
theorem yok123 : yok 123 = true := by decide +kernel
set_option maxRecDepth 100000 in
theorem yok124 : yok 124 = true := by decide +kernel
set_option maxRecDepth 100000 in
theorem yok125 : yok 125 = true := by decide +kernel
set_option maxRecDepth 100000 in
theorem yok126 : yok 126 = true := by decide +kernel
set_option maxRecDepth 100000 in
theorem yok127 : yok 127 = true := by decide +kernel
set_option maxRecDepth 100000 in
theorem yok128 : yok 128 = true := by decide +kernel
set_option maxRecDepth 100000 in
theorem yok129 : yok 129 = true := by decide +kernel
set_option maxRecDepth 100000 in
theorem yok130 : yok 130 = true := by decide +kernel
set_option maxRecDepth 100000 in
theorem yok131 : yok 131 = true := by decide +kernel
set_option maxRecDepth 100000 in
theorem yok132 : yok 132 = true := by decide +kernel
set_option maxRecDepth 100000 in
theorem yok133 : yok 133 = true := by decide +kernel
set_option maxRecDepth 100000 in
theorem yok134 : yok 134 = true := by decide +kernel
set_option maxRecDepth 100000 in
theorem yok135 : yok 135 = true := by decide +kernel
set_option maxRecDepth 100000 in
theorem yok136 : yok 136 = true := by decide +kernel
set_option maxRecDepth 100000 in
theorem yok137 : yok 137 = true := by decide +kernel
set_option maxRecDepth 100000 in
theorem yok138 : yok 138 = true := by decide +kernel
set_option maxRecDepth 100000 in
theorem yok139 : yok 139 = true := by decide +kernel
set_option maxRecDepth 100000 in
theorem yok140 : yok 140 = true := by decide +kernel
set_option maxRecDepth 100000 in
theorem yok141 : yok 141 = true := by decide +kernel
set_option maxRecDepth 100000 in
theorem yok142 : yok 142 = true := by decide +kernel
set_option maxRecDepth 100000 in
theorem yok143 : yok 143 = true := by decide +kernel
set_option maxRecDepth 100000 in
theorem yok144 : yok 144 = true := by decide +kernel
set_option maxRecDepth 100000 in
theorem yok145 : yok 145 = true := by decide +kernel
set_option maxRecDepth 100000 in
theorem yok146 : yok 146 = true := by decide +kernel
set_option maxRecDepth 100000 in
theorem yok147 : yok 147 = true := by decide +kernel
set_option maxRecDepth 100000 in
theorem yok148 : yok 148 = true := by decide +kernel
set_option maxRecDepth 100000 in
theorem yok149 : yok 149 = true := by decide +kernel
set_option maxRecDepth 100000 in
theorem yok150 : yok 150 = true := by decide +kernel
set_option maxRecDepth 100000 in
theorem yok151 : yok 151 = true := by decide +kernel
set_option maxRecDepth 100000 in
theorem yok152 : yok 152 = true := by decide +kernel
set_option maxRecDepth 100000 in
theorem yok153 : yok 153 = true := by decide +kernel
set_option maxRecDepth 100000 in
theorem yok154 : yok 154 = true := by decide +kernel
set_option maxRecDepth 100000 in
theorem yok155 : yok 155 = true := by decide +kernel
set_option maxRecDepth 100000 in
theorem yok156 : yok 156 = true := by decide +kernel
set_option maxRecDepth 100000 in
theorem yok157 : yok 157 = true := by decide +kernel
set_option maxRecDepth 100000 in
theorem yok158 : yok 158 = true := by decide +kernel
set_option maxRecDepth 100000 in
theorem yok159 : yok 159 = true := by decide +kernel
set_option maxRecDepth 100000 in
theorem yok160 : yok 160 = true := by decide +kernel
set_option maxRecDepth 100000 in
theorem yok161 : yok 161 = true := by decide +kernel
set_option maxRecDepth 100000 in
theorem yok162 : yok 162 = true := by decide +kernel
set_option maxRecDepth 100000 in
theorem yok163 : yok 163 = true := by decide +kernel
set_option maxRecDepth 100000 in
theorem yok164 : yok 164 = true := by decide +kernel
set_option maxRecDepth 100000 in
theorem yok165 : yok 165 = true := by decide +kernel
set_option maxRecDepth 100000 in
theorem yok166 : yok 166 = true := by decide +kernel
set_option maxRecDepth 100000 in
theorem yok167 : yok 167 = true := by decide +kernel
set_option maxRecDepth 100000 in
theorem yok168 : yok 168 = true := by decide +kernel
set_option maxRecDepth 100000 in
theorem yok169 : yok 169 = true := by decide +kernel
set_option maxRecDepth 100000 in
theorem yok170 : yok 170 = true := by decide +kernel
set_option maxRecDepth 100000 in
theorem yok171 : yok 171 = true := by decide +kernel
set_option maxRecDepth 100000 in
theorem yok172 : yok 172 = true := by decide +kernel
set_option maxRecDepth 100000 in
theorem yok173 : yok 173 = true := by decide +kernel
set_option maxRecDepth 100000 in
theorem yok174 : yok 174 = true := by decide +kernel
set_option maxRecDepth 100000 in
theorem yok175 : yok 175 = true := by decide +kernel
set_option maxRecDepth 100000 in
theorem yok176 : yok 176 = true := by decide +kernel
set_option maxRecDepth 100000 in
theorem yok177 : yok 177 = true := by decide +kernel
set_option maxRecDepth 100000 in
theorem yok178 : yok 178 = true := by decide +kernel
set_option maxRecDepth 100000 in
theorem yok179 : yok 179 = true := by decide +kernel
set_option maxRecDepth 100000 in
theorem yok180 : yok 180 = true := by decide +kernel
set_option maxRecDepth 100000 in
theorem yok181 : yok 181 = true := by decide +kernel
set_option maxRecDepth 100000 in
theorem yok182 : yok 182 = true := by decide +kernel
set_option maxRecDepth 100000 in
theorem yok183 : yok 183 = true := by decide +kernel
set_option maxRecDepth 100000 in
theorem yok184 : yok 184 = true := by decide +kernel
set_option maxRecDepth 100000 in
theorem yok185 : yok 185 = true := by decide +kernel
set_option maxRecDepth 100000 in
theorem yok186 : yok 186 = true := by decide +kernel
set_option maxRecDepth 100000 in
theorem yok187 : yok 187 = true := by decide +kernel
set_option maxRecDepth 100000 in
theorem yok188 : yok 188 = true := by decide +kernel
set_option maxRecDepth 100000 in
theorem yok189 : yok 189 = true := by decide +kernel
set_option maxRecDepth 100000 in
theorem yok190 : yok 190 = true := by decide +kernel
set_option maxRecDepth 100000 in
theorem yok191 : yok 191 = true := by decide +kernel
set_option maxRecDepth 100000 in
theorem yok192 : yok 192 = true := by decide +kernel
set_option maxRecDepth 100000 in
theorem yok193 : yok 193 = true := by decide +kernel
set_option maxRecDepth 100000 in
theorem yok194 : yok 194 = true := by decide +kernel
set_option maxRecDepth 100000 in
theorem yok195 : yok 195 = true := by decide +kernel
set_option maxRecDepth 100000 in
theorem yok196 : yok 196 = true := by decide +kernel
set_option maxRecDepth 100000 in
theorem yok197 : yok 197 = true := by decide +kernel
set_option maxRecDepth 100000 in
theorem yok198 : yok 198 = true := by decide +kernel
set_option maxRecDepth 100000 in
theorem yok199 : yok 199 = true := by decide +kernel
set_option maxRecDepth 100000 in
theorem yok200 : yok 200 = true := by decide +kernel
set_option maxRecDepth 100000 in
theorem yok201 : yok 201 = true := by decide +kernel
set_option maxRecDepth 100000 in
theorem yok202 : yok 202 = true := by decide +kernel
set_option maxRecDepth 100000 in
theorem yok203 : yok 203 = true := by decide +kernel
set_option maxRecDepth 100000 in
theorem yok204 : yok 204 = true := by decide +kernel
set_option maxRecDepth 100000 in
theorem yok205 : yok 205 = true := by decide +kernel
set_option maxRecDepth 100000 in
theorem yok206 : yok 206 = true := by decide +kernel
set_option maxRecDepth 100000 in
theorem yok207 : yok 207 = true := by decide +kernel
set_option maxRecDepth 100000 in
theorem yok208 : yok 208 = true := by decide +kernel
set_option maxRecDepth 100000 in
theorem yok209 : yok 209 = true := by decide +kernel
set_option maxRecDepth 100000 in
theorem yok210 : yok 210 = true := by decide +kernel
set_option maxRecDepth 100000 in
theorem yok211 : yok 211 = true := by decide +kernel
set_option maxRecDepth 100000 in
theorem yok212 : yok 212 = true := by decide +kernel
set_option maxRecDepth 100000 in
theorem yok213 : yok 213 = true := by decide +kernel
set_option maxRecDepth 100000 in
theorem yok214 : yok 214 = true := by decide +kernel
set_option maxRecDepth 100000 in
theorem yok215 : yok 215 = true := by decide +kernel
set_option maxRecDepth 100000 in
theorem yok216 : yok 216 = true := by decide +kernel
set_option maxRecDepth 100000 in
theorem yok217 : yok 217 = true := by decide +kernel
set_option maxRecDepth 100000 in
theorem yok218 : yok 218 = true := by decide +kernel
set_option maxRecDepth 100000 in
theorem yok219 : yok 219 = true := by decide +kernel
set_option maxRecDepth 100000 in
theorem yok220 : yok 220 = true := by decide +kernel
set_option maxRecDepth 100000 in
theorem yok221 : yok 221 = true := by decide +kernel
set_option maxRecDepth 100000 in
theorem yok222 : yok 222 = true := by decide +kernel
set_option maxRecDepth 100000 in
theorem yok223 : yok 223 = true := by decide +kernel
set_option maxRecDepth 100000 in
theorem yok224 : yok 224 = true := by decide +kernel
set_option maxRecDepth 100000 in
theorem yok225 : yok 225 = true := by decide +kernel
set_option maxRecDepth 100000 in
theorem yok226 : yok 226 = true := by decide +kernel
set_option maxRecDepth 100000 in
theorem yok227 : yok 227 = true := by decide +kernel
set_option maxRecDepth 100000 in
theorem yok228 : yok 228 = true := by decide +kernel
set_option maxRecDepth 100000 in
theorem yok229 : yok 229 = true := by decide +kernel
set_option maxRecDepth 100000 in
theorem yok230 : yok 230 = true := by decide +kernel
set_option maxRecDepth 100000 in
theorem yok231 : yok 231 = true := by decide +kernel
set_option maxRecDepth 100000 in
theorem yok232 : yok 232 = true := by decide +kernel
set_option maxRecDepth 100000 in
theorem yok233 : yok 233 = true := by decide +kernel
set_option maxRecDepth 100000 in
theorem yok234 : yok 234 = true := by decide +kernel
set_option maxRecDepth 100000 in
theorem yok235 : yok 235 = true := by decide +kernel
set_option maxRecDepth 100000 in
theorem yok236 : yok 236 = true := by decide +kernel
set_option maxRecDepth 100000 in
theorem yok237 : yok 237 = true := by decide +kernel
set_option maxRecDepth 100000 in
theorem yok238 : yok 238 = true := by decide +kernel
set_option maxRecDepth 100000 in
theorem yok239 : yok 239 = true := by decide +kernel
set_option maxRecDepth 100000 in
theorem yok240 : yok 240 = true := by decide +kernel
set_option maxRecDepth 100000 in
theorem yok241 : yok 241 = true := by decide +kernel
set_option maxRecDepth 100000 in
theorem yok242 : yok 242 = true := by decide +kernel
set_option maxRecDepth 100000 in
theorem yok243 : yok 243 = true := by decide +kernel
set_option maxRecDepth 100000 in
theorem yok244 : yok 244 = true := by decide +kernel
set_option maxRecDepth 100000 in
theorem yok245 : yok 245 = true := by decide +kernel
set_option maxRecDepth 100000 in
theorem yok246 : yok 246 = true := by decide +kernel
set_option maxRecDepth 100000 in
theorem yok247 : yok 247 = true := by decide +kernel
set_option maxRecDepth 100000 in
theorem yok248 : yok 248 = true := by decide +kernel
set_option maxRecDepth 100000 in
theorem yok249 : yok 249 = true := by decide +kernel
set_option maxRecDepth 100000 in
theorem yok250 : yok 250 = true := by decide +kernel
set_option maxRecDepth 100000 in
theorem yok251 : yok 251 = true := by decide +kernel
set_option maxRecDepth 100000 in
theorem yok252 : yok 252 = true := by decide +kernel
set_option maxRecDepth 100000 in
theorem yok253 : yok 253 = true := by decide +kernel
set_option maxRecDepth 100000 in
theorem yok254 : yok 254 = true := by decide +kernel
set_option maxRecDepth 100000 in
theorem yok255 : yok 255 = true := by decide +kernel
set_option maxRecDepth 100000 in
theorem yok256 : yok 256 = true := by decide +kernel
set_option maxRecDepth 100000 in
theorem yok257 : yok 257 = true := by decide +kernel
set_option maxRecDepth 100000 in
theorem yok258 : yok 258 = true := by decide +kernel
set_option maxRecDepth 100000 in
theorem yok259 : yok 259 = true := by decide +kernel
set_option maxRecDepth 100000 in
theorem yok260 : yok 260 = true := by decide +kernel
set_option maxRecDepth 100000 in
theorem yok261 : yok 261 = true := by decide +kernel
set_option maxRecDepth 100000 in
theorem yok262 : yok 262 = true := by decide +kernel
set_option maxRecDepth 100000 in
theorem yok263 : yok 263 = true := by decide +kernel
set_option maxRecDepth 100000 in
theorem yok264 : yok 264 = true := by decide +kernel
set_option maxRecDepth 100000 in
theorem yok265 : yok 265 = true := by decide +kernel
set_option maxRecDepth 100000 in
theorem yok266 : yok 266 = true := by decide +kernel
set_option maxRecDepth 100000 in
theorem yok267 : yok 267 = true := by decide +kernel
set_option maxRecDepth 100000 in
theorem yok268 : yok 268 = true := by decide +kernel
set_option maxRecDepth 100000 in
theorem yok269 : yok 269 = true := by decide +kernel
set_option maxRecDepth 100000 in
theorem yok270 : yok 270 = true := by decide +kernel
set_option maxRecDepth 100000 in
theorem yok271 : yok 271 = true := by decide +kernel
set_option maxRecDepth 100000 in
theorem yok272 : yok 272 = true := by decide +kernel
set_option maxRecDepth 100000 in
theorem yok273 : yok 273 = true := by decide +kernel
set_option maxRecDepth 100000 in
theorem yok274 : yok 274 = true := by decide +kernel
theorem ych7_0 : ∀ i, i < 20 → yP_ok i := (ynlt_s (ynlt_s (ynlt_s (ynlt_s (ynlt_s (ynlt_s (ynlt_s (ynlt_s (ynlt_s (ynlt_s (ynlt_s (ynlt_s (ynlt_s (ynlt_s (ynlt_s (ynlt_s (ynlt_s (ynlt_s (ynlt_s (ynlt_s ynlt_0 yok0) yok1) yok2) yok3) yok4) yok5) yok6) yok7) yok8) yok9) yok10) yok11) yok12) yok13) yok14) yok15) yok16) yok17) yok18) yok19)
theorem ych7_1 : ∀ i, i < 40 → yP_ok i := (ynlt_s (ynlt_s (ynlt_s (ynlt_s (ynlt_s (ynlt_s (ynlt_s (ynlt_s (ynlt_s (ynlt_s (ynlt_s (ynlt_s (ynlt_s (ynlt_s (ynlt_s (ynlt_s (ynlt_s (ynlt_s (ynlt_s (ynlt_s ych7_0 yok20) yok21) yok22) yok23) yok24) yok25) yok26) yok27) yok28) yok29) yok30) yok31) yok32) yok33) yok34) yok35) yok36) yok37) yok38) yok39)
theorem ych7_2 : ∀ i, i < 60 → yP_ok i := (ynlt_s (ynlt_s (ynlt_s (ynlt_s (ynlt_s (ynlt_s (ynlt_s (ynlt_s (ynlt_s (ynlt_s (ynlt_s (ynlt_s (ynlt_s (ynlt_s (ynlt_s (ynlt_s (ynlt_s (ynlt_s (ynlt_s (ynlt_s ych7_1 yok40) yok41) yok42) yok43) yok44) yok45) yok46) yok47) yok48) yok49) yok50) yok51) yok52) yok53) yok54) yok55) yok56) yok57) yok58) yok59)
theorem ych7_3 : ∀ i, i < 80 → yP_ok i := (ynlt_s (ynlt_s (ynlt_s (ynlt_s (ynlt_s (ynlt_s (ynlt_s (ynlt_s (ynlt_s (ynlt_s (ynlt_s (ynlt_s (ynlt_s (ynlt_s (ynlt_s (ynlt_s (ynlt_s (ynlt_s (ynlt_s (ynlt_s ych7_2 yok60) yok61) yok62) yok63) yok64) yok65) yok66) yok67) yok68) yok69) yok70) yok71) yok72) yok73) yok74) yok75) yok76) yok77) yok78) yok79)
theorem ych7_4 : ∀ i, i < 100 → yP_ok i := (ynlt_s (ynlt_s (ynlt_s (ynlt_s (ynlt_s (ynlt_s (ynlt_s (ynlt_s (ynlt_s (ynlt_s (ynlt_s (ynlt_s (ynlt_s (ynlt_s (ynlt_s (ynlt_s (ynlt_s (ynlt_s (ynlt_s (ynlt_s ych7_3 yok80) yok81) yok82) yok83) yok84) yok85) yok86) yok87) yok88) yok89) yok90) yok91) yok92) yok93) yok94) yok95) yok96) yok97) yok98) yok99)
theorem ych7_5 : ∀ i, i < 120 → yP_ok i := (ynlt_s (ynlt_s (ynlt_s (ynlt_s (ynlt_s (ynlt_s (ynlt_s (ynlt_s (ynlt_s (ynlt_s (ynlt_s (ynlt_s (ynlt_s (ynlt_s (ynlt_s (ynlt_s (ynlt_s (ynlt_s (ynlt_s (ynlt_s ych7_4 yok100) yok101) yok102) yok103) yok104) yok105) yok106) yok107) yok108) yok109) yok110) yok111) yok112) yok113) yok114) yok115) yok116) yok117) yok118) yok119)
theorem ych7_6 : ∀ i, i < 140 → yP_ok i := (ynlt_s (ynlt_s (ynlt_s (ynlt_s (ynlt_s (ynlt_s (ynlt_s (ynlt_s (ynlt_s (ynlt_s (ynlt_s (ynlt_s (ynlt_s (ynlt_s (ynlt_s (ynlt_s (ynlt_s (ynlt_s (ynlt_s (ynlt_s ych7_5 yok120) yok121) yok122) yok123) yok124) yok125) yok126) yok127) yok128) yok129) yok130) yok131) yok132) yok133) yok134) yok135) yok136) yok137) yok138) yok139)
theorem ych7_7 : ∀ i, i < 160 → yP_ok i := (ynlt_s (ynlt_s (ynlt_s (ynlt_s (ynlt_s (ynlt_s (ynlt_s (ynlt_s (ynlt_s (ynlt_s (ynlt_s (ynlt_s (ynlt_s (ynlt_s (ynlt_s (ynlt_s (ynlt_s (ynlt_s (ynlt_s (ynlt_s ych7_6 yok140) yok141) yok142) yok143) yok144) yok145) yok146) yok147) yok148) yok149) yok150) yok151) yok152) yok153) yok154) yok155) yok156) yok157) yok158) yok159)
theorem ych7_8 : ∀ i, i < 180 → yP_ok i := (ynlt_s (ynlt_s (ynlt_s (ynlt_s (ynlt_s (ynlt_s (ynlt_s (ynlt_s (ynlt_s (ynlt_s (ynlt_s (ynlt_s (ynlt_s (ynlt_s (ynlt_s (ynlt_s (ynlt_s (ynlt_s (ynlt_s (ynlt_s ych7_7 yok160) yok161) yok162) yok163) yok164) yok165) yok166) yok167) yok168) yok169) yok170) yok171) yok172) yok173) yok174) yok175) yok176) yok177) yok178) yok179)
theorem ych7_9 : ∀ i, i < 200 → yP_ok i := (ynlt_s (ynlt_s (ynlt_s (ynlt_s (ynlt_s (ynlt_s (ynlt_s (ynlt_s (ynlt_s (ynlt_s (ynlt_s (ynlt_s (ynlt_s (ynlt_s (ynlt_s (ynlt_s (ynlt_s (ynlt_s (ynlt_s (ynlt_s ych7_8 yok180) yok181) yok182) yok183) yok184) yok185) yok186) yok187) yok188) yok189) yok190) yok191) yok192) yok193) yok194) yok195) yok196) yok197) yok198) yok199)
theorem ych7_10 : ∀ i, i < 220 → yP_ok i := (ynlt_s (ynlt_s (ynlt_s (ynlt_s (ynlt_s (ynlt_s (ynlt_s (ynlt_s (ynlt_s (ynlt_s (ynlt_s (ynlt_s (ynlt_s (ynlt_s (ynlt_s (ynlt_s (ynlt_s (ynlt_s (ynlt_s (ynlt_s ych7_9 yok200) yok201) yok202) yok203) yok204) yok205) yok206) yok207) yok208) yok209) yok210) yok211) yok212) yok213) yok214) yok215) yok216) yok217) yok218) yok219)
theorem ych7_11 : ∀ i, i < 240 → yP_ok i := (ynlt_s (ynlt_s (ynlt_s (ynlt_s (ynlt_s (ynlt_s (ynlt_s (ynlt_s (ynlt_s (ynlt_s (ynlt_s (ynlt_s (ynlt_s (ynlt_s (ynlt_s (ynlt_s (ynlt_s (ynlt_s (ynlt_s (ynlt_s ych7_10 yok220) yok221) yok222) yok223) yok224) yok225) yok226) yok227) yok228) yok229) yok230) yok231) yok232) yok233) yok234) yok235) yok236) yok237) yok238) yok239)
theorem ych7_12 : ∀ i, i < 260 → yP_ok i := (ynlt_s (ynlt_s (ynlt_s (ynlt_s (ynlt_s (ynlt_s (ynlt_s (ynlt_s (ynlt_s (ynlt_s (ynlt_s (ynlt_s (ynlt_s (ynlt_s (ynlt_s (ynlt_s (ynlt_s (ynlt_s (ynlt_s (ynlt_s ych7_11 yok240) yok241) yok242) yok243) yok244) yok245) yok246) yok247) yok248) yok249) yok250) yok251) yok252) yok253) yok254) yok255) yok256) yok257) yok258) yok259)
theorem ych7_13 : ∀ i, i < 275 → yP_ok i := (ynlt_s (ynlt_s (ynlt_s (ynlt_s (ynlt_s (ynlt_s (ynlt_s (ynlt_s (ynlt_s (ynlt_s (ynlt_s (ynlt_s (ynlt_s (ynlt_s (ynlt_s ych7_12 yok260) yok261) yok262) yok263) yok264) yok265) yok266) yok267) yok268) yok269) yok270) yok271) yok272) yok273) yok274)
theorem mcode_all : ∀ y, y < 275 → (mCd y).all (mchk (mB y)) = true ∧ (mCd y).all (mown (mCno y)) = true := fun y hy => by
  have h : yok y = true := ych7_13 y hy
  unfold yok at h
  rw [Bool.and_eq_true] at h
  exact ⟨ywk_ok _ _ 0 rfl h.1, h.2⟩
