/-! Each method's code stands in the tables: the next ones. -/
set_option maxRecDepth 100000 in
theorem eCW_144 : eCWp 144 := fun M h => by cases h; exact List.mem_of_getElem? (i := 1657) rfl
set_option maxRecDepth 100000 in
theorem eCW_145 : eCWp 145 := fun M h => by cases h; exact List.mem_of_getElem? (i := 1668) rfl
set_option maxRecDepth 100000 in
theorem eCW_146 : eCWp 146 := fun M h => by cases h; exact List.mem_of_getElem? (i := 1645) rfl
set_option maxRecDepth 100000 in
theorem eCW_147 : eCWp 147 := fun M h => by cases h; exact List.mem_of_getElem? (i := 1649) rfl
set_option maxRecDepth 100000 in
theorem eCW_148 : eCWp 148 := fun M h => by cases h; exact List.mem_of_getElem? (i := 1664) rfl
set_option maxRecDepth 100000 in
theorem eCW_149 : eCWp 149 := fun M h => by cases h; exact List.mem_of_getElem? (i := 1672) rfl
set_option maxRecDepth 100000 in
theorem eCW_150 : eCWp 150 := fun M h => by cases h; exact List.mem_of_getElem? (i := 1676) rfl
set_option maxRecDepth 100000 in
theorem eCW_151 : eCWp 151 := fun M h => by cases h; exact List.mem_of_getElem? (i := 1661) rfl
set_option maxRecDepth 100000 in
theorem eCW_152 : eCWp 152 := fun M h => by cases h; exact List.mem_of_getElem? (i := 1688) rfl
set_option maxRecDepth 100000 in
theorem eCW_153 : eCWp 153 := fun M h => by cases h; exact List.mem_of_getElem? (i := 1684) rfl
set_option maxRecDepth 100000 in
theorem eCW_154 : eCWp 154 := fun M h => by cases h; exact List.mem_of_getElem? (i := 1680) rfl
set_option maxRecDepth 100000 in
theorem eCW_155 : eCWp 155 := fun M h => by cases h; exact List.mem_of_getElem? (i := 1700) rfl
set_option maxRecDepth 100000 in
theorem eCW_156 : eCWp 156 := fun M h => by cases h; exact List.mem_of_getElem? (i := 1696) rfl
set_option maxRecDepth 100000 in
theorem eCW_157 : eCWp 157 := fun M h => by cases h; exact List.mem_of_getElem? (i := 1692) rfl
set_option maxRecDepth 100000 in
theorem eCW_158 : eCWp 158 := fun M h => by cases h; exact List.mem_of_getElem? (i := 1708) rfl
set_option maxRecDepth 100000 in
theorem eCW_159 : eCWp 159 := fun M h => by cases h; exact List.mem_of_getElem? (i := 1704) rfl
set_option maxRecDepth 100000 in
theorem eCW_160 : eCWp 160 := fun M h => by cases h; exact List.mem_of_getElem? (i := 1653) rfl
set_option maxRecDepth 100000 in
theorem eCW_161 : eCWp 161 := fun M h => by cases h; exact List.mem_of_getElem? (i := 1712) rfl
set_option maxRecDepth 100000 in
theorem eCW_162 : eCWp 162 := fun M h => by cases h; exact List.mem_of_getElem? (i := 1300) rfl
set_option maxRecDepth 100000 in
theorem eCW_163 : eCWp 163 := fun M h => by cases h; exact List.mem_of_getElem? (i := 1716) rfl
set_option maxRecDepth 100000 in
theorem eCW_164 : eCWp 164 := fun M h => by cases h; exact List.mem_of_getElem? (i := 1720) rfl
set_option maxRecDepth 100000 in
theorem eCW_165 : eCWp 165 := fun M h => by cases h; exact List.mem_of_getElem? (i := 1728) rfl
set_option maxRecDepth 100000 in
theorem eCW_166 : eCWp 166 := fun M h => by cases h; exact List.mem_of_getElem? (i := 1724) rfl
set_option maxRecDepth 100000 in
theorem eCW_167 : eCWp 167 := fun M h => by cases h; exact List.mem_of_getElem? (i := 1732) rfl
set_option maxRecDepth 100000 in
theorem eCW_168 : eCWp 168 := fun M h => by cases h; exact List.mem_of_getElem? (i := 1737) rfl
set_option maxRecDepth 100000 in
theorem eCW_169 : eCWp 169 := fun M h => by cases h; exact List.mem_of_getElem? (i := 1741) rfl
set_option maxRecDepth 100000 in
theorem eCW_170 : eCWp 170 := fun M h => by cases h; exact List.mem_of_getElem? (i := 341) rfl
set_option maxRecDepth 100000 in
theorem eCW_171 : eCWp 171 := fun M h => by cases h; exact List.mem_of_getElem? (i := 989) rfl
set_option maxRecDepth 100000 in
theorem eCW_172 : eCWp 172 := fun M h => by cases h; exact List.mem_of_getElem? (i := 1084) rfl
set_option maxRecDepth 100000 in
theorem eCW_173 : eCWp 173 := fun M h => by cases h; exact List.mem_of_getElem? (i := 1005) rfl
set_option maxRecDepth 100000 in
theorem eCW_174 : eCWp 174 := fun M h => by cases h; exact List.mem_of_getElem? (i := 1026) rfl
set_option maxRecDepth 100000 in
theorem eCW_175 : eCWp 175 := fun M h => by cases h; exact List.mem_of_getElem? (i := 1081) rfl
set_option maxRecDepth 100000 in
theorem eCW_176 : eCWp 176 := fun M h => by cases h; exact List.mem_of_getElem? (i := 993) rfl
set_option maxRecDepth 100000 in
theorem eCW_177 : eCWp 177 := fun M h => by cases h; exact List.mem_of_getElem? (i := 1001) rfl
set_option maxRecDepth 100000 in
theorem eCW_178 : eCWp 178 := fun M h => by cases h; exact List.mem_of_getElem? (i := 1009) rfl
set_option maxRecDepth 100000 in
theorem eCW_179 : eCWp 179 := fun M h => by cases h; exact List.mem_of_getElem? (i := 1018) rfl
set_option maxRecDepth 100000 in
theorem eCW_180 : eCWp 180 := fun M h => by cases h; exact List.mem_of_getElem? (i := 283) rfl
set_option maxRecDepth 100000 in
theorem eCW_181 : eCWp 181 := fun M h => by cases h; exact List.mem_of_getElem? (i := 698) rfl
set_option maxRecDepth 100000 in
theorem eCW_182 : eCWp 182 := fun M h => by cases h; exact List.mem_of_getElem? (i := 703) rfl
set_option maxRecDepth 100000 in
theorem eCW_183 : eCWp 183 := fun M h => by cases h; exact List.mem_of_getElem? (i := 707) rfl
set_option maxRecDepth 100000 in
theorem eCW_184 : eCWp 184 := fun M h => by cases h; exact List.mem_of_getElem? (i := 711) rfl
set_option maxRecDepth 100000 in
theorem eCW_185 : eCWp 185 := fun M h => by cases h; exact List.mem_of_getElem? (i := 721) rfl
set_option maxRecDepth 100000 in
theorem eCW_186 : eCWp 186 := fun M h => by cases h; exact List.mem_of_getElem? (i := 727) rfl
set_option maxRecDepth 100000 in
theorem eCW_187 : eCWp 187 := fun M h => by cases h; exact List.mem_of_getElem? (i := 732) rfl
set_option maxRecDepth 100000 in
theorem eCW_188 : eCWp 188 := fun M h => by cases h; exact List.mem_of_getElem? (i := 736) rfl
set_option maxRecDepth 100000 in
theorem eCW_189 : eCWp 189 := fun M h => by cases h; exact List.mem_of_getElem? (i := 741) rfl
set_option maxRecDepth 100000 in
theorem eCW_190 : eCWp 190 := fun M h => by cases h; exact List.mem_of_getElem? (i := 745) rfl
set_option maxRecDepth 100000 in
theorem eCW_191 : eCWp 191 := fun M h => by cases h; exact List.mem_of_getElem? (i := 716) rfl
set_option maxRecDepth 100000 in
theorem eCW_192 : eCWp 192 := fun M h => by cases h; exact List.mem_of_getElem? (i := 753) rfl
set_option maxRecDepth 100000 in
theorem eCW_193 : eCWp 193 := fun M h => by cases h; exact List.mem_of_getElem? (i := 765) rfl
set_option maxRecDepth 100000 in
theorem eCW_194 : eCWp 194 := fun M h => by cases h; exact List.mem_of_getElem? (i := 769) rfl
set_option maxRecDepth 100000 in
theorem eCW_195 : eCWp 195 := fun M h => by cases h; exact List.mem_of_getElem? (i := 773) rfl
set_option maxRecDepth 100000 in
theorem eCW_196 : eCWp 196 := fun M h => by cases h; exact List.mem_of_getElem? (i := 757) rfl
set_option maxRecDepth 100000 in
theorem eCW_197 : eCWp 197 := fun M h => by cases h; exact List.mem_of_getElem? (i := 761) rfl
set_option maxRecDepth 100000 in
theorem eCW_198 : eCWp 198 := fun M h => by cases h; exact List.mem_of_getElem? (i := 777) rfl
set_option maxRecDepth 100000 in
theorem eCW_199 : eCWp 199 := fun M h => by cases h; exact List.mem_of_getElem? (i := 159) rfl
set_option maxRecDepth 100000 in
theorem eCW_200 : eCWp 200 := fun M h => by cases h; exact List.mem_of_getElem? (i := 491) rfl
set_option maxRecDepth 100000 in
theorem eCW_201 : eCWp 201 := fun M h => by cases h; exact List.mem_of_getElem? (i := 495) rfl
set_option maxRecDepth 100000 in
theorem eCW_202 : eCWp 202 := fun M h => by cases h; exact List.mem_of_getElem? (i := 974) rfl
set_option maxRecDepth 100000 in
theorem eCW_203 : eCWp 203 := fun M h => by cases h; exact List.mem_of_getElem? (i := 982) rfl
set_option maxRecDepth 100000 in
theorem eCW_204 : eCWp 204 := fun M h => by cases h; exact List.mem_of_getElem? (i := 314) rfl
set_option maxRecDepth 100000 in
theorem eCW_205 : eCWp 205 := fun M h => by cases h; exact List.mem_of_getElem? (i := 926) rfl
set_option maxRecDepth 100000 in
theorem eCW_206 : eCWp 206 := fun M h => by cases h; exact List.mem_of_getElem? (i := 937) rfl
set_option maxRecDepth 100000 in
theorem eCW_207 : eCWp 207 := fun M h => by cases h; exact List.mem_of_getElem? (i := 945) rfl
set_option maxRecDepth 100000 in
theorem eCW_208 : eCWp 208 := fun M h => by cases h; exact List.mem_of_getElem? (i := 957) rfl
set_option maxRecDepth 100000 in
theorem eCW_209 : eCWp 209 := fun M h => by cases h; exact List.mem_of_getElem? (i := 966) rfl
set_option maxRecDepth 100000 in
theorem eCW_210 : eCWp 210 := fun M h => by cases h; exact List.mem_of_getElem? (i := 217) rfl
set_option maxRecDepth 100000 in
theorem eCW_211 : eCWp 211 := fun M h => by cases h; exact List.mem_of_getElem? (i := 575) rfl
set_option maxRecDepth 100000 in
theorem eCW_212 : eCWp 212 := fun M h => by cases h; exact List.mem_of_getElem? (i := 632) rfl
