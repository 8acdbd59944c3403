/-! The check, method by method. -/
set_option maxRecDepth 100000 in
theorem ok_150 : okM 150 = true := by decide +kernel
theorem ow_150 : okW 150 false = true := by decide +kernel
set_option maxRecDepth 100000 in
theorem ok_151 : okM 151 = true := by decide +kernel
theorem ow_151 : okW 151 true = true := by decide +kernel
set_option maxRecDepth 100000 in
theorem ok_152 : okM 152 = true := by decide +kernel
theorem ow_152 : okW 152 false = true := by decide +kernel
set_option maxRecDepth 100000 in
theorem ok_153 : okM 153 = true := by decide +kernel
theorem ow_153 : okW 153 false = true := by decide +kernel
set_option maxRecDepth 100000 in
theorem ok_154 : okM 154 = true := by decide +kernel
theorem ow_154 : okW 154 false = true := by decide +kernel
set_option maxRecDepth 100000 in
theorem ok_155 : okM 155 = true := by decide +kernel
theorem ow_155 : okW 155 false = true := by decide +kernel
set_option maxRecDepth 100000 in
theorem ok_156 : okM 156 = true := by decide +kernel
theorem ow_156 : okW 156 false = true := by decide +kernel
set_option maxRecDepth 100000 in
theorem ok_157 : okM 157 = true := by decide +kernel
theorem ow_157 : okW 157 false = true := by decide +kernel
set_option maxRecDepth 100000 in
theorem ok_158 : okM 158 = true := by decide +kernel
theorem ow_158 : okW 158 false = true := by decide +kernel
set_option maxRecDepth 100000 in
theorem ok_159 : okM 159 = true := by decide +kernel
theorem ow_159 : okW 159 false = true := by decide +kernel
set_option maxRecDepth 100000 in
theorem ok_160 : okM 160 = true := by decide +kernel
theorem ow_160 : okW 160 false = true := by decide +kernel
set_option maxRecDepth 100000 in
theorem ok_161 : okM 161 = true := by decide +kernel
theorem ow_161 : okW 161 false = true := by decide +kernel
set_option maxRecDepth 100000 in
theorem ok_162 : okM 162 = true := by decide +kernel
theorem ow_162 : okW 162 false = true := by decide +kernel
set_option maxRecDepth 100000 in
theorem ok_163 : okM 163 = true := by decide +kernel
theorem ow_163 : okW 163 false = true := by decide +kernel
set_option maxRecDepth 100000 in
theorem ok_164 : okM 164 = true := by decide +kernel
theorem ow_164 : okW 164 false = true := by decide +kernel
set_option maxRecDepth 100000 in
theorem ok_165 : okM 165 = true := by decide +kernel
theorem ow_165 : okW 165 false = true := by decide +kernel
set_option maxRecDepth 100000 in
theorem ok_166 : okM 166 = true := by decide +kernel
theorem ow_166 : okW 166 false = true := by decide +kernel
set_option maxRecDepth 100000 in
theorem ok_167 : okM 167 = true := by decide +kernel
theorem ow_167 : okW 167 false = true := by decide +kernel
set_option maxRecDepth 100000 in
theorem ok_168 : okM 168 = true := by decide +kernel
theorem ow_168 : okW 168 false = true := by decide +kernel
set_option maxRecDepth 100000 in
theorem ok_169 : okM 169 = true := by decide +kernel
theorem ow_169 : okW 169 false = true := by decide +kernel
set_option maxRecDepth 100000 in
theorem ok_170 : okM 170 = true := by decide +kernel
theorem ow_170 : okW 170 true = true := by decide +kernel
set_option maxRecDepth 100000 in
theorem ok_171 : okM 171 = true := by decide +kernel
theorem ow_171 : okW 171 false = true := by decide +kernel
set_option maxRecDepth 100000 in
theorem ok_172 : okM 172 = true := by decide +kernel
theorem ow_172 : okW 172 false = true := by decide +kernel
set_option maxRecDepth 100000 in
theorem ok_173 : okM 173 = true := by decide +kernel
theorem ow_173 : okW 173 false = true := by decide +kernel
set_option maxRecDepth 100000 in
theorem ok_174 : okM 174 = true := by decide +kernel
theorem ow_174 : okW 174 false = true := by decide +kernel
set_option maxRecDepth 100000 in
theorem ok_175 : okM 175 = true := by decide +kernel
theorem ow_175 : okW 175 false = true := by decide +kernel
set_option maxRecDepth 100000 in
theorem ok_176 : okM 176 = true := by decide +kernel
theorem ow_176 : okW 176 false = true := by decide +kernel
set_option maxRecDepth 100000 in
theorem ok_177 : okM 177 = true := by decide +kernel
theorem ow_177 : okW 177 false = true := by decide +kernel
set_option maxRecDepth 100000 in
theorem ok_178 : okM 178 = true := by decide +kernel
theorem ow_178 : okW 178 false = true := by decide +kernel
set_option maxRecDepth 100000 in
theorem ok_179 : okM 179 = true := by decide +kernel
theorem ow_179 : okW 179 true = true := by decide +kernel
set_option maxRecDepth 100000 in
theorem ok_180 : okM 180 = true := by decide +kernel
theorem ow_180 : okW 180 false = true := by decide +kernel
set_option maxRecDepth 100000 in
theorem ok_181 : okM 181 = true := by decide +kernel
theorem ow_181 : okW 181 false = true := by decide +kernel
set_option maxRecDepth 100000 in
theorem ok_182 : okM 182 = true := by decide +kernel
theorem ow_182 : okW 182 false = true := by decide +kernel
set_option maxRecDepth 100000 in
theorem ok_183 : okM 183 = true := by decide +kernel
theorem ow_183 : okW 183 false = true := by decide +kernel
set_option maxRecDepth 100000 in
theorem ok_184 : okM 184 = true := by decide +kernel
theorem ow_184 : okW 184 false = true := by decide +kernel
set_option maxRecDepth 100000 in
theorem ok_185 : okM 185 = true := by decide +kernel
theorem ow_185 : okW 185 false = true := by decide +kernel
set_option maxRecDepth 100000 in
theorem ok_186 : okM 186 = true := by decide +kernel
theorem ow_186 : okW 186 false = true := by decide +kernel
set_option maxRecDepth 100000 in
theorem ok_187 : okM 187 = true := by decide +kernel
theorem ow_187 : okW 187 false = true := by decide +kernel
set_option maxRecDepth 100000 in
theorem ok_188 : okM 188 = true := by decide +kernel
theorem ow_188 : okW 188 false = true := by decide +kernel
set_option maxRecDepth 100000 in
theorem ok_189 : okM 189 = true := by decide +kernel
theorem ow_189 : okW 189 false = true := by decide +kernel
set_option maxRecDepth 100000 in
theorem ok_190 : okM 190 = true := by decide +kernel
theorem ow_190 : okW 190 false = true := by decide +kernel
set_option maxRecDepth 100000 in
theorem ok_191 : okM 191 = true := by decide +kernel
theorem ow_191 : okW 191 false = true := by decide +kernel
set_option maxRecDepth 100000 in
theorem ok_192 : okM 192 = true := by decide +kernel
theorem ow_192 : okW 192 false = true := by decide +kernel
set_option maxRecDepth 100000 in
theorem ok_193 : okM 193 = true := by decide +kernel
theorem ow_193 : okW 193 false = true := by decide +kernel
set_option maxRecDepth 100000 in
theorem ok_194 : okM 194 = true := by decide +kernel
theorem ow_194 : okW 194 false = true := by decide +kernel
set_option maxRecDepth 100000 in
theorem ok_195 : okM 195 = true := by decide +kernel
theorem ow_195 : okW 195 false = true := by decide +kernel
set_option maxRecDepth 100000 in
theorem ok_196 : okM 196 = true := by decide +kernel
theorem ow_196 : okW 196 false = true := by decide +kernel
set_option maxRecDepth 100000 in
theorem ok_197 : okM 197 = true := by decide +kernel
theorem ow_197 : okW 197 false = true := by decide +kernel
set_option maxRecDepth 100000 in
theorem ok_199 : okM 199 = true := by decide +kernel
theorem ow_199 : okW 199 false = true := by decide +kernel
set_option maxRecDepth 100000 in
theorem ok_200 : okM 200 = true := by decide +kernel
theorem ow_200 : okW 200 true = true := by decide +kernel
set_option maxRecDepth 100000 in
theorem ok_201 : okM 201 = true := by decide +kernel
theorem ow_201 : okW 201 false = true := by decide +kernel
set_option maxRecDepth 100000 in
theorem ok_202 : okM 202 = true := by decide +kernel
theorem ow_202 : okW 202 false = true := by decide +kernel
set_option maxRecDepth 100000 in
theorem ok_203 : okM 203 = true := by decide +kernel
theorem ow_203 : okW 203 false = true := by decide +kernel
set_option maxRecDepth 100000 in
theorem ok_204 : okM 204 = true := by decide +kernel
theorem ow_204 : okW 204 false = true := by decide +kernel
set_option maxRecDepth 100000 in
theorem ok_205 : okM 205 = true := by decide +kernel
theorem ow_205 : okW 205 false = true := by decide +kernel
set_option maxRecDepth 100000 in
theorem ok_206 : okM 206 = true := by decide +kernel
theorem ow_206 : okW 206 true = true := by decide +kernel
set_option maxRecDepth 100000 in
theorem ok_207 : okM 207 = true := by decide +kernel
theorem ow_207 : okW 207 true = true := by decide +kernel
set_option maxRecDepth 100000 in
theorem ok_208 : okM 208 = true := by decide +kernel
theorem ow_208 : okW 208 true = true := by decide +kernel
set_option maxRecDepth 100000 in
theorem ok_209 : okM 209 = true := by decide +kernel
theorem ow_209 : okW 209 true = true := by decide +kernel
set_option maxRecDepth 100000 in
theorem ok_210 : okM 210 = true := by decide +kernel
theorem ow_210 : okW 210 true = true := by decide +kernel
