set_option maxRecDepth 100000 in
theorem mk_159 : mt_159.all (okEnt md_159) = true := by decide +kernel
theorem ok_159 : mt_159.all (okEnt (mdOf 159)) = true := mk_159
set_option maxRecDepth 100000 in
theorem mk_160 : mt_160.all (okEnt md_160) = true := by decide +kernel
theorem ok_160 : mt_160.all (okEnt (mdOf 160)) = true := mk_160
set_option maxRecDepth 100000 in
theorem mk_161 : mt_161.all (okEnt md_161) = true := by decide +kernel
theorem ok_161 : mt_161.all (okEnt (mdOf 161)) = true := mk_161
set_option maxRecDepth 100000 in
theorem mk_162 : mt_162.all (okEnt md_162) = true := by decide +kernel
theorem ok_162 : mt_162.all (okEnt (mdOf 162)) = true := mk_162
set_option maxRecDepth 100000 in
theorem mk_163 : mt_163.all (okEnt md_163) = true := by decide +kernel
theorem ok_163 : mt_163.all (okEnt (mdOf 163)) = true := mk_163
set_option maxRecDepth 100000 in
theorem mk_164 : mt_164.all (okEnt md_164) = true := by decide +kernel
theorem ok_164 : mt_164.all (okEnt (mdOf 164)) = true := mk_164
set_option maxRecDepth 100000 in
theorem mk_165 : mt_165.all (okEnt md_165) = true := by decide +kernel
theorem ok_165 : mt_165.all (okEnt (mdOf 165)) = true := mk_165
set_option maxRecDepth 100000 in
theorem mk_166 : mt_166.all (okEnt md_166) = true := by decide +kernel
theorem ok_166 : mt_166.all (okEnt (mdOf 166)) = true := mk_166
set_option maxRecDepth 100000 in
theorem mk_167 : mt_167.all (okEnt md_167) = true := by decide +kernel
theorem ok_167 : mt_167.all (okEnt (mdOf 167)) = true := mk_167
set_option maxRecDepth 100000 in
theorem mk_168 : mt_168.all (okEnt md_168) = true := by decide +kernel
theorem ok_168 : mt_168.all (okEnt (mdOf 168)) = true := mk_168
set_option maxRecDepth 100000 in
theorem mk_169 : mt_169.all (okEnt md_169) = true := by decide +kernel
theorem ok_169 : mt_169.all (okEnt (mdOf 169)) = true := mk_169
set_option maxRecDepth 100000 in
theorem mk_170 : mt_170.all (okEnt md_170) = true := by decide +kernel
theorem ok_170 : mt_170.all (okEnt (mdOf 170)) = true := mk_170
set_option maxRecDepth 100000 in
theorem mk_171 : mt_171.all (okEnt md_171) = true := by decide +kernel
theorem ok_171 : mt_171.all (okEnt (mdOf 171)) = true := mk_171
set_option maxRecDepth 100000 in
theorem mk_172 : mt_172.all (okEnt md_172) = true := by decide +kernel
theorem ok_172 : mt_172.all (okEnt (mdOf 172)) = true := mk_172
set_option maxRecDepth 100000 in
theorem mk_173 : mt_173.all (okEnt md_173) = true := by decide +kernel
theorem ok_173 : mt_173.all (okEnt (mdOf 173)) = true := mk_173
set_option maxRecDepth 100000 in
theorem mk_174 : mt_174.all (okEnt md_174) = true := by decide +kernel
theorem ok_174 : mt_174.all (okEnt (mdOf 174)) = true := mk_174
set_option maxRecDepth 100000 in
theorem mk_175 : mt_175.all (okEnt md_175) = true := by decide +kernel
theorem ok_175 : mt_175.all (okEnt (mdOf 175)) = true := mk_175
set_option maxRecDepth 100000 in
theorem mk_176 : mt_176.all (okEnt md_176) = true := by decide +kernel
theorem ok_176 : mt_176.all (okEnt (mdOf 176)) = true := mk_176
set_option maxRecDepth 100000 in
theorem mk_177 : mt_177.all (okEnt md_177) = true := by decide +kernel
theorem ok_177 : mt_177.all (okEnt (mdOf 177)) = true := mk_177
set_option maxRecDepth 100000 in
theorem mk_178 : mt_178.all (okEnt md_178) = true := by decide +kernel
theorem ok_178 : mt_178.all (okEnt (mdOf 178)) = true := mk_178
set_option maxRecDepth 100000 in
theorem mk_179 : mt_179.all (okEnt md_179) = true := by decide +kernel
theorem ok_179 : mt_179.all (okEnt (mdOf 179)) = true := mk_179
set_option maxRecDepth 100000 in
theorem mk_180 : mt_180.all (okEnt md_180) = true := by decide +kernel
theorem ok_180 : mt_180.all (okEnt (mdOf 180)) = true := mk_180
set_option maxRecDepth 100000 in
theorem mk_181 : mt_181.all (okEnt md_181) = true := by decide +kernel
theorem ok_181 : mt_181.all (okEnt (mdOf 181)) = true := mk_181
