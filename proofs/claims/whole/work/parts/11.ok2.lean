set_option maxRecDepth 100000 in
theorem mk_118 : mt_118.all (okEnt md_118) = true := by decide +kernel
theorem ok_118 : mt_118.all (okEnt (mdOf 118)) = true := mk_118
set_option maxRecDepth 100000 in
theorem mk_119 : mt_119.all (okEnt md_119) = true := by decide +kernel
theorem ok_119 : mt_119.all (okEnt (mdOf 119)) = true := mk_119
set_option maxRecDepth 100000 in
theorem mk_120 : mt_120.all (okEnt md_120) = true := by decide +kernel
theorem ok_120 : mt_120.all (okEnt (mdOf 120)) = true := mk_120
set_option maxRecDepth 100000 in
theorem mk_121 : mt_121.all (okEnt md_121) = true := by decide +kernel
theorem ok_121 : mt_121.all (okEnt (mdOf 121)) = true := mk_121
set_option maxRecDepth 100000 in
theorem mk_122 : mt_122.all (okEnt md_122) = true := by decide +kernel
theorem ok_122 : mt_122.all (okEnt (mdOf 122)) = true := mk_122
set_option maxRecDepth 100000 in
theorem mk_123 : mt_123.all (okEnt md_123) = true := by decide +kernel
theorem ok_123 : mt_123.all (okEnt (mdOf 123)) = true := mk_123
set_option maxRecDepth 100000 in
theorem mk_124 : mt_124.all (okEnt md_124) = true := by decide +kernel
theorem ok_124 : mt_124.all (okEnt (mdOf 124)) = true := mk_124
set_option maxRecDepth 100000 in
theorem mk_125 : mt_125.all (okEnt md_125) = true := by decide +kernel
theorem ok_125 : mt_125.all (okEnt (mdOf 125)) = true := mk_125
set_option maxRecDepth 100000 in
theorem mk_126 : mt_126.all (okEnt md_126) = true := by decide +kernel
theorem ok_126 : mt_126.all (okEnt (mdOf 126)) = true := mk_126
set_option maxRecDepth 100000 in
theorem mk_127 : mt_127.all (okEnt md_127) = true := by decide +kernel
theorem ok_127 : mt_127.all (okEnt (mdOf 127)) = true := mk_127
set_option maxRecDepth 100000 in
theorem mk_128 : mt_128.all (okEnt md_128) = true := by decide +kernel
theorem ok_128 : mt_128.all (okEnt (mdOf 128)) = true := mk_128
set_option maxRecDepth 100000 in
theorem mk_129 : mt_129.all (okEnt md_129) = true := by decide +kernel
theorem ok_129 : mt_129.all (okEnt (mdOf 129)) = true := mk_129
set_option maxRecDepth 100000 in
theorem mk_130 : mt_130.all (okEnt md_130) = true := by decide +kernel
theorem ok_130 : mt_130.all (okEnt (mdOf 130)) = true := mk_130
set_option maxRecDepth 100000 in
theorem mk_131 : mt_131.all (okEnt md_131) = true := by decide +kernel
theorem ok_131 : mt_131.all (okEnt (mdOf 131)) = true := mk_131
set_option maxRecDepth 100000 in
theorem mk_132 : mt_132.all (okEnt md_132) = true := by decide +kernel
theorem ok_132 : mt_132.all (okEnt (mdOf 132)) = true := mk_132
set_option maxRecDepth 100000 in
theorem mk_133 : mt_133.all (okEnt md_133) = true := by decide +kernel
theorem ok_133 : mt_133.all (okEnt (mdOf 133)) = true := mk_133
set_option maxRecDepth 100000 in
theorem mk_134 : mt_134.all (okEnt md_134) = true := by decide +kernel
theorem ok_134 : mt_134.all (okEnt (mdOf 134)) = true := mk_134
set_option maxRecDepth 100000 in
theorem mk_135 : mt_135.all (okEnt md_135) = true := by decide +kernel
theorem ok_135 : mt_135.all (okEnt (mdOf 135)) = true := mk_135
set_option maxRecDepth 100000 in
theorem mk_136 : mt_136.all (okEnt md_136) = true := by decide +kernel
theorem ok_136 : mt_136.all (okEnt (mdOf 136)) = true := mk_136
set_option maxRecDepth 100000 in
theorem mk_137 : mt_137.all (okEnt md_137) = true := by decide +kernel
theorem ok_137 : mt_137.all (okEnt (mdOf 137)) = true := mk_137
set_option maxRecDepth 100000 in
theorem mk_138 : mt_138.all (okEnt md_138) = true := by decide +kernel
theorem ok_138 : mt_138.all (okEnt (mdOf 138)) = true := mk_138
set_option maxRecDepth 100000 in
theorem mk_139 : mt_139.all (okEnt md_139) = true := by decide +kernel
theorem ok_139 : mt_139.all (okEnt (mdOf 139)) = true := mk_139
set_option maxRecDepth 100000 in
theorem mk_140 : mt_140.all (okEnt md_140) = true := by decide +kernel
theorem ok_140 : mt_140.all (okEnt (mdOf 140)) = true := mk_140
set_option maxRecDepth 100000 in
theorem mk_141 : mt_141.all (okEnt md_141) = true := by decide +kernel
theorem ok_141 : mt_141.all (okEnt (mdOf 141)) = true := mk_141
set_option maxRecDepth 100000 in
theorem mk_142 : mt_142.all (okEnt md_142) = true := by decide +kernel
theorem ok_142 : mt_142.all (okEnt (mdOf 142)) = true := mk_142
set_option maxRecDepth 100000 in
theorem mk_143 : mt_143.all (okEnt md_143) = true := by decide +kernel
theorem ok_143 : mt_143.all (okEnt (mdOf 143)) = true := mk_143
set_option maxRecDepth 100000 in
theorem mk_144 : mt_144.all (okEnt md_144) = true := by decide +kernel
theorem ok_144 : mt_144.all (okEnt (mdOf 144)) = true := mk_144
set_option maxRecDepth 100000 in
theorem mk_145 : mt_145.all (okEnt md_145) = true := by decide +kernel
theorem ok_145 : mt_145.all (okEnt (mdOf 145)) = true := mk_145
set_option maxRecDepth 100000 in
theorem mk_146 : mt_146.all (okEnt md_146) = true := by decide +kernel
theorem ok_146 : mt_146.all (okEnt (mdOf 146)) = true := mk_146
set_option maxRecDepth 100000 in
theorem mk_147 : mt_147.all (okEnt md_147) = true := by decide +kernel
theorem ok_147 : mt_147.all (okEnt (mdOf 147)) = true := mk_147
set_option maxRecDepth 100000 in
theorem mk_148 : mt_148.all (okEnt md_148) = true := by decide +kernel
theorem ok_148 : mt_148.all (okEnt (mdOf 148)) = true := mk_148
set_option maxRecDepth 100000 in
theorem mk_149 : mt_149.all (okEnt md_149) = true := by decide +kernel
theorem ok_149 : mt_149.all (okEnt (mdOf 149)) = true := mk_149
set_option maxRecDepth 100000 in
theorem mk_150 : mt_150.all (okEnt md_150) = true := by decide +kernel
theorem ok_150 : mt_150.all (okEnt (mdOf 150)) = true := mk_150
set_option maxRecDepth 100000 in
theorem mk_151 : mt_151.all (okEnt md_151) = true := by decide +kernel
theorem ok_151 : mt_151.all (okEnt (mdOf 151)) = true := mk_151
set_option maxRecDepth 100000 in
theorem mk_152 : mt_152.all (okEnt md_152) = true := by decide +kernel
theorem ok_152 : mt_152.all (okEnt (mdOf 152)) = true := mk_152
set_option maxRecDepth 100000 in
theorem mk_153 : mt_153.all (okEnt md_153) = true := by decide +kernel
theorem ok_153 : mt_153.all (okEnt (mdOf 153)) = true := mk_153
set_option maxRecDepth 100000 in
theorem mk_154 : mt_154.all (okEnt md_154) = true := by decide +kernel
theorem ok_154 : mt_154.all (okEnt (mdOf 154)) = true := mk_154
set_option maxRecDepth 100000 in
theorem mk_155 : mt_155.all (okEnt md_155) = true := by decide +kernel
theorem ok_155 : mt_155.all (okEnt (mdOf 155)) = true := mk_155
set_option maxRecDepth 100000 in
theorem mk_156 : mt_156.all (okEnt md_156) = true := by decide +kernel
theorem ok_156 : mt_156.all (okEnt (mdOf 156)) = true := mk_156
set_option maxRecDepth 100000 in
theorem mk_157 : mt_157.all (okEnt md_157) = true := by decide +kernel
theorem ok_157 : mt_157.all (okEnt (mdOf 157)) = true := mk_157
set_option maxRecDepth 100000 in
theorem mk_158 : mt_158.all (okEnt md_158) = true := by decide +kernel
theorem ok_158 : mt_158.all (okEnt (mdOf 158)) = true := mk_158
