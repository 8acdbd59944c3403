/-! The check, method by method. -/
set_option maxRecDepth 100000 in
theorem ok_75 : okM 75 = true := by decide +kernel
theorem ow_75 : okW 75 false = true := by decide +kernel
set_option maxRecDepth 100000 in
theorem ok_76 : okM 76 = true := by decide +kernel
theorem ow_76 : okW 76 false = true := by decide +kernel
set_option maxRecDepth 100000 in
theorem ok_77 : okM 77 = true := by decide +kernel
theorem ow_77 : okW 77 false = true := by decide +kernel
set_option maxRecDepth 100000 in
theorem ok_78 : okM 78 = true := by decide +kernel
theorem ow_78 : okW 78 false = true := by decide +kernel
set_option maxRecDepth 100000 in
theorem ok_79 : okM 79 = true := by decide +kernel
theorem ow_79 : okW 79 false = true := by decide +kernel
set_option maxRecDepth 100000 in
theorem ok_80 : okM 80 = true := by decide +kernel
theorem ow_80 : okW 80 false = true := by decide +kernel
set_option maxRecDepth 100000 in
theorem ok_81 : okM 81 = true := by decide +kernel
theorem ow_81 : okW 81 false = true := by decide +kernel
set_option maxRecDepth 100000 in
theorem ok_82 : okM 82 = true := by decide +kernel
theorem ow_82 : okW 82 false = true := by decide +kernel
set_option maxRecDepth 100000 in
theorem ok_83 : okM 83 = true := by decide +kernel
theorem ow_83 : okW 83 false = true := by decide +kernel
set_option maxRecDepth 100000 in
theorem ok_84 : okM 84 = true := by decide +kernel
theorem ow_84 : okW 84 false = true := by decide +kernel
set_option maxRecDepth 100000 in
theorem ok_85 : okM 85 = true := by decide +kernel
theorem ow_85 : okW 85 false = true := by decide +kernel
set_option maxRecDepth 100000 in
theorem ok_86 : okM 86 = true := by decide +kernel
theorem ow_86 : okW 86 false = true := by decide +kernel
set_option maxRecDepth 100000 in
theorem ok_87 : okM 87 = true := by decide +kernel
theorem ow_87 : okW 87 false = true := by decide +kernel
set_option maxRecDepth 100000 in
theorem ok_88 : okM 88 = true := by decide +kernel
theorem ow_88 : okW 88 false = true := by decide +kernel
set_option maxRecDepth 100000 in
theorem ok_89 : okM 89 = true := by decide +kernel
theorem ow_89 : okW 89 false = true := by decide +kernel
set_option maxRecDepth 100000 in
theorem ok_90 : okM 90 = true := by decide +kernel
theorem ow_90 : okW 90 false = true := by decide +kernel
set_option maxRecDepth 100000 in
theorem ok_91 : okM 91 = true := by decide +kernel
theorem ow_91 : okW 91 false = true := by decide +kernel
set_option maxRecDepth 100000 in
theorem ok_92 : okM 92 = true := by decide +kernel
theorem ow_92 : okW 92 false = true := by decide +kernel
set_option maxRecDepth 100000 in
theorem ok_93 : okM 93 = true := by decide +kernel
theorem ow_93 : okW 93 false = true := by decide +kernel
set_option maxRecDepth 100000 in
theorem ok_94 : okM 94 = true := by decide +kernel
theorem ow_94 : okW 94 false = true := by decide +kernel
set_option maxRecDepth 100000 in
theorem ok_95 : okM 95 = true := by decide +kernel
theorem ow_95 : okW 95 false = true := by decide +kernel
set_option maxRecDepth 100000 in
theorem ok_96 : okM 96 = true := by decide +kernel
theorem ow_96 : okW 96 false = true := by decide +kernel
set_option maxRecDepth 100000 in
theorem ok_97 : okM 97 = true := by decide +kernel
theorem ow_97 : okW 97 false = true := by decide +kernel
set_option maxRecDepth 100000 in
theorem ok_98 : okM 98 = true := by decide +kernel
theorem ow_98 : okW 98 false = true := by decide +kernel
set_option maxRecDepth 100000 in
theorem ok_99 : okM 99 = true := by decide +kernel
theorem ow_99 : okW 99 false = true := by decide +kernel
set_option maxRecDepth 100000 in
theorem ok_100 : okM 100 = true := by decide +kernel
theorem ow_100 : okW 100 false = true := by decide +kernel
set_option maxRecDepth 100000 in
theorem ok_101 : okM 101 = true := by decide +kernel
theorem ow_101 : okW 101 false = true := by decide +kernel
set_option maxRecDepth 100000 in
theorem ok_102 : okM 102 = true := by decide +kernel
theorem ow_102 : okW 102 false = true := by decide +kernel
set_option maxRecDepth 100000 in
theorem ok_103 : okM 103 = true := by decide +kernel
theorem ow_103 : okW 103 false = true := by decide +kernel
set_option maxRecDepth 100000 in
theorem ok_104 : okM 104 = true := by decide +kernel
theorem ow_104 : okW 104 false = true := by decide +kernel
set_option maxRecDepth 100000 in
theorem ok_105 : okM 105 = true := by decide +kernel
theorem ow_105 : okW 105 false = true := by decide +kernel
set_option maxRecDepth 100000 in
theorem ok_106 : okM 106 = true := by decide +kernel
theorem ow_106 : okW 106 false = true := by decide +kernel
set_option maxRecDepth 100000 in
theorem ok_107 : okM 107 = true := by decide +kernel
theorem ow_107 : okW 107 false = true := by decide +kernel
set_option maxRecDepth 100000 in
theorem ok_108 : okM 108 = true := by decide +kernel
theorem ow_108 : okW 108 false = true := by decide +kernel
set_option maxRecDepth 100000 in
theorem ok_109 : okM 109 = true := by decide +kernel
theorem ow_109 : okW 109 false = true := by decide +kernel
set_option maxRecDepth 100000 in
theorem ok_110 : okM 110 = true := by decide +kernel
theorem ow_110 : okW 110 false = true := by decide +kernel
set_option maxRecDepth 100000 in
theorem ok_111 : okM 111 = true := by decide +kernel
theorem ow_111 : okW 111 false = true := by decide +kernel
set_option maxRecDepth 100000 in
theorem ok_112 : okM 112 = true := by decide +kernel
theorem ow_112 : okW 112 false = true := by decide +kernel
set_option maxRecDepth 100000 in
theorem ok_113 : okM 113 = true := by decide +kernel
theorem ow_113 : okW 113 false = true := by decide +kernel
set_option maxRecDepth 100000 in
theorem ok_114 : okM 114 = true := by decide +kernel
theorem ow_114 : okW 114 false = true := by decide +kernel
set_option maxRecDepth 100000 in
theorem ok_115 : okM 115 = true := by decide +kernel
theorem ow_115 : okW 115 false = true := by decide +kernel
set_option maxRecDepth 100000 in
theorem ok_116 : okM 116 = true := by decide +kernel
theorem ow_116 : okW 116 false = true := by decide +kernel
set_option maxRecDepth 100000 in
theorem ok_117 : okM 117 = true := by decide +kernel
theorem ow_117 : okW 117 false = true := by decide +kernel
set_option maxRecDepth 100000 in
theorem ok_118 : okM 118 = true := by decide +kernel
theorem ow_118 : okW 118 false = true := by decide +kernel
set_option maxRecDepth 100000 in
theorem ok_119 : okM 119 = true := by decide +kernel
theorem ow_119 : okW 119 false = true := by decide +kernel
set_option maxRecDepth 100000 in
theorem ok_120 : okM 120 = true := by decide +kernel
theorem ow_120 : okW 120 false = true := by decide +kernel
set_option maxRecDepth 100000 in
theorem ok_121 : okM 121 = true := by decide +kernel
theorem ow_121 : okW 121 false = true := by decide +kernel
set_option maxRecDepth 100000 in
theorem ok_122 : okM 122 = true := by decide +kernel
theorem ow_122 : okW 122 false = true := by decide +kernel
set_option maxRecDepth 100000 in
theorem ok_123 : okM 123 = true := by decide +kernel
theorem ow_123 : okW 123 false = true := by decide +kernel
set_option maxRecDepth 100000 in
theorem ok_124 : okM 124 = true := by decide +kernel
theorem ow_124 : okW 124 false = true := by decide +kernel
set_option maxRecDepth 100000 in
theorem ok_125 : okM 125 = true := by decide +kernel
theorem ow_125 : okW 125 false = true := by decide +kernel
set_option maxRecDepth 100000 in
theorem ok_126 : okM 126 = true := by decide +kernel
theorem ow_126 : okW 126 false = true := by decide +kernel
set_option maxRecDepth 100000 in
theorem ok_127 : okM 127 = true := by decide +kernel
theorem ow_127 : okW 127 false = true := by decide +kernel
set_option maxRecDepth 100000 in
theorem ok_128 : okM 128 = true := by decide +kernel
theorem ow_128 : okW 128 false = true := by decide +kernel
set_option maxRecDepth 100000 in
theorem ok_129 : okM 129 = true := by decide +kernel
theorem ow_129 : okW 129 false = true := by decide +kernel
set_option maxRecDepth 100000 in
theorem ok_130 : okM 130 = true := by decide +kernel
theorem ow_130 : okW 130 false = true := by decide +kernel
set_option maxRecDepth 100000 in
theorem ok_131 : okM 131 = true := by decide +kernel
theorem ow_131 : okW 131 false = true := by decide +kernel
set_option maxRecDepth 100000 in
theorem ok_132 : okM 132 = true := by decide +kernel
theorem ow_132 : okW 132 false = true := by decide +kernel
set_option maxRecDepth 100000 in
theorem ok_133 : okM 133 = true := by decide +kernel
theorem ow_133 : okW 133 false = true := by decide +kernel
set_option maxRecDepth 100000 in
theorem ok_134 : okM 134 = true := by decide +kernel
theorem ow_134 : okW 134 false = true := by decide +kernel
set_option maxRecDepth 100000 in
theorem ok_135 : okM 135 = true := by decide +kernel
theorem ow_135 : okW 135 false = true := by decide +kernel
set_option maxRecDepth 100000 in
theorem ok_136 : okM 136 = true := by decide +kernel
theorem ow_136 : okW 136 false = true := by decide +kernel
set_option maxRecDepth 100000 in
theorem ok_137 : okM 137 = true := by decide +kernel
theorem ow_137 : okW 137 false = true := by decide +kernel
set_option maxRecDepth 100000 in
theorem ok_138 : okM 138 = true := by decide +kernel
theorem ow_138 : okW 138 false = true := by decide +kernel
set_option maxRecDepth 100000 in
theorem ok_139 : okM 139 = true := by decide +kernel
theorem ow_139 : okW 139 false = true := by decide +kernel
set_option maxRecDepth 100000 in
theorem ok_140 : okM 140 = true := by decide +kernel
theorem ow_140 : okW 140 false = true := by decide +kernel
set_option maxRecDepth 100000 in
theorem ok_141 : okM 141 = true := by decide +kernel
theorem ow_141 : okW 141 false = true := by decide +kernel
set_option maxRecDepth 100000 in
theorem ok_142 : okM 142 = true := by decide +kernel
theorem ow_142 : okW 142 false = true := by decide +kernel
set_option maxRecDepth 100000 in
theorem ok_143 : okM 143 = true := by decide +kernel
theorem ow_143 : okW 143 false = true := by decide +kernel
set_option maxRecDepth 100000 in
theorem ok_144 : okM 144 = true := by decide +kernel
theorem ow_144 : okW 144 false = true := by decide +kernel
set_option maxRecDepth 100000 in
theorem ok_145 : okM 145 = true := by decide +kernel
theorem ow_145 : okW 145 false = true := by decide +kernel
set_option maxRecDepth 100000 in
theorem ok_146 : okM 146 = true := by decide +kernel
theorem ow_146 : okW 146 false = true := by decide +kernel
set_option maxRecDepth 100000 in
theorem ok_147 : okM 147 = true := by decide +kernel
theorem ow_147 : okW 147 false = true := by decide +kernel
set_option maxRecDepth 100000 in
theorem ok_148 : okM 148 = true := by decide +kernel
theorem ow_148 : okW 148 false = true := by decide +kernel
set_option maxRecDepth 100000 in
theorem ok_149 : okM 149 = true := by decide +kernel
theorem ow_149 : okW 149 false = true := by decide +kernel
