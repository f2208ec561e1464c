theorem dX11_prepare_73 : decode cX11_prepare 73 = .ok (.getfield 33, 3) := by decide +kernel
theorem dX11_prepare_76 : decode cX11_prepare 76 = .ok (.aload_n 0, 1) := by decide +kernel
theorem dX11_prepare_77 : decode cX11_prepare 77 = .ok (.getfield 40, 3) := by decide +kernel
theorem dX11_prepare_80 : decode cX11_prepare 80 = .ok (.invokevirtual 399, 3) := by decide +kernel
theorem dX11_prepare_83 : decode cX11_prepare 83 = .ok (.aload_n 0, 1) := by decide +kernel
theorem dX11_prepare_84 : decode cX11_prepare 84 = .ok (.getfield 72, 3) := by decide +kernel
theorem dX11_prepare_87 : decode cX11_prepare 87 = .ok (.iconst 4, 1) := by decide +kernel
theorem dX11_prepare_88 : decode cX11_prepare 88 = .ok (.if_icmp .ge 23, 3) := by decide +kernel
theorem dX11_prepare_91 : decode cX11_prepare 91 = .ok (.iload_n 1, 1) := by decide +kernel
theorem dX11_prepare_92 : decode cX11_prepare 92 = .ok (.iconst 4, 1) := by decide +kernel
theorem dX11_prepare_93 : decode cX11_prepare 93 = .ok (.if_icmp .lt 18, 3) := by decide +kernel
theorem dX11_prepare_96 : decode cX11_prepare 96 = .ok (.aload_n 0, 1) := by decide +kernel
theorem dX11_prepare_97 : decode cX11_prepare 97 = .ok (.getfield 54, 3) := by decide +kernel
theorem dX11_prepare_100 : decode cX11_prepare 100 = .ok (.aload_n 0, 1) := by decide +kernel
theorem dX11_prepare_101 : decode cX11_prepare 101 = .ok (.getfield 33, 3) := by decide +kernel
theorem dX11_prepare_104 : decode cX11_prepare 104 = .ok (.aload_n 0, 1) := by decide +kernel
theorem dX11_prepare_105 : decode cX11_prepare 105 = .ok (.getfield 40, 3) := by decide +kernel
theorem dX11_prepare_108 : decode cX11_prepare 108 = .ok (.invokevirtual 403, 3) := by decide +kernel
theorem dX11_prepare_111 : decode cX11_prepare 111 = .ok (.aload_n 0, 1) := by decide +kernel
theorem dX11_prepare_112 : decode cX11_prepare 112 = .ok (.getfield 72, 3) := by decide +kernel
theorem dX11_prepare_115 : decode cX11_prepare 115 = .ok (.iconst 5, 1) := by decide +kernel
theorem dX11_prepare_116 : decode cX11_prepare 116 = .ok (.if_icmp .ge 27, 3) := by decide +kernel
theorem dX11_prepare_119 : decode cX11_prepare 119 = .ok (.iload_n 1, 1) := by decide +kernel
theorem dX11_prepare_120 : decode cX11_prepare 120 = .ok (.iconst 5, 1) := by decide +kernel
theorem dX11_prepare_121 : decode cX11_prepare 121 = .ok (.if_icmp .lt 22, 3) := by decide +kernel
theorem dX11_prepare_124 : decode cX11_prepare 124 = .ok (.aload_n 0, 1) := by decide +kernel
theorem dX11_prepare_125 : decode cX11_prepare 125 = .ok (.getfield 61, 3) := by decide +kernel
theorem dX11_prepare_128 : decode cX11_prepare 128 = .ok (.aload_n 0, 1) := by decide +kernel
theorem dX11_prepare_129 : decode cX11_prepare 129 = .ok (.getfield 19, 3) := by decide +kernel
theorem dX11_prepare_132 : decode cX11_prepare 132 = .ok (.aload_n 0, 1) := by decide +kernel
theorem dX11_prepare_133 : decode cX11_prepare 133 = .ok (.getfield 33, 3) := by decide +kernel
theorem dX11_prepare_136 : decode cX11_prepare 136 = .ok (.aload_n 0, 1) := by decide +kernel
theorem dX11_prepare_137 : decode cX11_prepare 137 = .ok (.getfield 54, 3) := by decide +kernel
theorem dX11_prepare_140 : decode cX11_prepare 140 = .ok (.invokevirtual 405, 3) := by decide +kernel
theorem dX11_prepare_143 : decode cX11_prepare 143 = .ok (.aload_n 0, 1) := by decide +kernel
theorem dX11_prepare_144 : decode cX11_prepare 144 = .ok (.aload_n 0, 1) := by decide +kernel
theorem dX11_prepare_145 : decode cX11_prepare 145 = .ok (.getfield 72, 3) := by decide +kernel
theorem dX11_prepare_148 : decode cX11_prepare 148 = .ok (.iload_n 1, 1) := by decide +kernel
theorem dX11_prepare_149 : decode cX11_prepare 149 = .ok (.invokestatic 409, 3) := by decide +kernel
theorem dX11_prepare_152 : decode cX11_prepare 152 = .ok (.putfield 72, 3) := by decide +kernel
theorem dX11_prepare_155 : decode cX11_prepare 155 = .ok (.return_, 1) := by decide +kernel
