theorem dL_law_3128 : decode cL_law 3128 = .ok (.lcmp, 1) := dc_lcmp (by decide +kernel)
theorem dL_law_3129 : decode cL_law 3129 = .ok (.ifCond .eq 5, 3) := dc_ifCond_eq (by decide +kernel) (a := 0) (b := 5) (by decide +kernel) (by decide +kernel) (by decide)
theorem dL_law_3132 : decode cL_law 3132 = .ok (.iconst 0, 1) := dc_iconst_0 (by decide +kernel)
theorem dL_law_3133 : decode cL_law 3133 = .ok (.ireturn, 1) := dc_ireturn (by decide +kernel)
theorem dL_law_3134 : decode cL_law 3134 = .ok (.goto 1417, 3) := dc_goto (by decide +kernel) (a := 5) (b := 137) (by decide +kernel) (by decide +kernel) (by decide)
theorem dL_law_3137 : decode cL_law 3137 = .ok (.aload_n 1, 1) := dc_aload_n_1 (by decide +kernel)
theorem dL_law_3138 : decode cL_law 3138 = .ok (.aload_n 0, 1) := dc_aload_n_0 (by decide +kernel)
theorem dL_law_3139 : decode cL_law 3139 = .ok (.iload 4, 2) := dc_iload (by decide +kernel) (a := 4) (by decide +kernel) rfl
theorem dL_law_3141 : decode cL_law 3141 = .ok (.iconst 1, 1) := dc_iconst_1 (by decide +kernel)
theorem dL_law_3142 : decode cL_law 3142 = .ok (.iadd, 1) := dc_iadd (by decide +kernel)
theorem dL_law_3143 : decode cL_law 3143 = .ok (.iaload, 1) := dc_iaload (by decide +kernel)
theorem dL_law_3144 : decode cL_law 3144 = .ok (.ifCond .eq 7, 3) := dc_ifCond_eq (by decide +kernel) (a := 0) (b := 7) (by decide +kernel) (by decide +kernel) (by decide)
theorem dL_law_3147 : decode cL_law 3147 = .ok (.iconst 1, 1) := dc_iconst_1 (by decide +kernel)
theorem dL_law_3148 : decode cL_law 3148 = .ok (.goto 4, 3) := dc_goto (by decide +kernel) (a := 0) (b := 4) (by decide +kernel) (by decide +kernel) (by decide)
theorem dL_law_3151 : decode cL_law 3151 = .ok (.iconst 0, 1) := dc_iconst_0 (by decide +kernel)
theorem dL_law_3152 : decode cL_law 3152 = .ok (.invokevirtual 304, 3) := dc_invokevirtual (by decide +kernel) (a := 1) (b := 48) (by decide +kernel) (by decide +kernel) rfl
theorem dL_law_3155 : decode cL_law 3155 = .ok (.aload_n 2, 1) := dc_aload_n_2 (by decide +kernel)
theorem dL_law_3156 : decode cL_law 3156 = .ok (.aload_n 0, 1) := dc_aload_n_0 (by decide +kernel)
theorem dL_law_3157 : decode cL_law 3157 = .ok (.iload 4, 2) := dc_iload (by decide +kernel) (a := 4) (by decide +kernel) rfl
theorem dL_law_3159 : decode cL_law 3159 = .ok (.iconst 1, 1) := dc_iconst_1 (by decide +kernel)
theorem dL_law_3160 : decode cL_law 3160 = .ok (.iadd, 1) := dc_iadd (by decide +kernel)
theorem dL_law_3161 : decode cL_law 3161 = .ok (.iaload, 1) := dc_iaload (by decide +kernel)
theorem dL_law_3162 : decode cL_law 3162 = .ok (.ifCond .eq 7, 3) := dc_ifCond_eq (by decide +kernel) (a := 0) (b := 7) (by decide +kernel) (by decide +kernel) (by decide)
theorem dL_law_3165 : decode cL_law 3165 = .ok (.iconst 1, 1) := dc_iconst_1 (by decide +kernel)
theorem dL_law_3166 : decode cL_law 3166 = .ok (.goto 4, 3) := dc_goto (by decide +kernel) (a := 0) (b := 4) (by decide +kernel) (by decide +kernel) (by decide)
theorem dL_law_3169 : decode cL_law 3169 = .ok (.iconst 0, 1) := dc_iconst_0 (by decide +kernel)
theorem dL_law_3170 : decode cL_law 3170 = .ok (.invokevirtual 307, 3) := dc_invokevirtual (by decide +kernel) (a := 1) (b := 51) (by decide +kernel) (by decide +kernel) rfl
theorem dL_law_3173 : decode cL_law 3173 = .ok (.if_icmp .eq 1378, 3) := dc_if_icmp_eq (by decide +kernel) (a := 5) (b := 98) (by decide +kernel) (by decide +kernel) (by decide)
theorem dL_law_3176 : decode cL_law 3176 = .ok (.iconst 0, 1) := dc_iconst_0 (by decide +kernel)
theorem dL_law_3177 : decode cL_law 3177 = .ok (.ireturn, 1) := dc_ireturn (by decide +kernel)
theorem dL_law_3178 : decode cL_law 3178 = .ok (.aload_n 1, 1) := dc_aload_n_1 (by decide +kernel)
theorem dL_law_3179 : decode cL_law 3179 = .ok (.aload_n 0, 1) := dc_aload_n_0 (by decide +kernel)
theorem dL_law_3180 : decode cL_law 3180 = .ok (.iload 4, 2) := dc_iload (by decide +kernel) (a := 4) (by decide +kernel) rfl
theorem dL_law_3182 : decode cL_law 3182 = .ok (.iconst 1, 1) := dc_iconst_1 (by decide +kernel)
theorem dL_law_3183 : decode cL_law 3183 = .ok (.iadd, 1) := dc_iadd (by decide +kernel)
theorem dL_law_3184 : decode cL_law 3184 = .ok (.iaload, 1) := dc_iaload (by decide +kernel)
theorem dL_law_3185 : decode cL_law 3185 = .ok (.aload_n 0, 1) := dc_aload_n_0 (by decide +kernel)
theorem dL_law_3186 : decode cL_law 3186 = .ok (.iload 4, 2) := dc_iload (by decide +kernel) (a := 4) (by decide +kernel) rfl
theorem dL_law_3188 : decode cL_law 3188 = .ok (.iconst 2, 1) := dc_iconst_2 (by decide +kernel)
theorem dL_law_3189 : decode cL_law 3189 = .ok (.iadd, 1) := dc_iadd (by decide +kernel)
theorem dL_law_3190 : decode cL_law 3190 = .ok (.iaload, 1) := dc_iaload (by decide +kernel)
theorem dL_law_3191 : decode cL_law 3191 = .ok (.ifCond .eq 7, 3) := dc_ifCond_eq (by decide +kernel) (a := 0) (b := 7) (by decide +kernel) (by decide +kernel) (by decide)
theorem dL_law_3194 : decode cL_law 3194 = .ok (.iconst 1, 1) := dc_iconst_1 (by decide +kernel)
theorem dL_law_3195 : decode cL_law 3195 = .ok (.goto 4, 3) := dc_goto (by decide +kernel) (a := 0) (b := 4) (by decide +kernel) (by decide +kernel) (by decide)
theorem dL_law_3198 : decode cL_law 3198 = .ok (.iconst 0, 1) := dc_iconst_0 (by decide +kernel)
theorem dL_law_3199 : decode cL_law 3199 = .ok (.aload_n 3, 1) := dc_aload_n_3 (by decide +kernel)
theorem dL_law_3200 : decode cL_law 3200 = .ok (.invokestatic 308, 3) := dc_invokestatic (by decide +kernel) (a := 1) (b := 52) (by decide +kernel) (by decide +kernel) rfl
theorem dL_law_3203 : decode cL_law 3203 = .ok (.istore 5, 2) := dc_istore (by decide +kernel) (a := 5) (by decide +kernel) rfl
theorem dL_law_3205 : decode cL_law 3205 = .ok (.aload_n 2, 1) := dc_aload_n_2 (by decide +kernel)
theorem dL_law_3206 : decode cL_law 3206 = .ok (.aload_n 0, 1) := dc_aload_n_0 (by decide +kernel)
theorem dL_law_3207 : decode cL_law 3207 = .ok (.iload 4, 2) := dc_iload (by decide +kernel) (a := 4) (by decide +kernel) rfl
theorem dL_law_3209 : decode cL_law 3209 = .ok (.iconst 1, 1) := dc_iconst_1 (by decide +kernel)
theorem dL_law_3210 : decode cL_law 3210 = .ok (.iadd, 1) := dc_iadd (by decide +kernel)
theorem dL_law_3211 : decode cL_law 3211 = .ok (.iaload, 1) := dc_iaload (by decide +kernel)
theorem dL_law_3212 : decode cL_law 3212 = .ok (.aload_n 0, 1) := dc_aload_n_0 (by decide +kernel)
theorem dL_law_3213 : decode cL_law 3213 = .ok (.iload 4, 2) := dc_iload (by decide +kernel) (a := 4) (by decide +kernel) rfl
theorem dL_law_3215 : decode cL_law 3215 = .ok (.iconst 2, 1) := dc_iconst_2 (by decide +kernel)
theorem dL_law_3216 : decode cL_law 3216 = .ok (.iadd, 1) := dc_iadd (by decide +kernel)
theorem dL_law_3217 : decode cL_law 3217 = .ok (.iaload, 1) := dc_iaload (by decide +kernel)
theorem dL_law_3218 : decode cL_law 3218 = .ok (.ifCond .eq 7, 3) := dc_ifCond_eq (by decide +kernel) (a := 0) (b := 7) (by decide +kernel) (by decide +kernel) (by decide)
theorem dL_law_3221 : decode cL_law 3221 = .ok (.iconst 1, 1) := dc_iconst_1 (by decide +kernel)
theorem dL_law_3222 : decode cL_law 3222 = .ok (.goto 4, 3) := dc_goto (by decide +kernel) (a := 0) (b := 4) (by decide +kernel) (by decide +kernel) (by decide)
theorem dL_law_3225 : decode cL_law 3225 = .ok (.iconst 0, 1) := dc_iconst_0 (by decide +kernel)
theorem dL_law_3226 : decode cL_law 3226 = .ok (.invokevirtual 310, 3) := dc_invokevirtual (by decide +kernel) (a := 1) (b := 54) (by decide +kernel) (by decide +kernel) rfl
theorem dL_law_3229 : decode cL_law 3229 = .ok (.istore 6, 2) := dc_istore (by decide +kernel) (a := 6) (by decide +kernel) rfl
theorem dL_law_3231 : decode cL_law 3231 = .ok (.aload_n 2, 1) := dc_aload_n_2 (by decide +kernel)
theorem dL_law_3232 : decode cL_law 3232 = .ok (.invokevirtual 183, 3) := dc_invokevirtual (by decide +kernel) (a := 0) (b := 183) (by decide +kernel) (by decide +kernel) rfl
theorem dL_law_3235 : decode cL_law 3235 = .ok (.iload 5, 2) := dc_iload (by decide +kernel) (a := 5) (by decide +kernel) rfl
theorem dL_law_3237 : decode cL_law 3237 = .ok (.if_icmp .eq 5, 3) := dc_if_icmp_eq (by decide +kernel) (a := 0) (b := 5) (by decide +kernel) (by decide +kernel) (by decide)
theorem dL_law_3240 : decode cL_law 3240 = .ok (.iconst 0, 1) := dc_iconst_0 (by decide +kernel)
theorem dL_law_3241 : decode cL_law 3241 = .ok (.ireturn, 1) := dc_ireturn (by decide +kernel)
theorem dL_law_3242 : decode cL_law 3242 = .ok (.iload 5, 2) := dc_iload (by decide +kernel) (a := 5) (by decide +kernel) rfl
theorem dL_law_3244 : decode cL_law 3244 = .ok (.ifCond .ne 22, 3) := dc_ifCond_ne (by decide +kernel) (a := 0) (b := 22) (by decide +kernel) (by decide +kernel) (by decide)
theorem dL_law_3247 : decode cL_law 3247 = .ok (.aload_n 3, 1) := dc_aload_n_3 (by decide +kernel)
theorem dL_law_3248 : decode cL_law 3248 = .ok (.iconst 0, 1) := dc_iconst_0 (by decide +kernel)
theorem dL_law_3249 : decode cL_law 3249 = .ok (.laload, 1) := dc_laload (by decide +kernel)
theorem dL_law_3250 : decode cL_law 3250 = .ok (.iload 6, 2) := dc_iload (by decide +kernel) (a := 6) (by decide +kernel) rfl
theorem dL_law_3252 : decode cL_law 3252 = .ok (.ifCond .eq 7, 3) := dc_ifCond_eq (by decide +kernel) (a := 0) (b := 7) (by decide +kernel) (by decide +kernel) (by decide)
theorem dL_law_3255 : decode cL_law 3255 = .ok (.lconst 1, 1) := dc_lconst_1 (by decide +kernel)
theorem dL_law_3256 : decode cL_law 3256 = .ok (.goto 4, 3) := dc_goto (by decide +kernel) (a := 0) (b := 4) (by decide +kernel) (by decide +kernel) (by decide)
theorem dL_law_3259 : decode cL_law 3259 = .ok (.lconst 0, 1) := dc_lconst_0 (by decide +kernel)
theorem dL_law_3260 : decode cL_law 3260 = .ok (.lcmp, 1) := dc_lcmp (by decide +kernel)
theorem dL_law_3261 : decode cL_law 3261 = .ok (.ifCond .eq 5, 3) := dc_ifCond_eq (by decide +kernel) (a := 0) (b := 5) (by decide +kernel) (by decide +kernel) (by decide)
theorem dL_law_3264 : decode cL_law 3264 = .ok (.iconst 0, 1) := dc_iconst_0 (by decide +kernel)
theorem dL_law_3265 : decode cL_law 3265 = .ok (.ireturn, 1) := dc_ireturn (by decide +kernel)
theorem dL_law_3266 : decode cL_law 3266 = .ok (.goto 1285, 3) := dc_goto (by decide +kernel) (a := 5) (b := 5) (by decide +kernel) (by decide +kernel) (by decide)
theorem dL_law_3269 : decode cL_law 3269 = .ok (.aload_n 1, 1) := dc_aload_n_1 (by decide +kernel)
theorem dL_law_3270 : decode cL_law 3270 = .ok (.aload_n 0, 1) := dc_aload_n_0 (by decide +kernel)
theorem dL_law_3271 : decode cL_law 3271 = .ok (.iload 4, 2) := dc_iload (by decide +kernel) (a := 4) (by decide +kernel) rfl
theorem dL_law_3273 : decode cL_law 3273 = .ok (.iconst 1, 1) := dc_iconst_1 (by decide +kernel)
theorem dL_law_3274 : decode cL_law 3274 = .ok (.iadd, 1) := dc_iadd (by decide +kernel)
theorem dL_law_3275 : decode cL_law 3275 = .ok (.iaload, 1) := dc_iaload (by decide +kernel)
theorem dL_law_3276 : decode cL_law 3276 = .ok (.i2l, 1) := dc_i2l (by decide +kernel)
theorem dL_law_3277 : decode cL_law 3277 = .ok (.bipush 32, 2) := dc_bipush (by decide +kernel) (a := 32) (by decide +kernel) (by decide)
theorem dL_law_3279 : decode cL_law 3279 = .ok (.lshl, 1) := dc_lshl (by decide +kernel)
theorem dL_law_3280 : decode cL_law 3280 = .ok (.aload_n 0, 1) := dc_aload_n_0 (by decide +kernel)
theorem dL_law_3281 : decode cL_law 3281 = .ok (.iload 4, 2) := dc_iload (by decide +kernel) (a := 4) (by decide +kernel) rfl
theorem dL_law_3283 : decode cL_law 3283 = .ok (.iconst 2, 1) := dc_iconst_2 (by decide +kernel)
theorem dL_law_3284 : decode cL_law 3284 = .ok (.iadd, 1) := dc_iadd (by decide +kernel)
theorem dL_law_3285 : decode cL_law 3285 = .ok (.iaload, 1) := dc_iaload (by decide +kernel)
theorem dL_law_3286 : decode cL_law 3286 = .ok (.i2l, 1) := dc_i2l (by decide +kernel)
theorem dL_law_3287 : decode cL_law 3287 = .ok (.ldc2_w 261, 3) := dc_ldc2_w (by decide +kernel) (a := 1) (b := 5) (by decide +kernel) (by decide +kernel) rfl
theorem dL_law_3290 : decode cL_law 3290 = .ok (.land, 1) := dc_land (by decide +kernel)
theorem dL_law_3291 : decode cL_law 3291 = .ok (.lor, 1) := dc_lor (by decide +kernel)
theorem dL_law_3292 : decode cL_law 3292 = .ok (.aload_n 3, 1) := dc_aload_n_3 (by decide +kernel)
theorem dL_law_3293 : decode cL_law 3293 = .ok (.invokestatic 311, 3) := dc_invokestatic (by decide +kernel) (a := 1) (b := 55) (by decide +kernel) (by decide +kernel) rfl
theorem dL_law_3296 : decode cL_law 3296 = .ok (.istore 5, 2) := dc_istore (by decide +kernel) (a := 5) (by decide +kernel) rfl
theorem dL_law_3298 : decode cL_law 3298 = .ok (.aload_n 2, 1) := dc_aload_n_2 (by decide +kernel)
theorem dL_law_3299 : decode cL_law 3299 = .ok (.aload_n 0, 1) := dc_aload_n_0 (by decide +kernel)
theorem dL_law_3300 : decode cL_law 3300 = .ok (.iload 4, 2) := dc_iload (by decide +kernel) (a := 4) (by decide +kernel) rfl
theorem dL_law_3302 : decode cL_law 3302 = .ok (.iconst 1, 1) := dc_iconst_1 (by decide +kernel)
theorem dL_law_3303 : decode cL_law 3303 = .ok (.iadd, 1) := dc_iadd (by decide +kernel)
theorem dL_law_3304 : decode cL_law 3304 = .ok (.iaload, 1) := dc_iaload (by decide +kernel)
theorem dL_law_3305 : decode cL_law 3305 = .ok (.i2l, 1) := dc_i2l (by decide +kernel)
theorem dL_law_3306 : decode cL_law 3306 = .ok (.bipush 32, 2) := dc_bipush (by decide +kernel) (a := 32) (by decide +kernel) (by decide)
theorem dL_law_3308 : decode cL_law 3308 = .ok (.lshl, 1) := dc_lshl (by decide +kernel)
theorem dL_law_3309 : decode cL_law 3309 = .ok (.aload_n 0, 1) := dc_aload_n_0 (by decide +kernel)
theorem dL_law_3310 : decode cL_law 3310 = .ok (.iload 4, 2) := dc_iload (by decide +kernel) (a := 4) (by decide +kernel) rfl
theorem dL_law_3312 : decode cL_law 3312 = .ok (.iconst 2, 1) := dc_iconst_2 (by decide +kernel)
theorem dL_law_3313 : decode cL_law 3313 = .ok (.iadd, 1) := dc_iadd (by decide +kernel)
theorem dL_law_3314 : decode cL_law 3314 = .ok (.iaload, 1) := dc_iaload (by decide +kernel)
theorem dL_law_3315 : decode cL_law 3315 = .ok (.i2l, 1) := dc_i2l (by decide +kernel)
theorem dL_law_3316 : decode cL_law 3316 = .ok (.ldc2_w 261, 3) := dc_ldc2_w (by decide +kernel) (a := 1) (b := 5) (by decide +kernel) (by decide +kernel) rfl
theorem dL_law_3319 : decode cL_law 3319 = .ok (.land, 1) := dc_land (by decide +kernel)
theorem dL_law_3320 : decode cL_law 3320 = .ok (.lor, 1) := dc_lor (by decide +kernel)
theorem dL_law_3321 : decode cL_law 3321 = .ok (.invokevirtual 314, 3) := dc_invokevirtual (by decide +kernel) (a := 1) (b := 58) (by decide +kernel) (by decide +kernel) rfl
theorem dL_law_3324 : decode cL_law 3324 = .ok (.istore 6, 2) := dc_istore (by decide +kernel) (a := 6) (by decide +kernel) rfl
theorem dL_law_3326 : decode cL_law 3326 = .ok (.aload_n 2, 1) := dc_aload_n_2 (by decide +kernel)
theorem dL_law_3327 : decode cL_law 3327 = .ok (.invokevirtual 183, 3) := dc_invokevirtual (by decide +kernel) (a := 0) (b := 183) (by decide +kernel) (by decide +kernel) rfl
theorem dL_law_3330 : decode cL_law 3330 = .ok (.iload 5, 2) := dc_iload (by decide +kernel) (a := 5) (by decide +kernel) rfl
theorem dL_law_3332 : decode cL_law 3332 = .ok (.if_icmp .eq 5, 3) := dc_if_icmp_eq (by decide +kernel) (a := 0) (b := 5) (by decide +kernel) (by decide +kernel) (by decide)
theorem dL_law_3335 : decode cL_law 3335 = .ok (.iconst 0, 1) := dc_iconst_0 (by decide +kernel)
theorem dL_law_3336 : decode cL_law 3336 = .ok (.ireturn, 1) := dc_ireturn (by decide +kernel)
theorem dL_law_3337 : decode cL_law 3337 = .ok (.iload 5, 2) := dc_iload (by decide +kernel) (a := 5) (by decide +kernel) rfl
theorem dL_law_3339 : decode cL_law 3339 = .ok (.ifCond .ne 15, 3) := dc_ifCond_ne (by decide +kernel) (a := 0) (b := 15) (by decide +kernel) (by decide +kernel) (by decide)
theorem dL_law_3342 : decode cL_law 3342 = .ok (.aload_n 3, 1) := dc_aload_n_3 (by decide +kernel)
theorem dL_law_3343 : decode cL_law 3343 = .ok (.iconst 0, 1) := dc_iconst_0 (by decide +kernel)
theorem dL_law_3344 : decode cL_law 3344 = .ok (.laload, 1) := dc_laload (by decide +kernel)
theorem dL_law_3345 : decode cL_law 3345 = .ok (.iload 6, 2) := dc_iload (by decide +kernel) (a := 6) (by decide +kernel) rfl
theorem dL_law_3347 : decode cL_law 3347 = .ok (.i2l, 1) := dc_i2l (by decide +kernel)
theorem dL_law_3348 : decode cL_law 3348 = .ok (.lcmp, 1) := dc_lcmp (by decide +kernel)
theorem dL_law_3349 : decode cL_law 3349 = .ok (.ifCond .eq 5, 3) := dc_ifCond_eq (by decide +kernel) (a := 0) (b := 5) (by decide +kernel) (by decide +kernel) (by decide)
theorem dL_law_3352 : decode cL_law 3352 = .ok (.iconst 0, 1) := dc_iconst_0 (by decide +kernel)
theorem dL_law_3353 : decode cL_law 3353 = .ok (.ireturn, 1) := dc_ireturn (by decide +kernel)
theorem dL_law_3354 : decode cL_law 3354 = .ok (.goto 1197, 3) := dc_goto (by decide +kernel) (a := 4) (b := 173) (by decide +kernel) (by decide +kernel) (by decide)
theorem dL_law_3357 : decode cL_law 3357 = .ok (.aload_n 1, 1) := dc_aload_n_1 (by decide +kernel)
theorem dL_law_3358 : decode cL_law 3358 = .ok (.aload_n 0, 1) := dc_aload_n_0 (by decide +kernel)
theorem dL_law_3359 : decode cL_law 3359 = .ok (.iload 4, 2) := dc_iload (by decide +kernel) (a := 4) (by decide +kernel) rfl
theorem dL_law_3361 : decode cL_law 3361 = .ok (.iconst 1, 1) := dc_iconst_1 (by decide +kernel)
theorem dL_law_3362 : decode cL_law 3362 = .ok (.iadd, 1) := dc_iadd (by decide +kernel)
theorem dL_law_3363 : decode cL_law 3363 = .ok (.iaload, 1) := dc_iaload (by decide +kernel)
theorem dL_law_3364 : decode cL_law 3364 = .ok (.aload_n 0, 1) := dc_aload_n_0 (by decide +kernel)
theorem dL_law_3365 : decode cL_law 3365 = .ok (.iload 4, 2) := dc_iload (by decide +kernel) (a := 4) (by decide +kernel) rfl
theorem dL_law_3367 : decode cL_law 3367 = .ok (.iconst 2, 1) := dc_iconst_2 (by decide +kernel)
theorem dL_law_3368 : decode cL_law 3368 = .ok (.iadd, 1) := dc_iadd (by decide +kernel)
theorem dL_law_3369 : decode cL_law 3369 = .ok (.iaload, 1) := dc_iaload (by decide +kernel)
theorem dL_law_3370 : decode cL_law 3370 = .ok (.ifCond .eq 7, 3) := dc_ifCond_eq (by decide +kernel) (a := 0) (b := 7) (by decide +kernel) (by decide +kernel) (by decide)
theorem dL_law_3373 : decode cL_law 3373 = .ok (.iconst 1, 1) := dc_iconst_1 (by decide +kernel)
theorem dL_law_3374 : decode cL_law 3374 = .ok (.goto 4, 3) := dc_goto (by decide +kernel) (a := 0) (b := 4) (by decide +kernel) (by decide +kernel) (by decide)
theorem dL_law_3377 : decode cL_law 3377 = .ok (.iconst 0, 1) := dc_iconst_0 (by decide +kernel)
theorem dL_law_3378 : decode cL_law 3378 = .ok (.aload_n 3, 1) := dc_aload_n_3 (by decide +kernel)
theorem dL_law_3379 : decode cL_law 3379 = .ok (.invokestatic 315, 3) := dc_invokestatic (by decide +kernel) (a := 1) (b := 59) (by decide +kernel) (by decide +kernel) rfl
theorem dL_law_3382 : decode cL_law 3382 = .ok (.istore 5, 2) := dc_istore (by decide +kernel) (a := 5) (by decide +kernel) rfl
theorem dL_law_3384 : decode cL_law 3384 = .ok (.aload_n 2, 1) := dc_aload_n_2 (by decide +kernel)
theorem dL_law_3385 : decode cL_law 3385 = .ok (.aload_n 0, 1) := dc_aload_n_0 (by decide +kernel)
theorem dL_law_3386 : decode cL_law 3386 = .ok (.iload 4, 2) := dc_iload (by decide +kernel) (a := 4) (by decide +kernel) rfl
theorem dL_law_3388 : decode cL_law 3388 = .ok (.iconst 1, 1) := dc_iconst_1 (by decide +kernel)
theorem dL_law_3389 : decode cL_law 3389 = .ok (.iadd, 1) := dc_iadd (by decide +kernel)
theorem dL_law_3390 : decode cL_law 3390 = .ok (.iaload, 1) := dc_iaload (by decide +kernel)
theorem dL_law_3391 : decode cL_law 3391 = .ok (.aload_n 0, 1) := dc_aload_n_0 (by decide +kernel)
theorem dL_law_3392 : decode cL_law 3392 = .ok (.iload 4, 2) := dc_iload (by decide +kernel) (a := 4) (by decide +kernel) rfl
theorem dL_law_3394 : decode cL_law 3394 = .ok (.iconst 2, 1) := dc_iconst_2 (by decide +kernel)
theorem dL_law_3395 : decode cL_law 3395 = .ok (.iadd, 1) := dc_iadd (by decide +kernel)
theorem dL_law_3396 : decode cL_law 3396 = .ok (.iaload, 1) := dc_iaload (by decide +kernel)
theorem dL_law_3397 : decode cL_law 3397 = .ok (.ifCond .eq 7, 3) := dc_ifCond_eq (by decide +kernel) (a := 0) (b := 7) (by decide +kernel) (by decide +kernel) (by decide)
theorem dL_law_3400 : decode cL_law 3400 = .ok (.iconst 1, 1) := dc_iconst_1 (by decide +kernel)
theorem dL_law_3401 : decode cL_law 3401 = .ok (.goto 4, 3) := dc_goto (by decide +kernel) (a := 0) (b := 4) (by decide +kernel) (by decide +kernel) (by decide)
theorem dL_law_3404 : decode cL_law 3404 = .ok (.iconst 0, 1) := dc_iconst_0 (by decide +kernel)
theorem dL_law_3405 : decode cL_law 3405 = .ok (.invokevirtual 317, 3) := dc_invokevirtual (by decide +kernel) (a := 1) (b := 61) (by decide +kernel) (by decide +kernel) rfl
theorem dL_law_3408 : decode cL_law 3408 = .ok (.istore 6, 2) := dc_istore (by decide +kernel) (a := 6) (by decide +kernel) rfl
theorem dL_law_3410 : decode cL_law 3410 = .ok (.aload_n 2, 1) := dc_aload_n_2 (by decide +kernel)
theorem dL_law_3411 : decode cL_law 3411 = .ok (.invokevirtual 183, 3) := dc_invokevirtual (by decide +kernel) (a := 0) (b := 183) (by decide +kernel) (by decide +kernel) rfl
theorem dL_law_3414 : decode cL_law 3414 = .ok (.iload 5, 2) := dc_iload (by decide +kernel) (a := 5) (by decide +kernel) rfl
theorem dL_law_3416 : decode cL_law 3416 = .ok (.if_icmp .eq 5, 3) := dc_if_icmp_eq (by decide +kernel) (a := 0) (b := 5) (by decide +kernel) (by decide +kernel) (by decide)
theorem dL_law_3419 : decode cL_law 3419 = .ok (.iconst 0, 1) := dc_iconst_0 (by decide +kernel)
theorem dL_law_3420 : decode cL_law 3420 = .ok (.ireturn, 1) := dc_ireturn (by decide +kernel)
theorem dL_law_3421 : decode cL_law 3421 = .ok (.iload 5, 2) := dc_iload (by decide +kernel) (a := 5) (by decide +kernel) rfl
theorem dL_law_3423 : decode cL_law 3423 = .ok (.ifCond .ne 15, 3) := dc_ifCond_ne (by decide +kernel) (a := 0) (b := 15) (by decide +kernel) (by decide +kernel) (by decide)
theorem dL_law_3426 : decode cL_law 3426 = .ok (.aload_n 3, 1) := dc_aload_n_3 (by decide +kernel)
theorem dL_law_3427 : decode cL_law 3427 = .ok (.iconst 0, 1) := dc_iconst_0 (by decide +kernel)
theorem dL_law_3428 : decode cL_law 3428 = .ok (.laload, 1) := dc_laload (by decide +kernel)
theorem dL_law_3429 : decode cL_law 3429 = .ok (.iload 6, 2) := dc_iload (by decide +kernel) (a := 6) (by decide +kernel) rfl
theorem dL_law_3431 : decode cL_law 3431 = .ok (.i2l, 1) := dc_i2l (by decide +kernel)
theorem dL_law_3432 : decode cL_law 3432 = .ok (.lcmp, 1) := dc_lcmp (by decide +kernel)
theorem dL_law_3433 : decode cL_law 3433 = .ok (.ifCond .eq 5, 3) := dc_ifCond_eq (by decide +kernel) (a := 0) (b := 5) (by decide +kernel) (by decide +kernel) (by decide)
theorem dL_law_3436 : decode cL_law 3436 = .ok (.iconst 0, 1) := dc_iconst_0 (by decide +kernel)
theorem dL_law_3437 : decode cL_law 3437 = .ok (.ireturn, 1) := dc_ireturn (by decide +kernel)
theorem dL_law_3438 : decode cL_law 3438 = .ok (.goto 1113, 3) := dc_goto (by decide +kernel) (a := 4) (b := 89) (by decide +kernel) (by decide +kernel) (by decide)
theorem dL_law_3441 : decode cL_law 3441 = .ok (.aload_n 1, 1) := dc_aload_n_1 (by decide +kernel)
theorem dL_law_3442 : decode cL_law 3442 = .ok (.aload_n 0, 1) := dc_aload_n_0 (by decide +kernel)
theorem dL_law_3443 : decode cL_law 3443 = .ok (.iload 4, 2) := dc_iload (by decide +kernel) (a := 4) (by decide +kernel) rfl
theorem dL_law_3445 : decode cL_law 3445 = .ok (.iconst 1, 1) := dc_iconst_1 (by decide +kernel)
theorem dL_law_3446 : decode cL_law 3446 = .ok (.iadd, 1) := dc_iadd (by decide +kernel)
theorem dL_law_3447 : decode cL_law 3447 = .ok (.iaload, 1) := dc_iaload (by decide +kernel)
theorem dL_law_3448 : decode cL_law 3448 = .ok (.i2l, 1) := dc_i2l (by decide +kernel)
theorem dL_law_3449 : decode cL_law 3449 = .ok (.bipush 32, 2) := dc_bipush (by decide +kernel) (a := 32) (by decide +kernel) (by decide)
theorem dL_law_3451 : decode cL_law 3451 = .ok (.lshl, 1) := dc_lshl (by decide +kernel)
theorem dL_law_3452 : decode cL_law 3452 = .ok (.aload_n 0, 1) := dc_aload_n_0 (by decide +kernel)
theorem dL_law_3453 : decode cL_law 3453 = .ok (.iload 4, 2) := dc_iload (by decide +kernel) (a := 4) (by decide +kernel) rfl
theorem dL_law_3455 : decode cL_law 3455 = .ok (.iconst 2, 1) := dc_iconst_2 (by decide +kernel)
theorem dL_law_3456 : decode cL_law 3456 = .ok (.iadd, 1) := dc_iadd (by decide +kernel)
theorem dL_law_3457 : decode cL_law 3457 = .ok (.iaload, 1) := dc_iaload (by decide +kernel)
theorem dL_law_3458 : decode cL_law 3458 = .ok (.i2l, 1) := dc_i2l (by decide +kernel)
theorem dL_law_3459 : decode cL_law 3459 = .ok (.ldc2_w 261, 3) := dc_ldc2_w (by decide +kernel) (a := 1) (b := 5) (by decide +kernel) (by decide +kernel) rfl
theorem dL_law_3462 : decode cL_law 3462 = .ok (.land, 1) := dc_land (by decide +kernel)
theorem dL_law_3463 : decode cL_law 3463 = .ok (.lor, 1) := dc_lor (by decide +kernel)
theorem dL_law_3464 : decode cL_law 3464 = .ok (.aload_n 0, 1) := dc_aload_n_0 (by decide +kernel)
theorem dL_law_3465 : decode cL_law 3465 = .ok (.iload 4, 2) := dc_iload (by decide +kernel) (a := 4) (by decide +kernel) rfl
theorem dL_law_3467 : decode cL_law 3467 = .ok (.iconst 3, 1) := dc_iconst_3 (by decide +kernel)
theorem dL_law_3468 : decode cL_law 3468 = .ok (.iadd, 1) := dc_iadd (by decide +kernel)
theorem dL_law_3469 : decode cL_law 3469 = .ok (.iaload, 1) := dc_iaload (by decide +kernel)
theorem dL_law_3470 : decode cL_law 3470 = .ok (.ifCond .eq 7, 3) := dc_ifCond_eq (by decide +kernel) (a := 0) (b := 7) (by decide +kernel) (by decide +kernel) (by decide)
theorem dL_law_3473 : decode cL_law 3473 = .ok (.iconst 1, 1) := dc_iconst_1 (by decide +kernel)
theorem dL_law_3474 : decode cL_law 3474 = .ok (.goto 4, 3) := dc_goto (by decide +kernel) (a := 0) (b := 4) (by decide +kernel) (by decide +kernel) (by decide)
theorem dL_law_3477 : decode cL_law 3477 = .ok (.iconst 0, 1) := dc_iconst_0 (by decide +kernel)
theorem dL_law_3478 : decode cL_law 3478 = .ok (.aload_n 0, 1) := dc_aload_n_0 (by decide +kernel)
theorem dL_law_3479 : decode cL_law 3479 = .ok (.iload 4, 2) := dc_iload (by decide +kernel) (a := 4) (by decide +kernel) rfl
theorem dL_law_3481 : decode cL_law 3481 = .ok (.iconst 4, 1) := dc_iconst_4 (by decide +kernel)
theorem dL_law_3482 : decode cL_law 3482 = .ok (.iadd, 1) := dc_iadd (by decide +kernel)
theorem dL_law_3483 : decode cL_law 3483 = .ok (.iaload, 1) := dc_iaload (by decide +kernel)
theorem dL_law_3484 : decode cL_law 3484 = .ok (.aload_n 0, 1) := dc_aload_n_0 (by decide +kernel)
theorem dL_law_3485 : decode cL_law 3485 = .ok (.iload 4, 2) := dc_iload (by decide +kernel) (a := 4) (by decide +kernel) rfl
theorem dL_law_3487 : decode cL_law 3487 = .ok (.iconst 5, 1) := dc_iconst_5 (by decide +kernel)
theorem dL_law_3488 : decode cL_law 3488 = .ok (.iadd, 1) := dc_iadd (by decide +kernel)
theorem dL_law_3489 : decode cL_law 3489 = .ok (.iaload, 1) := dc_iaload (by decide +kernel)
theorem dL_law_3490 : decode cL_law 3490 = .ok (.aload_n 3, 1) := dc_aload_n_3 (by decide +kernel)
theorem dL_law_3491 : decode cL_law 3491 = .ok (.invokestatic 318, 3) := dc_invokestatic (by decide +kernel) (a := 1) (b := 62) (by decide +kernel) (by decide +kernel) rfl
theorem dL_law_3494 : decode cL_law 3494 = .ok (.istore 5, 2) := dc_istore (by decide +kernel) (a := 5) (by decide +kernel) rfl
theorem dL_law_3496 : decode cL_law 3496 = .ok (.aload_n 2, 1) := dc_aload_n_2 (by decide +kernel)
theorem dL_law_3497 : decode cL_law 3497 = .ok (.aload_n 0, 1) := dc_aload_n_0 (by decide +kernel)
theorem dL_law_3498 : decode cL_law 3498 = .ok (.iload 4, 2) := dc_iload (by decide +kernel) (a := 4) (by decide +kernel) rfl
theorem dL_law_3500 : decode cL_law 3500 = .ok (.iconst 1, 1) := dc_iconst_1 (by decide +kernel)
theorem dL_law_3501 : decode cL_law 3501 = .ok (.iadd, 1) := dc_iadd (by decide +kernel)
theorem dL_law_3502 : decode cL_law 3502 = .ok (.iaload, 1) := dc_iaload (by decide +kernel)
theorem dL_law_3503 : decode cL_law 3503 = .ok (.i2l, 1) := dc_i2l (by decide +kernel)
theorem dL_law_3504 : decode cL_law 3504 = .ok (.bipush 32, 2) := dc_bipush (by decide +kernel) (a := 32) (by decide +kernel) (by decide)
theorem dL_law_3506 : decode cL_law 3506 = .ok (.lshl, 1) := dc_lshl (by decide +kernel)
theorem dL_law_3507 : decode cL_law 3507 = .ok (.aload_n 0, 1) := dc_aload_n_0 (by decide +kernel)
theorem dL_law_3508 : decode cL_law 3508 = .ok (.iload 4, 2) := dc_iload (by decide +kernel) (a := 4) (by decide +kernel) rfl
theorem dL_law_3510 : decode cL_law 3510 = .ok (.iconst 2, 1) := dc_iconst_2 (by decide +kernel)
theorem dL_law_3511 : decode cL_law 3511 = .ok (.iadd, 1) := dc_iadd (by decide +kernel)
theorem dL_law_3512 : decode cL_law 3512 = .ok (.iaload, 1) := dc_iaload (by decide +kernel)
theorem dL_law_3513 : decode cL_law 3513 = .ok (.i2l, 1) := dc_i2l (by decide +kernel)
theorem dL_law_3514 : decode cL_law 3514 = .ok (.ldc2_w 261, 3) := dc_ldc2_w (by decide +kernel) (a := 1) (b := 5) (by decide +kernel) (by decide +kernel) rfl
theorem dL_law_3517 : decode cL_law 3517 = .ok (.land, 1) := dc_land (by decide +kernel)
theorem dL_law_3518 : decode cL_law 3518 = .ok (.lor, 1) := dc_lor (by decide +kernel)
theorem dL_law_3519 : decode cL_law 3519 = .ok (.aload_n 0, 1) := dc_aload_n_0 (by decide +kernel)
theorem dL_law_3520 : decode cL_law 3520 = .ok (.iload 4, 2) := dc_iload (by decide +kernel) (a := 4) (by decide +kernel) rfl
theorem dL_law_3522 : decode cL_law 3522 = .ok (.iconst 3, 1) := dc_iconst_3 (by decide +kernel)
theorem dL_law_3523 : decode cL_law 3523 = .ok (.iadd, 1) := dc_iadd (by decide +kernel)
theorem dL_law_3524 : decode cL_law 3524 = .ok (.iaload, 1) := dc_iaload (by decide +kernel)
theorem dL_law_3525 : decode cL_law 3525 = .ok (.ifCond .eq 7, 3) := dc_ifCond_eq (by decide +kernel) (a := 0) (b := 7) (by decide +kernel) (by decide +kernel) (by decide)
theorem dL_law_3528 : decode cL_law 3528 = .ok (.iconst 1, 1) := dc_iconst_1 (by decide +kernel)
theorem dL_law_3529 : decode cL_law 3529 = .ok (.goto 4, 3) := dc_goto (by decide +kernel) (a := 0) (b := 4) (by decide +kernel) (by decide +kernel) (by decide)
theorem dL_law_3532 : decode cL_law 3532 = .ok (.iconst 0, 1) := dc_iconst_0 (by decide +kernel)
theorem dL_law_3533 : decode cL_law 3533 = .ok (.aload_n 0, 1) := dc_aload_n_0 (by decide +kernel)
theorem dL_law_3534 : decode cL_law 3534 = .ok (.iload 4, 2) := dc_iload (by decide +kernel) (a := 4) (by decide +kernel) rfl
theorem dL_law_3536 : decode cL_law 3536 = .ok (.iconst 4, 1) := dc_iconst_4 (by decide +kernel)
theorem dL_law_3537 : decode cL_law 3537 = .ok (.iadd, 1) := dc_iadd (by decide +kernel)
theorem dL_law_3538 : decode cL_law 3538 = .ok (.iaload, 1) := dc_iaload (by decide +kernel)
theorem dL_law_3539 : decode cL_law 3539 = .ok (.aload_n 0, 1) := dc_aload_n_0 (by decide +kernel)
theorem dL_law_3540 : decode cL_law 3540 = .ok (.iload 4, 2) := dc_iload (by decide +kernel) (a := 4) (by decide +kernel) rfl
theorem dL_law_3542 : decode cL_law 3542 = .ok (.iconst 5, 1) := dc_iconst_5 (by decide +kernel)
theorem dL_law_3543 : decode cL_law 3543 = .ok (.iadd, 1) := dc_iadd (by decide +kernel)
theorem dL_law_3544 : decode cL_law 3544 = .ok (.iaload, 1) := dc_iaload (by decide +kernel)
theorem dL_law_3545 : decode cL_law 3545 = .ok (.invokevirtual 321, 3) := dc_invokevirtual (by decide +kernel) (a := 1) (b := 65) (by decide +kernel) (by decide +kernel) rfl
theorem dL_law_3548 : decode cL_law 3548 = .ok (.istore 6, 2) := dc_istore (by decide +kernel) (a := 6) (by decide +kernel) rfl
theorem dL_law_3550 : decode cL_law 3550 = .ok (.aload_n 2, 1) := dc_aload_n_2 (by decide +kernel)
theorem dL_law_3551 : decode cL_law 3551 = .ok (.invokevirtual 183, 3) := dc_invokevirtual (by decide +kernel) (a := 0) (b := 183) (by decide +kernel) (by decide +kernel) rfl
theorem dL_law_3554 : decode cL_law 3554 = .ok (.iload 5, 2) := dc_iload (by decide +kernel) (a := 5) (by decide +kernel) rfl
theorem dL_law_3556 : decode cL_law 3556 = .ok (.if_icmp .eq 5, 3) := dc_if_icmp_eq (by decide +kernel) (a := 0) (b := 5) (by decide +kernel) (by decide +kernel) (by decide)
theorem dL_law_3559 : decode cL_law 3559 = .ok (.iconst 0, 1) := dc_iconst_0 (by decide +kernel)
theorem dL_law_3560 : decode cL_law 3560 = .ok (.ireturn, 1) := dc_ireturn (by decide +kernel)
theorem dL_law_3561 : decode cL_law 3561 = .ok (.iload 5, 2) := dc_iload (by decide +kernel) (a := 5) (by decide +kernel) rfl
theorem dL_law_3563 : decode cL_law 3563 = .ok (.ifCond .ne 15, 3) := dc_ifCond_ne (by decide +kernel) (a := 0) (b := 15) (by decide +kernel) (by decide +kernel) (by decide)
theorem dL_law_3566 : decode cL_law 3566 = .ok (.aload_n 3, 1) := dc_aload_n_3 (by decide +kernel)
theorem dL_law_3567 : decode cL_law 3567 = .ok (.iconst 0, 1) := dc_iconst_0 (by decide +kernel)
theorem dL_law_3568 : decode cL_law 3568 = .ok (.laload, 1) := dc_laload (by decide +kernel)
theorem dL_law_3569 : decode cL_law 3569 = .ok (.iload 6, 2) := dc_iload (by decide +kernel) (a := 6) (by decide +kernel) rfl
theorem dL_law_3571 : decode cL_law 3571 = .ok (.i2l, 1) := dc_i2l (by decide +kernel)
theorem dL_law_3572 : decode cL_law 3572 = .ok (.lcmp, 1) := dc_lcmp (by decide +kernel)
theorem dL_law_3573 : decode cL_law 3573 = .ok (.ifCond .eq 5, 3) := dc_ifCond_eq (by decide +kernel) (a := 0) (b := 5) (by decide +kernel) (by decide +kernel) (by decide)
theorem dL_law_3576 : decode cL_law 3576 = .ok (.iconst 0, 1) := dc_iconst_0 (by decide +kernel)
theorem dL_law_3577 : decode cL_law 3577 = .ok (.ireturn, 1) := dc_ireturn (by decide +kernel)
theorem dL_law_3578 : decode cL_law 3578 = .ok (.goto 973, 3) := dc_goto (by decide +kernel) (a := 3) (b := 205) (by decide +kernel) (by decide +kernel) (by decide)
theorem dL_law_3581 : decode cL_law 3581 = .ok (.aload_n 1, 1) := dc_aload_n_1 (by decide +kernel)
theorem dL_law_3582 : decode cL_law 3582 = .ok (.aload_n 0, 1) := dc_aload_n_0 (by decide +kernel)
theorem dL_law_3583 : decode cL_law 3583 = .ok (.iload 4, 2) := dc_iload (by decide +kernel) (a := 4) (by decide +kernel) rfl
theorem dL_law_3585 : decode cL_law 3585 = .ok (.iconst 1, 1) := dc_iconst_1 (by decide +kernel)
theorem dL_law_3586 : decode cL_law 3586 = .ok (.iadd, 1) := dc_iadd (by decide +kernel)
theorem dL_law_3587 : decode cL_law 3587 = .ok (.iaload, 1) := dc_iaload (by decide +kernel)
theorem dL_law_3588 : decode cL_law 3588 = .ok (.aload_n 0, 1) := dc_aload_n_0 (by decide +kernel)
theorem dL_law_3589 : decode cL_law 3589 = .ok (.iload 4, 2) := dc_iload (by decide +kernel) (a := 4) (by decide +kernel) rfl
theorem dL_law_3591 : decode cL_law 3591 = .ok (.iconst 2, 1) := dc_iconst_2 (by decide +kernel)
theorem dL_law_3592 : decode cL_law 3592 = .ok (.iadd, 1) := dc_iadd (by decide +kernel)
theorem dL_law_3593 : decode cL_law 3593 = .ok (.iaload, 1) := dc_iaload (by decide +kernel)
theorem dL_law_3594 : decode cL_law 3594 = .ok (.aload_n 0, 1) := dc_aload_n_0 (by decide +kernel)
theorem dL_law_3595 : decode cL_law 3595 = .ok (.iload 4, 2) := dc_iload (by decide +kernel) (a := 4) (by decide +kernel) rfl
theorem dL_law_3597 : decode cL_law 3597 = .ok (.iconst 3, 1) := dc_iconst_3 (by decide +kernel)
theorem dL_law_3598 : decode cL_law 3598 = .ok (.iadd, 1) := dc_iadd (by decide +kernel)
theorem dL_law_3599 : decode cL_law 3599 = .ok (.iaload, 1) := dc_iaload (by decide +kernel)
theorem dL_law_3600 : decode cL_law 3600 = .ok (.ifCond .eq 7, 3) := dc_ifCond_eq (by decide +kernel) (a := 0) (b := 7) (by decide +kernel) (by decide +kernel) (by decide)
theorem dL_law_3603 : decode cL_law 3603 = .ok (.iconst 1, 1) := dc_iconst_1 (by decide +kernel)
theorem dL_law_3604 : decode cL_law 3604 = .ok (.goto 4, 3) := dc_goto (by decide +kernel) (a := 0) (b := 4) (by decide +kernel) (by decide +kernel) (by decide)
theorem dL_law_3607 : decode cL_law 3607 = .ok (.iconst 0, 1) := dc_iconst_0 (by decide +kernel)
theorem dL_law_3608 : decode cL_law 3608 = .ok (.aload_n 0, 1) := dc_aload_n_0 (by decide +kernel)
theorem dL_law_3609 : decode cL_law 3609 = .ok (.iload 4, 2) := dc_iload (by decide +kernel) (a := 4) (by decide +kernel) rfl
theorem dL_law_3611 : decode cL_law 3611 = .ok (.iconst 4, 1) := dc_iconst_4 (by decide +kernel)
theorem dL_law_3612 : decode cL_law 3612 = .ok (.iadd, 1) := dc_iadd (by decide +kernel)
theorem dL_law_3613 : decode cL_law 3613 = .ok (.iaload, 1) := dc_iaload (by decide +kernel)
theorem dL_law_3614 : decode cL_law 3614 = .ok (.ifCond .eq 7, 3) := dc_ifCond_eq (by decide +kernel) (a := 0) (b := 7) (by decide +kernel) (by decide +kernel) (by decide)
theorem dL_law_3617 : decode cL_law 3617 = .ok (.iconst 1, 1) := dc_iconst_1 (by decide +kernel)
theorem dL_law_3618 : decode cL_law 3618 = .ok (.goto 4, 3) := dc_goto (by decide +kernel) (a := 0) (b := 4) (by decide +kernel) (by decide +kernel) (by decide)
theorem dL_law_3621 : decode cL_law 3621 = .ok (.iconst 0, 1) := dc_iconst_0 (by decide +kernel)
theorem dL_law_3622 : decode cL_law 3622 = .ok (.aload_n 3, 1) := dc_aload_n_3 (by decide +kernel)
theorem dL_law_3623 : decode cL_law 3623 = .ok (.invokestatic 322, 3) := dc_invokestatic (by decide +kernel) (a := 1) (b := 66) (by decide +kernel) (by decide +kernel) rfl
theorem dL_law_3626 : decode cL_law 3626 = .ok (.istore 5, 2) := dc_istore (by decide +kernel) (a := 5) (by decide +kernel) rfl
theorem dL_law_3628 : decode cL_law 3628 = .ok (.aload_n 2, 1) := dc_aload_n_2 (by decide +kernel)
theorem dL_law_3629 : decode cL_law 3629 = .ok (.aload_n 0, 1) := dc_aload_n_0 (by decide +kernel)
theorem dL_law_3630 : decode cL_law 3630 = .ok (.iload 4, 2) := dc_iload (by decide +kernel) (a := 4) (by decide +kernel) rfl
theorem dL_law_3632 : decode cL_law 3632 = .ok (.iconst 1, 1) := dc_iconst_1 (by decide +kernel)
theorem dL_law_3633 : decode cL_law 3633 = .ok (.iadd, 1) := dc_iadd (by decide +kernel)
theorem dL_law_3634 : decode cL_law 3634 = .ok (.iaload, 1) := dc_iaload (by decide +kernel)
theorem dL_law_3635 : decode cL_law 3635 = .ok (.aload_n 0, 1) := dc_aload_n_0 (by decide +kernel)
theorem dL_law_3636 : decode cL_law 3636 = .ok (.iload 4, 2) := dc_iload (by decide +kernel) (a := 4) (by decide +kernel) rfl
theorem dL_law_3638 : decode cL_law 3638 = .ok (.iconst 2, 1) := dc_iconst_2 (by decide +kernel)
theorem dL_law_3639 : decode cL_law 3639 = .ok (.iadd, 1) := dc_iadd (by decide +kernel)
theorem dL_law_3640 : decode cL_law 3640 = .ok (.iaload, 1) := dc_iaload (by decide +kernel)
theorem dL_law_3641 : decode cL_law 3641 = .ok (.aload_n 0, 1) := dc_aload_n_0 (by decide +kernel)
theorem dL_law_3642 : decode cL_law 3642 = .ok (.iload 4, 2) := dc_iload (by decide +kernel) (a := 4) (by decide +kernel) rfl
theorem dL_law_3644 : decode cL_law 3644 = .ok (.iconst 3, 1) := dc_iconst_3 (by decide +kernel)
theorem dL_law_3645 : decode cL_law 3645 = .ok (.iadd, 1) := dc_iadd (by decide +kernel)
theorem dL_law_3646 : decode cL_law 3646 = .ok (.iaload, 1) := dc_iaload (by decide +kernel)
theorem dL_law_3647 : decode cL_law 3647 = .ok (.ifCond .eq 7, 3) := dc_ifCond_eq (by decide +kernel) (a := 0) (b := 7) (by decide +kernel) (by decide +kernel) (by decide)
theorem dL_law_3650 : decode cL_law 3650 = .ok (.iconst 1, 1) := dc_iconst_1 (by decide +kernel)
theorem dL_law_3651 : decode cL_law 3651 = .ok (.goto 4, 3) := dc_goto (by decide +kernel) (a := 0) (b := 4) (by decide +kernel) (by decide +kernel) (by decide)
theorem dL_law_3654 : decode cL_law 3654 = .ok (.iconst 0, 1) := dc_iconst_0 (by decide +kernel)
theorem dL_law_3655 : decode cL_law 3655 = .ok (.aload_n 0, 1) := dc_aload_n_0 (by decide +kernel)
theorem dL_law_3656 : decode cL_law 3656 = .ok (.iload 4, 2) := dc_iload (by decide +kernel) (a := 4) (by decide +kernel) rfl
theorem dL_law_3658 : decode cL_law 3658 = .ok (.iconst 4, 1) := dc_iconst_4 (by decide +kernel)
theorem dL_law_3659 : decode cL_law 3659 = .ok (.iadd, 1) := dc_iadd (by decide +kernel)
theorem dL_law_3660 : decode cL_law 3660 = .ok (.iaload, 1) := dc_iaload (by decide +kernel)
theorem dL_law_3661 : decode cL_law 3661 = .ok (.ifCond .eq 7, 3) := dc_ifCond_eq (by decide +kernel) (a := 0) (b := 7) (by decide +kernel) (by decide +kernel) (by decide)
theorem dL_law_3664 : decode cL_law 3664 = .ok (.iconst 1, 1) := dc_iconst_1 (by decide +kernel)
theorem dL_law_3665 : decode cL_law 3665 = .ok (.goto 4, 3) := dc_goto (by decide +kernel) (a := 0) (b := 4) (by decide +kernel) (by decide +kernel) (by decide)
theorem dL_law_3668 : decode cL_law 3668 = .ok (.iconst 0, 1) := dc_iconst_0 (by decide +kernel)
theorem dL_law_3669 : decode cL_law 3669 = .ok (.invokevirtual 325, 3) := dc_invokevirtual (by decide +kernel) (a := 1) (b := 69) (by decide +kernel) (by decide +kernel) rfl
theorem dL_law_3672 : decode cL_law 3672 = .ok (.istore 6, 2) := dc_istore (by decide +kernel) (a := 6) (by decide +kernel) rfl
theorem dL_law_3674 : decode cL_law 3674 = .ok (.aload_n 2, 1) := dc_aload_n_2 (by decide +kernel)
theorem dL_law_3675 : decode cL_law 3675 = .ok (.invokevirtual 183, 3) := dc_invokevirtual (by decide +kernel) (a := 0) (b := 183) (by decide +kernel) (by decide +kernel) rfl
theorem dL_law_3678 : decode cL_law 3678 = .ok (.iload 5, 2) := dc_iload (by decide +kernel) (a := 5) (by decide +kernel) rfl
theorem dL_law_3680 : decode cL_law 3680 = .ok (.if_icmp .eq 5, 3) := dc_if_icmp_eq (by decide +kernel) (a := 0) (b := 5) (by decide +kernel) (by decide +kernel) (by decide)
theorem dL_law_3683 : decode cL_law 3683 = .ok (.iconst 0, 1) := dc_iconst_0 (by decide +kernel)
theorem dL_law_3684 : decode cL_law 3684 = .ok (.ireturn, 1) := dc_ireturn (by decide +kernel)
theorem dL_law_3685 : decode cL_law 3685 = .ok (.iload 5, 2) := dc_iload (by decide +kernel) (a := 5) (by decide +kernel) rfl
theorem dL_law_3687 : decode cL_law 3687 = .ok (.ifCond .ne 15, 3) := dc_ifCond_ne (by decide +kernel) (a := 0) (b := 15) (by decide +kernel) (by decide +kernel) (by decide)
theorem dL_law_3690 : decode cL_law 3690 = .ok (.aload_n 3, 1) := dc_aload_n_3 (by decide +kernel)
theorem dL_law_3691 : decode cL_law 3691 = .ok (.iconst 0, 1) := dc_iconst_0 (by decide +kernel)
theorem dL_law_3692 : decode cL_law 3692 = .ok (.laload, 1) := dc_laload (by decide +kernel)
theorem dL_law_3693 : decode cL_law 3693 = .ok (.iload 6, 2) := dc_iload (by decide +kernel) (a := 6) (by decide +kernel) rfl
theorem dL_law_3695 : decode cL_law 3695 = .ok (.i2l, 1) := dc_i2l (by decide +kernel)
theorem dL_law_3696 : decode cL_law 3696 = .ok (.lcmp, 1) := dc_lcmp (by decide +kernel)
theorem dL_law_3697 : decode cL_law 3697 = .ok (.ifCond .eq 5, 3) := dc_ifCond_eq (by decide +kernel) (a := 0) (b := 5) (by decide +kernel) (by decide +kernel) (by decide)
theorem dL_law_3700 : decode cL_law 3700 = .ok (.iconst 0, 1) := dc_iconst_0 (by decide +kernel)
theorem dL_law_3701 : decode cL_law 3701 = .ok (.ireturn, 1) := dc_ireturn (by decide +kernel)
theorem dL_law_3702 : decode cL_law 3702 = .ok (.goto 849, 3) := dc_goto (by decide +kernel) (a := 3) (b := 81) (by decide +kernel) (by decide +kernel) (by decide)
theorem dL_law_3705 : decode cL_law 3705 = .ok (.aload_n 1, 1) := dc_aload_n_1 (by decide +kernel)
theorem dL_law_3706 : decode cL_law 3706 = .ok (.aload_n 0, 1) := dc_aload_n_0 (by decide +kernel)
theorem dL_law_3707 : decode cL_law 3707 = .ok (.iload 4, 2) := dc_iload (by decide +kernel) (a := 4) (by decide +kernel) rfl
theorem dL_law_3709 : decode cL_law 3709 = .ok (.iconst 1, 1) := dc_iconst_1 (by decide +kernel)
theorem dL_law_3710 : decode cL_law 3710 = .ok (.iadd, 1) := dc_iadd (by decide +kernel)
theorem dL_law_3711 : decode cL_law 3711 = .ok (.iaload, 1) := dc_iaload (by decide +kernel)
theorem dL_law_3712 : decode cL_law 3712 = .ok (.aload_n 0, 1) := dc_aload_n_0 (by decide +kernel)
theorem dL_law_3713 : decode cL_law 3713 = .ok (.iload 4, 2) := dc_iload (by decide +kernel) (a := 4) (by decide +kernel) rfl
theorem dL_law_3715 : decode cL_law 3715 = .ok (.iconst 2, 1) := dc_iconst_2 (by decide +kernel)
theorem dL_law_3716 : decode cL_law 3716 = .ok (.iadd, 1) := dc_iadd (by decide +kernel)
theorem dL_law_3717 : decode cL_law 3717 = .ok (.iaload, 1) := dc_iaload (by decide +kernel)
theorem dL_law_3718 : decode cL_law 3718 = .ok (.aload_n 0, 1) := dc_aload_n_0 (by decide +kernel)
theorem dL_law_3719 : decode cL_law 3719 = .ok (.iload 4, 2) := dc_iload (by decide +kernel) (a := 4) (by decide +kernel) rfl
theorem dL_law_3721 : decode cL_law 3721 = .ok (.iconst 3, 1) := dc_iconst_3 (by decide +kernel)
theorem dL_law_3722 : decode cL_law 3722 = .ok (.iadd, 1) := dc_iadd (by decide +kernel)
theorem dL_law_3723 : decode cL_law 3723 = .ok (.iaload, 1) := dc_iaload (by decide +kernel)
theorem dL_law_3724 : decode cL_law 3724 = .ok (.aload_n 0, 1) := dc_aload_n_0 (by decide +kernel)
theorem dL_law_3725 : decode cL_law 3725 = .ok (.iload 4, 2) := dc_iload (by decide +kernel) (a := 4) (by decide +kernel) rfl
theorem dL_law_3727 : decode cL_law 3727 = .ok (.iconst 4, 1) := dc_iconst_4 (by decide +kernel)
theorem dL_law_3728 : decode cL_law 3728 = .ok (.iadd, 1) := dc_iadd (by decide +kernel)
theorem dL_law_3729 : decode cL_law 3729 = .ok (.iaload, 1) := dc_iaload (by decide +kernel)
theorem dL_law_3730 : decode cL_law 3730 = .ok (.aload_n 0, 1) := dc_aload_n_0 (by decide +kernel)
theorem dL_law_3731 : decode cL_law 3731 = .ok (.iload 4, 2) := dc_iload (by decide +kernel) (a := 4) (by decide +kernel) rfl
theorem dL_law_3733 : decode cL_law 3733 = .ok (.iconst 5, 1) := dc_iconst_5 (by decide +kernel)
theorem dL_law_3734 : decode cL_law 3734 = .ok (.iadd, 1) := dc_iadd (by decide +kernel)
theorem dL_law_3735 : decode cL_law 3735 = .ok (.iaload, 1) := dc_iaload (by decide +kernel)
theorem dL_law_3736 : decode cL_law 3736 = .ok (.ifCond .eq 7, 3) := dc_ifCond_eq (by decide +kernel) (a := 0) (b := 7) (by decide +kernel) (by decide +kernel) (by decide)
theorem dL_law_3739 : decode cL_law 3739 = .ok (.iconst 1, 1) := dc_iconst_1 (by decide +kernel)
theorem dL_law_3740 : decode cL_law 3740 = .ok (.goto 4, 3) := dc_goto (by decide +kernel) (a := 0) (b := 4) (by decide +kernel) (by decide +kernel) (by decide)
theorem dL_law_3743 : decode cL_law 3743 = .ok (.iconst 0, 1) := dc_iconst_0 (by decide +kernel)
theorem dL_law_3744 : decode cL_law 3744 = .ok (.aload_n 3, 1) := dc_aload_n_3 (by decide +kernel)
theorem dL_law_3745 : decode cL_law 3745 = .ok (.invokestatic 326, 3) := dc_invokestatic (by decide +kernel) (a := 1) (b := 70) (by decide +kernel) (by decide +kernel) rfl
theorem dL_law_3748 : decode cL_law 3748 = .ok (.istore 5, 2) := dc_istore (by decide +kernel) (a := 5) (by decide +kernel) rfl
theorem dL_law_3750 : decode cL_law 3750 = .ok (.aload_n 2, 1) := dc_aload_n_2 (by decide +kernel)
theorem dL_law_3751 : decode cL_law 3751 = .ok (.aload_n 0, 1) := dc_aload_n_0 (by decide +kernel)
theorem dL_law_3752 : decode cL_law 3752 = .ok (.iload 4, 2) := dc_iload (by decide +kernel) (a := 4) (by decide +kernel) rfl
theorem dL_law_3754 : decode cL_law 3754 = .ok (.iconst 1, 1) := dc_iconst_1 (by decide +kernel)
theorem dL_law_3755 : decode cL_law 3755 = .ok (.iadd, 1) := dc_iadd (by decide +kernel)
theorem dL_law_3756 : decode cL_law 3756 = .ok (.iaload, 1) := dc_iaload (by decide +kernel)
theorem dL_law_3757 : decode cL_law 3757 = .ok (.aload_n 0, 1) := dc_aload_n_0 (by decide +kernel)
theorem dL_law_3758 : decode cL_law 3758 = .ok (.iload 4, 2) := dc_iload (by decide +kernel) (a := 4) (by decide +kernel) rfl
theorem dL_law_3760 : decode cL_law 3760 = .ok (.iconst 2, 1) := dc_iconst_2 (by decide +kernel)
theorem dL_law_3761 : decode cL_law 3761 = .ok (.iadd, 1) := dc_iadd (by decide +kernel)
theorem dL_law_3762 : decode cL_law 3762 = .ok (.iaload, 1) := dc_iaload (by decide +kernel)
theorem dL_law_3763 : decode cL_law 3763 = .ok (.aload_n 0, 1) := dc_aload_n_0 (by decide +kernel)
theorem dL_law_3764 : decode cL_law 3764 = .ok (.iload 4, 2) := dc_iload (by decide +kernel) (a := 4) (by decide +kernel) rfl
theorem dL_law_3766 : decode cL_law 3766 = .ok (.iconst 3, 1) := dc_iconst_3 (by decide +kernel)
theorem dL_law_3767 : decode cL_law 3767 = .ok (.iadd, 1) := dc_iadd (by decide +kernel)
theorem dL_law_3768 : decode cL_law 3768 = .ok (.iaload, 1) := dc_iaload (by decide +kernel)
theorem dL_law_3769 : decode cL_law 3769 = .ok (.aload_n 0, 1) := dc_aload_n_0 (by decide +kernel)
theorem dL_law_3770 : decode cL_law 3770 = .ok (.iload 4, 2) := dc_iload (by decide +kernel) (a := 4) (by decide +kernel) rfl
theorem dL_law_3772 : decode cL_law 3772 = .ok (.iconst 4, 1) := dc_iconst_4 (by decide +kernel)
theorem dL_law_3773 : decode cL_law 3773 = .ok (.iadd, 1) := dc_iadd (by decide +kernel)
theorem dL_law_3774 : decode cL_law 3774 = .ok (.iaload, 1) := dc_iaload (by decide +kernel)
theorem dL_law_3775 : decode cL_law 3775 = .ok (.aload_n 0, 1) := dc_aload_n_0 (by decide +kernel)
theorem dL_law_3776 : decode cL_law 3776 = .ok (.iload 4, 2) := dc_iload (by decide +kernel) (a := 4) (by decide +kernel) rfl
theorem dL_law_3778 : decode cL_law 3778 = .ok (.iconst 5, 1) := dc_iconst_5 (by decide +kernel)
theorem dL_law_3779 : decode cL_law 3779 = .ok (.iadd, 1) := dc_iadd (by decide +kernel)
theorem dL_law_3780 : decode cL_law 3780 = .ok (.iaload, 1) := dc_iaload (by decide +kernel)
theorem dL_law_3781 : decode cL_law 3781 = .ok (.ifCond .eq 7, 3) := dc_ifCond_eq (by decide +kernel) (a := 0) (b := 7) (by decide +kernel) (by decide +kernel) (by decide)
theorem dL_law_3784 : decode cL_law 3784 = .ok (.iconst 1, 1) := dc_iconst_1 (by decide +kernel)
theorem dL_law_3785 : decode cL_law 3785 = .ok (.goto 4, 3) := dc_goto (by decide +kernel) (a := 0) (b := 4) (by decide +kernel) (by decide +kernel) (by decide)
theorem dL_law_3788 : decode cL_law 3788 = .ok (.iconst 0, 1) := dc_iconst_0 (by decide +kernel)
theorem dL_law_3789 : decode cL_law 3789 = .ok (.invokevirtual 329, 3) := dc_invokevirtual (by decide +kernel) (a := 1) (b := 73) (by decide +kernel) (by decide +kernel) rfl
theorem dL_law_3792 : decode cL_law 3792 = .ok (.istore 6, 2) := dc_istore (by decide +kernel) (a := 6) (by decide +kernel) rfl
theorem dL_law_3794 : decode cL_law 3794 = .ok (.aload_n 2, 1) := dc_aload_n_2 (by decide +kernel)
theorem dL_law_3795 : decode cL_law 3795 = .ok (.invokevirtual 183, 3) := dc_invokevirtual (by decide +kernel) (a := 0) (b := 183) (by decide +kernel) (by decide +kernel) rfl
theorem dL_law_3798 : decode cL_law 3798 = .ok (.iload 5, 2) := dc_iload (by decide +kernel) (a := 5) (by decide +kernel) rfl
theorem dL_law_3800 : decode cL_law 3800 = .ok (.if_icmp .eq 5, 3) := dc_if_icmp_eq (by decide +kernel) (a := 0) (b := 5) (by decide +kernel) (by decide +kernel) (by decide)
theorem dL_law_3803 : decode cL_law 3803 = .ok (.iconst 0, 1) := dc_iconst_0 (by decide +kernel)
theorem dL_law_3804 : decode cL_law 3804 = .ok (.ireturn, 1) := dc_ireturn (by decide +kernel)
theorem dL_law_3805 : decode cL_law 3805 = .ok (.iload 5, 2) := dc_iload (by decide +kernel) (a := 5) (by decide +kernel) rfl
theorem dL_law_3807 : decode cL_law 3807 = .ok (.ifCond .ne 15, 3) := dc_ifCond_ne (by decide +kernel) (a := 0) (b := 15) (by decide +kernel) (by decide +kernel) (by decide)
theorem dL_law_3810 : decode cL_law 3810 = .ok (.aload_n 3, 1) := dc_aload_n_3 (by decide +kernel)
theorem dL_law_3811 : decode cL_law 3811 = .ok (.iconst 0, 1) := dc_iconst_0 (by decide +kernel)
theorem dL_law_3812 : decode cL_law 3812 = .ok (.laload, 1) := dc_laload (by decide +kernel)
theorem dL_law_3813 : decode cL_law 3813 = .ok (.iload 6, 2) := dc_iload (by decide +kernel) (a := 6) (by decide +kernel) rfl
theorem dL_law_3815 : decode cL_law 3815 = .ok (.i2l, 1) := dc_i2l (by decide +kernel)
theorem dL_law_3816 : decode cL_law 3816 = .ok (.lcmp, 1) := dc_lcmp (by decide +kernel)
theorem dL_law_3817 : decode cL_law 3817 = .ok (.ifCond .eq 5, 3) := dc_ifCond_eq (by decide +kernel) (a := 0) (b := 5) (by decide +kernel) (by decide +kernel) (by decide)
theorem dL_law_3820 : decode cL_law 3820 = .ok (.iconst 0, 1) := dc_iconst_0 (by decide +kernel)
theorem dL_law_3821 : decode cL_law 3821 = .ok (.ireturn, 1) := dc_ireturn (by decide +kernel)
theorem dL_law_3822 : decode cL_law 3822 = .ok (.goto 729, 3) := dc_goto (by decide +kernel) (a := 2) (b := 217) (by decide +kernel) (by decide +kernel) (by decide)
theorem dL_law_3825 : decode cL_law 3825 = .ok (.aload_n 1, 1) := dc_aload_n_1 (by decide +kernel)
theorem dL_law_3826 : decode cL_law 3826 = .ok (.aload_n 0, 1) := dc_aload_n_0 (by decide +kernel)
theorem dL_law_3827 : decode cL_law 3827 = .ok (.iload 4, 2) := dc_iload (by decide +kernel) (a := 4) (by decide +kernel) rfl
theorem dL_law_3829 : decode cL_law 3829 = .ok (.iconst 1, 1) := dc_iconst_1 (by decide +kernel)
theorem dL_law_3830 : decode cL_law 3830 = .ok (.iadd, 1) := dc_iadd (by decide +kernel)
theorem dL_law_3831 : decode cL_law 3831 = .ok (.iaload, 1) := dc_iaload (by decide +kernel)
theorem dL_law_3832 : decode cL_law 3832 = .ok (.aload_n 0, 1) := dc_aload_n_0 (by decide +kernel)
theorem dL_law_3833 : decode cL_law 3833 = .ok (.iload 4, 2) := dc_iload (by decide +kernel) (a := 4) (by decide +kernel) rfl
theorem dL_law_3835 : decode cL_law 3835 = .ok (.iconst 2, 1) := dc_iconst_2 (by decide +kernel)
theorem dL_law_3836 : decode cL_law 3836 = .ok (.iadd, 1) := dc_iadd (by decide +kernel)
theorem dL_law_3837 : decode cL_law 3837 = .ok (.iaload, 1) := dc_iaload (by decide +kernel)
theorem dL_law_3838 : decode cL_law 3838 = .ok (.aload_n 0, 1) := dc_aload_n_0 (by decide +kernel)
theorem dL_law_3839 : decode cL_law 3839 = .ok (.iload 4, 2) := dc_iload (by decide +kernel) (a := 4) (by decide +kernel) rfl
theorem dL_law_3841 : decode cL_law 3841 = .ok (.iconst 3, 1) := dc_iconst_3 (by decide +kernel)
theorem dL_law_3842 : decode cL_law 3842 = .ok (.iadd, 1) := dc_iadd (by decide +kernel)
theorem dL_law_3843 : decode cL_law 3843 = .ok (.iaload, 1) := dc_iaload (by decide +kernel)
theorem dL_law_3844 : decode cL_law 3844 = .ok (.aload_n 0, 1) := dc_aload_n_0 (by decide +kernel)
theorem dL_law_3845 : decode cL_law 3845 = .ok (.iload 4, 2) := dc_iload (by decide +kernel) (a := 4) (by decide +kernel) rfl
theorem dL_law_3847 : decode cL_law 3847 = .ok (.iconst 4, 1) := dc_iconst_4 (by decide +kernel)
theorem dL_law_3848 : decode cL_law 3848 = .ok (.iadd, 1) := dc_iadd (by decide +kernel)
theorem dL_law_3849 : decode cL_law 3849 = .ok (.iaload, 1) := dc_iaload (by decide +kernel)
theorem dL_law_3850 : decode cL_law 3850 = .ok (.aload_n 0, 1) := dc_aload_n_0 (by decide +kernel)
theorem dL_law_3851 : decode cL_law 3851 = .ok (.iload 4, 2) := dc_iload (by decide +kernel) (a := 4) (by decide +kernel) rfl
theorem dL_law_3853 : decode cL_law 3853 = .ok (.iconst 5, 1) := dc_iconst_5 (by decide +kernel)
theorem dL_law_3854 : decode cL_law 3854 = .ok (.iadd, 1) := dc_iadd (by decide +kernel)
theorem dL_law_3855 : decode cL_law 3855 = .ok (.iaload, 1) := dc_iaload (by decide +kernel)
theorem dL_law_3856 : decode cL_law 3856 = .ok (.invokevirtual 330, 3) := dc_invokevirtual (by decide +kernel) (a := 1) (b := 74) (by decide +kernel) (by decide +kernel) rfl
theorem dL_law_3859 : decode cL_law 3859 = .ok (.aload_n 2, 1) := dc_aload_n_2 (by decide +kernel)
theorem dL_law_3860 : decode cL_law 3860 = .ok (.aload_n 0, 1) := dc_aload_n_0 (by decide +kernel)
theorem dL_law_3861 : decode cL_law 3861 = .ok (.iload 4, 2) := dc_iload (by decide +kernel) (a := 4) (by decide +kernel) rfl
theorem dL_law_3863 : decode cL_law 3863 = .ok (.iconst 1, 1) := dc_iconst_1 (by decide +kernel)
theorem dL_law_3864 : decode cL_law 3864 = .ok (.iadd, 1) := dc_iadd (by decide +kernel)
theorem dL_law_3865 : decode cL_law 3865 = .ok (.iaload, 1) := dc_iaload (by decide +kernel)
theorem dL_law_3866 : decode cL_law 3866 = .ok (.aload_n 0, 1) := dc_aload_n_0 (by decide +kernel)
theorem dL_law_3867 : decode cL_law 3867 = .ok (.iload 4, 2) := dc_iload (by decide +kernel) (a := 4) (by decide +kernel) rfl
theorem dL_law_3869 : decode cL_law 3869 = .ok (.iconst 2, 1) := dc_iconst_2 (by decide +kernel)
theorem dL_law_3870 : decode cL_law 3870 = .ok (.iadd, 1) := dc_iadd (by decide +kernel)
theorem dL_law_3871 : decode cL_law 3871 = .ok (.iaload, 1) := dc_iaload (by decide +kernel)
theorem dL_law_3872 : decode cL_law 3872 = .ok (.aload_n 0, 1) := dc_aload_n_0 (by decide +kernel)
theorem dL_law_3873 : decode cL_law 3873 = .ok (.iload 4, 2) := dc_iload (by decide +kernel) (a := 4) (by decide +kernel) rfl
theorem dL_law_3875 : decode cL_law 3875 = .ok (.iconst 3, 1) := dc_iconst_3 (by decide +kernel)
theorem dL_law_3876 : decode cL_law 3876 = .ok (.iadd, 1) := dc_iadd (by decide +kernel)
theorem dL_law_3877 : decode cL_law 3877 = .ok (.iaload, 1) := dc_iaload (by decide +kernel)
theorem dL_law_3878 : decode cL_law 3878 = .ok (.aload_n 0, 1) := dc_aload_n_0 (by decide +kernel)
theorem dL_law_3879 : decode cL_law 3879 = .ok (.iload 4, 2) := dc_iload (by decide +kernel) (a := 4) (by decide +kernel) rfl
theorem dL_law_3881 : decode cL_law 3881 = .ok (.iconst 4, 1) := dc_iconst_4 (by decide +kernel)
theorem dL_law_3882 : decode cL_law 3882 = .ok (.iadd, 1) := dc_iadd (by decide +kernel)
theorem dL_law_3883 : decode cL_law 3883 = .ok (.iaload, 1) := dc_iaload (by decide +kernel)
theorem dL_law_3884 : decode cL_law 3884 = .ok (.aload_n 0, 1) := dc_aload_n_0 (by decide +kernel)
theorem dL_law_3885 : decode cL_law 3885 = .ok (.iload 4, 2) := dc_iload (by decide +kernel) (a := 4) (by decide +kernel) rfl
theorem dL_law_3887 : decode cL_law 3887 = .ok (.iconst 5, 1) := dc_iconst_5 (by decide +kernel)
theorem dL_law_3888 : decode cL_law 3888 = .ok (.iadd, 1) := dc_iadd (by decide +kernel)
theorem dL_law_3889 : decode cL_law 3889 = .ok (.iaload, 1) := dc_iaload (by decide +kernel)
theorem dL_law_3890 : decode cL_law 3890 = .ok (.invokevirtual 334, 3) := dc_invokevirtual (by decide +kernel) (a := 1) (b := 78) (by decide +kernel) (by decide +kernel) rfl
theorem dL_law_3893 : decode cL_law 3893 = .ok (.if_icmp .eq 658, 3) := dc_if_icmp_eq (by decide +kernel) (a := 2) (b := 146) (by decide +kernel) (by decide +kernel) (by decide)
theorem dL_law_3896 : decode cL_law 3896 = .ok (.iconst 0, 1) := dc_iconst_0 (by decide +kernel)
theorem dL_law_3897 : decode cL_law 3897 = .ok (.ireturn, 1) := dc_ireturn (by decide +kernel)
theorem dL_law_3898 : decode cL_law 3898 = .ok (.aload_n 1, 1) := dc_aload_n_1 (by decide +kernel)
theorem dL_law_3899 : decode cL_law 3899 = .ok (.aload_n 0, 1) := dc_aload_n_0 (by decide +kernel)
theorem dL_law_3900 : decode cL_law 3900 = .ok (.iload 4, 2) := dc_iload (by decide +kernel) (a := 4) (by decide +kernel) rfl
theorem dL_law_3902 : decode cL_law 3902 = .ok (.iconst 1, 1) := dc_iconst_1 (by decide +kernel)
theorem dL_law_3903 : decode cL_law 3903 = .ok (.iadd, 1) := dc_iadd (by decide +kernel)
theorem dL_law_3904 : decode cL_law 3904 = .ok (.iaload, 1) := dc_iaload (by decide +kernel)
theorem dL_law_3905 : decode cL_law 3905 = .ok (.aload_n 3, 1) := dc_aload_n_3 (by decide +kernel)
theorem dL_law_3906 : decode cL_law 3906 = .ok (.invokestatic 335, 3) := dc_invokestatic (by decide +kernel) (a := 1) (b := 79) (by decide +kernel) (by decide +kernel) rfl
theorem dL_law_3909 : decode cL_law 3909 = .ok (.istore 5, 2) := dc_istore (by decide +kernel) (a := 5) (by decide +kernel) rfl
theorem dL_law_3911 : decode cL_law 3911 = .ok (.aload_n 2, 1) := dc_aload_n_2 (by decide +kernel)
theorem dL_law_3912 : decode cL_law 3912 = .ok (.aload_n 0, 1) := dc_aload_n_0 (by decide +kernel)
theorem dL_law_3913 : decode cL_law 3913 = .ok (.iload 4, 2) := dc_iload (by decide +kernel) (a := 4) (by decide +kernel) rfl
theorem dL_law_3915 : decode cL_law 3915 = .ok (.iconst 1, 1) := dc_iconst_1 (by decide +kernel)
theorem dL_law_3916 : decode cL_law 3916 = .ok (.iadd, 1) := dc_iadd (by decide +kernel)
theorem dL_law_3917 : decode cL_law 3917 = .ok (.iaload, 1) := dc_iaload (by decide +kernel)
theorem dL_law_3918 : decode cL_law 3918 = .ok (.invokevirtual 337, 3) := dc_invokevirtual (by decide +kernel) (a := 1) (b := 81) (by decide +kernel) (by decide +kernel) rfl
theorem dL_law_3921 : decode cL_law 3921 = .ok (.istore 6, 2) := dc_istore (by decide +kernel) (a := 6) (by decide +kernel) rfl
theorem dL_law_3923 : decode cL_law 3923 = .ok (.aload_n 2, 1) := dc_aload_n_2 (by decide +kernel)
theorem dL_law_3924 : decode cL_law 3924 = .ok (.invokevirtual 183, 3) := dc_invokevirtual (by decide +kernel) (a := 0) (b := 183) (by decide +kernel) (by decide +kernel) rfl
theorem dL_law_3927 : decode cL_law 3927 = .ok (.iload 5, 2) := dc_iload (by decide +kernel) (a := 5) (by decide +kernel) rfl
theorem dL_law_3929 : decode cL_law 3929 = .ok (.if_icmp .eq 5, 3) := dc_if_icmp_eq (by decide +kernel) (a := 0) (b := 5) (by decide +kernel) (by decide +kernel) (by decide)
theorem dL_law_3932 : decode cL_law 3932 = .ok (.iconst 0, 1) := dc_iconst_0 (by decide +kernel)
theorem dL_law_3933 : decode cL_law 3933 = .ok (.ireturn, 1) := dc_ireturn (by decide +kernel)
theorem dL_law_3934 : decode cL_law 3934 = .ok (.iload 5, 2) := dc_iload (by decide +kernel) (a := 5) (by decide +kernel) rfl
theorem dL_law_3936 : decode cL_law 3936 = .ok (.ifCond .ne 15, 3) := dc_ifCond_ne (by decide +kernel) (a := 0) (b := 15) (by decide +kernel) (by decide +kernel) (by decide)
theorem dL_law_3939 : decode cL_law 3939 = .ok (.aload_n 3, 1) := dc_aload_n_3 (by decide +kernel)
theorem dL_law_3940 : decode cL_law 3940 = .ok (.iconst 0, 1) := dc_iconst_0 (by decide +kernel)
theorem dL_law_3941 : decode cL_law 3941 = .ok (.laload, 1) := dc_laload (by decide +kernel)
theorem dL_law_3942 : decode cL_law 3942 = .ok (.iload 6, 2) := dc_iload (by decide +kernel) (a := 6) (by decide +kernel) rfl
theorem dL_law_3944 : decode cL_law 3944 = .ok (.i2l, 1) := dc_i2l (by decide +kernel)
theorem dL_law_3945 : decode cL_law 3945 = .ok (.lcmp, 1) := dc_lcmp (by decide +kernel)
theorem dL_law_3946 : decode cL_law 3946 = .ok (.ifCond .eq 5, 3) := dc_ifCond_eq (by decide +kernel) (a := 0) (b := 5) (by decide +kernel) (by decide +kernel) (by decide)
theorem dL_law_3949 : decode cL_law 3949 = .ok (.iconst 0, 1) := dc_iconst_0 (by decide +kernel)
theorem dL_law_3950 : decode cL_law 3950 = .ok (.ireturn, 1) := dc_ireturn (by decide +kernel)
theorem dL_law_3951 : decode cL_law 3951 = .ok (.goto 600, 3) := dc_goto (by decide +kernel) (a := 2) (b := 88) (by decide +kernel) (by decide +kernel) (by decide)
theorem dL_law_3954 : decode cL_law 3954 = .ok (.aload_n 1, 1) := dc_aload_n_1 (by decide +kernel)
theorem dL_law_3955 : decode cL_law 3955 = .ok (.aload_n 0, 1) := dc_aload_n_0 (by decide +kernel)
theorem dL_law_3956 : decode cL_law 3956 = .ok (.iload 4, 2) := dc_iload (by decide +kernel) (a := 4) (by decide +kernel) rfl
theorem dL_law_3958 : decode cL_law 3958 = .ok (.iconst 1, 1) := dc_iconst_1 (by decide +kernel)
theorem dL_law_3959 : decode cL_law 3959 = .ok (.iadd, 1) := dc_iadd (by decide +kernel)
theorem dL_law_3960 : decode cL_law 3960 = .ok (.iaload, 1) := dc_iaload (by decide +kernel)
theorem dL_law_3961 : decode cL_law 3961 = .ok (.invokevirtual 338, 3) := dc_invokevirtual (by decide +kernel) (a := 1) (b := 82) (by decide +kernel) (by decide +kernel) rfl
theorem dL_law_3964 : decode cL_law 3964 = .ok (.aload_n 2, 1) := dc_aload_n_2 (by decide +kernel)
theorem dL_law_3965 : decode cL_law 3965 = .ok (.aload_n 0, 1) := dc_aload_n_0 (by decide +kernel)
theorem dL_law_3966 : decode cL_law 3966 = .ok (.iload 4, 2) := dc_iload (by decide +kernel) (a := 4) (by decide +kernel) rfl
theorem dL_law_3968 : decode cL_law 3968 = .ok (.iconst 1, 1) := dc_iconst_1 (by decide +kernel)
theorem dL_law_3969 : decode cL_law 3969 = .ok (.iadd, 1) := dc_iadd (by decide +kernel)
theorem dL_law_3970 : decode cL_law 3970 = .ok (.iaload, 1) := dc_iaload (by decide +kernel)
theorem dL_law_3971 : decode cL_law 3971 = .ok (.invokevirtual 341, 3) := dc_invokevirtual (by decide +kernel) (a := 1) (b := 85) (by decide +kernel) (by decide +kernel) rfl
theorem dL_law_3974 : decode cL_law 3974 = .ok (.if_icmp .eq 577, 3) := dc_if_icmp_eq (by decide +kernel) (a := 2) (b := 65) (by decide +kernel) (by decide +kernel) (by decide)
theorem dL_law_3977 : decode cL_law 3977 = .ok (.iconst 0, 1) := dc_iconst_0 (by decide +kernel)
theorem dL_law_3978 : decode cL_law 3978 = .ok (.ireturn, 1) := dc_ireturn (by decide +kernel)
theorem dL_law_3979 : decode cL_law 3979 = .ok (.aload_n 1, 1) := dc_aload_n_1 (by decide +kernel)
theorem dL_law_3980 : decode cL_law 3980 = .ok (.aload_n 0, 1) := dc_aload_n_0 (by decide +kernel)
theorem dL_law_3981 : decode cL_law 3981 = .ok (.iload 4, 2) := dc_iload (by decide +kernel) (a := 4) (by decide +kernel) rfl
theorem dL_law_3983 : decode cL_law 3983 = .ok (.iconst 1, 1) := dc_iconst_1 (by decide +kernel)
theorem dL_law_3984 : decode cL_law 3984 = .ok (.iadd, 1) := dc_iadd (by decide +kernel)
theorem dL_law_3985 : decode cL_law 3985 = .ok (.iaload, 1) := dc_iaload (by decide +kernel)
theorem dL_law_3986 : decode cL_law 3986 = .ok (.aload_n 0, 1) := dc_aload_n_0 (by decide +kernel)
theorem dL_law_3987 : decode cL_law 3987 = .ok (.iload 4, 2) := dc_iload (by decide +kernel) (a := 4) (by decide +kernel) rfl
theorem dL_law_3989 : decode cL_law 3989 = .ok (.iconst 2, 1) := dc_iconst_2 (by decide +kernel)
theorem dL_law_3990 : decode cL_law 3990 = .ok (.iadd, 1) := dc_iadd (by decide +kernel)
theorem dL_law_3991 : decode cL_law 3991 = .ok (.iaload, 1) := dc_iaload (by decide +kernel)
theorem dL_law_3992 : decode cL_law 3992 = .ok (.aload_n 3, 1) := dc_aload_n_3 (by decide +kernel)
theorem dL_law_3993 : decode cL_law 3993 = .ok (.invokestatic 342, 3) := dc_invokestatic (by decide +kernel) (a := 1) (b := 86) (by decide +kernel) (by decide +kernel) rfl
theorem dL_law_3996 : decode cL_law 3996 = .ok (.istore 5, 2) := dc_istore (by decide +kernel) (a := 5) (by decide +kernel) rfl
theorem dL_law_3998 : decode cL_law 3998 = .ok (.aload_n 2, 1) := dc_aload_n_2 (by decide +kernel)
theorem dL_law_3999 : decode cL_law 3999 = .ok (.aload_n 0, 1) := dc_aload_n_0 (by decide +kernel)
theorem dL_law_4000 : decode cL_law 4000 = .ok (.iload 4, 2) := dc_iload (by decide +kernel) (a := 4) (by decide +kernel) rfl
theorem dL_law_4002 : decode cL_law 4002 = .ok (.iconst 1, 1) := dc_iconst_1 (by decide +kernel)
theorem dL_law_4003 : decode cL_law 4003 = .ok (.iadd, 1) := dc_iadd (by decide +kernel)
theorem dL_law_4004 : decode cL_law 4004 = .ok (.iaload, 1) := dc_iaload (by decide +kernel)
theorem dL_law_4005 : decode cL_law 4005 = .ok (.aload_n 0, 1) := dc_aload_n_0 (by decide +kernel)
theorem dL_law_4006 : decode cL_law 4006 = .ok (.iload 4, 2) := dc_iload (by decide +kernel) (a := 4) (by decide +kernel) rfl
theorem dL_law_4008 : decode cL_law 4008 = .ok (.iconst 2, 1) := dc_iconst_2 (by decide +kernel)
theorem dL_law_4009 : decode cL_law 4009 = .ok (.iadd, 1) := dc_iadd (by decide +kernel)
theorem dL_law_4010 : decode cL_law 4010 = .ok (.iaload, 1) := dc_iaload (by decide +kernel)
theorem dL_law_4011 : decode cL_law 4011 = .ok (.invokevirtual 344, 3) := dc_invokevirtual (by decide +kernel) (a := 1) (b := 88) (by decide +kernel) (by decide +kernel) rfl
theorem dL_law_4014 : decode cL_law 4014 = .ok (.istore 6, 2) := dc_istore (by decide +kernel) (a := 6) (by decide +kernel) rfl
theorem dL_law_4016 : decode cL_law 4016 = .ok (.aload_n 2, 1) := dc_aload_n_2 (by decide +kernel)
theorem dL_law_4017 : decode cL_law 4017 = .ok (.invokevirtual 183, 3) := dc_invokevirtual (by decide +kernel) (a := 0) (b := 183) (by decide +kernel) (by decide +kernel) rfl
theorem dL_law_4020 : decode cL_law 4020 = .ok (.iload 5, 2) := dc_iload (by decide +kernel) (a := 5) (by decide +kernel) rfl
theorem dL_law_4022 : decode cL_law 4022 = .ok (.if_icmp .eq 5, 3) := dc_if_icmp_eq (by decide +kernel) (a := 0) (b := 5) (by decide +kernel) (by decide +kernel) (by decide)
theorem dL_law_4025 : decode cL_law 4025 = .ok (.iconst 0, 1) := dc_iconst_0 (by decide +kernel)
theorem dL_law_4026 : decode cL_law 4026 = .ok (.ireturn, 1) := dc_ireturn (by decide +kernel)
theorem dL_law_4027 : decode cL_law 4027 = .ok (.iload 5, 2) := dc_iload (by decide +kernel) (a := 5) (by decide +kernel) rfl
theorem dL_law_4029 : decode cL_law 4029 = .ok (.ifCond .ne 22, 3) := dc_ifCond_ne (by decide +kernel) (a := 0) (b := 22) (by decide +kernel) (by decide +kernel) (by decide)
theorem dL_law_4032 : decode cL_law 4032 = .ok (.aload_n 3, 1) := dc_aload_n_3 (by decide +kernel)
theorem dL_law_4033 : decode cL_law 4033 = .ok (.iconst 0, 1) := dc_iconst_0 (by decide +kernel)
theorem dL_law_4034 : decode cL_law 4034 = .ok (.laload, 1) := dc_laload (by decide +kernel)
theorem dL_law_4035 : decode cL_law 4035 = .ok (.iload 6, 2) := dc_iload (by decide +kernel) (a := 6) (by decide +kernel) rfl
theorem dL_law_4037 : decode cL_law 4037 = .ok (.ifCond .eq 7, 3) := dc_ifCond_eq (by decide +kernel) (a := 0) (b := 7) (by decide +kernel) (by decide +kernel) (by decide)
theorem dL_law_4040 : decode cL_law 4040 = .ok (.lconst 1, 1) := dc_lconst_1 (by decide +kernel)
theorem dL_law_4041 : decode cL_law 4041 = .ok (.goto 4, 3) := dc_goto (by decide +kernel) (a := 0) (b := 4) (by decide +kernel) (by decide +kernel) (by decide)
theorem dL_law_4044 : decode cL_law 4044 = .ok (.lconst 0, 1) := dc_lconst_0 (by decide +kernel)
theorem dL_law_4045 : decode cL_law 4045 = .ok (.lcmp, 1) := dc_lcmp (by decide +kernel)
theorem dL_law_4046 : decode cL_law 4046 = .ok (.ifCond .eq 5, 3) := dc_ifCond_eq (by decide +kernel) (a := 0) (b := 5) (by decide +kernel) (by decide +kernel) (by decide)
theorem dL_law_4049 : decode cL_law 4049 = .ok (.iconst 0, 1) := dc_iconst_0 (by decide +kernel)
theorem dL_law_4050 : decode cL_law 4050 = .ok (.ireturn, 1) := dc_ireturn (by decide +kernel)
theorem dL_law_4051 : decode cL_law 4051 = .ok (.goto 500, 3) := dc_goto (by decide +kernel) (a := 1) (b := 244) (by decide +kernel) (by decide +kernel) (by decide)
theorem dL_law_4054 : decode cL_law 4054 = .ok (.aload_n 1, 1) := dc_aload_n_1 (by decide +kernel)
theorem dL_law_4055 : decode cL_law 4055 = .ok (.aload_n 0, 1) := dc_aload_n_0 (by decide +kernel)
theorem dL_law_4056 : decode cL_law 4056 = .ok (.iload 4, 2) := dc_iload (by decide +kernel) (a := 4) (by decide +kernel) rfl
theorem dL_law_4058 : decode cL_law 4058 = .ok (.iconst 1, 1) := dc_iconst_1 (by decide +kernel)
theorem dL_law_4059 : decode cL_law 4059 = .ok (.iadd, 1) := dc_iadd (by decide +kernel)
theorem dL_law_4060 : decode cL_law 4060 = .ok (.iaload, 1) := dc_iaload (by decide +kernel)
theorem dL_law_4061 : decode cL_law 4061 = .ok (.aload_n 0, 1) := dc_aload_n_0 (by decide +kernel)
theorem dL_law_4062 : decode cL_law 4062 = .ok (.iload 4, 2) := dc_iload (by decide +kernel) (a := 4) (by decide +kernel) rfl
theorem dL_law_4064 : decode cL_law 4064 = .ok (.iconst 2, 1) := dc_iconst_2 (by decide +kernel)
theorem dL_law_4065 : decode cL_law 4065 = .ok (.iadd, 1) := dc_iadd (by decide +kernel)
theorem dL_law_4066 : decode cL_law 4066 = .ok (.iaload, 1) := dc_iaload (by decide +kernel)
theorem dL_law_4067 : decode cL_law 4067 = .ok (.aload_n 0, 1) := dc_aload_n_0 (by decide +kernel)
theorem dL_law_4068 : decode cL_law 4068 = .ok (.iload 4, 2) := dc_iload (by decide +kernel) (a := 4) (by decide +kernel) rfl
theorem dL_law_4070 : decode cL_law 4070 = .ok (.iconst 3, 1) := dc_iconst_3 (by decide +kernel)
theorem dL_law_4071 : decode cL_law 4071 = .ok (.iadd, 1) := dc_iadd (by decide +kernel)
theorem dL_law_4072 : decode cL_law 4072 = .ok (.iaload, 1) := dc_iaload (by decide +kernel)
theorem dL_law_4073 : decode cL_law 4073 = .ok (.invokevirtual 345, 3) := dc_invokevirtual (by decide +kernel) (a := 1) (b := 89) (by decide +kernel) (by decide +kernel) rfl
theorem dL_law_4076 : decode cL_law 4076 = .ok (.aload_n 2, 1) := dc_aload_n_2 (by decide +kernel)
theorem dL_law_4077 : decode cL_law 4077 = .ok (.aload_n 0, 1) := dc_aload_n_0 (by decide +kernel)
theorem dL_law_4078 : decode cL_law 4078 = .ok (.iload 4, 2) := dc_iload (by decide +kernel) (a := 4) (by decide +kernel) rfl
theorem dL_law_4080 : decode cL_law 4080 = .ok (.iconst 1, 1) := dc_iconst_1 (by decide +kernel)
theorem dL_law_4081 : decode cL_law 4081 = .ok (.iadd, 1) := dc_iadd (by decide +kernel)
theorem dL_law_4082 : decode cL_law 4082 = .ok (.iaload, 1) := dc_iaload (by decide +kernel)
theorem dL_law_4083 : decode cL_law 4083 = .ok (.aload_n 0, 1) := dc_aload_n_0 (by decide +kernel)
theorem dL_law_4084 : decode cL_law 4084 = .ok (.iload 4, 2) := dc_iload (by decide +kernel) (a := 4) (by decide +kernel) rfl
theorem dL_law_4086 : decode cL_law 4086 = .ok (.iconst 2, 1) := dc_iconst_2 (by decide +kernel)
theorem dL_law_4087 : decode cL_law 4087 = .ok (.iadd, 1) := dc_iadd (by decide +kernel)
theorem dL_law_4088 : decode cL_law 4088 = .ok (.iaload, 1) := dc_iaload (by decide +kernel)
theorem dL_law_4089 : decode cL_law 4089 = .ok (.aload_n 0, 1) := dc_aload_n_0 (by decide +kernel)
theorem dL_law_4090 : decode cL_law 4090 = .ok (.iload 4, 2) := dc_iload (by decide +kernel) (a := 4) (by decide +kernel) rfl
theorem dL_law_4092 : decode cL_law 4092 = .ok (.iconst 3, 1) := dc_iconst_3 (by decide +kernel)
theorem dL_law_4093 : decode cL_law 4093 = .ok (.iadd, 1) := dc_iadd (by decide +kernel)
theorem dL_law_4094 : decode cL_law 4094 = .ok (.iaload, 1) := dc_iaload (by decide +kernel)
theorem dL_law_4095 : decode cL_law 4095 = .ok (.invokevirtual 348, 3) := dc_invokevirtual (by decide +kernel) (a := 1) (b := 92) (by decide +kernel) (by decide +kernel) rfl
theorem dL_law_4098 : decode cL_law 4098 = .ok (.if_icmp .eq 453, 3) := dc_if_icmp_eq (by decide +kernel) (a := 1) (b := 197) (by decide +kernel) (by decide +kernel) (by decide)
theorem dL_law_4101 : decode cL_law 4101 = .ok (.iconst 0, 1) := dc_iconst_0 (by decide +kernel)
theorem dL_law_4102 : decode cL_law 4102 = .ok (.ireturn, 1) := dc_ireturn (by decide +kernel)
theorem dL_law_4103 : decode cL_law 4103 = .ok (.aload_n 1, 1) := dc_aload_n_1 (by decide +kernel)
theorem dL_law_4104 : decode cL_law 4104 = .ok (.aload_n 0, 1) := dc_aload_n_0 (by decide +kernel)
theorem dL_law_4105 : decode cL_law 4105 = .ok (.iload 4, 2) := dc_iload (by decide +kernel) (a := 4) (by decide +kernel) rfl
theorem dL_law_4107 : decode cL_law 4107 = .ok (.iconst 1, 1) := dc_iconst_1 (by decide +kernel)
theorem dL_law_4108 : decode cL_law 4108 = .ok (.iadd, 1) := dc_iadd (by decide +kernel)
theorem dL_law_4109 : decode cL_law 4109 = .ok (.iaload, 1) := dc_iaload (by decide +kernel)
theorem dL_law_4110 : decode cL_law 4110 = .ok (.aload_n 3, 1) := dc_aload_n_3 (by decide +kernel)
theorem dL_law_4111 : decode cL_law 4111 = .ok (.invokestatic 349, 3) := dc_invokestatic (by decide +kernel) (a := 1) (b := 93) (by decide +kernel) (by decide +kernel) rfl
theorem dL_law_4114 : decode cL_law 4114 = .ok (.istore 5, 2) := dc_istore (by decide +kernel) (a := 5) (by decide +kernel) rfl
theorem dL_law_4116 : decode cL_law 4116 = .ok (.aload_n 2, 1) := dc_aload_n_2 (by decide +kernel)
theorem dL_law_4117 : decode cL_law 4117 = .ok (.aload_n 0, 1) := dc_aload_n_0 (by decide +kernel)
theorem dL_law_4118 : decode cL_law 4118 = .ok (.iload 4, 2) := dc_iload (by decide +kernel) (a := 4) (by decide +kernel) rfl
theorem dL_law_4120 : decode cL_law 4120 = .ok (.iconst 1, 1) := dc_iconst_1 (by decide +kernel)
theorem dL_law_4121 : decode cL_law 4121 = .ok (.iadd, 1) := dc_iadd (by decide +kernel)
theorem dL_law_4122 : decode cL_law 4122 = .ok (.iaload, 1) := dc_iaload (by decide +kernel)
theorem dL_law_4123 : decode cL_law 4123 = .ok (.invokevirtual 351, 3) := dc_invokevirtual (by decide +kernel) (a := 1) (b := 95) (by decide +kernel) (by decide +kernel) rfl
theorem dL_law_4126 : decode cL_law 4126 = .ok (.istore 6, 2) := dc_istore (by decide +kernel) (a := 6) (by decide +kernel) rfl
theorem dL_law_4128 : decode cL_law 4128 = .ok (.aload_n 2, 1) := dc_aload_n_2 (by decide +kernel)
theorem dL_law_4129 : decode cL_law 4129 = .ok (.invokevirtual 183, 3) := dc_invokevirtual (by decide +kernel) (a := 0) (b := 183) (by decide +kernel) (by decide +kernel) rfl
theorem dL_law_4132 : decode cL_law 4132 = .ok (.iload 5, 2) := dc_iload (by decide +kernel) (a := 5) (by decide +kernel) rfl
theorem dL_law_4134 : decode cL_law 4134 = .ok (.if_icmp .eq 5, 3) := dc_if_icmp_eq (by decide +kernel) (a := 0) (b := 5) (by decide +kernel) (by decide +kernel) (by decide)
theorem dL_law_4137 : decode cL_law 4137 = .ok (.iconst 0, 1) := dc_iconst_0 (by decide +kernel)
theorem dL_law_4138 : decode cL_law 4138 = .ok (.ireturn, 1) := dc_ireturn (by decide +kernel)
theorem dL_law_4139 : decode cL_law 4139 = .ok (.iload 5, 2) := dc_iload (by decide +kernel) (a := 5) (by decide +kernel) rfl
theorem dL_law_4141 : decode cL_law 4141 = .ok (.ifCond .ne 15, 3) := dc_ifCond_ne (by decide +kernel) (a := 0) (b := 15) (by decide +kernel) (by decide +kernel) (by decide)
theorem dL_law_4144 : decode cL_law 4144 = .ok (.aload_n 3, 1) := dc_aload_n_3 (by decide +kernel)
theorem dL_law_4145 : decode cL_law 4145 = .ok (.iconst 0, 1) := dc_iconst_0 (by decide +kernel)
theorem dL_law_4146 : decode cL_law 4146 = .ok (.laload, 1) := dc_laload (by decide +kernel)
theorem dL_law_4147 : decode cL_law 4147 = .ok (.iload 6, 2) := dc_iload (by decide +kernel) (a := 6) (by decide +kernel) rfl
theorem dL_law_4149 : decode cL_law 4149 = .ok (.i2l, 1) := dc_i2l (by decide +kernel)
theorem dL_law_4150 : decode cL_law 4150 = .ok (.lcmp, 1) := dc_lcmp (by decide +kernel)
theorem dL_law_4151 : decode cL_law 4151 = .ok (.ifCond .eq 5, 3) := dc_ifCond_eq (by decide +kernel) (a := 0) (b := 5) (by decide +kernel) (by decide +kernel) (by decide)
theorem dL_law_4154 : decode cL_law 4154 = .ok (.iconst 0, 1) := dc_iconst_0 (by decide +kernel)
theorem dL_law_4155 : decode cL_law 4155 = .ok (.ireturn, 1) := dc_ireturn (by decide +kernel)
theorem dL_law_4156 : decode cL_law 4156 = .ok (.goto 395, 3) := dc_goto (by decide +kernel) (a := 1) (b := 139) (by decide +kernel) (by decide +kernel) (by decide)
theorem dL_law_4159 : decode cL_law 4159 = .ok (.aload_n 1, 1) := dc_aload_n_1 (by decide +kernel)
theorem dL_law_4160 : decode cL_law 4160 = .ok (.aload_n 0, 1) := dc_aload_n_0 (by decide +kernel)
theorem dL_law_4161 : decode cL_law 4161 = .ok (.iload 4, 2) := dc_iload (by decide +kernel) (a := 4) (by decide +kernel) rfl
theorem dL_law_4163 : decode cL_law 4163 = .ok (.iconst 1, 1) := dc_iconst_1 (by decide +kernel)
theorem dL_law_4164 : decode cL_law 4164 = .ok (.iadd, 1) := dc_iadd (by decide +kernel)
theorem dL_law_4165 : decode cL_law 4165 = .ok (.iaload, 1) := dc_iaload (by decide +kernel)
theorem dL_law_4166 : decode cL_law 4166 = .ok (.aload_n 0, 1) := dc_aload_n_0 (by decide +kernel)
theorem dL_law_4167 : decode cL_law 4167 = .ok (.iload 4, 2) := dc_iload (by decide +kernel) (a := 4) (by decide +kernel) rfl
theorem dL_law_4169 : decode cL_law 4169 = .ok (.iconst 2, 1) := dc_iconst_2 (by decide +kernel)
theorem dL_law_4170 : decode cL_law 4170 = .ok (.iadd, 1) := dc_iadd (by decide +kernel)
theorem dL_law_4171 : decode cL_law 4171 = .ok (.iaload, 1) := dc_iaload (by decide +kernel)
theorem dL_law_4172 : decode cL_law 4172 = .ok (.aload_n 0, 1) := dc_aload_n_0 (by decide +kernel)
theorem dL_law_4173 : decode cL_law 4173 = .ok (.iload 4, 2) := dc_iload (by decide +kernel) (a := 4) (by decide +kernel) rfl
theorem dL_law_4175 : decode cL_law 4175 = .ok (.iconst 3, 1) := dc_iconst_3 (by decide +kernel)
theorem dL_law_4176 : decode cL_law 4176 = .ok (.iadd, 1) := dc_iadd (by decide +kernel)
theorem dL_law_4177 : decode cL_law 4177 = .ok (.iaload, 1) := dc_iaload (by decide +kernel)
theorem dL_law_4178 : decode cL_law 4178 = .ok (.invokestatic 352, 3) := dc_invokestatic (by decide +kernel) (a := 1) (b := 96) (by decide +kernel) (by decide +kernel) rfl
theorem dL_law_4181 : decode cL_law 4181 = .ok (.istore 5, 2) := dc_istore (by decide +kernel) (a := 5) (by decide +kernel) rfl
theorem dL_law_4183 : decode cL_law 4183 = .ok (.aload_n 2, 1) := dc_aload_n_2 (by decide +kernel)
theorem dL_law_4184 : decode cL_law 4184 = .ok (.aload_n 0, 1) := dc_aload_n_0 (by decide +kernel)
theorem dL_law_4185 : decode cL_law 4185 = .ok (.iload 4, 2) := dc_iload (by decide +kernel) (a := 4) (by decide +kernel) rfl
theorem dL_law_4187 : decode cL_law 4187 = .ok (.iconst 1, 1) := dc_iconst_1 (by decide +kernel)
theorem dL_law_4188 : decode cL_law 4188 = .ok (.iadd, 1) := dc_iadd (by decide +kernel)
theorem dL_law_4189 : decode cL_law 4189 = .ok (.iaload, 1) := dc_iaload (by decide +kernel)
theorem dL_law_4190 : decode cL_law 4190 = .ok (.aload_n 0, 1) := dc_aload_n_0 (by decide +kernel)
theorem dL_law_4191 : decode cL_law 4191 = .ok (.iload 4, 2) := dc_iload (by decide +kernel) (a := 4) (by decide +kernel) rfl
theorem dL_law_4193 : decode cL_law 4193 = .ok (.iconst 2, 1) := dc_iconst_2 (by decide +kernel)
theorem dL_law_4194 : decode cL_law 4194 = .ok (.iadd, 1) := dc_iadd (by decide +kernel)
theorem dL_law_4195 : decode cL_law 4195 = .ok (.iaload, 1) := dc_iaload (by decide +kernel)
theorem dL_law_4196 : decode cL_law 4196 = .ok (.aload_n 0, 1) := dc_aload_n_0 (by decide +kernel)
theorem dL_law_4197 : decode cL_law 4197 = .ok (.iload 4, 2) := dc_iload (by decide +kernel) (a := 4) (by decide +kernel) rfl
theorem dL_law_4199 : decode cL_law 4199 = .ok (.iconst 3, 1) := dc_iconst_3 (by decide +kernel)
theorem dL_law_4200 : decode cL_law 4200 = .ok (.iadd, 1) := dc_iadd (by decide +kernel)
theorem dL_law_4201 : decode cL_law 4201 = .ok (.iaload, 1) := dc_iaload (by decide +kernel)
theorem dL_law_4202 : decode cL_law 4202 = .ok (.invokevirtual 354, 3) := dc_invokevirtual (by decide +kernel) (a := 1) (b := 98) (by decide +kernel) (by decide +kernel) rfl
theorem dL_law_4205 : decode cL_law 4205 = .ok (.aload_n 2, 1) := dc_aload_n_2 (by decide +kernel)
theorem dL_law_4206 : decode cL_law 4206 = .ok (.invokevirtual 183, 3) := dc_invokevirtual (by decide +kernel) (a := 0) (b := 183) (by decide +kernel) (by decide +kernel) rfl
theorem dL_law_4209 : decode cL_law 4209 = .ok (.iload 5, 2) := dc_iload (by decide +kernel) (a := 5) (by decide +kernel) rfl
theorem dL_law_4211 : decode cL_law 4211 = .ok (.if_icmp .eq 5, 3) := dc_if_icmp_eq (by decide +kernel) (a := 0) (b := 5) (by decide +kernel) (by decide +kernel) (by decide)
theorem dL_law_4214 : decode cL_law 4214 = .ok (.iconst 0, 1) := dc_iconst_0 (by decide +kernel)
theorem dL_law_4215 : decode cL_law 4215 = .ok (.ireturn, 1) := dc_ireturn (by decide +kernel)
theorem dL_law_4216 : decode cL_law 4216 = .ok (.goto 335, 3) := dc_goto (by decide +kernel) (a := 1) (b := 79) (by decide +kernel) (by decide +kernel) (by decide)
theorem dL_law_4219 : decode cL_law 4219 = .ok (.aload_n 1, 1) := dc_aload_n_1 (by decide +kernel)
theorem dL_law_4220 : decode cL_law 4220 = .ok (.aload_n 0, 1) := dc_aload_n_0 (by decide +kernel)
theorem dL_law_4221 : decode cL_law 4221 = .ok (.iload 4, 2) := dc_iload (by decide +kernel) (a := 4) (by decide +kernel) rfl
theorem dL_law_4223 : decode cL_law 4223 = .ok (.iconst 1, 1) := dc_iconst_1 (by decide +kernel)
theorem dL_law_4224 : decode cL_law 4224 = .ok (.iadd, 1) := dc_iadd (by decide +kernel)
theorem dL_law_4225 : decode cL_law 4225 = .ok (.iaload, 1) := dc_iaload (by decide +kernel)
theorem dL_law_4226 : decode cL_law 4226 = .ok (.aload_n 0, 1) := dc_aload_n_0 (by decide +kernel)
theorem dL_law_4227 : decode cL_law 4227 = .ok (.iload 4, 2) := dc_iload (by decide +kernel) (a := 4) (by decide +kernel) rfl
theorem dL_law_4229 : decode cL_law 4229 = .ok (.iconst 2, 1) := dc_iconst_2 (by decide +kernel)
theorem dL_law_4230 : decode cL_law 4230 = .ok (.iadd, 1) := dc_iadd (by decide +kernel)
theorem dL_law_4231 : decode cL_law 4231 = .ok (.iaload, 1) := dc_iaload (by decide +kernel)
theorem dL_law_4232 : decode cL_law 4232 = .ok (.aload_n 0, 1) := dc_aload_n_0 (by decide +kernel)
theorem dL_law_4233 : decode cL_law 4233 = .ok (.iload 4, 2) := dc_iload (by decide +kernel) (a := 4) (by decide +kernel) rfl
theorem dL_law_4235 : decode cL_law 4235 = .ok (.iconst 3, 1) := dc_iconst_3 (by decide +kernel)
theorem dL_law_4236 : decode cL_law 4236 = .ok (.iadd, 1) := dc_iadd (by decide +kernel)
theorem dL_law_4237 : decode cL_law 4237 = .ok (.iaload, 1) := dc_iaload (by decide +kernel)
theorem dL_law_4238 : decode cL_law 4238 = .ok (.i2l, 1) := dc_i2l (by decide +kernel)
theorem dL_law_4239 : decode cL_law 4239 = .ok (.bipush 32, 2) := dc_bipush (by decide +kernel) (a := 32) (by decide +kernel) (by decide)
theorem dL_law_4241 : decode cL_law 4241 = .ok (.lshl, 1) := dc_lshl (by decide +kernel)
theorem dL_law_4242 : decode cL_law 4242 = .ok (.aload_n 0, 1) := dc_aload_n_0 (by decide +kernel)
theorem dL_law_4243 : decode cL_law 4243 = .ok (.iload 4, 2) := dc_iload (by decide +kernel) (a := 4) (by decide +kernel) rfl
theorem dL_law_4245 : decode cL_law 4245 = .ok (.iconst 4, 1) := dc_iconst_4 (by decide +kernel)
theorem dL_law_4246 : decode cL_law 4246 = .ok (.iadd, 1) := dc_iadd (by decide +kernel)
theorem dL_law_4247 : decode cL_law 4247 = .ok (.iaload, 1) := dc_iaload (by decide +kernel)
theorem dL_law_4248 : decode cL_law 4248 = .ok (.i2l, 1) := dc_i2l (by decide +kernel)
theorem dL_law_4249 : decode cL_law 4249 = .ok (.ldc2_w 261, 3) := dc_ldc2_w (by decide +kernel) (a := 1) (b := 5) (by decide +kernel) (by decide +kernel) rfl
theorem dL_law_4252 : decode cL_law 4252 = .ok (.land, 1) := dc_land (by decide +kernel)
theorem dL_law_4253 : decode cL_law 4253 = .ok (.lor, 1) := dc_lor (by decide +kernel)
theorem dL_law_4254 : decode cL_law 4254 = .ok (.aload_n 3, 1) := dc_aload_n_3 (by decide +kernel)
theorem dL_law_4255 : decode cL_law 4255 = .ok (.invokestatic 355, 3) := dc_invokestatic (by decide +kernel) (a := 1) (b := 99) (by decide +kernel) (by decide +kernel) rfl
theorem dL_law_4258 : decode cL_law 4258 = .ok (.istore 5, 2) := dc_istore (by decide +kernel) (a := 5) (by decide +kernel) rfl
theorem dL_law_4260 : decode cL_law 4260 = .ok (.aload_n 2, 1) := dc_aload_n_2 (by decide +kernel)
theorem dL_law_4261 : decode cL_law 4261 = .ok (.aload_n 0, 1) := dc_aload_n_0 (by decide +kernel)
theorem dL_law_4262 : decode cL_law 4262 = .ok (.iload 4, 2) := dc_iload (by decide +kernel) (a := 4) (by decide +kernel) rfl
theorem dL_law_4264 : decode cL_law 4264 = .ok (.iconst 1, 1) := dc_iconst_1 (by decide +kernel)
theorem dL_law_4265 : decode cL_law 4265 = .ok (.iadd, 1) := dc_iadd (by decide +kernel)
theorem dL_law_4266 : decode cL_law 4266 = .ok (.iaload, 1) := dc_iaload (by decide +kernel)
theorem dL_law_4267 : decode cL_law 4267 = .ok (.aload_n 0, 1) := dc_aload_n_0 (by decide +kernel)
theorem dL_law_4268 : decode cL_law 4268 = .ok (.iload 4, 2) := dc_iload (by decide +kernel) (a := 4) (by decide +kernel) rfl
theorem dL_law_4270 : decode cL_law 4270 = .ok (.iconst 2, 1) := dc_iconst_2 (by decide +kernel)
theorem dL_law_4271 : decode cL_law 4271 = .ok (.iadd, 1) := dc_iadd (by decide +kernel)
theorem dL_law_4272 : decode cL_law 4272 = .ok (.iaload, 1) := dc_iaload (by decide +kernel)
theorem dL_law_4273 : decode cL_law 4273 = .ok (.aload_n 0, 1) := dc_aload_n_0 (by decide +kernel)
theorem dL_law_4274 : decode cL_law 4274 = .ok (.iload 4, 2) := dc_iload (by decide +kernel) (a := 4) (by decide +kernel) rfl
theorem dL_law_4276 : decode cL_law 4276 = .ok (.iconst 3, 1) := dc_iconst_3 (by decide +kernel)
theorem dL_law_4277 : decode cL_law 4277 = .ok (.iadd, 1) := dc_iadd (by decide +kernel)
theorem dL_law_4278 : decode cL_law 4278 = .ok (.iaload, 1) := dc_iaload (by decide +kernel)
theorem dL_law_4279 : decode cL_law 4279 = .ok (.i2l, 1) := dc_i2l (by decide +kernel)
theorem dL_law_4280 : decode cL_law 4280 = .ok (.bipush 32, 2) := dc_bipush (by decide +kernel) (a := 32) (by decide +kernel) (by decide)
theorem dL_law_4282 : decode cL_law 4282 = .ok (.lshl, 1) := dc_lshl (by decide +kernel)
theorem dL_law_4283 : decode cL_law 4283 = .ok (.aload_n 0, 1) := dc_aload_n_0 (by decide +kernel)
theorem dL_law_4284 : decode cL_law 4284 = .ok (.iload 4, 2) := dc_iload (by decide +kernel) (a := 4) (by decide +kernel) rfl
theorem dL_law_4286 : decode cL_law 4286 = .ok (.iconst 4, 1) := dc_iconst_4 (by decide +kernel)
theorem dL_law_4287 : decode cL_law 4287 = .ok (.iadd, 1) := dc_iadd (by decide +kernel)
theorem dL_law_4288 : decode cL_law 4288 = .ok (.iaload, 1) := dc_iaload (by decide +kernel)
theorem dL_law_4289 : decode cL_law 4289 = .ok (.i2l, 1) := dc_i2l (by decide +kernel)
theorem dL_law_4290 : decode cL_law 4290 = .ok (.ldc2_w 261, 3) := dc_ldc2_w (by decide +kernel) (a := 1) (b := 5) (by decide +kernel) (by decide +kernel) rfl
theorem dL_law_4293 : decode cL_law 4293 = .ok (.land, 1) := dc_land (by decide +kernel)
theorem dL_law_4294 : decode cL_law 4294 = .ok (.lor, 1) := dc_lor (by decide +kernel)
theorem dL_law_4295 : decode cL_law 4295 = .ok (.invokevirtual 358, 3) := dc_invokevirtual (by decide +kernel) (a := 1) (b := 102) (by decide +kernel) (by decide +kernel) rfl
theorem dL_law_4298 : decode cL_law 4298 = .ok (.lstore 6, 2) := dc_lstore (by decide +kernel) (a := 6) (by decide +kernel) rfl
theorem dL_law_4300 : decode cL_law 4300 = .ok (.aload_n 2, 1) := dc_aload_n_2 (by decide +kernel)
theorem dL_law_4301 : decode cL_law 4301 = .ok (.invokevirtual 183, 3) := dc_invokevirtual (by decide +kernel) (a := 0) (b := 183) (by decide +kernel) (by decide +kernel) rfl
theorem dL_law_4304 : decode cL_law 4304 = .ok (.iload 5, 2) := dc_iload (by decide +kernel) (a := 5) (by decide +kernel) rfl
theorem dL_law_4306 : decode cL_law 4306 = .ok (.if_icmp .eq 5, 3) := dc_if_icmp_eq (by decide +kernel) (a := 0) (b := 5) (by decide +kernel) (by decide +kernel) (by decide)
theorem dL_law_4309 : decode cL_law 4309 = .ok (.iconst 0, 1) := dc_iconst_0 (by decide +kernel)
theorem dL_law_4310 : decode cL_law 4310 = .ok (.ireturn, 1) := dc_ireturn (by decide +kernel)
theorem dL_law_4311 : decode cL_law 4311 = .ok (.iload 5, 2) := dc_iload (by decide +kernel) (a := 5) (by decide +kernel) rfl
theorem dL_law_4313 : decode cL_law 4313 = .ok (.ifCond .ne 14, 3) := dc_ifCond_ne (by decide +kernel) (a := 0) (b := 14) (by decide +kernel) (by decide +kernel) (by decide)
theorem dL_law_4316 : decode cL_law 4316 = .ok (.aload_n 3, 1) := dc_aload_n_3 (by decide +kernel)
theorem dL_law_4317 : decode cL_law 4317 = .ok (.iconst 0, 1) := dc_iconst_0 (by decide +kernel)
theorem dL_law_4318 : decode cL_law 4318 = .ok (.laload, 1) := dc_laload (by decide +kernel)
theorem dL_law_4319 : decode cL_law 4319 = .ok (.lload 6, 2) := dc_lload (by decide +kernel) (a := 6) (by decide +kernel) rfl
theorem dL_law_4321 : decode cL_law 4321 = .ok (.lcmp, 1) := dc_lcmp (by decide +kernel)
theorem dL_law_4322 : decode cL_law 4322 = .ok (.ifCond .eq 5, 3) := dc_ifCond_eq (by decide +kernel) (a := 0) (b := 5) (by decide +kernel) (by decide +kernel) (by decide)
theorem dL_law_4325 : decode cL_law 4325 = .ok (.iconst 0, 1) := dc_iconst_0 (by decide +kernel)
theorem dL_law_4326 : decode cL_law 4326 = .ok (.ireturn, 1) := dc_ireturn (by decide +kernel)
theorem dL_law_4327 : decode cL_law 4327 = .ok (.goto 224, 3) := dc_goto (by decide +kernel) (a := 0) (b := 224) (by decide +kernel) (by decide +kernel) (by decide)
theorem dL_law_4330 : decode cL_law 4330 = .ok (.aload_n 1, 1) := dc_aload_n_1 (by decide +kernel)
theorem dL_law_4331 : decode cL_law 4331 = .ok (.aload_n 0, 1) := dc_aload_n_0 (by decide +kernel)
theorem dL_law_4332 : decode cL_law 4332 = .ok (.iload 4, 2) := dc_iload (by decide +kernel) (a := 4) (by decide +kernel) rfl
theorem dL_law_4334 : decode cL_law 4334 = .ok (.iconst 1, 1) := dc_iconst_1 (by decide +kernel)
theorem dL_law_4335 : decode cL_law 4335 = .ok (.iadd, 1) := dc_iadd (by decide +kernel)
theorem dL_law_4336 : decode cL_law 4336 = .ok (.iaload, 1) := dc_iaload (by decide +kernel)
theorem dL_law_4337 : decode cL_law 4337 = .ok (.aload_n 0, 1) := dc_aload_n_0 (by decide +kernel)
theorem dL_law_4338 : decode cL_law 4338 = .ok (.iload 4, 2) := dc_iload (by decide +kernel) (a := 4) (by decide +kernel) rfl
theorem dL_law_4340 : decode cL_law 4340 = .ok (.iconst 2, 1) := dc_iconst_2 (by decide +kernel)
theorem dL_law_4341 : decode cL_law 4341 = .ok (.iadd, 1) := dc_iadd (by decide +kernel)
theorem dL_law_4342 : decode cL_law 4342 = .ok (.iaload, 1) := dc_iaload (by decide +kernel)
theorem dL_law_4343 : decode cL_law 4343 = .ok (.aload_n 3, 1) := dc_aload_n_3 (by decide +kernel)
theorem dL_law_4344 : decode cL_law 4344 = .ok (.invokestatic 359, 3) := dc_invokestatic (by decide +kernel) (a := 1) (b := 103) (by decide +kernel) (by decide +kernel) rfl
theorem dL_law_4347 : decode cL_law 4347 = .ok (.istore 5, 2) := dc_istore (by decide +kernel) (a := 5) (by decide +kernel) rfl
theorem dL_law_4349 : decode cL_law 4349 = .ok (.aload_n 2, 1) := dc_aload_n_2 (by decide +kernel)
theorem dL_law_4350 : decode cL_law 4350 = .ok (.aload_n 0, 1) := dc_aload_n_0 (by decide +kernel)
theorem dL_law_4351 : decode cL_law 4351 = .ok (.iload 4, 2) := dc_iload (by decide +kernel) (a := 4) (by decide +kernel) rfl
theorem dL_law_4353 : decode cL_law 4353 = .ok (.iconst 1, 1) := dc_iconst_1 (by decide +kernel)
theorem dL_law_4354 : decode cL_law 4354 = .ok (.iadd, 1) := dc_iadd (by decide +kernel)
theorem dL_law_4355 : decode cL_law 4355 = .ok (.iaload, 1) := dc_iaload (by decide +kernel)
theorem dL_law_4356 : decode cL_law 4356 = .ok (.aload_n 0, 1) := dc_aload_n_0 (by decide +kernel)
theorem dL_law_4357 : decode cL_law 4357 = .ok (.iload 4, 2) := dc_iload (by decide +kernel) (a := 4) (by decide +kernel) rfl
theorem dL_law_4359 : decode cL_law 4359 = .ok (.iconst 2, 1) := dc_iconst_2 (by decide +kernel)
theorem dL_law_4360 : decode cL_law 4360 = .ok (.iadd, 1) := dc_iadd (by decide +kernel)
theorem dL_law_4361 : decode cL_law 4361 = .ok (.iaload, 1) := dc_iaload (by decide +kernel)
theorem dL_law_4362 : decode cL_law 4362 = .ok (.invokevirtual 361, 3) := dc_invokevirtual (by decide +kernel) (a := 1) (b := 105) (by decide +kernel) (by decide +kernel) rfl
theorem dL_law_4365 : decode cL_law 4365 = .ok (.istore 6, 2) := dc_istore (by decide +kernel) (a := 6) (by decide +kernel) rfl
theorem dL_law_4367 : decode cL_law 4367 = .ok (.aload_n 2, 1) := dc_aload_n_2 (by decide +kernel)
theorem dL_law_4368 : decode cL_law 4368 = .ok (.invokevirtual 183, 3) := dc_invokevirtual (by decide +kernel) (a := 0) (b := 183) (by decide +kernel) (by decide +kernel) rfl
theorem dL_law_4371 : decode cL_law 4371 = .ok (.iload 5, 2) := dc_iload (by decide +kernel) (a := 5) (by decide +kernel) rfl
theorem dL_law_4373 : decode cL_law 4373 = .ok (.if_icmp .eq 5, 3) := dc_if_icmp_eq (by decide +kernel) (a := 0) (b := 5) (by decide +kernel) (by decide +kernel) (by decide)
theorem dL_law_4376 : decode cL_law 4376 = .ok (.iconst 0, 1) := dc_iconst_0 (by decide +kernel)
theorem dL_law_4377 : decode cL_law 4377 = .ok (.ireturn, 1) := dc_ireturn (by decide +kernel)
theorem dL_law_4378 : decode cL_law 4378 = .ok (.iload 5, 2) := dc_iload (by decide +kernel) (a := 5) (by decide +kernel) rfl
theorem dL_law_4380 : decode cL_law 4380 = .ok (.ifCond .ne 15, 3) := dc_ifCond_ne (by decide +kernel) (a := 0) (b := 15) (by decide +kernel) (by decide +kernel) (by decide)
theorem dL_law_4383 : decode cL_law 4383 = .ok (.aload_n 3, 1) := dc_aload_n_3 (by decide +kernel)
theorem dL_law_4384 : decode cL_law 4384 = .ok (.iconst 0, 1) := dc_iconst_0 (by decide +kernel)
theorem dL_law_4385 : decode cL_law 4385 = .ok (.laload, 1) := dc_laload (by decide +kernel)
theorem dL_law_4386 : decode cL_law 4386 = .ok (.iload 6, 2) := dc_iload (by decide +kernel) (a := 6) (by decide +kernel) rfl
theorem dL_law_4388 : decode cL_law 4388 = .ok (.i2l, 1) := dc_i2l (by decide +kernel)
theorem dL_law_4389 : decode cL_law 4389 = .ok (.lcmp, 1) := dc_lcmp (by decide +kernel)
theorem dL_law_4390 : decode cL_law 4390 = .ok (.ifCond .eq 5, 3) := dc_ifCond_eq (by decide +kernel) (a := 0) (b := 5) (by decide +kernel) (by decide +kernel) (by decide)
theorem dL_law_4393 : decode cL_law 4393 = .ok (.iconst 0, 1) := dc_iconst_0 (by decide +kernel)
theorem dL_law_4394 : decode cL_law 4394 = .ok (.ireturn, 1) := dc_ireturn (by decide +kernel)
theorem dL_law_4395 : decode cL_law 4395 = .ok (.goto 156, 3) := dc_goto (by decide +kernel) (a := 0) (b := 156) (by decide +kernel) (by decide +kernel) (by decide)
theorem dL_law_4398 : decode cL_law 4398 = .ok (.aload_n 1, 1) := dc_aload_n_1 (by decide +kernel)
theorem dL_law_4399 : decode cL_law 4399 = .ok (.aload_n 0, 1) := dc_aload_n_0 (by decide +kernel)
theorem dL_law_4400 : decode cL_law 4400 = .ok (.iload 4, 2) := dc_iload (by decide +kernel) (a := 4) (by decide +kernel) rfl
theorem dL_law_4402 : decode cL_law 4402 = .ok (.iconst 1, 1) := dc_iconst_1 (by decide +kernel)
theorem dL_law_4403 : decode cL_law 4403 = .ok (.iadd, 1) := dc_iadd (by decide +kernel)
theorem dL_law_4404 : decode cL_law 4404 = .ok (.iaload, 1) := dc_iaload (by decide +kernel)
theorem dL_law_4405 : decode cL_law 4405 = .ok (.i2l, 1) := dc_i2l (by decide +kernel)
theorem dL_law_4406 : decode cL_law 4406 = .ok (.bipush 32, 2) := dc_bipush (by decide +kernel) (a := 32) (by decide +kernel) (by decide)
theorem dL_law_4408 : decode cL_law 4408 = .ok (.lshl, 1) := dc_lshl (by decide +kernel)
theorem dL_law_4409 : decode cL_law 4409 = .ok (.aload_n 0, 1) := dc_aload_n_0 (by decide +kernel)
theorem dL_law_4410 : decode cL_law 4410 = .ok (.iload 4, 2) := dc_iload (by decide +kernel) (a := 4) (by decide +kernel) rfl
theorem dL_law_4412 : decode cL_law 4412 = .ok (.iconst 2, 1) := dc_iconst_2 (by decide +kernel)
theorem dL_law_4413 : decode cL_law 4413 = .ok (.iadd, 1) := dc_iadd (by decide +kernel)
theorem dL_law_4414 : decode cL_law 4414 = .ok (.iaload, 1) := dc_iaload (by decide +kernel)
theorem dL_law_4415 : decode cL_law 4415 = .ok (.i2l, 1) := dc_i2l (by decide +kernel)
theorem dL_law_4416 : decode cL_law 4416 = .ok (.ldc2_w 261, 3) := dc_ldc2_w (by decide +kernel) (a := 1) (b := 5) (by decide +kernel) (by decide +kernel) rfl
theorem dL_law_4419 : decode cL_law 4419 = .ok (.land, 1) := dc_land (by decide +kernel)
theorem dL_law_4420 : decode cL_law 4420 = .ok (.lor, 1) := dc_lor (by decide +kernel)
theorem dL_law_4421 : decode cL_law 4421 = .ok (.aload_n 0, 1) := dc_aload_n_0 (by decide +kernel)
theorem dL_law_4422 : decode cL_law 4422 = .ok (.iload 4, 2) := dc_iload (by decide +kernel) (a := 4) (by decide +kernel) rfl
theorem dL_law_4424 : decode cL_law 4424 = .ok (.iconst 3, 1) := dc_iconst_3 (by decide +kernel)
theorem dL_law_4425 : decode cL_law 4425 = .ok (.iadd, 1) := dc_iadd (by decide +kernel)
theorem dL_law_4426 : decode cL_law 4426 = .ok (.iaload, 1) := dc_iaload (by decide +kernel)
theorem dL_law_4427 : decode cL_law 4427 = .ok (.ifCond .eq 7, 3) := dc_ifCond_eq (by decide +kernel) (a := 0) (b := 7) (by decide +kernel) (by decide +kernel) (by decide)
theorem dL_law_4430 : decode cL_law 4430 = .ok (.iconst 1, 1) := dc_iconst_1 (by decide +kernel)
theorem dL_law_4431 : decode cL_law 4431 = .ok (.goto 4, 3) := dc_goto (by decide +kernel) (a := 0) (b := 4) (by decide +kernel) (by decide +kernel) (by decide)
theorem dL_law_4434 : decode cL_law 4434 = .ok (.iconst 0, 1) := dc_iconst_0 (by decide +kernel)
theorem dL_law_4435 : decode cL_law 4435 = .ok (.aload_n 0, 1) := dc_aload_n_0 (by decide +kernel)
theorem dL_law_4436 : decode cL_law 4436 = .ok (.iload 4, 2) := dc_iload (by decide +kernel) (a := 4) (by decide +kernel) rfl
theorem dL_law_4438 : decode cL_law 4438 = .ok (.iconst 4, 1) := dc_iconst_4 (by decide +kernel)
theorem dL_law_4439 : decode cL_law 4439 = .ok (.iadd, 1) := dc_iadd (by decide +kernel)
theorem dL_law_4440 : decode cL_law 4440 = .ok (.iaload, 1) := dc_iaload (by decide +kernel)
theorem dL_law_4441 : decode cL_law 4441 = .ok (.aload_n 3, 1) := dc_aload_n_3 (by decide +kernel)
theorem dL_law_4442 : decode cL_law 4442 = .ok (.invokestatic 362, 3) := dc_invokestatic (by decide +kernel) (a := 1) (b := 106) (by decide +kernel) (by decide +kernel) rfl
theorem dL_law_4445 : decode cL_law 4445 = .ok (.istore 5, 2) := dc_istore (by decide +kernel) (a := 5) (by decide +kernel) rfl
theorem dL_law_4447 : decode cL_law 4447 = .ok (.aload_n 2, 1) := dc_aload_n_2 (by decide +kernel)
theorem dL_law_4448 : decode cL_law 4448 = .ok (.aload_n 0, 1) := dc_aload_n_0 (by decide +kernel)
theorem dL_law_4449 : decode cL_law 4449 = .ok (.iload 4, 2) := dc_iload (by decide +kernel) (a := 4) (by decide +kernel) rfl
theorem dL_law_4451 : decode cL_law 4451 = .ok (.iconst 1, 1) := dc_iconst_1 (by decide +kernel)
theorem dL_law_4452 : decode cL_law 4452 = .ok (.iadd, 1) := dc_iadd (by decide +kernel)
theorem dL_law_4453 : decode cL_law 4453 = .ok (.iaload, 1) := dc_iaload (by decide +kernel)
theorem dL_law_4454 : decode cL_law 4454 = .ok (.i2l, 1) := dc_i2l (by decide +kernel)
theorem dL_law_4455 : decode cL_law 4455 = .ok (.bipush 32, 2) := dc_bipush (by decide +kernel) (a := 32) (by decide +kernel) (by decide)
theorem dL_law_4457 : decode cL_law 4457 = .ok (.lshl, 1) := dc_lshl (by decide +kernel)
theorem dL_law_4458 : decode cL_law 4458 = .ok (.aload_n 0, 1) := dc_aload_n_0 (by decide +kernel)
theorem dL_law_4459 : decode cL_law 4459 = .ok (.iload 4, 2) := dc_iload (by decide +kernel) (a := 4) (by decide +kernel) rfl
theorem dL_law_4461 : decode cL_law 4461 = .ok (.iconst 2, 1) := dc_iconst_2 (by decide +kernel)
theorem dL_law_4462 : decode cL_law 4462 = .ok (.iadd, 1) := dc_iadd (by decide +kernel)
theorem dL_law_4463 : decode cL_law 4463 = .ok (.iaload, 1) := dc_iaload (by decide +kernel)
theorem dL_law_4464 : decode cL_law 4464 = .ok (.i2l, 1) := dc_i2l (by decide +kernel)
theorem dL_law_4465 : decode cL_law 4465 = .ok (.ldc2_w 261, 3) := dc_ldc2_w (by decide +kernel) (a := 1) (b := 5) (by decide +kernel) (by decide +kernel) rfl
theorem dL_law_4468 : decode cL_law 4468 = .ok (.land, 1) := dc_land (by decide +kernel)
theorem dL_law_4469 : decode cL_law 4469 = .ok (.lor, 1) := dc_lor (by decide +kernel)
theorem dL_law_4470 : decode cL_law 4470 = .ok (.aload_n 0, 1) := dc_aload_n_0 (by decide +kernel)
theorem dL_law_4471 : decode cL_law 4471 = .ok (.iload 4, 2) := dc_iload (by decide +kernel) (a := 4) (by decide +kernel) rfl
theorem dL_law_4473 : decode cL_law 4473 = .ok (.iconst 3, 1) := dc_iconst_3 (by decide +kernel)
theorem dL_law_4474 : decode cL_law 4474 = .ok (.iadd, 1) := dc_iadd (by decide +kernel)
theorem dL_law_4475 : decode cL_law 4475 = .ok (.iaload, 1) := dc_iaload (by decide +kernel)
theorem dL_law_4476 : decode cL_law 4476 = .ok (.ifCond .eq 7, 3) := dc_ifCond_eq (by decide +kernel) (a := 0) (b := 7) (by decide +kernel) (by decide +kernel) (by decide)
theorem dL_law_4479 : decode cL_law 4479 = .ok (.iconst 1, 1) := dc_iconst_1 (by decide +kernel)
theorem dL_law_4480 : decode cL_law 4480 = .ok (.goto 4, 3) := dc_goto (by decide +kernel) (a := 0) (b := 4) (by decide +kernel) (by decide +kernel) (by decide)
theorem dL_law_4483 : decode cL_law 4483 = .ok (.iconst 0, 1) := dc_iconst_0 (by decide +kernel)
theorem dL_law_4484 : decode cL_law 4484 = .ok (.aload_n 0, 1) := dc_aload_n_0 (by decide +kernel)
theorem dL_law_4485 : decode cL_law 4485 = .ok (.iload 4, 2) := dc_iload (by decide +kernel) (a := 4) (by decide +kernel) rfl
theorem dL_law_4487 : decode cL_law 4487 = .ok (.iconst 4, 1) := dc_iconst_4 (by decide +kernel)
theorem dL_law_4488 : decode cL_law 4488 = .ok (.iadd, 1) := dc_iadd (by decide +kernel)
theorem dL_law_4489 : decode cL_law 4489 = .ok (.iaload, 1) := dc_iaload (by decide +kernel)
theorem dL_law_4490 : decode cL_law 4490 = .ok (.invokevirtual 364, 3) := dc_invokevirtual (by decide +kernel) (a := 1) (b := 108) (by decide +kernel) (by decide +kernel) rfl
theorem dL_law_4493 : decode cL_law 4493 = .ok (.istore 6, 2) := dc_istore (by decide +kernel) (a := 6) (by decide +kernel) rfl
theorem dL_law_4495 : decode cL_law 4495 = .ok (.aload_n 2, 1) := dc_aload_n_2 (by decide +kernel)
theorem dL_law_4496 : decode cL_law 4496 = .ok (.invokevirtual 183, 3) := dc_invokevirtual (by decide +kernel) (a := 0) (b := 183) (by decide +kernel) (by decide +kernel) rfl
theorem dL_law_4499 : decode cL_law 4499 = .ok (.iload 5, 2) := dc_iload (by decide +kernel) (a := 5) (by decide +kernel) rfl
theorem dL_law_4501 : decode cL_law 4501 = .ok (.if_icmp .eq 5, 3) := dc_if_icmp_eq (by decide +kernel) (a := 0) (b := 5) (by decide +kernel) (by decide +kernel) (by decide)
theorem dL_law_4504 : decode cL_law 4504 = .ok (.iconst 0, 1) := dc_iconst_0 (by decide +kernel)
theorem dL_law_4505 : decode cL_law 4505 = .ok (.ireturn, 1) := dc_ireturn (by decide +kernel)
theorem dL_law_4506 : decode cL_law 4506 = .ok (.iload 5, 2) := dc_iload (by decide +kernel) (a := 5) (by decide +kernel) rfl
theorem dL_law_4508 : decode cL_law 4508 = .ok (.ifCond .ne 15, 3) := dc_ifCond_ne (by decide +kernel) (a := 0) (b := 15) (by decide +kernel) (by decide +kernel) (by decide)
theorem dL_law_4511 : decode cL_law 4511 = .ok (.aload_n 3, 1) := dc_aload_n_3 (by decide +kernel)
theorem dL_law_4512 : decode cL_law 4512 = .ok (.iconst 0, 1) := dc_iconst_0 (by decide +kernel)
theorem dL_law_4513 : decode cL_law 4513 = .ok (.laload, 1) := dc_laload (by decide +kernel)
theorem dL_law_4514 : decode cL_law 4514 = .ok (.iload 6, 2) := dc_iload (by decide +kernel) (a := 6) (by decide +kernel) rfl
theorem dL_law_4516 : decode cL_law 4516 = .ok (.i2l, 1) := dc_i2l (by decide +kernel)
theorem dL_law_4517 : decode cL_law 4517 = .ok (.lcmp, 1) := dc_lcmp (by decide +kernel)
theorem dL_law_4518 : decode cL_law 4518 = .ok (.ifCond .eq 5, 3) := dc_ifCond_eq (by decide +kernel) (a := 0) (b := 5) (by decide +kernel) (by decide +kernel) (by decide)
theorem dL_law_4521 : decode cL_law 4521 = .ok (.iconst 0, 1) := dc_iconst_0 (by decide +kernel)
theorem dL_law_4522 : decode cL_law 4522 = .ok (.ireturn, 1) := dc_ireturn (by decide +kernel)
theorem dL_law_4523 : decode cL_law 4523 = .ok (.goto 28, 3) := dc_goto (by decide +kernel) (a := 0) (b := 28) (by decide +kernel) (by decide +kernel) (by decide)
theorem dL_law_4526 : decode cL_law 4526 = .ok (.aload_n 1, 1) := dc_aload_n_1 (by decide +kernel)
theorem dL_law_4527 : decode cL_law 4527 = .ok (.aload_n 0, 1) := dc_aload_n_0 (by decide +kernel)
theorem dL_law_4528 : decode cL_law 4528 = .ok (.iload 4, 2) := dc_iload (by decide +kernel) (a := 4) (by decide +kernel) rfl
theorem dL_law_4530 : decode cL_law 4530 = .ok (.iconst 1, 1) := dc_iconst_1 (by decide +kernel)
theorem dL_law_4531 : decode cL_law 4531 = .ok (.iadd, 1) := dc_iadd (by decide +kernel)
theorem dL_law_4532 : decode cL_law 4532 = .ok (.iaload, 1) := dc_iaload (by decide +kernel)
theorem dL_law_4533 : decode cL_law 4533 = .ok (.invokevirtual 365, 3) := dc_invokevirtual (by decide +kernel) (a := 1) (b := 109) (by decide +kernel) (by decide +kernel) rfl
theorem dL_law_4536 : decode cL_law 4536 = .ok (.aload_n 2, 1) := dc_aload_n_2 (by decide +kernel)
theorem dL_law_4537 : decode cL_law 4537 = .ok (.aload_n 0, 1) := dc_aload_n_0 (by decide +kernel)
theorem dL_law_4538 : decode cL_law 4538 = .ok (.iload 4, 2) := dc_iload (by decide +kernel) (a := 4) (by decide +kernel) rfl
theorem dL_law_4540 : decode cL_law 4540 = .ok (.iconst 1, 1) := dc_iconst_1 (by decide +kernel)
theorem dL_law_4541 : decode cL_law 4541 = .ok (.iadd, 1) := dc_iadd (by decide +kernel)
theorem dL_law_4542 : decode cL_law 4542 = .ok (.iaload, 1) := dc_iaload (by decide +kernel)
theorem dL_law_4543 : decode cL_law 4543 = .ok (.invokevirtual 368, 3) := dc_invokevirtual (by decide +kernel) (a := 1) (b := 112) (by decide +kernel) (by decide +kernel) rfl
theorem dL_law_4546 : decode cL_law 4546 = .ok (.if_icmp .eq 5, 3) := dc_if_icmp_eq (by decide +kernel) (a := 0) (b := 5) (by decide +kernel) (by decide +kernel) (by decide)
theorem dL_law_4549 : decode cL_law 4549 = .ok (.iconst 0, 1) := dc_iconst_0 (by decide +kernel)
theorem dL_law_4550 : decode cL_law 4550 = .ok (.ireturn, 1) := dc_ireturn (by decide +kernel)
theorem dL_law_4551 : decode cL_law 4551 = .ok (.iinc 4 7, 3) := by decide +kernel
theorem dL_law_4554 : decode cL_law 4554 = .ok (.goto (-4531), 3) := dc_goto (by decide +kernel) (a := 238) (b := 77) (by decide +kernel) (by decide +kernel) (by decide)
theorem dL_law_4557 : decode cL_law 4557 = .ok (.iconst 1, 1) := dc_iconst_1 (by decide +kernel)
theorem dL_law_4558 : decode cL_law 4558 = .ok (.ireturn, 1) := dc_ireturn (by decide +kernel)
