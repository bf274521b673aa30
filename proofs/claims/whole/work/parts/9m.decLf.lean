theorem dL_law_3017 : decode cL_law 3017 = .ok (.if_icmp .eq 5, 3) := by decide +kernel
theorem dL_law_3020 : decode cL_law 3020 = .ok (.iconst 0, 1) := by decide +kernel
theorem dL_law_3021 : decode cL_law 3021 = .ok (.ireturn, 1) := by decide +kernel
theorem dL_law_3022 : decode cL_law 3022 = .ok (.iload 5, 2) := by decide +kernel
theorem dL_law_3024 : decode cL_law 3024 = .ok (.ifCond .ne 15, 3) := by decide +kernel
theorem dL_law_3027 : decode cL_law 3027 = .ok (.aload_n 3, 1) := by decide +kernel
theorem dL_law_3028 : decode cL_law 3028 = .ok (.iconst 0, 1) := by decide +kernel
theorem dL_law_3029 : decode cL_law 3029 = .ok (.laload, 1) := by decide +kernel
theorem dL_law_3030 : decode cL_law 3030 = .ok (.iload 6, 2) := by decide +kernel
theorem dL_law_3032 : decode cL_law 3032 = .ok (.i2l, 1) := by decide +kernel
theorem dL_law_3033 : decode cL_law 3033 = .ok (.lcmp, 1) := by decide +kernel
theorem dL_law_3034 : decode cL_law 3034 = .ok (.ifCond .eq 5, 3) := by decide +kernel
theorem dL_law_3037 : decode cL_law 3037 = .ok (.iconst 0, 1) := by decide +kernel
theorem dL_law_3038 : decode cL_law 3038 = .ok (.ireturn, 1) := by decide +kernel
theorem dL_law_3039 : decode cL_law 3039 = .ok (.goto 511, 3) := by decide +kernel
theorem dL_law_3042 : decode cL_law 3042 = .ok (.aload_n 1, 1) := by decide +kernel
theorem dL_law_3043 : decode cL_law 3043 = .ok (.aload_n 0, 1) := by decide +kernel
theorem dL_law_3044 : decode cL_law 3044 = .ok (.iload 4, 2) := by decide +kernel
theorem dL_law_3046 : decode cL_law 3046 = .ok (.iconst 1, 1) := by decide +kernel
theorem dL_law_3047 : decode cL_law 3047 = .ok (.iadd, 1) := by decide +kernel
theorem dL_law_3048 : decode cL_law 3048 = .ok (.iaload, 1) := by decide +kernel
theorem dL_law_3049 : decode cL_law 3049 = .ok (.aload_n 0, 1) := by decide +kernel
theorem dL_law_3050 : decode cL_law 3050 = .ok (.iload 4, 2) := by decide +kernel
theorem dL_law_3052 : decode cL_law 3052 = .ok (.iconst 2, 1) := by decide +kernel
theorem dL_law_3053 : decode cL_law 3053 = .ok (.iadd, 1) := by decide +kernel
theorem dL_law_3054 : decode cL_law 3054 = .ok (.iaload, 1) := by decide +kernel
theorem dL_law_3055 : decode cL_law 3055 = .ok (.aload_n 0, 1) := by decide +kernel
theorem dL_law_3056 : decode cL_law 3056 = .ok (.iload 4, 2) := by decide +kernel
theorem dL_law_3058 : decode cL_law 3058 = .ok (.iconst 3, 1) := by decide +kernel
theorem dL_law_3059 : decode cL_law 3059 = .ok (.iadd, 1) := by decide +kernel
theorem dL_law_3060 : decode cL_law 3060 = .ok (.iaload, 1) := by decide +kernel
theorem dL_law_3061 : decode cL_law 3061 = .ok (.aload_n 0, 1) := by decide +kernel
theorem dL_law_3062 : decode cL_law 3062 = .ok (.iload 4, 2) := by decide +kernel
theorem dL_law_3064 : decode cL_law 3064 = .ok (.iconst 4, 1) := by decide +kernel
theorem dL_law_3065 : decode cL_law 3065 = .ok (.iadd, 1) := by decide +kernel
theorem dL_law_3066 : decode cL_law 3066 = .ok (.iaload, 1) := by decide +kernel
theorem dL_law_3067 : decode cL_law 3067 = .ok (.aload_n 3, 1) := by decide +kernel
theorem dL_law_3068 : decode cL_law 3068 = .ok (.invokestatic 294, 3) := by decide +kernel
theorem dL_law_3071 : decode cL_law 3071 = .ok (.istore 5, 2) := by decide +kernel
theorem dL_law_3073 : decode cL_law 3073 = .ok (.aload_n 2, 1) := by decide +kernel
theorem dL_law_3074 : decode cL_law 3074 = .ok (.aload_n 0, 1) := by decide +kernel
theorem dL_law_3075 : decode cL_law 3075 = .ok (.iload 4, 2) := by decide +kernel
theorem dL_law_3077 : decode cL_law 3077 = .ok (.iconst 1, 1) := by decide +kernel
theorem dL_law_3078 : decode cL_law 3078 = .ok (.iadd, 1) := by decide +kernel
theorem dL_law_3079 : decode cL_law 3079 = .ok (.iaload, 1) := by decide +kernel
theorem dL_law_3080 : decode cL_law 3080 = .ok (.aload_n 0, 1) := by decide +kernel
theorem dL_law_3081 : decode cL_law 3081 = .ok (.iload 4, 2) := by decide +kernel
theorem dL_law_3083 : decode cL_law 3083 = .ok (.iconst 2, 1) := by decide +kernel
theorem dL_law_3084 : decode cL_law 3084 = .ok (.iadd, 1) := by decide +kernel
theorem dL_law_3085 : decode cL_law 3085 = .ok (.iaload, 1) := by decide +kernel
theorem dL_law_3086 : decode cL_law 3086 = .ok (.aload_n 0, 1) := by decide +kernel
theorem dL_law_3087 : decode cL_law 3087 = .ok (.iload 4, 2) := by decide +kernel
theorem dL_law_3089 : decode cL_law 3089 = .ok (.iconst 3, 1) := by decide +kernel
theorem dL_law_3090 : decode cL_law 3090 = .ok (.iadd, 1) := by decide +kernel
theorem dL_law_3091 : decode cL_law 3091 = .ok (.iaload, 1) := by decide +kernel
theorem dL_law_3092 : decode cL_law 3092 = .ok (.aload_n 0, 1) := by decide +kernel
theorem dL_law_3093 : decode cL_law 3093 = .ok (.iload 4, 2) := by decide +kernel
theorem dL_law_3095 : decode cL_law 3095 = .ok (.iconst 4, 1) := by decide +kernel
theorem dL_law_3096 : decode cL_law 3096 = .ok (.iadd, 1) := by decide +kernel
theorem dL_law_3097 : decode cL_law 3097 = .ok (.iaload, 1) := by decide +kernel
theorem dL_law_3098 : decode cL_law 3098 = .ok (.invokevirtual 296, 3) := by decide +kernel
theorem dL_law_3101 : decode cL_law 3101 = .ok (.istore 6, 2) := by decide +kernel
theorem dL_law_3103 : decode cL_law 3103 = .ok (.aload_n 2, 1) := by decide +kernel
theorem dL_law_3104 : decode cL_law 3104 = .ok (.invokevirtual 170, 3) := by decide +kernel
theorem dL_law_3107 : decode cL_law 3107 = .ok (.iload 5, 2) := by decide +kernel
theorem dL_law_3109 : decode cL_law 3109 = .ok (.if_icmp .eq 5, 3) := by decide +kernel
theorem dL_law_3112 : decode cL_law 3112 = .ok (.iconst 0, 1) := by decide +kernel
theorem dL_law_3113 : decode cL_law 3113 = .ok (.ireturn, 1) := by decide +kernel
theorem dL_law_3114 : decode cL_law 3114 = .ok (.iload 5, 2) := by decide +kernel
theorem dL_law_3116 : decode cL_law 3116 = .ok (.ifCond .ne 15, 3) := by decide +kernel
theorem dL_law_3119 : decode cL_law 3119 = .ok (.aload_n 3, 1) := by decide +kernel
theorem dL_law_3120 : decode cL_law 3120 = .ok (.iconst 0, 1) := by decide +kernel
theorem dL_law_3121 : decode cL_law 3121 = .ok (.laload, 1) := by decide +kernel
theorem dL_law_3122 : decode cL_law 3122 = .ok (.iload 6, 2) := by decide +kernel
theorem dL_law_3124 : decode cL_law 3124 = .ok (.i2l, 1) := by decide +kernel
theorem dL_law_3125 : decode cL_law 3125 = .ok (.lcmp, 1) := by decide +kernel
theorem dL_law_3126 : decode cL_law 3126 = .ok (.ifCond .eq 5, 3) := by decide +kernel
theorem dL_law_3129 : decode cL_law 3129 = .ok (.iconst 0, 1) := by decide +kernel
theorem dL_law_3130 : decode cL_law 3130 = .ok (.ireturn, 1) := by decide +kernel
theorem dL_law_3131 : decode cL_law 3131 = .ok (.goto 419, 3) := by decide +kernel
theorem dL_law_3134 : decode cL_law 3134 = .ok (.aload_n 1, 1) := by decide +kernel
theorem dL_law_3135 : decode cL_law 3135 = .ok (.aload_n 0, 1) := by decide +kernel
theorem dL_law_3136 : decode cL_law 3136 = .ok (.iload 4, 2) := by decide +kernel
theorem dL_law_3138 : decode cL_law 3138 = .ok (.iconst 1, 1) := by decide +kernel
theorem dL_law_3139 : decode cL_law 3139 = .ok (.iadd, 1) := by decide +kernel
theorem dL_law_3140 : decode cL_law 3140 = .ok (.iaload, 1) := by decide +kernel
theorem dL_law_3141 : decode cL_law 3141 = .ok (.aload_n 0, 1) := by decide +kernel
theorem dL_law_3142 : decode cL_law 3142 = .ok (.iload 4, 2) := by decide +kernel
theorem dL_law_3144 : decode cL_law 3144 = .ok (.iconst 2, 1) := by decide +kernel
theorem dL_law_3145 : decode cL_law 3145 = .ok (.iadd, 1) := by decide +kernel
theorem dL_law_3146 : decode cL_law 3146 = .ok (.iaload, 1) := by decide +kernel
theorem dL_law_3147 : decode cL_law 3147 = .ok (.aload_n 0, 1) := by decide +kernel
theorem dL_law_3148 : decode cL_law 3148 = .ok (.iload 4, 2) := by decide +kernel
theorem dL_law_3150 : decode cL_law 3150 = .ok (.iconst 3, 1) := by decide +kernel
theorem dL_law_3151 : decode cL_law 3151 = .ok (.iadd, 1) := by decide +kernel
theorem dL_law_3152 : decode cL_law 3152 = .ok (.iaload, 1) := by decide +kernel
theorem dL_law_3153 : decode cL_law 3153 = .ok (.aload_n 3, 1) := by decide +kernel
theorem dL_law_3154 : decode cL_law 3154 = .ok (.invokestatic 297, 3) := by decide +kernel
theorem dL_law_3157 : decode cL_law 3157 = .ok (.istore 5, 2) := by decide +kernel
theorem dL_law_3159 : decode cL_law 3159 = .ok (.aload_n 2, 1) := by decide +kernel
theorem dL_law_3160 : decode cL_law 3160 = .ok (.aload_n 0, 1) := by decide +kernel
theorem dL_law_3161 : decode cL_law 3161 = .ok (.iload 4, 2) := by decide +kernel
theorem dL_law_3163 : decode cL_law 3163 = .ok (.iconst 1, 1) := by decide +kernel
theorem dL_law_3164 : decode cL_law 3164 = .ok (.iadd, 1) := by decide +kernel
theorem dL_law_3165 : decode cL_law 3165 = .ok (.iaload, 1) := by decide +kernel
theorem dL_law_3166 : decode cL_law 3166 = .ok (.aload_n 0, 1) := by decide +kernel
theorem dL_law_3167 : decode cL_law 3167 = .ok (.iload 4, 2) := by decide +kernel
theorem dL_law_3169 : decode cL_law 3169 = .ok (.iconst 2, 1) := by decide +kernel
theorem dL_law_3170 : decode cL_law 3170 = .ok (.iadd, 1) := by decide +kernel
theorem dL_law_3171 : decode cL_law 3171 = .ok (.iaload, 1) := by decide +kernel
theorem dL_law_3172 : decode cL_law 3172 = .ok (.aload_n 0, 1) := by decide +kernel
theorem dL_law_3173 : decode cL_law 3173 = .ok (.iload 4, 2) := by decide +kernel
theorem dL_law_3175 : decode cL_law 3175 = .ok (.iconst 3, 1) := by decide +kernel
theorem dL_law_3176 : decode cL_law 3176 = .ok (.iadd, 1) := by decide +kernel
theorem dL_law_3177 : decode cL_law 3177 = .ok (.iaload, 1) := by decide +kernel
theorem dL_law_3178 : decode cL_law 3178 = .ok (.invokevirtual 299, 3) := by decide +kernel
theorem dL_law_3181 : decode cL_law 3181 = .ok (.istore 6, 2) := by decide +kernel
theorem dL_law_3183 : decode cL_law 3183 = .ok (.aload_n 2, 1) := by decide +kernel
theorem dL_law_3184 : decode cL_law 3184 = .ok (.invokevirtual 170, 3) := by decide +kernel
theorem dL_law_3187 : decode cL_law 3187 = .ok (.iload 5, 2) := by decide +kernel
theorem dL_law_3189 : decode cL_law 3189 = .ok (.if_icmp .eq 5, 3) := by decide +kernel
theorem dL_law_3192 : decode cL_law 3192 = .ok (.iconst 0, 1) := by decide +kernel
theorem dL_law_3193 : decode cL_law 3193 = .ok (.ireturn, 1) := by decide +kernel
theorem dL_law_3194 : decode cL_law 3194 = .ok (.iload 5, 2) := by decide +kernel
theorem dL_law_3196 : decode cL_law 3196 = .ok (.ifCond .ne 15, 3) := by decide +kernel
theorem dL_law_3199 : decode cL_law 3199 = .ok (.aload_n 3, 1) := by decide +kernel
theorem dL_law_3200 : decode cL_law 3200 = .ok (.iconst 0, 1) := by decide +kernel
theorem dL_law_3201 : decode cL_law 3201 = .ok (.laload, 1) := by decide +kernel
theorem dL_law_3202 : decode cL_law 3202 = .ok (.iload 6, 2) := by decide +kernel
theorem dL_law_3204 : decode cL_law 3204 = .ok (.i2l, 1) := by decide +kernel
theorem dL_law_3205 : decode cL_law 3205 = .ok (.lcmp, 1) := by decide +kernel
theorem dL_law_3206 : decode cL_law 3206 = .ok (.ifCond .eq 5, 3) := by decide +kernel
theorem dL_law_3209 : decode cL_law 3209 = .ok (.iconst 0, 1) := by decide +kernel
theorem dL_law_3210 : decode cL_law 3210 = .ok (.ireturn, 1) := by decide +kernel
theorem dL_law_3211 : decode cL_law 3211 = .ok (.goto 339, 3) := by decide +kernel
theorem dL_law_3214 : decode cL_law 3214 = .ok (.aload_n 1, 1) := by decide +kernel
theorem dL_law_3215 : decode cL_law 3215 = .ok (.aload_n 0, 1) := by decide +kernel
theorem dL_law_3216 : decode cL_law 3216 = .ok (.iload 4, 2) := by decide +kernel
theorem dL_law_3218 : decode cL_law 3218 = .ok (.iconst 1, 1) := by decide +kernel
theorem dL_law_3219 : decode cL_law 3219 = .ok (.iadd, 1) := by decide +kernel
theorem dL_law_3220 : decode cL_law 3220 = .ok (.iaload, 1) := by decide +kernel
theorem dL_law_3221 : decode cL_law 3221 = .ok (.aload_n 0, 1) := by decide +kernel
theorem dL_law_3222 : decode cL_law 3222 = .ok (.iload 4, 2) := by decide +kernel
theorem dL_law_3224 : decode cL_law 3224 = .ok (.iconst 2, 1) := by decide +kernel
theorem dL_law_3225 : decode cL_law 3225 = .ok (.iadd, 1) := by decide +kernel
theorem dL_law_3226 : decode cL_law 3226 = .ok (.iaload, 1) := by decide +kernel
theorem dL_law_3227 : decode cL_law 3227 = .ok (.aload_n 0, 1) := by decide +kernel
theorem dL_law_3228 : decode cL_law 3228 = .ok (.iload 4, 2) := by decide +kernel
theorem dL_law_3230 : decode cL_law 3230 = .ok (.iconst 3, 1) := by decide +kernel
theorem dL_law_3231 : decode cL_law 3231 = .ok (.iadd, 1) := by decide +kernel
theorem dL_law_3232 : decode cL_law 3232 = .ok (.iaload, 1) := by decide +kernel
theorem dL_law_3233 : decode cL_law 3233 = .ok (.invokestatic 300, 3) := by decide +kernel
theorem dL_law_3236 : decode cL_law 3236 = .ok (.istore 5, 2) := by decide +kernel
theorem dL_law_3238 : decode cL_law 3238 = .ok (.aload_n 2, 1) := by decide +kernel
theorem dL_law_3239 : decode cL_law 3239 = .ok (.aload_n 0, 1) := by decide +kernel
theorem dL_law_3240 : decode cL_law 3240 = .ok (.iload 4, 2) := by decide +kernel
theorem dL_law_3242 : decode cL_law 3242 = .ok (.iconst 1, 1) := by decide +kernel
theorem dL_law_3243 : decode cL_law 3243 = .ok (.iadd, 1) := by decide +kernel
theorem dL_law_3244 : decode cL_law 3244 = .ok (.iaload, 1) := by decide +kernel
theorem dL_law_3245 : decode cL_law 3245 = .ok (.aload_n 0, 1) := by decide +kernel
theorem dL_law_3246 : decode cL_law 3246 = .ok (.iload 4, 2) := by decide +kernel
theorem dL_law_3248 : decode cL_law 3248 = .ok (.iconst 2, 1) := by decide +kernel
theorem dL_law_3249 : decode cL_law 3249 = .ok (.iadd, 1) := by decide +kernel
theorem dL_law_3250 : decode cL_law 3250 = .ok (.iaload, 1) := by decide +kernel
theorem dL_law_3251 : decode cL_law 3251 = .ok (.aload_n 0, 1) := by decide +kernel
theorem dL_law_3252 : decode cL_law 3252 = .ok (.iload 4, 2) := by decide +kernel
theorem dL_law_3254 : decode cL_law 3254 = .ok (.iconst 3, 1) := by decide +kernel
theorem dL_law_3255 : decode cL_law 3255 = .ok (.iadd, 1) := by decide +kernel
theorem dL_law_3256 : decode cL_law 3256 = .ok (.iaload, 1) := by decide +kernel
theorem dL_law_3257 : decode cL_law 3257 = .ok (.invokevirtual 303, 3) := by decide +kernel
theorem dL_law_3260 : decode cL_law 3260 = .ok (.aload_n 2, 1) := by decide +kernel
theorem dL_law_3261 : decode cL_law 3261 = .ok (.invokevirtual 170, 3) := by decide +kernel
theorem dL_law_3264 : decode cL_law 3264 = .ok (.iload 5, 2) := by decide +kernel
theorem dL_law_3266 : decode cL_law 3266 = .ok (.if_icmp .eq 5, 3) := by decide +kernel
theorem dL_law_3269 : decode cL_law 3269 = .ok (.iconst 0, 1) := by decide +kernel
theorem dL_law_3270 : decode cL_law 3270 = .ok (.ireturn, 1) := by decide +kernel
theorem dL_law_3271 : decode cL_law 3271 = .ok (.goto 279, 3) := by decide +kernel
theorem dL_law_3274 : decode cL_law 3274 = .ok (.aload_n 1, 1) := by decide +kernel
theorem dL_law_3275 : decode cL_law 3275 = .ok (.aload_n 0, 1) := by decide +kernel
theorem dL_law_3276 : decode cL_law 3276 = .ok (.iload 4, 2) := by decide +kernel
theorem dL_law_3278 : decode cL_law 3278 = .ok (.iconst 1, 1) := by decide +kernel
theorem dL_law_3279 : decode cL_law 3279 = .ok (.iadd, 1) := by decide +kernel
theorem dL_law_3280 : decode cL_law 3280 = .ok (.iaload, 1) := by decide +kernel
theorem dL_law_3281 : decode cL_law 3281 = .ok (.aload_n 0, 1) := by decide +kernel
theorem dL_law_3282 : decode cL_law 3282 = .ok (.iload 4, 2) := by decide +kernel
theorem dL_law_3284 : decode cL_law 3284 = .ok (.iconst 2, 1) := by decide +kernel
theorem dL_law_3285 : decode cL_law 3285 = .ok (.iadd, 1) := by decide +kernel
theorem dL_law_3286 : decode cL_law 3286 = .ok (.iaload, 1) := by decide +kernel
theorem dL_law_3287 : decode cL_law 3287 = .ok (.aload_n 0, 1) := by decide +kernel
theorem dL_law_3288 : decode cL_law 3288 = .ok (.iload 4, 2) := by decide +kernel
theorem dL_law_3290 : decode cL_law 3290 = .ok (.iconst 3, 1) := by decide +kernel
theorem dL_law_3291 : decode cL_law 3291 = .ok (.iadd, 1) := by decide +kernel
theorem dL_law_3292 : decode cL_law 3292 = .ok (.iaload, 1) := by decide +kernel
theorem dL_law_3293 : decode cL_law 3293 = .ok (.i2l, 1) := by decide +kernel
theorem dL_law_3294 : decode cL_law 3294 = .ok (.bipush 32, 2) := by decide +kernel
theorem dL_law_3296 : decode cL_law 3296 = .ok (.lshl, 1) := by decide +kernel
theorem dL_law_3297 : decode cL_law 3297 = .ok (.aload_n 0, 1) := by decide +kernel
theorem dL_law_3298 : decode cL_law 3298 = .ok (.iload 4, 2) := by decide +kernel
theorem dL_law_3300 : decode cL_law 3300 = .ok (.iconst 4, 1) := by decide +kernel
theorem dL_law_3301 : decode cL_law 3301 = .ok (.iadd, 1) := by decide +kernel
theorem dL_law_3302 : decode cL_law 3302 = .ok (.iaload, 1) := by decide +kernel
theorem dL_law_3303 : decode cL_law 3303 = .ok (.i2l, 1) := by decide +kernel
theorem dL_law_3304 : decode cL_law 3304 = .ok (.ldc2_w 304, 3) := by decide +kernel
theorem dL_law_3307 : decode cL_law 3307 = .ok (.land, 1) := by decide +kernel
theorem dL_law_3308 : decode cL_law 3308 = .ok (.lor, 1) := by decide +kernel
theorem dL_law_3309 : decode cL_law 3309 = .ok (.aload_n 3, 1) := by decide +kernel
theorem dL_law_3310 : decode cL_law 3310 = .ok (.invokestatic 306, 3) := by decide +kernel
theorem dL_law_3313 : decode cL_law 3313 = .ok (.istore 5, 2) := by decide +kernel
theorem dL_law_3315 : decode cL_law 3315 = .ok (.aload_n 2, 1) := by decide +kernel
theorem dL_law_3316 : decode cL_law 3316 = .ok (.aload_n 0, 1) := by decide +kernel
theorem dL_law_3317 : decode cL_law 3317 = .ok (.iload 4, 2) := by decide +kernel
theorem dL_law_3319 : decode cL_law 3319 = .ok (.iconst 1, 1) := by decide +kernel
theorem dL_law_3320 : decode cL_law 3320 = .ok (.iadd, 1) := by decide +kernel
theorem dL_law_3321 : decode cL_law 3321 = .ok (.iaload, 1) := by decide +kernel
theorem dL_law_3322 : decode cL_law 3322 = .ok (.aload_n 0, 1) := by decide +kernel
theorem dL_law_3323 : decode cL_law 3323 = .ok (.iload 4, 2) := by decide +kernel
theorem dL_law_3325 : decode cL_law 3325 = .ok (.iconst 2, 1) := by decide +kernel
theorem dL_law_3326 : decode cL_law 3326 = .ok (.iadd, 1) := by decide +kernel
theorem dL_law_3327 : decode cL_law 3327 = .ok (.iaload, 1) := by decide +kernel
theorem dL_law_3328 : decode cL_law 3328 = .ok (.aload_n 0, 1) := by decide +kernel
theorem dL_law_3329 : decode cL_law 3329 = .ok (.iload 4, 2) := by decide +kernel
theorem dL_law_3331 : decode cL_law 3331 = .ok (.iconst 3, 1) := by decide +kernel
theorem dL_law_3332 : decode cL_law 3332 = .ok (.iadd, 1) := by decide +kernel
theorem dL_law_3333 : decode cL_law 3333 = .ok (.iaload, 1) := by decide +kernel
theorem dL_law_3334 : decode cL_law 3334 = .ok (.i2l, 1) := by decide +kernel
theorem dL_law_3335 : decode cL_law 3335 = .ok (.bipush 32, 2) := by decide +kernel
theorem dL_law_3337 : decode cL_law 3337 = .ok (.lshl, 1) := by decide +kernel
theorem dL_law_3338 : decode cL_law 3338 = .ok (.aload_n 0, 1) := by decide +kernel
theorem dL_law_3339 : decode cL_law 3339 = .ok (.iload 4, 2) := by decide +kernel
theorem dL_law_3341 : decode cL_law 3341 = .ok (.iconst 4, 1) := by decide +kernel
theorem dL_law_3342 : decode cL_law 3342 = .ok (.iadd, 1) := by decide +kernel
theorem dL_law_3343 : decode cL_law 3343 = .ok (.iaload, 1) := by decide +kernel
theorem dL_law_3344 : decode cL_law 3344 = .ok (.i2l, 1) := by decide +kernel
theorem dL_law_3345 : decode cL_law 3345 = .ok (.ldc2_w 304, 3) := by decide +kernel
theorem dL_law_3348 : decode cL_law 3348 = .ok (.land, 1) := by decide +kernel
theorem dL_law_3349 : decode cL_law 3349 = .ok (.lor, 1) := by decide +kernel
theorem dL_law_3350 : decode cL_law 3350 = .ok (.invokevirtual 309, 3) := by decide +kernel
theorem dL_law_3353 : decode cL_law 3353 = .ok (.lstore 6, 2) := by decide +kernel
theorem dL_law_3355 : decode cL_law 3355 = .ok (.aload_n 2, 1) := by decide +kernel
theorem dL_law_3356 : decode cL_law 3356 = .ok (.invokevirtual 170, 3) := by decide +kernel
theorem dL_law_3359 : decode cL_law 3359 = .ok (.iload 5, 2) := by decide +kernel
theorem dL_law_3361 : decode cL_law 3361 = .ok (.if_icmp .eq 5, 3) := by decide +kernel
theorem dL_law_3364 : decode cL_law 3364 = .ok (.iconst 0, 1) := by decide +kernel
theorem dL_law_3365 : decode cL_law 3365 = .ok (.ireturn, 1) := by decide +kernel
theorem dL_law_3366 : decode cL_law 3366 = .ok (.iload 5, 2) := by decide +kernel
theorem dL_law_3368 : decode cL_law 3368 = .ok (.ifCond .ne 14, 3) := by decide +kernel
theorem dL_law_3371 : decode cL_law 3371 = .ok (.aload_n 3, 1) := by decide +kernel
theorem dL_law_3372 : decode cL_law 3372 = .ok (.iconst 0, 1) := by decide +kernel
theorem dL_law_3373 : decode cL_law 3373 = .ok (.laload, 1) := by decide +kernel
theorem dL_law_3374 : decode cL_law 3374 = .ok (.lload 6, 2) := by decide +kernel
theorem dL_law_3376 : decode cL_law 3376 = .ok (.lcmp, 1) := by decide +kernel
theorem dL_law_3377 : decode cL_law 3377 = .ok (.ifCond .eq 5, 3) := by decide +kernel
theorem dL_law_3380 : decode cL_law 3380 = .ok (.iconst 0, 1) := by decide +kernel
theorem dL_law_3381 : decode cL_law 3381 = .ok (.ireturn, 1) := by decide +kernel
theorem dL_law_3382 : decode cL_law 3382 = .ok (.goto 168, 3) := by decide +kernel
theorem dL_law_3385 : decode cL_law 3385 = .ok (.aload_n 1, 1) := by decide +kernel
theorem dL_law_3386 : decode cL_law 3386 = .ok (.aload_n 0, 1) := by decide +kernel
theorem dL_law_3387 : decode cL_law 3387 = .ok (.iload 4, 2) := by decide +kernel
theorem dL_law_3389 : decode cL_law 3389 = .ok (.iconst 1, 1) := by decide +kernel
theorem dL_law_3390 : decode cL_law 3390 = .ok (.iadd, 1) := by decide +kernel
theorem dL_law_3391 : decode cL_law 3391 = .ok (.iaload, 1) := by decide +kernel
theorem dL_law_3392 : decode cL_law 3392 = .ok (.aload_n 0, 1) := by decide +kernel
theorem dL_law_3393 : decode cL_law 3393 = .ok (.iload 4, 2) := by decide +kernel
theorem dL_law_3395 : decode cL_law 3395 = .ok (.iconst 2, 1) := by decide +kernel
theorem dL_law_3396 : decode cL_law 3396 = .ok (.iadd, 1) := by decide +kernel
theorem dL_law_3397 : decode cL_law 3397 = .ok (.iaload, 1) := by decide +kernel
theorem dL_law_3398 : decode cL_law 3398 = .ok (.aload_n 3, 1) := by decide +kernel
theorem dL_law_3399 : decode cL_law 3399 = .ok (.invokestatic 310, 3) := by decide +kernel
theorem dL_law_3402 : decode cL_law 3402 = .ok (.istore 5, 2) := by decide +kernel
theorem dL_law_3404 : decode cL_law 3404 = .ok (.aload_n 2, 1) := by decide +kernel
theorem dL_law_3405 : decode cL_law 3405 = .ok (.aload_n 0, 1) := by decide +kernel
theorem dL_law_3406 : decode cL_law 3406 = .ok (.iload 4, 2) := by decide +kernel
theorem dL_law_3408 : decode cL_law 3408 = .ok (.iconst 1, 1) := by decide +kernel
theorem dL_law_3409 : decode cL_law 3409 = .ok (.iadd, 1) := by decide +kernel
theorem dL_law_3410 : decode cL_law 3410 = .ok (.iaload, 1) := by decide +kernel
theorem dL_law_3411 : decode cL_law 3411 = .ok (.aload_n 0, 1) := by decide +kernel
theorem dL_law_3412 : decode cL_law 3412 = .ok (.iload 4, 2) := by decide +kernel
theorem dL_law_3414 : decode cL_law 3414 = .ok (.iconst 2, 1) := by decide +kernel
theorem dL_law_3415 : decode cL_law 3415 = .ok (.iadd, 1) := by decide +kernel
theorem dL_law_3416 : decode cL_law 3416 = .ok (.iaload, 1) := by decide +kernel
theorem dL_law_3417 : decode cL_law 3417 = .ok (.invokevirtual 312, 3) := by decide +kernel
theorem dL_law_3420 : decode cL_law 3420 = .ok (.istore 6, 2) := by decide +kernel
theorem dL_law_3422 : decode cL_law 3422 = .ok (.aload_n 2, 1) := by decide +kernel
theorem dL_law_3423 : decode cL_law 3423 = .ok (.invokevirtual 170, 3) := by decide +kernel
theorem dL_law_3426 : decode cL_law 3426 = .ok (.iload 5, 2) := by decide +kernel
theorem dL_law_3428 : decode cL_law 3428 = .ok (.if_icmp .eq 5, 3) := by decide +kernel
theorem dL_law_3431 : decode cL_law 3431 = .ok (.iconst 0, 1) := by decide +kernel
theorem dL_law_3432 : decode cL_law 3432 = .ok (.ireturn, 1) := by decide +kernel
theorem dL_law_3433 : decode cL_law 3433 = .ok (.iload 5, 2) := by decide +kernel
theorem dL_law_3435 : decode cL_law 3435 = .ok (.ifCond .ne 15, 3) := by decide +kernel
theorem dL_law_3438 : decode cL_law 3438 = .ok (.aload_n 3, 1) := by decide +kernel
theorem dL_law_3439 : decode cL_law 3439 = .ok (.iconst 0, 1) := by decide +kernel
theorem dL_law_3440 : decode cL_law 3440 = .ok (.laload, 1) := by decide +kernel
theorem dL_law_3441 : decode cL_law 3441 = .ok (.iload 6, 2) := by decide +kernel
theorem dL_law_3443 : decode cL_law 3443 = .ok (.i2l, 1) := by decide +kernel
theorem dL_law_3444 : decode cL_law 3444 = .ok (.lcmp, 1) := by decide +kernel
theorem dL_law_3445 : decode cL_law 3445 = .ok (.ifCond .eq 5, 3) := by decide +kernel
theorem dL_law_3448 : decode cL_law 3448 = .ok (.iconst 0, 1) := by decide +kernel
theorem dL_law_3449 : decode cL_law 3449 = .ok (.ireturn, 1) := by decide +kernel
theorem dL_law_3450 : decode cL_law 3450 = .ok (.goto 100, 3) := by decide +kernel
theorem dL_law_3453 : decode cL_law 3453 = .ok (.aload_n 1, 1) := by decide +kernel
theorem dL_law_3454 : decode cL_law 3454 = .ok (.aload_n 0, 1) := by decide +kernel
theorem dL_law_3455 : decode cL_law 3455 = .ok (.iload 4, 2) := by decide +kernel
theorem dL_law_3457 : decode cL_law 3457 = .ok (.iconst 1, 1) := by decide +kernel
theorem dL_law_3458 : decode cL_law 3458 = .ok (.iadd, 1) := by decide +kernel
theorem dL_law_3459 : decode cL_law 3459 = .ok (.iaload, 1) := by decide +kernel
theorem dL_law_3460 : decode cL_law 3460 = .ok (.invokestatic 313, 3) := by decide +kernel
theorem dL_law_3463 : decode cL_law 3463 = .ok (.istore 5, 2) := by decide +kernel
theorem dL_law_3465 : decode cL_law 3465 = .ok (.aload_n 2, 1) := by decide +kernel
theorem dL_law_3466 : decode cL_law 3466 = .ok (.aload_n 0, 1) := by decide +kernel
theorem dL_law_3467 : decode cL_law 3467 = .ok (.iload 4, 2) := by decide +kernel
theorem dL_law_3469 : decode cL_law 3469 = .ok (.iconst 1, 1) := by decide +kernel
theorem dL_law_3470 : decode cL_law 3470 = .ok (.iadd, 1) := by decide +kernel
theorem dL_law_3471 : decode cL_law 3471 = .ok (.iaload, 1) := by decide +kernel
theorem dL_law_3472 : decode cL_law 3472 = .ok (.invokevirtual 316, 3) := by decide +kernel
theorem dL_law_3475 : decode cL_law 3475 = .ok (.aload_n 2, 1) := by decide +kernel
theorem dL_law_3476 : decode cL_law 3476 = .ok (.invokevirtual 170, 3) := by decide +kernel
theorem dL_law_3479 : decode cL_law 3479 = .ok (.iload 5, 2) := by decide +kernel
theorem dL_law_3481 : decode cL_law 3481 = .ok (.if_icmp .eq 5, 3) := by decide +kernel
theorem dL_law_3484 : decode cL_law 3484 = .ok (.iconst 0, 1) := by decide +kernel
theorem dL_law_3485 : decode cL_law 3485 = .ok (.ireturn, 1) := by decide +kernel
theorem dL_law_3486 : decode cL_law 3486 = .ok (.goto 64, 3) := by decide +kernel
theorem dL_law_3489 : decode cL_law 3489 = .ok (.aload_n 1, 1) := by decide +kernel
theorem dL_law_3490 : decode cL_law 3490 = .ok (.aload_n 0, 1) := by decide +kernel
theorem dL_law_3491 : decode cL_law 3491 = .ok (.iload 4, 2) := by decide +kernel
theorem dL_law_3493 : decode cL_law 3493 = .ok (.iconst 1, 1) := by decide +kernel
theorem dL_law_3494 : decode cL_law 3494 = .ok (.iadd, 1) := by decide +kernel
theorem dL_law_3495 : decode cL_law 3495 = .ok (.iaload, 1) := by decide +kernel
theorem dL_law_3496 : decode cL_law 3496 = .ok (.invokestatic 317, 3) := by decide +kernel
theorem dL_law_3499 : decode cL_law 3499 = .ok (.istore 5, 2) := by decide +kernel
theorem dL_law_3501 : decode cL_law 3501 = .ok (.aload_n 2, 1) := by decide +kernel
theorem dL_law_3502 : decode cL_law 3502 = .ok (.aload_n 0, 1) := by decide +kernel
theorem dL_law_3503 : decode cL_law 3503 = .ok (.iload 4, 2) := by decide +kernel
theorem dL_law_3505 : decode cL_law 3505 = .ok (.iconst 1, 1) := by decide +kernel
theorem dL_law_3506 : decode cL_law 3506 = .ok (.iadd, 1) := by decide +kernel
theorem dL_law_3507 : decode cL_law 3507 = .ok (.iaload, 1) := by decide +kernel
theorem dL_law_3508 : decode cL_law 3508 = .ok (.invokevirtual 319, 3) := by decide +kernel
theorem dL_law_3511 : decode cL_law 3511 = .ok (.aload_n 2, 1) := by decide +kernel
theorem dL_law_3512 : decode cL_law 3512 = .ok (.invokevirtual 170, 3) := by decide +kernel
theorem dL_law_3515 : decode cL_law 3515 = .ok (.iload 5, 2) := by decide +kernel
theorem dL_law_3517 : decode cL_law 3517 = .ok (.if_icmp .eq 5, 3) := by decide +kernel
theorem dL_law_3520 : decode cL_law 3520 = .ok (.iconst 0, 1) := by decide +kernel
theorem dL_law_3521 : decode cL_law 3521 = .ok (.ireturn, 1) := by decide +kernel
theorem dL_law_3522 : decode cL_law 3522 = .ok (.goto 28, 3) := by decide +kernel
theorem dL_law_3525 : decode cL_law 3525 = .ok (.aload_n 1, 1) := by decide +kernel
theorem dL_law_3526 : decode cL_law 3526 = .ok (.aload_n 0, 1) := by decide +kernel
theorem dL_law_3527 : decode cL_law 3527 = .ok (.iload 4, 2) := by decide +kernel
theorem dL_law_3529 : decode cL_law 3529 = .ok (.iconst 1, 1) := by decide +kernel
theorem dL_law_3530 : decode cL_law 3530 = .ok (.iadd, 1) := by decide +kernel
theorem dL_law_3531 : decode cL_law 3531 = .ok (.iaload, 1) := by decide +kernel
theorem dL_law_3532 : decode cL_law 3532 = .ok (.invokevirtual 320, 3) := by decide +kernel
theorem dL_law_3535 : decode cL_law 3535 = .ok (.aload_n 2, 1) := by decide +kernel
theorem dL_law_3536 : decode cL_law 3536 = .ok (.aload_n 0, 1) := by decide +kernel
theorem dL_law_3537 : decode cL_law 3537 = .ok (.iload 4, 2) := by decide +kernel
theorem dL_law_3539 : decode cL_law 3539 = .ok (.iconst 1, 1) := by decide +kernel
theorem dL_law_3540 : decode cL_law 3540 = .ok (.iadd, 1) := by decide +kernel
theorem dL_law_3541 : decode cL_law 3541 = .ok (.iaload, 1) := by decide +kernel
theorem dL_law_3542 : decode cL_law 3542 = .ok (.invokevirtual 323, 3) := by decide +kernel
theorem dL_law_3545 : decode cL_law 3545 = .ok (.if_icmp .eq 5, 3) := by decide +kernel
theorem dL_law_3548 : decode cL_law 3548 = .ok (.iconst 0, 1) := by decide +kernel
theorem dL_law_3549 : decode cL_law 3549 = .ok (.ireturn, 1) := by decide +kernel
theorem dL_law_3550 : decode cL_law 3550 = .ok (.iinc 4 6, 3) := by decide +kernel
theorem dL_law_3553 : decode cL_law 3553 = .ok (.goto (-3530), 3) := by decide +kernel
theorem dL_law_3556 : decode cL_law 3556 = .ok (.iconst 1, 1) := by decide +kernel
theorem dL_law_3557 : decode cL_law 3557 = .ok (.ireturn, 1) := by decide +kernel
